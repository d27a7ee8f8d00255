section
section MC01
/-! numbers: Int32 of an Int, stores -/
theorem mc_us {f : Nat → Int32} {k : Nat} {x : Int32} : upd f k x k = x := if_pos rfl
theorem mc_un {f : Nat → Int32} {k j : Nat} {x : Int32} (h : j ≠ k) : upd f k x j = f j := if_neg h
theorem mc_mulN (a b : Nat) : nI a * nI b = nI (a * b) := (Int32.ofNat_mul a b).symm
theorem mc_sub {a b : Nat} (h : b ≤ a) : nI a - nI b = nI (a - b) := by
  obtain ⟨c, rfl⟩ : ∃ c, a = c + b := ⟨a - b, by omega⟩
  rw [← nI_add, Int32.add_sub_cancel, Nat.add_sub_cancel]
theorem mc_m1 (n : Nat) : nI (n + 1) + (-1) = nI n := by
  rw [← nI_1, Int32.add_assoc, show (1 : Int32) + (-1) = 0 from rfl, Int32.add_zero]
theorem mc_b0 : vp_nar .boolean 0 = 0 := by decide
theorem mc_b1 : vp_nar .boolean 1 = 1 := by decide
def mc_I (z : Int) : Int32 := Int32.ofInt z
theorem mc_I_nat (n : Nat) : mc_I (n : Int) = nI n := Int32.ofInt_eq_ofNat
theorem mc_I_toInt {z : Int} (h1 : -2000000 ≤ z) (h2 : z ≤ 2000000) : (mc_I z).toInt = z := Int32.toInt_ofInt_of_le (by omega) (by omega)
theorem mc_I_of (x : Int32) : mc_I x.toInt = x := Int32.ofInt_toInt x
theorem mc_I_add (a b : Int) : mc_I a + mc_I b = mc_I (a + b) := (Int32.ofInt_add a b).symm
theorem mc_I_sub (a b : Int) : mc_I a - mc_I b = mc_I (a - b) := (Int32.ofInt_sub a b).symm
theorem mc_I_mul (a b : Int) : mc_I a * mc_I b = mc_I (a * b) := (Int32.ofInt_mul a b).symm
theorem mc_I_neg (a : Int) : - mc_I a = mc_I (-a) := (Int32.ofInt_neg a).symm
theorem mc_I_0 : mc_I 0 = 0 := by decide
theorem mc_I_1 : mc_I 1 = 1 := by decide
theorem mc_I_mil : mc_I 1000000 = 1000000 := by decide
theorem mc_I_le {a b : Int} (h1 : -2000000 ≤ a) (h2 : a ≤ 2000000) (h3 : -2000000 ≤ b) (h4 : b ≤ 2000000) : mc_I a ≤ mc_I b ↔ a ≤ b := by
  rw [Int32.le_iff_toInt_le, mc_I_toInt h1 h2, mc_I_toInt h3 h4]
theorem mc_I_lt {a b : Int} (h1 : -2000000 ≤ a) (h2 : a ≤ 2000000) (h3 : -2000000 ≤ b) (h4 : b ≤ 2000000) : mc_I a < mc_I b ↔ a < b := by
  rw [Int32.lt_iff_toInt_lt, mc_I_toInt h1 h2, mc_I_toInt h3 h4]
theorem mc_I_eq {a b : Int} (h1 : -2000000 ≤ a) (h2 : a ≤ 2000000) (h3 : -2000000 ≤ b) (h4 : b ≤ 2000000) : mc_I a = mc_I b ↔ a = b := by
  rw [← Int32.toInt_inj, mc_I_toInt h1 h2, mc_I_toInt h3 h4]
theorem mc_bm {a b : Int} (h1 : -1000 ≤ a) (h2 : a ≤ 1000) (h3 : -1000 ≤ b) (h4 : b ≤ 1000) : -2000000 ≤ a * b ∧ a * b ≤ 2000000 := by
  have h : (a * b).natAbs ≤ 1000 * 1000 := by
    rw [Int.natAbs_mul]
    exact Nat.mul_le_mul (by omega) (by omega)
  generalize a * b = c at h
  omega
theorem mc_cle {a b c d : Int} (h1 : -1000 ≤ a) (h2 : a ≤ 1000) (h3 : -1000 ≤ b) (h4 : b ≤ 1000) (h5 : -1000 ≤ c) (h6 : c ≤ 1000) (h7 : -1000 ≤ d) (h8 : d ≤ 1000) : mc_I a * mc_I b ≤ mc_I c * mc_I d ↔ a * b ≤ c * d := by
  have h := mc_bm h1 h2 h3 h4
  have h' := mc_bm h5 h6 h7 h8
  rw [mc_I_mul, mc_I_mul, mc_I_le h.1 h.2 h'.1 h'.2]
theorem mc_ceq {a b c d : Int} (h1 : -1000 ≤ a) (h2 : a ≤ 1000) (h3 : -1000 ≤ b) (h4 : b ≤ 1000) (h5 : -1000 ≤ c) (h6 : c ≤ 1000) (h7 : -1000 ≤ d) (h8 : d ≤ 1000) : mc_I a * mc_I b = mc_I c * mc_I d ↔ a * b = c * d := by
  have h := mc_bm h1 h2 h3 h4
  have h' := mc_bm h5 h6 h7 h8
  rw [mc_I_mul, mc_I_mul, mc_I_eq h.1 h.2 h'.1 h'.2]
theorem mc_I_div {a d : Int} (h1 : -2000000 ≤ a) (h2 : a ≤ 2000000) (h3 : 0 < d) (h4 : d ≤ 2000000) : mc_I a / mc_I d = mc_I (a.tdiv d) := by
  apply Int32.toInt_inj.mp
  have hd : (mc_I d).toInt = d := mc_I_toInt (by omega) h4
  have hne : mc_I d ≠ -1 := by
    intro e
    rw [e] at hd
    have : (-1 : Int32).toInt = -1 := by decide
    omega
  have hb := Int.natAbs_tdiv_le_natAbs a d
  rw [Int32.toInt_div_of_ne_right _ _ hne, mc_I_toInt h1 h2, hd, mc_I_toInt (by omega) (by omega)]
theorem mc_I_rem {a d : Int} (h1 : -2000000 ≤ a) (h2 : a ≤ 2000000) (h3 : 0 < d) (h4 : d ≤ 2000000) : mc_I a - mc_I a / mc_I d * mc_I d = 0 ↔ d ∣ a := by
  rw [mc_I_div h1 h2 h3 h4, mc_I_mul, mc_I_sub, ← mc_I_0]
  have hr : a - a.tdiv d * d = a.tmod d := by rw [Int.tmod_def, Int.mul_comm]
  have hb : (a.tmod d).natAbs ≤ a.natAbs := by
    rw [Int.natAbs_tmod]
    exact Nat.mod_le _ _
  rw [hr, mc_I_eq (by omega) (by omega) (by omega) (by omega)]
  exact Int.dvd_iff_tmod_eq_zero.symm
/-! lowest terms -/
def mc_cop (t : Int) (b : Nat) : Prop := ∀ e : Nat, 1 < e → ¬ ((e : Int) ∣ t ∧ e ∣ b)
theorem mc_cop_gcd {t : Int} {b : Nat} (hb : 0 < b) (h : mc_cop t b) : Nat.gcd t.natAbs b = 1 := by
  rcases Nat.lt_or_ge 1 (Nat.gcd t.natAbs b) with g | g
  · exact absurd ⟨Int.ofNat_dvd_left.mpr (Nat.gcd_dvd_left _ _), Nat.gcd_dvd_right _ _⟩ (h _ g)
  · have := Nat.gcd_pos_of_pos_right t.natAbs hb
    omega
theorem mc_low {t T : Int} {b B : Nat} (hb : 0 < b) (hB : 0 < B) (h : Nat.gcd t.natAbs b = 1) (H : Nat.gcd T.natAbs B = 1) (e : t * B = T * b) : t = T ∧ b = B := by
  have en : t.natAbs * B = T.natAbs * b := by
    have := congrArg Int.natAbs e
    rw [Int.natAbs_mul, Int.natAbs_mul, Int.natAbs_natCast, Int.natAbs_natCast] at this
    exact this
  have d1 : b ∣ B := by
    have : b ∣ t.natAbs * B := ⟨T.natAbs, by rw [en, Nat.mul_comm]⟩
    exact Nat.Coprime.dvd_of_dvd_mul_left (Nat.Coprime.symm h) this
  have d2 : B ∣ b := by
    have : B ∣ T.natAbs * b := ⟨t.natAbs, by rw [← en, Nat.mul_comm]⟩
    exact Nat.Coprime.dvd_of_dvd_mul_left (Nat.Coprime.symm H) this
  have eb : b = B := Nat.dvd_antisymm d1 d2
  subst eb
  exact ⟨Int.eq_of_mul_eq_mul_right (by omega) e, rfl⟩
theorem mc_div_gcd {t : Int} {b : Nat} (hb : 0 < b) : ∃ (t' : Int) (b' : Nat), 0 < b' ∧ t = t' * (Nat.gcd t.natAbs b : Nat) ∧ b = b' * Nat.gcd t.natAbs b ∧ Nat.gcd t'.natAbs b' = 1 := by
  have g0 := Nat.gcd_pos_of_pos_right t.natAbs hb
  obtain ⟨t', ht⟩ : ((Nat.gcd t.natAbs b : Nat) : Int) ∣ t := Int.ofNat_dvd_left.mpr (Nat.gcd_dvd_left _ _)
  obtain ⟨b', hb'⟩ := Nat.gcd_dvd_right t.natAbs b
  generalize hg : Nat.gcd t.natAbs b = g at *
  refine ⟨t', b', ?_, by rw [ht, Int.mul_comm], by rw [hb', Nat.mul_comm], ?_⟩
  · rcases Nat.eq_zero_or_pos b' with z | z
    · rw [z] at hb'; omega
    · exact z
  · have : Nat.gcd (g * t'.natAbs) (g * b') = g := by
      have e1 : g * t'.natAbs = t.natAbs := by rw [ht, Int.natAbs_mul, Int.natAbs_natCast]
      rw [e1, ← hb', hg]
    rw [Nat.gcd_mul_left] at this
    exact Nat.eq_of_mul_eq_mul_left g0 (by omega)
/-! Euclid, twenty rounds -/
def mc_eu : Nat → Nat → Nat → Nat
  | 0, _, b => b
  | k + 1, a, b => if a = 0 then mc_eu k 0 b else mc_eu k (b % a) a
theorem mc_eu_gcd : ∀ a, a < 121 → ∀ b, b < 31 → mc_eu 20 a b = Nat.gcd a b := by decide +kernel
end MC01
end
section
section MC02
/-! walks and circles: a list of points and an end; its arcs -/
def mc_hd : List Nat → Nat → Nat
  | [], v => v
  | a :: _, _ => a
def mc_ar : List Nat → Nat → List (Nat × Nat)
  | [], _ => []
  | a :: l, v => (a, mc_hd l v) :: mc_ar l v
theorem mc_hd_app (l m : List Nat) (v : Nat) : mc_hd (l ++ m) v = mc_hd l (mc_hd m v) := by cases l <;> rfl
theorem mc_ar_app (l m : List Nat) (v : Nat) : mc_ar (l ++ m) v = mc_ar l (mc_hd m v) ++ mc_ar m v := by
  induction l with
  | nil => rfl
  | cons a l ih =>
    show (a, mc_hd (l ++ m) v) :: mc_ar (l ++ m) v = (a, mc_hd l (mc_hd m v)) :: (mc_ar l (mc_hd m v) ++ mc_ar m v)
    rw [ih, mc_hd_app]
def mc_sm (w : Nat → Nat → Int) : List (Nat × Nat) → Int
  | [] => 0
  | e :: l => w e.1 e.2 + mc_sm w l
theorem mc_sm_app (w : Nat → Nat → Int) (a b : List (Nat × Nat)) : mc_sm w (a ++ b) = mc_sm w a + mc_sm w b := by
  induction a with
  | nil => show mc_sm w b = 0 + mc_sm w b; omega
  | cons e l ih => show w e.1 e.2 + mc_sm w (l ++ b) = w e.1 e.2 + mc_sm w l + mc_sm w b; omega
theorem mc_sm_congr {w w' : Nat → Nat → Int} {L : List (Nat × Nat)} (h : ∀ e ∈ L, w e.1 e.2 = w' e.1 e.2) : mc_sm w L = mc_sm w' L := by
  induction L with
  | nil => rfl
  | cons e l ih =>
    show w e.1 e.2 + mc_sm w l = w' e.1 e.2 + mc_sm w' l
    rw [ih (fun x hx => h x (List.mem_cons_of_mem _ hx)), h e (List.mem_cons_self)]
theorem mc_sm_lo {w : Nat → Nat → Int} {m : Int} {L : List (Nat × Nat)} (h : ∀ e ∈ L, m ≤ w e.1 e.2) : m * L.length ≤ mc_sm w L := by
  induction L with
  | nil => show m * 0 ≤ 0; omega
  | cons e l ih =>
    have h1 := ih (fun x hx => h x (List.mem_cons_of_mem _ hx))
    have h2 := h e (List.mem_cons_self)
    show m * ((l.length + 1 : Nat) : Int) ≤ w e.1 e.2 + mc_sm w l
    rw [Int.natCast_add, Int.mul_add]
    omega
theorem mc_sm_hi {w : Nat → Nat → Int} {m : Int} {L : List (Nat × Nat)} (h : ∀ e ∈ L, w e.1 e.2 ≤ m) : mc_sm w L ≤ m * L.length := by
  induction L with
  | nil => show 0 ≤ m * 0; omega
  | cons e l ih =>
    have h1 := ih (fun x hx => h x (List.mem_cons_of_mem _ hx))
    have h2 := h e (List.mem_cons_self)
    show w e.1 e.2 + mc_sm w l ≤ m * ((l.length + 1 : Nat) : Int)
    rw [Int.natCast_add, Int.mul_add]
    omega
theorem mc_ar_len (l : List Nat) (v : Nat) : (mc_ar l v).length = l.length := by
  induction l with
  | nil => rfl
  | cons a l ih => show (mc_ar l v).length + 1 = l.length + 1; rw [ih]
theorem mc_ar_fst {l : List Nat} {v x : Nat} (h : x ∈ l) : ∃ y, (x, y) ∈ mc_ar l v := by
  induction l with
  | nil => exact nomatch h
  | cons a l ih =>
    rcases List.mem_cons.mp h with e | e
    · exact ⟨mc_hd l v, by rw [e]; exact List.mem_cons_self⟩
    · obtain ⟨y, hy⟩ := ih e
      exact ⟨y, List.mem_cons_of_mem _ hy⟩
theorem mc_ar_spl {l : List Nat} {v x y : Nat} (h : (x, y) ∈ mc_ar l v) : ∃ a d, l = a ++ x :: d ∧ y = mc_hd d v := by
  induction l with
  | nil => exact nomatch h
  | cons a l ih =>
    rcases List.mem_cons.mp h with e | e
    · cases e
      exact ⟨[], l, rfl, rfl⟩
    · obtain ⟨b, d, e1, e2⟩ := ih e
      exact ⟨a :: b, d, by rw [e1]; rfl, e2⟩
def mc_cy (c : List Nat) : List (Nat × Nat) := mc_ar c (mc_hd c 0)
theorem mc_cy_app (a : List Nat) (x : Nat) (d : List Nat) : mc_cy (a ++ x :: d) = mc_ar a x ++ mc_ar (x :: d) (mc_hd a x) := by
  unfold mc_cy
  rw [mc_ar_app, mc_hd_app]
  rfl
theorem mc_cy_spl (a : List Nat) (x : Nat) (b d : List Nat) : mc_cy (a ++ x :: (b ++ x :: d)) = mc_ar a x ++ (mc_cy (x :: b) ++ mc_ar (x :: d) (mc_hd a x)) := by
  rw [mc_cy_app]
  have : x :: (b ++ x :: d) = (x :: b) ++ (x :: d) := rfl
  rw [this, mc_ar_app]
  rfl
theorem mc_dup {c : List Nat} (h : ¬ c.Nodup) : ∃ a x b d, c = a ++ x :: (b ++ x :: d) := by
  induction c with
  | nil => exact absurd List.nodup_nil h
  | cons y c ih =>
    by_cases hy : y ∈ c
    · obtain ⟨b, d, e⟩ := List.append_of_mem hy
      exact ⟨[], y, b, d, by rw [e]; rfl⟩
    · have : ¬ c.Nodup := fun hc => h (List.nodup_cons.mpr ⟨hy, hc⟩)
      obtain ⟨a, x, b, d, e⟩ := ih this
      exact ⟨y :: a, x, b, d, by rw [e]; rfl⟩
def mc_ci (A : Nat → Nat → Prop) (c : List Nat) : Prop := c ≠ [] ∧ c.Nodup ∧ ∀ e ∈ mc_cy c, A e.1 e.2
theorem mc_dec {A : Nat → Nat → Prop} {P : List Nat → Prop} (hb : ∀ c, mc_ci A c → P c) (hs : ∀ a x b d, P (x :: b) → P (a ++ x :: d) → P (a ++ x :: (b ++ x :: d))) : ∀ (m : Nat) (c : List Nat), c.length ≤ m → c ≠ [] → (∀ e ∈ mc_cy c, A e.1 e.2) → P c := by
  intro m
  induction m with
  | zero =>
    intro c hl hn
    exact absurd (List.length_eq_zero_iff.mp (by omega)) hn
  | succ m ih =>
    intro c hl hn hA
    by_cases hd : c.Nodup
    · exact hb c ⟨hn, hd, hA⟩
    · obtain ⟨a, x, b, d, rfl⟩ := mc_dup hd
      rw [mc_cy_spl] at hA
      have len : (a ++ x :: (b ++ x :: d)).length = a.length + (b.length + (d.length + 1) + 1) := by
        rw [List.length_append, List.length_cons, List.length_append, List.length_cons]
      refine hs a x b d (ih _ ?_ (by simp) ?_) (ih _ ?_ (by simp) ?_)
      · rw [List.length_cons]; omega
      · intro e he
        exact hA e (List.mem_append_right _ (List.mem_append_left _ he))
      · rw [List.length_append, List.length_cons]; omega
      · rw [mc_cy_app]
        intro e he
        rcases List.mem_append.mp he with h | h
        · exact hA e (List.mem_append_left _ h)
        · exact hA e (List.mem_append_right _ (List.mem_append_right _ h))
/-- every closed walk keeps what every circle keeps, and one that meets it is made of circles that do -/
theorem mc_clo {A : Nat → Nat → Prop} {w sp : Nat → Nat → Int} {T B : Int} (hm : ∀ q, mc_ci A q → T * mc_sm sp (mc_cy q) ≤ B * mc_sm w (mc_cy q)) {c : List Nat} (hn : c ≠ []) (hA : ∀ e ∈ mc_cy c, A e.1 e.2) :
    T * mc_sm sp (mc_cy c) ≤ B * mc_sm w (mc_cy c) ∧ (T * mc_sm sp (mc_cy c) = B * mc_sm w (mc_cy c) → ∀ e ∈ mc_cy c, ∃ q, mc_ci A q ∧ T * mc_sm sp (mc_cy q) = B * mc_sm w (mc_cy q) ∧ e ∈ mc_cy q) := by
  refine mc_dec (A := A) (P := fun c => T * mc_sm sp (mc_cy c) ≤ B * mc_sm w (mc_cy c) ∧ (T * mc_sm sp (mc_cy c) = B * mc_sm w (mc_cy c) → ∀ e ∈ mc_cy c, ∃ q, mc_ci A q ∧ T * mc_sm sp (mc_cy q) = B * mc_sm w (mc_cy q) ∧ e ∈ mc_cy q)) ?_ ?_ c.length c (Nat.le_refl _) hn hA
  · intro q hq
    exact ⟨hm q hq, fun e x hx => ⟨q, hq, e, hx⟩⟩
  · intro a x b d h1 h2
    have e1 : ∀ f : Nat → Nat → Int, mc_sm f (mc_cy (a ++ x :: (b ++ x :: d))) = mc_sm f (mc_cy (x :: b)) + mc_sm f (mc_cy (a ++ x :: d)) := by
      intro f
      rw [mc_cy_spl, mc_cy_app, mc_sm_app, mc_sm_app, mc_sm_app]
      omega
    rw [e1, e1, Int.mul_add, Int.mul_add]
    refine ⟨by omega, fun e y hy => ?_⟩
    have k1 : T * mc_sm sp (mc_cy (x :: b)) = B * mc_sm w (mc_cy (x :: b)) := by omega
    have k2 : T * mc_sm sp (mc_cy (a ++ x :: d)) = B * mc_sm w (mc_cy (a ++ x :: d)) := by omega
    rw [mc_cy_spl] at hy
    rcases List.mem_append.mp hy with h | h
    · exact h2.2 k2 y (by rw [mc_cy_app]; exact List.mem_append_left _ h)
    · rcases List.mem_append.mp h with h | h
      · exact h1.2 k1 y h
      · exact h2.2 k2 y (by rw [mc_cy_app]; exact List.mem_append_right _ h)
theorem mc_ph {n : Nat} {l : List Nat} (h : l.Nodup) (hl : ∀ x ∈ l, x < n) : l.length ≤ n := by
  have := List.Nodup.length_le_of_subset h (l₂ := List.range n) (fun x hx => List.mem_range.mpr (hl x hx))
  rwa [List.length_range] at this
/-! the weights of the walks of a span -/
def mc_S (A : Nat → Nat → Prop) (w sp : Nat → Nat → Int) (u v : Nat) (k z : Int) : Prop := ∃ l, mc_hd l v = u ∧ (∀ e ∈ mc_ar l v, A e.1 e.2) ∧ mc_sm sp (mc_ar l v) = k ∧ mc_sm w (mc_ar l v) = z
theorem mc_S_pos {A : Nat → Nat → Prop} {sp : Nat → Nat → Int} (hp : ∀ a b, A a b → 1 ≤ sp a b) {l : List Nat} {v : Nat} (h : ∀ e ∈ mc_ar l v, A e.1 e.2) : (l.length : Int) ≤ mc_sm sp (mc_ar l v) := by
  have := mc_sm_lo (w := sp) (m := 1) (L := mc_ar l v) (fun e he => hp _ _ (h e he))
  rw [mc_ar_len] at this
  omega
theorem mc_S_bnd {A : Nat → Nat → Prop} {w sp : Nat → Nat → Int} (hp : ∀ a b, A a b → 1 ≤ sp a b) (hw : ∀ a b, A a b → -20 ≤ w a b ∧ w a b ≤ 20) {u v : Nat} {k z : Int} (h : mc_S A w sp u v k z) : 0 ≤ k ∧ -20 * k ≤ z ∧ z ≤ 20 * k := by
  obtain ⟨l, _, hA, hk, hz⟩ := h
  have h1 := mc_S_pos hp hA
  have h2 := mc_sm_lo (w := w) (m := -20) (L := mc_ar l v) (fun e he => (hw _ _ (hA e he)).1)
  have h3 := mc_sm_hi (w := w) (m := 20) (L := mc_ar l v) (fun e he => (hw _ _ (hA e he)).2)
  rw [mc_ar_len] at h2 h3
  omega
theorem mc_S_0 {A : Nat → Nat → Prop} {w sp : Nat → Nat → Int} (hp : ∀ a b, A a b → 1 ≤ sp a b) {u v : Nat} {z : Int} : mc_S A w sp u v 0 z ↔ u = v ∧ z = 0 := by
  constructor
  · rintro ⟨l, hu, hA, hk, hz⟩
    have h1 := mc_S_pos hp hA
    have : l = [] := List.length_eq_zero_iff.mp (by omega)
    subst this
    exact ⟨hu.symm, hz.symm⟩
  · rintro ⟨rfl, rfl⟩
    exact ⟨[], rfl, (fun e he => nomatch he), rfl, rfl⟩
theorem mc_S_app {A : Nat → Nat → Prop} {w sp : Nat → Nat → Int} {u x v : Nat} {k z : Int} (h : mc_S A w sp u x k z) (hA : A x v) : mc_S A w sp u v (k + sp x v) (z + w x v) := by
  obtain ⟨l, hu, hl, hk, hz⟩ := h
  have e : mc_ar (l ++ [x]) v = mc_ar l x ++ [(x, v)] := mc_ar_app l [x] v
  refine ⟨l ++ [x], ?_, ?_, ?_, ?_⟩
  · rw [mc_hd_app]; exact hu
  · rw [e]
    intro y hy
    rcases List.mem_append.mp hy with h | h
    · exact hl y h
    · rw [List.mem_singleton.mp h]; exact hA
  · rw [e, mc_sm_app, hk]; show k + (sp x v + 0) = _; omega
  · rw [e, mc_sm_app, hz]; show z + (w x v + 0) = _; omega
theorem mc_S_pre {A : Nat → Nat → Prop} {w sp : Nat → Nat → Int} {u v x : Nat} {k z : Int} (h : mc_S A w sp v x k z) (hA : A u v) : mc_S A w sp u x (k + sp u v) (z + w u v) := by
  obtain ⟨l, hu, hl, hk, hz⟩ := h
  have e : mc_ar (u :: l) x = (u, v) :: mc_ar l x := by rw [← hu]; rfl
  refine ⟨u :: l, rfl, ?_, ?_, ?_⟩
  · rw [e]
    intro y hy
    rcases List.mem_cons.mp hy with h | h
    · rw [h]; exact hA
    · exact hl y h
  · rw [e, ← hk]; exact Int.add_comm _ _
  · rw [e, ← hz]; exact Int.add_comm _ _
theorem mc_S_step {A : Nat → Nat → Prop} {w sp : Nat → Nat → Int} {u v : Nat} {k z : Int} (hk : 1 ≤ k) : mc_S A w sp u v k z ↔ ∃ x, A x v ∧ mc_S A w sp u x (k - sp x v) (z - w x v) := by
  constructor
  · rintro ⟨l, hu, hA, h1, h2⟩
    rcases List.eq_nil_or_concat l with e | ⟨l', x, e⟩
    · subst e
      exact absurd (show (0 : Int) = k from h1) (by omega)
    · rw [List.concat_eq_append] at e
      subst e
      have e : mc_ar (l' ++ [x]) v = mc_ar l' x ++ [(x, v)] := mc_ar_app l' [x] v
      rw [mc_hd_app] at hu
      rw [e] at hA h1 h2
      rw [mc_sm_app] at h1 h2
      have h1' : mc_sm sp (mc_ar l' x) + (sp x v + 0) = k := h1
      have h2' : mc_sm w (mc_ar l' x) + (w x v + 0) = z := h2
      exact ⟨x, hA (x, v) (List.mem_append_right _ (List.mem_singleton.mpr rfl)), l', hu, fun y hy => hA y (List.mem_append_left _ hy), by omega, by omega⟩
  · rintro ⟨x, hA, h⟩
    have := mc_S_app h hA
    rwa [Int.sub_add_cancel, Int.sub_add_cancel] at this
end MC02
end
section
section MC03
/-! the circles as the reference meets them -/
def mc_la (p : List Nat) : Nat := p.getD (p.length - 1) 0
theorem mc_la_app (p : List Nat) (x : Nat) : mc_la (p ++ [x]) = x := by
  unfold mc_la
  simp
theorem mc_la_ar {p : List Nat} (h : p ≠ []) (v : Nat) : (mc_la p, v) ∈ mc_ar p v := by
  rcases List.eq_nil_or_concat p with e | ⟨l, x, e⟩
  · exact absurd e h
  · rw [List.concat_eq_append] at e
    subst e
    rw [mc_la_app, mc_ar_app]
    exact List.mem_append_right _ (List.mem_cons_self)
theorem mc_ar_mem {l : List Nat} {v : Nat} {e : Nat × Nat} (h : e ∈ mc_ar l v) : e.1 ∈ l ∧ (e.2 ∈ l ∨ e.2 = v) := by
  induction l with
  | nil => exact nomatch h
  | cons a l ih =>
    rcases List.mem_cons.mp h with e' | e'
    · subst e'
      refine ⟨List.mem_cons_self, ?_⟩
      cases l with
      | nil => exact Or.inr rfl
      | cons b l => exact Or.inl (List.mem_cons_of_mem _ List.mem_cons_self)
    · obtain ⟨h1, h2⟩ := ih e'
      exact ⟨List.mem_cons_of_mem _ h1, h2.imp (List.mem_cons_of_mem _) id⟩
def mc_br (E : Nat → Nat → Bool) (f : Nat) (R : List Nat → List (List Nat)) (p : List Nat) (v : Nat) : List (List Nat) :=
  if E (mc_la p) v = true then (if v = f then [p] else if f < v ∧ ¬ v ∈ p then R (p ++ [v]) else []) else []
def mc_cs (n : Nat) (E : Nat → Nat → Bool) (f : Nat) : Nat → List Nat → List (List Nat)
  | 0, _ => []
  | k + 1, p => (List.range n).flatMap (mc_br E f (mc_cs n E f k) p)
def mc_gd (n : Nat) (E : Nat → Nat → Bool) (f : Nat) (p : List Nat) : Prop :=
  p ≠ [] ∧ mc_hd p 0 = f ∧ p.Nodup ∧ (∀ x ∈ p, x < n) ∧ ∀ v, E (mc_la p) v = true → ∀ e ∈ mc_ar p v, E e.1 e.2 = true
theorem mc_gd_1 {n : Nat} {E : Nat → Nat → Bool} {f : Nat} (h : f < n) : mc_gd n E f [f] := by
  refine ⟨by simp, rfl, by simp, ?_, ?_⟩
  · intro x hx; rw [List.mem_singleton.mp hx]; exact h
  · intro v hv e he
    have : e = (f, v) := List.mem_singleton.mp he
    rw [this]
    exact hv
theorem mc_gd_s {n : Nat} {E : Nat → Nat → Bool} {f : Nat} {p : List Nat} {v : Nat} (h : mc_gd n E f p) (hE : E (mc_la p) v = true) (hv : v < n) (hp : ¬ v ∈ p) : mc_gd n E f (p ++ [v]) := by
  obtain ⟨h1, h2, h3, h4, h5⟩ := h
  refine ⟨by simp, ?_, ?_, ?_, ?_⟩
  · rw [mc_hd_app]
    cases p with
    | nil => exact absurd rfl h1
    | cons a l => exact h2
  · rw [List.nodup_append]
    refine ⟨h3, by simp, ?_⟩
    intro a ha b hb e
    rw [List.mem_singleton.mp hb] at e
    exact hp (e ▸ ha)
  · intro x hx
    rcases List.mem_append.mp hx with h | h
    · exact h4 x h
    · rw [List.mem_singleton.mp h]; exact hv
  · intro y hy e he
    rw [mc_la_app] at hy
    rw [mc_ar_app] at he
    rcases List.mem_append.mp he with h | h
    · exact h5 v hE e h
    · have : e = (v, y) := List.mem_singleton.mp h
      rw [this]
      exact hy
theorem mc_cs_sound {n : Nat} {E : Nat → Nat → Bool} {f : Nat} : ∀ (k : Nat) (p c : List Nat), mc_gd n E f p → c ∈ mc_cs n E f k p → mc_gd n E f c ∧ E (mc_la c) f = true := by
  intro k
  induction k with
  | zero => intro p c _ hc; exact nomatch hc
  | succ k ih =>
    intro p c hp hc
    obtain ⟨v, hv, hc⟩ := List.mem_flatMap.mp hc
    have hv := List.mem_range.mp hv
    unfold mc_br at hc
    by_cases hE : E (mc_la p) v = true
    · rw [if_pos hE] at hc
      by_cases hf : v = f
      · rw [if_pos hf] at hc
        rw [List.mem_singleton.mp hc]
        exact ⟨hp, hf ▸ hE⟩
      · rw [if_neg hf] at hc
        by_cases hx : f < v ∧ ¬ v ∈ p
        · rw [if_pos hx] at hc
          exact ih _ _ (mc_gd_s hp hE hv hx.2) hc
        · rw [if_neg hx] at hc
          exact nomatch hc
    · rw [if_neg hE] at hc
      exact nomatch hc
theorem mc_cs_compl {n : Nat} {E : Nat → Nat → Bool} {f : Nat} : ∀ (t : List Nat) (k : Nat) (p : List Nat), p ≠ [] → mc_hd p 0 = f → f < n → (p ++ t).Nodup → (∀ x ∈ t, x < n ∧ f < x) → (∀ e ∈ mc_cy (p ++ t), E e.1 e.2 = true) → t.length < k → p ++ t ∈ mc_cs n E f k p := by
  intro t
  induction t with
  | nil =>
    intro k p h1 h2 h3 h4 h5 h6 h7
    obtain ⟨k, rfl⟩ : ∃ j, k = j + 1 := ⟨k - 1, by simp at h7; omega⟩
    rw [List.append_nil] at h6 ⊢
    refine List.mem_flatMap.mpr ⟨f, List.mem_range.mpr h3, ?_⟩
    unfold mc_br
    have hE : E (mc_la p) f = true := by
      have := h6 (mc_la p, f) (by unfold mc_cy; rw [h2]; exact mc_la_ar h1 f)
      exact this
    rw [if_pos hE, if_pos rfl]
    exact List.mem_singleton.mpr rfl
  | cons v t ih =>
    intro k p h1 h2 h3 h4 h5 h6 h7
    rw [List.length_cons] at h7
    obtain ⟨k, rfl⟩ : ∃ j, k = j + 1 := ⟨k - 1, by omega⟩
    have hv := h5 v List.mem_cons_self
    refine List.mem_flatMap.mpr ⟨v, List.mem_range.mpr hv.1, ?_⟩
    unfold mc_br
    have hE : E (mc_la p) v = true := by
      have := h6 (mc_la p, v) (by rw [mc_cy_app]; exact List.mem_append_left _ (mc_la_ar h1 v))
      exact this
    have hp : ¬ v ∈ p := by
      intro hm
      rw [List.nodup_append] at h4
      exact h4.2.2 v hm v List.mem_cons_self rfl
    have ea : p ++ v :: t = (p ++ [v]) ++ t := by simp
    rw [if_pos hE, if_neg (by omega), if_pos ⟨hv.2, hp⟩, ea]
    rw [ea] at h4 h6
    refine ih k (p ++ [v]) (by simp) ?_ h3 h4 (fun x hx => h5 x (List.mem_cons_of_mem _ hx)) h6 (by omega)
    rw [mc_hd_app]
    cases p with
    | nil => exact absurd rfl h1
    | cons a l => exact h2
def mc_al (n : Nat) (E : Nat → Nat → Bool) : List (List Nat) := (List.range n).flatMap (fun f => mc_cs n E f 6 [f])
def mc_A (n : Nat) (E : Nat → Nat → Bool) (u v : Nat) : Prop := u < n ∧ v < n ∧ E u v = true
theorem mc_gd_ci {n : Nat} {E : Nat → Nat → Bool} {f : Nat} {c : List Nat} (hg : mc_gd n E f c) (hE : E (mc_la c) f = true) : mc_ci (mc_A n E) c := by
  obtain ⟨h1, h2, h3, h4, h5⟩ := hg
  have hf : f ∈ c := by
    cases c with
    | nil => exact absurd rfl h1
    | cons a l => rw [← h2]; exact List.mem_cons_self
  refine ⟨h1, h3, ?_⟩
  unfold mc_cy
  rw [h2]
  intro e he
  obtain ⟨m1, m2⟩ := mc_ar_mem he
  refine ⟨h4 _ m1, ?_, h5 f hE e he⟩
  rcases m2 with m | m
  · exact h4 _ m
  · rw [m]; exact h4 _ hf
theorem mc_al_sound {n : Nat} {E : Nat → Nat → Bool} {c : List Nat} (h : c ∈ mc_al n E) : mc_ci (mc_A n E) c := by
  obtain ⟨f, hf, hc⟩ := List.mem_flatMap.mp h
  obtain ⟨hg, hE⟩ := mc_cs_sound 6 [f] c (mc_gd_1 (List.mem_range.mp hf)) hc
  exact mc_gd_ci hg hE
theorem mc_min : ∀ (c : List Nat), c ≠ [] → ∃ m ∈ c, ∀ x ∈ c, m ≤ x := by
  intro c
  induction c with
  | nil => intro h; exact absurd rfl h
  | cons a c ih =>
    intro _
    by_cases hc : c = []
    · subst hc
      exact ⟨a, List.mem_cons_self, fun x hx => by rw [List.mem_singleton.mp hx]; exact Nat.le_refl _⟩
    · obtain ⟨m, hm, hl⟩ := ih hc
      by_cases h : a ≤ m
      · refine ⟨a, List.mem_cons_self, fun x hx => ?_⟩
        rcases List.mem_cons.mp hx with e | e
        · omega
        · have := hl x e; omega
      · refine ⟨m, List.mem_cons_of_mem _ hm, fun x hx => ?_⟩
        rcases List.mem_cons.mp hx with e | e
        · omega
        · exact hl x e
theorem mc_ci_lt {n : Nat} {E : Nat → Nat → Bool} {c : List Nat} (h : mc_ci (mc_A n E) c) : ∀ x ∈ c, x < n := by
  intro x hx
  obtain ⟨y, hy⟩ := mc_ar_fst (v := mc_hd c 0) hx
  exact (h.2.2 (x, y) hy).1
theorem mc_ci_len {n : Nat} {E : Nat → Nat → Bool} {c : List Nat} (h : mc_ci (mc_A n E) c) : c.length ≤ n := mc_ph h.2.1 (mc_ci_lt h)
theorem mc_al_compl {n : Nat} {E : Nat → Nat → Bool} (hn : n ≤ 6) {c : List Nat} (h : mc_ci (mc_A n E) c) : ∃ c' ∈ mc_al n E, (∀ e, e ∈ mc_cy c ↔ e ∈ mc_cy c') ∧ ∀ w : Nat → Nat → Int, mc_sm w (mc_cy c') = mc_sm w (mc_cy c) := by
  have hlt := mc_ci_lt h
  have hlen := mc_ci_len h
  obtain ⟨h1, h2, h3⟩ := h
  obtain ⟨m, hm, hl⟩ := mc_min c h1
  obtain ⟨a, b, rfl⟩ := List.append_of_mem hm
  have e1 : mc_cy (a ++ m :: b) = mc_ar a m ++ mc_ar (m :: b) (mc_hd a m) := mc_cy_app a m b
  have e2 : mc_cy (m :: b ++ a) = mc_ar (m :: b) (mc_hd a m) ++ mc_ar a m := by
    unfold mc_cy
    rw [mc_ar_app]
    rfl
  have hmem : ∀ e, e ∈ mc_cy (a ++ m :: b) ↔ e ∈ mc_cy (m :: b ++ a) := by
    intro e
    rw [e1, e2, List.mem_append, List.mem_append]
    exact Or.comm
  refine ⟨m :: b ++ a, ?_, hmem, ?_⟩
  · refine List.mem_flatMap.mpr ⟨m, List.mem_range.mpr (hlt m hm), ?_⟩
    have hnd : (m :: b ++ a).Nodup := by
      rw [List.nodup_append] at h2 ⊢
      exact ⟨h2.2.1, h2.1, fun x hx y hy e => h2.2.2 y hy x hx e.symm⟩
    have e3 : m :: b ++ a = [m] ++ (b ++ a) := rfl
    rw [e3] at hnd hmem ⊢
    refine mc_cs_compl (b ++ a) 6 [m] (by simp) rfl (hlt m hm) hnd ?_ ?_ ?_
    · intro x hx
      have hxm : x ∈ a ++ m :: b := by
        rcases List.mem_append.mp hx with h | h
        · exact List.mem_append_right _ (List.mem_cons_of_mem _ h)
        · exact List.mem_append_left _ h
      have := hl x hxm
      have hne : m ≠ x := by
        intro e
        have := (List.nodup_cons.mp hnd).1
        exact this (e ▸ hx)
      exact ⟨hlt x hxm, by omega⟩
    · intro e he
      exact (h3 e ((hmem e).mpr he)).2.2
    · rw [List.length_append, List.length_cons] at hlen
      rw [List.length_append]
      omega
  · intro w
    rw [e1, e2, mc_sm_app, mc_sm_app]
    omega
theorem mc_fm_len {g : Nat → List (List Nat)} {m : Nat} : ∀ l : List Nat, (∀ v ∈ l, (g v).length ≤ m) → (l.flatMap g).length ≤ l.length * m := by
  intro l
  induction l with
  | nil => intro _; simp
  | cons a l ih =>
    intro h
    rw [List.flatMap_cons, List.length_append, List.length_cons, Nat.succ_mul]
    have h1 := h a List.mem_cons_self
    have h2 := ih (fun v hv => h v (List.mem_cons_of_mem _ hv))
    omega
theorem mc_cs_len {n : Nat} {E : Nat → Nat → Bool} {f : Nat} (hn : n ≤ 6) : ∀ (k : Nat) (p : List Nat), (mc_cs n E f k p).length ≤ 6 ^ k := by
  intro k
  induction k with
  | zero => intro p; exact Nat.zero_le _
  | succ k ih =>
    intro p
    have h6 : 1 ≤ 6 ^ k := Nat.pow_pos (by omega)
    have : ((List.range n).flatMap (mc_br E f (mc_cs n E f k) p)).length ≤ (List.range n).length * 6 ^ k := by
      refine mc_fm_len _ (fun v _ => ?_)
      unfold mc_br
      split
      · split
        · exact h6
        · split
          · exact ih _
          · exact Nat.zero_le _
      · exact Nat.zero_le _
    rw [List.length_range] at this
    show ((List.range n).flatMap (mc_br E f (mc_cs n E f k) p)).length ≤ 6 ^ (k + 1)
    rw [Nat.pow_succ, Nat.mul_comm]
    exact Nat.le_trans this (Nat.mul_le_mul_right _ hn)
theorem mc_al_len {n : Nat} {E : Nat → Nat → Bool} (hn : n ≤ 6) : (mc_al n E).length ≤ 279936 := by
  have := mc_fm_len (g := fun f => mc_cs n E f 6 [f]) (m := 6 ^ 6) (List.range n) (fun v _ => mc_cs_len hn 6 [v])
  rw [List.length_range] at this
  exact Nat.le_trans this (Nat.mul_le_mul_right (6 ^ 6) hn)
end MC03
end
section
section MC04
/-! bits: the family of kit/rows/BITS.to-paste, and one bit set or read -/
def bt (x : Int32) (i : Nat) : Bool := x.toBitVec.getLsbD i
theorem b_ext {x y : Int32} (h : ∀ i, i < 32 → bt x i = bt y i) : x = y := Int32.toBitVec_inj.mp (BitVec.eq_of_getLsbD_eq (fun i hi => h i hi))
theorem b_or (x y : Int32) (i : Nat) : bt (x ||| y) i = (bt x i || bt y i) := by unfold bt; rw [Int32.toBitVec_or, BitVec.getLsbD_or]
theorem b_and (x y : Int32) (i : Nat) : bt (x &&& y) i = (bt x i && bt y i) := by unfold bt; rw [Int32.toBitVec_and, BitVec.getLsbD_and]
theorem b_xor (x y : Int32) (i : Nat) : bt (x ^^^ y) i = (bt x i ^^ bt y i) := by unfold bt; rw [Int32.toBitVec_xor, BitVec.getLsbD_xor]
theorem b_big {x : Int32} {i : Nat} (h : 32 ≤ i) : bt x i = false := BitVec.getLsbD_of_ge _ _ h
theorem b_0 (i : Nat) : bt 0 i = false := BitVec.getLsbD_zero
theorem s_l : ∀ n, n < 32 → ((nI n &&& 31).toBitVec.smod 32).toNat = n := by decide +kernel
theorem b_shl (n : Nat) (hn : n < 32) (x : Int32) {i : Nat} (hi : i < 32) : bt (x <<< (nI n &&& 31)) i = (decide (n ≤ i) && bt x (i - n)) := by
  unfold bt
  rw [Int32.toBitVec_shiftLeft]
  show (x.toBitVec <<< ((nI n &&& 31).toBitVec.smod 32).toNat).getLsbD i = _
  rw [s_l n hn, BitVec.getLsbD_shiftLeft]
  rcases Nat.lt_or_ge i n with h | h
  · simp [h, Nat.not_le.mpr h]
  · simp [hi, h, Nat.not_lt.mpr h]
theorem b_sshr (n : Nat) (hn : n < 32) (x : Int32) {i : Nat} (hi : i < 32) : bt (x >>> (nI n &&& 31)) i = if n + i < 32 then bt x (n + i) else bt x 31 := by
  unfold bt
  rw [Int32.toBitVec_shiftRight]
  show (x.toBitVec.sshiftRight ((nI n &&& 31).toBitVec.smod 32).toNat).getLsbD i = _
  rw [s_l n hn, BitVec.getLsbD_sshiftRight, BitVec.msb_eq_getLsbD_last]
  simp [hi]
theorem mc_bit1 : ∀ i, i < 32 → bt 1 i = decide (i = 0) := by decide +kernel
theorem mc_set (x : Int32) {u i : Nat} (hu : u < 32) (hi : i < 32) : bt (x ||| ((1 : Int32) <<< (nI u &&& 31))) i = true ↔ bt x i = true ∨ i = u := by
  rw [b_or, b_shl u hu 1 hi, Bool.or_eq_true, Bool.and_eq_true, decide_eq_true_eq, mc_bit1 (i - u) (by omega), decide_eq_true_eq]
  have : (u ≤ i ∧ i - u = 0) ↔ i = u := by omega
  rw [this]
theorem mc_and1 (y : Int32) : y &&& 1 = 1 ↔ bt y 0 = true := by
  constructor
  · intro h
    have h0 : bt (y &&& 1) 0 = true := by rw [h]; decide
    rw [b_and, Bool.and_eq_true] at h0
    exact h0.1
  · intro h
    apply b_ext
    intro i hi
    rw [b_and, mc_bit1 i hi]
    by_cases z : i = 0
    · subst z; rw [h]; rfl
    · rw [decide_eq_false z, Bool.and_false]
theorem mc_get (x : Int32) {u : Nat} (hu : u < 32) : (x >>> (nI u &&& 31)) &&& 1 = 1 ↔ bt x u = true := by
  rw [mc_and1, b_sshr u hu x (by omega), if_pos (by omega)]
  exact Iff.rfl
end MC04
section MC04b
/-! the least of a set of weights, as the component keeps it -/
def mc_M (S : Int → Prop) (x : Int32) : Prop := (x = mc_I 1000000 ∧ ∀ z, ¬ S z) ∨ ∃ z, S z ∧ x = mc_I z ∧ ∀ z', S z' → z ≤ z'
theorem mc_M_congr {S S' : Int → Prop} {x : Int32} (h : ∀ z, S z ↔ S' z) (m : mc_M S x) : mc_M S' x := by
  rcases m with ⟨e, m⟩ | ⟨z, hz, e, m⟩
  · exact Or.inl ⟨e, fun z hz => m z ((h z).mpr hz)⟩
  · exact Or.inr ⟨z, (h z).mp hz, e, fun z' hz' => m z' ((h z').mpr hz')⟩
def mc_U (C : Nat → Int → Prop) (i : Nat) (z : Int) : Prop := ∃ y, y < i ∧ C y z
theorem mc_U_s {C : Nat → Int → Prop} {i : Nat} {z : Int} : mc_U C (i + 1) z ↔ mc_U C i z ∨ C i z := by
  constructor
  · rintro ⟨y, hy, h⟩
    by_cases e : y = i
    · subst e; exact Or.inr h
    · exact Or.inl ⟨y, by omega, h⟩
  · rintro (⟨y, hy, h⟩ | h)
    · exact ⟨y, by omega, h⟩
    · exact ⟨i, by omega, h⟩
theorem mc_M_skip {C : Nat → Int → Prop} {i : Nat} {x : Int32} (m : mc_M (mc_U C i) x) (h : ∀ z, ¬ C i z) : mc_M (mc_U C (i + 1)) x :=
  mc_M_congr (fun z => by rw [mc_U_s]; exact ⟨Or.inl, fun o => o.resolve_right (h z)⟩) m
theorem mc_M_keep {C : Nat → Int → Prop} {i : Nat} {x : Int32} {z0 : Int} (hb : ∀ y z, C y z → -1000 ≤ z ∧ z ≤ 1000) (m : mc_M (mc_U C i) x) (h0 : C i z0) (hm : ∀ z, C i z → z0 ≤ z) (hx : x ≤ mc_I z0) : mc_M (mc_U C (i + 1)) x := by
  have b0 := hb _ _ h0
  rcases m with ⟨e, m⟩ | ⟨z, hz, e, m⟩
  · rw [e, mc_I_le (by omega) (by omega) (by omega) (by omega)] at hx
    omega
  · obtain ⟨y, hy, hyz⟩ := hz
    have bz := hb _ _ hyz
    rw [e, mc_I_le (by omega) (by omega) (by omega) (by omega)] at hx
    refine Or.inr ⟨z, mc_U_s.mpr (Or.inl ⟨y, hy, hyz⟩), e, fun z' hz' => ?_⟩
    rcases mc_U_s.mp hz' with h | h
    · exact m z' h
    · exact Int.le_trans hx (hm z' h)
theorem mc_M_new {C : Nat → Int → Prop} {i : Nat} {x : Int32} {z0 : Int} (hb : ∀ y z, C y z → -1000 ≤ z ∧ z ≤ 1000) (m : mc_M (mc_U C i) x) (h0 : C i z0) (hm : ∀ z, C i z → z0 ≤ z) (hx : ¬ x ≤ mc_I z0) : mc_M (mc_U C (i + 1)) (mc_I z0) := by
  have b0 := hb _ _ h0
  refine Or.inr ⟨z0, mc_U_s.mpr (Or.inr h0), rfl, fun z' hz' => ?_⟩
  rcases mc_U_s.mp hz' with h | h
  · rcases m with ⟨e, m⟩ | ⟨z, hz, e, m⟩
    · exact absurd h (m z')
    · obtain ⟨y, hy, hyz⟩ := hz
      have bz := hb _ _ hyz
      rw [e, mc_I_le (by omega) (by omega) (by omega) (by omega)] at hx
      have := m z' h
      omega
  · exact hm z' h
/-- an entry that is not the mark of no walk -/
theorem mc_M_no {S : Int → Prop} {x : Int32} (hb : ∀ z, S z → -1000 ≤ z ∧ z ≤ 1000) (m : mc_M S x) (h : x = 1000000) : ∀ z, ¬ S z := by
  rcases m with ⟨_, m⟩ | ⟨z, hz, e, _⟩
  · exact m
  · have := hb z hz
    rw [← mc_I_mil, e, mc_I_eq (by omega) (by omega) (by omega) (by omega)] at h
    omega
theorem mc_M_some {S : Int → Prop} {x : Int32} (m : mc_M S x) (h : ¬ x = 1000000) : ∃ z, S z ∧ x = mc_I z ∧ ∀ z', S z' → z ≤ z' := by
  rcases m with ⟨e, _⟩ | m
  · exact absurd (e.trans mc_I_mil) h
  · exact m
/-! the component's data -/
def mc_E (a : Nat → Int32) (u v : Nat) : Bool := decide (¬ a (6 * u + v) = 0)
def mc_fw (a : Nat → Int32) (u v : Nat) : Int := (a (6 * u + v)).toInt
theorem mc_E_t {a : Nat → Int32} {u v : Nat} : mc_E a u v = true ↔ ¬ a (6 * u + v) = 0 := decide_eq_true_eq
theorem mc_pO {post : Int32 → Prop} {u v : Nat} (h : post (nI (6 * u + v))) : wpX_pairOf post (nI u) (nI v) := by
  show post (nI u * 6 + nI v)
  have e : nI u * 6 + nI v = nI (6 * u + v) := by
    rw [show nI u * 6 = nI (u * 6) from mc_mulN u 6, nI_add, Nat.mul_comm]
  rw [e]; exact h
theorem mc_wO {post : Int32 → Prop} {k u v : Nat} (h : post (nI (k * 36 + u * 6 + v))) : wpX_walkOf post (nI k) (nI u) (nI v) := by
  show post (nI k * 36 + nI u * 6 + nI v)
  have e : nI k * 36 + nI u * 6 + nI v = nI (k * 36 + u * 6 + v) := by
    rw [show nI u * 6 = nI (u * 6) from mc_mulN u 6, show nI k * 36 = nI (k * 36) from mc_mulN k 36, nI_add, nI_add]
  rw [e]; exact h
/-- what holds of weights W and spans sa -/
def mc_ok (W sa : Nat → Int32) : Prop := (∀ q, -20 ≤ (W q).toInt ∧ (W q).toInt ≤ 20) ∧ (∀ q, ¬ sa q = 0 → 1 ≤ (sa q).toInt ∧ (sa q).toInt ≤ 5)
theorem mc_ok_p {W sa : Nat → Int32} {N : Nat} (h : mc_ok W sa) : ∀ a b, mc_A N (mc_E sa) a b → 1 ≤ mc_fw sa a b := fun _ _ hA => (h.2 _ (mc_E_t.mp hA.2.2)).1
theorem mc_ok_w {W sa : Nat → Int32} {N : Nat} (h : mc_ok W sa) : ∀ a b, mc_A N (mc_E sa) a b → -20 ≤ mc_fw W a b ∧ mc_fw W a b ≤ 20 := fun _ _ _ => h.1 _
def mc_Sx (N : Nat) (W sa : Nat → Int32) (u v : Nat) (k : Int) (z : Int) : Prop := mc_S (mc_A N (mc_E sa)) (mc_fw W) (mc_fw sa) u v k z
theorem mc_Sx_b {N : Nat} {W sa : Nat → Int32} (h : mc_ok W sa) {u v : Nat} {k z : Int} (s : mc_Sx N W sa u v k z) : 0 ≤ k ∧ -20 * k ≤ z ∧ z ≤ 20 * k := mc_S_bnd (mc_ok_p h) (mc_ok_w h) s
/-- the table of walks is filled up to (k, u, v) -/
def mc_D (N : Nat) (W sa : Nat → Int32) (k u v : Nat) (wk : Nat → Int32) : Prop := ∀ k' u' v', u' < N → v' < N → (k' < k ∨ (k' = k ∧ (u' < u ∨ (u' = u ∧ v' < v)))) → mc_M (mc_Sx N W sa u' v' k') (wk (k' * 36 + u' * 6 + v'))
theorem mc_D_0 {N : Nat} {W sa wk : Nat → Int32} : mc_D N W sa 0 0 0 wk := fun k' u' v' _ _ h => by omega
theorem mc_D_s {N : Nat} {W sa wk : Nat → Int32} {k u v : Nat} {x : Int32} (hN : N ≤ 6) (hu : u < N) (hv : v < N) (d : mc_D N W sa k u v wk) (m : mc_M (mc_Sx N W sa u v k) x) : mc_D N W sa k u (v + 1) (upd wk (k * 36 + u * 6 + v) x) := by
  intro k' u' v' h1 h2 h3
  by_cases e : k' * 36 + u' * 6 + v' = k * 36 + u * 6 + v
  · obtain ⟨rfl, rfl, rfl⟩ : k' = k ∧ u' = u ∧ v' = v := by omega
    rw [mc_us]
    exact m
  · rw [mc_un e]
    exact d k' u' v' h1 h2 (by omega)
theorem mc_D_v {N : Nat} {W sa wk : Nat → Int32} {k u : Nat} (d : mc_D N W sa k u N wk) : mc_D N W sa k (u + 1) 0 wk := fun k' u' v' h1 h2 h3 => d k' u' v' h1 h2 (by omega)
theorem mc_D_u {N : Nat} {W sa wk : Nat → Int32} {k : Nat} (d : mc_D N W sa k N 0 wk) : mc_D N W sa (k + 1) 0 0 wk := fun k' u' v' h1 h2 h3 => d k' u' v' h1 h2 (by omega)
/-- the last arcs of a walk of span k from u to v -/
def mc_C (N : Nat) (W sa : Nat → Int32) (k u v y : Nat) (z : Int) : Prop := mc_A N (mc_E sa) y v ∧ mc_Sx N W sa u y (k - mc_fw sa y v) (z - mc_fw W y v)
theorem mc_C_b {N : Nat} {W sa : Nat → Int32} (h : mc_ok W sa) {k u v : Nat} (hk : k ≤ 30) : ∀ y z, mc_C N W sa k u v y z → -1000 ≤ z ∧ z ≤ 1000 := by
  rintro y z ⟨h1, h2⟩
  have b := mc_Sx_b h h2
  have p := mc_ok_p h _ _ h1
  have w := mc_ok_w h _ _ h1
  omega
theorem mc_C_all {N : Nat} {W sa : Nat → Int32} {k u v : Nat} (hk : 1 ≤ k) (z : Int) : mc_U (mc_C N W sa k u v) N z ↔ mc_Sx N W sa u v k z := by
  unfold mc_Sx
  rw [mc_S_step (by omega)]
  constructor
  · rintro ⟨y, _, h⟩; exact ⟨y, h⟩
  · rintro ⟨y, h⟩; exact ⟨y, h.1.1, h⟩
end MC04b
end
