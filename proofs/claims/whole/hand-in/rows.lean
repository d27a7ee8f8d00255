section
section MC01
/-! numbers: Int32 of an Int, stores -/
theorem mc_us {f : Nat → Int32} {k : Nat} {x : Int32} : upd f k x k = x := if_pos rfl
theorem mc_un {f : Nat → Int32} {k j : Nat} {x : Int32} (h : j ≠ k) : upd f k x j = f j := if_neg h
theorem mc_mulN (a b : Nat) : nI a * nI b = nI (a * b) := (Int32.ofNat_mul a b).symm
theorem mc_sub {a b : Nat} (h : b ≤ a) : nI a - nI b = nI (a - b) := by
  obtain ⟨c, rfl⟩ : ∃ c, a = c + b := ⟨a - b, by omega⟩
  rw [← nI_add, Int32.add_sub_cancel, Nat.add_sub_cancel]
theorem mc_m1 (n : Nat) : nI (n + 1) + (-1) = nI n := by
  rw [← nI_1, Int32.add_assoc, show (1 : Int32) + (-1) = 0 from rfl, Int32.add_zero]
theorem mc_b0 : vp_nar .boolean 0 = 0 := by decide
theorem mc_b1 : vp_nar .boolean 1 = 1 := by decide
def mc_I (z : Int) : Int32 := Int32.ofInt z
theorem mc_I_nat (n : Nat) : mc_I (n : Int) = nI n := Int32.ofInt_eq_ofNat
theorem mc_I_toInt {z : Int} (h1 : -2000000 ≤ z) (h2 : z ≤ 2000000) : (mc_I z).toInt = z := Int32.toInt_ofInt_of_le (by omega) (by omega)
theorem mc_I_of (x : Int32) : mc_I x.toInt = x := Int32.ofInt_toInt x
theorem mc_I_add (a b : Int) : mc_I a + mc_I b = mc_I (a + b) := (Int32.ofInt_add a b).symm
theorem mc_I_sub (a b : Int) : mc_I a - mc_I b = mc_I (a - b) := (Int32.ofInt_sub a b).symm
theorem mc_I_mul (a b : Int) : mc_I a * mc_I b = mc_I (a * b) := (Int32.ofInt_mul a b).symm
theorem mc_I_neg (a : Int) : - mc_I a = mc_I (-a) := (Int32.ofInt_neg a).symm
theorem mc_I_0 : mc_I 0 = 0 := by decide
theorem mc_I_1 : mc_I 1 = 1 := by decide
theorem mc_I_mil : mc_I 1000000 = 1000000 := by decide
theorem mc_I_le {a b : Int} (h1 : -2000000 ≤ a) (h2 : a ≤ 2000000) (h3 : -2000000 ≤ b) (h4 : b ≤ 2000000) : mc_I a ≤ mc_I b ↔ a ≤ b := by
  rw [Int32.le_iff_toInt_le, mc_I_toInt h1 h2, mc_I_toInt h3 h4]
theorem mc_I_lt {a b : Int} (h1 : -2000000 ≤ a) (h2 : a ≤ 2000000) (h3 : -2000000 ≤ b) (h4 : b ≤ 2000000) : mc_I a < mc_I b ↔ a < b := by
  rw [Int32.lt_iff_toInt_lt, mc_I_toInt h1 h2, mc_I_toInt h3 h4]
theorem mc_I_eq {a b : Int} (h1 : -2000000 ≤ a) (h2 : a ≤ 2000000) (h3 : -2000000 ≤ b) (h4 : b ≤ 2000000) : mc_I a = mc_I b ↔ a = b := by
  rw [← Int32.toInt_inj, mc_I_toInt h1 h2, mc_I_toInt h3 h4]
theorem mc_bm {a b : Int} (h1 : -1000 ≤ a) (h2 : a ≤ 1000) (h3 : -1000 ≤ b) (h4 : b ≤ 1000) : -2000000 ≤ a * b ∧ a * b ≤ 2000000 := by
  have h : (a * b).natAbs ≤ 1000 * 1000 := by
    rw [Int.natAbs_mul]
    exact Nat.mul_le_mul (by omega) (by omega)
  generalize a * b = c at h
  omega
theorem mc_cle {a b c d : Int} (h1 : -1000 ≤ a) (h2 : a ≤ 1000) (h3 : -1000 ≤ b) (h4 : b ≤ 1000) (h5 : -1000 ≤ c) (h6 : c ≤ 1000) (h7 : -1000 ≤ d) (h8 : d ≤ 1000) : mc_I a * mc_I b ≤ mc_I c * mc_I d ↔ a * b ≤ c * d := by
  have h := mc_bm h1 h2 h3 h4
  have h' := mc_bm h5 h6 h7 h8
  rw [mc_I_mul, mc_I_mul, mc_I_le h.1 h.2 h'.1 h'.2]
theorem mc_ceq {a b c d : Int} (h1 : -1000 ≤ a) (h2 : a ≤ 1000) (h3 : -1000 ≤ b) (h4 : b ≤ 1000) (h5 : -1000 ≤ c) (h6 : c ≤ 1000) (h7 : -1000 ≤ d) (h8 : d ≤ 1000) : mc_I a * mc_I b = mc_I c * mc_I d ↔ a * b = c * d := by
  have h := mc_bm h1 h2 h3 h4
  have h' := mc_bm h5 h6 h7 h8
  rw [mc_I_mul, mc_I_mul, mc_I_eq h.1 h.2 h'.1 h'.2]
theorem mc_I_div {a d : Int} (h1 : -2000000 ≤ a) (h2 : a ≤ 2000000) (h3 : 0 < d) (h4 : d ≤ 2000000) : mc_I a / mc_I d = mc_I (a.tdiv d) := by
  apply Int32.toInt_inj.mp
  have hd : (mc_I d).toInt = d := mc_I_toInt (by omega) h4
  have hne : mc_I d ≠ -1 := by
    intro e
    rw [e] at hd
    have : (-1 : Int32).toInt = -1 := by decide
    omega
  have hb := Int.natAbs_tdiv_le_natAbs a d
  rw [Int32.toInt_div_of_ne_right _ _ hne, mc_I_toInt h1 h2, hd, mc_I_toInt (by omega) (by omega)]
theorem mc_I_rem {a d : Int} (h1 : -2000000 ≤ a) (h2 : a ≤ 2000000) (h3 : 0 < d) (h4 : d ≤ 2000000) : mc_I a - mc_I a / mc_I d * mc_I d = 0 ↔ d ∣ a := by
  rw [mc_I_div h1 h2 h3 h4, mc_I_mul, mc_I_sub, ← mc_I_0]
  have hr : a - a.tdiv d * d = a.tmod d := by rw [Int.tmod_def, Int.mul_comm]
  have hb : (a.tmod d).natAbs ≤ a.natAbs := by
    rw [Int.natAbs_tmod]
    exact Nat.mod_le _ _
  rw [hr, mc_I_eq (by omega) (by omega) (by omega) (by omega)]
  exact Int.dvd_iff_tmod_eq_zero.symm
/-! lowest terms -/
def mc_cop (t : Int) (b : Nat) : Prop := ∀ e : Nat, 1 < e → ¬ ((e : Int) ∣ t ∧ e ∣ b)
theorem mc_cop_gcd {t : Int} {b : Nat} (hb : 0 < b) (h : mc_cop t b) : Nat.gcd t.natAbs b = 1 := by
  rcases Nat.lt_or_ge 1 (Nat.gcd t.natAbs b) with g | g
  · exact absurd ⟨Int.ofNat_dvd_left.mpr (Nat.gcd_dvd_left _ _), Nat.gcd_dvd_right _ _⟩ (h _ g)
  · have := Nat.gcd_pos_of_pos_right t.natAbs hb
    omega
theorem mc_low {t T : Int} {b B : Nat} (hb : 0 < b) (hB : 0 < B) (h : Nat.gcd t.natAbs b = 1) (H : Nat.gcd T.natAbs B = 1) (e : t * B = T * b) : t = T ∧ b = B := by
  have en : t.natAbs * B = T.natAbs * b := by
    have := congrArg Int.natAbs e
    rw [Int.natAbs_mul, Int.natAbs_mul, Int.natAbs_natCast, Int.natAbs_natCast] at this
    exact this
  have d1 : b ∣ B := by
    have : b ∣ t.natAbs * B := ⟨T.natAbs, by rw [en, Nat.mul_comm]⟩
    exact Nat.Coprime.dvd_of_dvd_mul_left (Nat.Coprime.symm h) this
  have d2 : B ∣ b := by
    have : B ∣ T.natAbs * b := ⟨t.natAbs, by rw [← en, Nat.mul_comm]⟩
    exact Nat.Coprime.dvd_of_dvd_mul_left (Nat.Coprime.symm H) this
  have eb : b = B := Nat.dvd_antisymm d1 d2
  subst eb
  exact ⟨Int.eq_of_mul_eq_mul_right (by omega) e, rfl⟩
theorem mc_div_gcd {t : Int} {b : Nat} (hb : 0 < b) : ∃ (t' : Int) (b' : Nat), 0 < b' ∧ t = t' * (Nat.gcd t.natAbs b : Nat) ∧ b = b' * Nat.gcd t.natAbs b ∧ Nat.gcd t'.natAbs b' = 1 := by
  have g0 := Nat.gcd_pos_of_pos_right t.natAbs hb
  obtain ⟨t', ht⟩ : ((Nat.gcd t.natAbs b : Nat) : Int) ∣ t := Int.ofNat_dvd_left.mpr (Nat.gcd_dvd_left _ _)
  obtain ⟨b', hb'⟩ := Nat.gcd_dvd_right t.natAbs b
  generalize hg : Nat.gcd t.natAbs b = g at *
  refine ⟨t', b', ?_, by rw [ht, Int.mul_comm], by rw [hb', Nat.mul_comm], ?_⟩
  · rcases Nat.eq_zero_or_pos b' with z | z
    · rw [z] at hb'; omega
    · exact z
  · have : Nat.gcd (g * t'.natAbs) (g * b') = g := by
      have e1 : g * t'.natAbs = t.natAbs := by rw [ht, Int.natAbs_mul, Int.natAbs_natCast]
      rw [e1, ← hb', hg]
    rw [Nat.gcd_mul_left] at this
    exact Nat.eq_of_mul_eq_mul_left g0 (by omega)
/-! Euclid, twenty rounds -/
def mc_eu : Nat → Nat → Nat → Nat
  | 0, _, b => b
  | k + 1, a, b => if a = 0 then mc_eu k 0 b else mc_eu k (b % a) a
theorem mc_eu_gcd : ∀ a, a < 121 → ∀ b, b < 31 → mc_eu 20 a b = Nat.gcd a b := by decide +kernel
end MC01
end
section
section MC02
/-! walks and circles: a list of points and an end; its arcs -/
def mc_hd : List Nat → Nat → Nat
  | [], v => v
  | a :: _, _ => a
def mc_ar : List Nat → Nat → List (Nat × Nat)
  | [], _ => []
  | a :: l, v => (a, mc_hd l v) :: mc_ar l v
theorem mc_hd_app (l m : List Nat) (v : Nat) : mc_hd (l ++ m) v = mc_hd l (mc_hd m v) := by cases l <;> rfl
theorem mc_ar_app (l m : List Nat) (v : Nat) : mc_ar (l ++ m) v = mc_ar l (mc_hd m v) ++ mc_ar m v := by
  induction l with
  | nil => rfl
  | cons a l ih =>
    show (a, mc_hd (l ++ m) v) :: mc_ar (l ++ m) v = (a, mc_hd l (mc_hd m v)) :: (mc_ar l (mc_hd m v) ++ mc_ar m v)
    rw [ih, mc_hd_app]
def mc_sm (w : Nat → Nat → Int) : List (Nat × Nat) → Int
  | [] => 0
  | e :: l => w e.1 e.2 + mc_sm w l
theorem mc_sm_app (w : Nat → Nat → Int) (a b : List (Nat × Nat)) : mc_sm w (a ++ b) = mc_sm w a + mc_sm w b := by
  induction a with
  | nil => show mc_sm w b = 0 + mc_sm w b; omega
  | cons e l ih => show w e.1 e.2 + mc_sm w (l ++ b) = w e.1 e.2 + mc_sm w l + mc_sm w b; omega
theorem mc_sm_congr {w w' : Nat → Nat → Int} {L : List (Nat × Nat)} (h : ∀ e ∈ L, w e.1 e.2 = w' e.1 e.2) : mc_sm w L = mc_sm w' L := by
  induction L with
  | nil => rfl
  | cons e l ih =>
    show w e.1 e.2 + mc_sm w l = w' e.1 e.2 + mc_sm w' l
    rw [ih (fun x hx => h x (List.mem_cons_of_mem _ hx)), h e (List.mem_cons_self)]
theorem mc_sm_lo {w : Nat → Nat → Int} {m : Int} {L : List (Nat × Nat)} (h : ∀ e ∈ L, m ≤ w e.1 e.2) : m * L.length ≤ mc_sm w L := by
  induction L with
  | nil => show m * 0 ≤ 0; omega
  | cons e l ih =>
    have h1 := ih (fun x hx => h x (List.mem_cons_of_mem _ hx))
    have h2 := h e (List.mem_cons_self)
    show m * ((l.length + 1 : Nat) : Int) ≤ w e.1 e.2 + mc_sm w l
    rw [Int.natCast_add, Int.mul_add]
    omega
theorem mc_sm_hi {w : Nat → Nat → Int} {m : Int} {L : List (Nat × Nat)} (h : ∀ e ∈ L, w e.1 e.2 ≤ m) : mc_sm w L ≤ m * L.length := by
  induction L with
  | nil => show 0 ≤ m * 0; omega
  | cons e l ih =>
    have h1 := ih (fun x hx => h x (List.mem_cons_of_mem _ hx))
    have h2 := h e (List.mem_cons_self)
    show w e.1 e.2 + mc_sm w l ≤ m * ((l.length + 1 : Nat) : Int)
    rw [Int.natCast_add, Int.mul_add]
    omega
theorem mc_ar_len (l : List Nat) (v : Nat) : (mc_ar l v).length = l.length := by
  induction l with
  | nil => rfl
  | cons a l ih => show (mc_ar l v).length + 1 = l.length + 1; rw [ih]
theorem mc_ar_fst {l : List Nat} {v x : Nat} (h : x ∈ l) : ∃ y, (x, y) ∈ mc_ar l v := by
  induction l with
  | nil => exact nomatch h
  | cons a l ih =>
    rcases List.mem_cons.mp h with e | e
    · exact ⟨mc_hd l v, by rw [e]; exact List.mem_cons_self⟩
    · obtain ⟨y, hy⟩ := ih e
      exact ⟨y, List.mem_cons_of_mem _ hy⟩
theorem mc_ar_spl {l : List Nat} {v x y : Nat} (h : (x, y) ∈ mc_ar l v) : ∃ a d, l = a ++ x :: d ∧ y = mc_hd d v := by
  induction l with
  | nil => exact nomatch h
  | cons a l ih =>
    rcases List.mem_cons.mp h with e | e
    · cases e
      exact ⟨[], l, rfl, rfl⟩
    · obtain ⟨b, d, e1, e2⟩ := ih e
      exact ⟨a :: b, d, by rw [e1]; rfl, e2⟩
def mc_cy (c : List Nat) : List (Nat × Nat) := mc_ar c (mc_hd c 0)
theorem mc_cy_app (a : List Nat) (x : Nat) (d : List Nat) : mc_cy (a ++ x :: d) = mc_ar a x ++ mc_ar (x :: d) (mc_hd a x) := by
  unfold mc_cy
  rw [mc_ar_app, mc_hd_app]
  rfl
theorem mc_cy_spl (a : List Nat) (x : Nat) (b d : List Nat) : mc_cy (a ++ x :: (b ++ x :: d)) = mc_ar a x ++ (mc_cy (x :: b) ++ mc_ar (x :: d) (mc_hd a x)) := by
  rw [mc_cy_app]
  have : x :: (b ++ x :: d) = (x :: b) ++ (x :: d) := rfl
  rw [this, mc_ar_app]
  rfl
theorem mc_dup {c : List Nat} (h : ¬ c.Nodup) : ∃ a x b d, c = a ++ x :: (b ++ x :: d) := by
  induction c with
  | nil => exact absurd List.nodup_nil h
  | cons y c ih =>
    by_cases hy : y ∈ c
    · obtain ⟨b, d, e⟩ := List.append_of_mem hy
      exact ⟨[], y, b, d, by rw [e]; rfl⟩
    · have : ¬ c.Nodup := fun hc => h (List.nodup_cons.mpr ⟨hy, hc⟩)
      obtain ⟨a, x, b, d, e⟩ := ih this
      exact ⟨y :: a, x, b, d, by rw [e]; rfl⟩
def mc_ci (A : Nat → Nat → Prop) (c : List Nat) : Prop := c ≠ [] ∧ c.Nodup ∧ ∀ e ∈ mc_cy c, A e.1 e.2
theorem mc_dec {A : Nat → Nat → Prop} {P : List Nat → Prop} (hb : ∀ c, mc_ci A c → P c) (hs : ∀ a x b d, P (x :: b) → P (a ++ x :: d) → P (a ++ x :: (b ++ x :: d))) : ∀ (m : Nat) (c : List Nat), c.length ≤ m → c ≠ [] → (∀ e ∈ mc_cy c, A e.1 e.2) → P c := by
  intro m
  induction m with
  | zero =>
    intro c hl hn
    exact absurd (List.length_eq_zero_iff.mp (by omega)) hn
  | succ m ih =>
    intro c hl hn hA
    by_cases hd : c.Nodup
    · exact hb c ⟨hn, hd, hA⟩
    · obtain ⟨a, x, b, d, rfl⟩ := mc_dup hd
      rw [mc_cy_spl] at hA
      have len : (a ++ x :: (b ++ x :: d)).length = a.length + (b.length + (d.length + 1) + 1) := by
        rw [List.length_append, List.length_cons, List.length_append, List.length_cons]
      refine hs a x b d (ih _ ?_ (by simp) ?_) (ih _ ?_ (by simp) ?_)
      · rw [List.length_cons]; omega
      · intro e he
        exact hA e (List.mem_append_right _ (List.mem_append_left _ he))
      · rw [List.length_append, List.length_cons]; omega
      · rw [mc_cy_app]
        intro e he
        rcases List.mem_append.mp he with h | h
        · exact hA e (List.mem_append_left _ h)
        · exact hA e (List.mem_append_right _ (List.mem_append_right _ h))
/-- every closed walk keeps what every circle keeps, and one that meets it is made of circles that do -/
theorem mc_clo {A : Nat → Nat → Prop} {w sp : Nat → Nat → Int} {T B : Int} (hm : ∀ q, mc_ci A q → T * mc_sm sp (mc_cy q) ≤ B * mc_sm w (mc_cy q)) {c : List Nat} (hn : c ≠ []) (hA : ∀ e ∈ mc_cy c, A e.1 e.2) :
    T * mc_sm sp (mc_cy c) ≤ B * mc_sm w (mc_cy c) ∧ (T * mc_sm sp (mc_cy c) = B * mc_sm w (mc_cy c) → ∀ e ∈ mc_cy c, ∃ q, mc_ci A q ∧ T * mc_sm sp (mc_cy q) = B * mc_sm w (mc_cy q) ∧ e ∈ mc_cy q) := by
  refine mc_dec (A := A) (P := fun c => T * mc_sm sp (mc_cy c) ≤ B * mc_sm w (mc_cy c) ∧ (T * mc_sm sp (mc_cy c) = B * mc_sm w (mc_cy c) → ∀ e ∈ mc_cy c, ∃ q, mc_ci A q ∧ T * mc_sm sp (mc_cy q) = B * mc_sm w (mc_cy q) ∧ e ∈ mc_cy q)) ?_ ?_ c.length c (Nat.le_refl _) hn hA
  · intro q hq
    exact ⟨hm q hq, fun e x hx => ⟨q, hq, e, hx⟩⟩
  · intro a x b d h1 h2
    have e1 : ∀ f : Nat → Nat → Int, mc_sm f (mc_cy (a ++ x :: (b ++ x :: d))) = mc_sm f (mc_cy (x :: b)) + mc_sm f (mc_cy (a ++ x :: d)) := by
      intro f
      rw [mc_cy_spl, mc_cy_app, mc_sm_app, mc_sm_app, mc_sm_app]
      omega
    rw [e1, e1, Int.mul_add, Int.mul_add]
    refine ⟨by omega, fun e y hy => ?_⟩
    have k1 : T * mc_sm sp (mc_cy (x :: b)) = B * mc_sm w (mc_cy (x :: b)) := by omega
    have k2 : T * mc_sm sp (mc_cy (a ++ x :: d)) = B * mc_sm w (mc_cy (a ++ x :: d)) := by omega
    rw [mc_cy_spl] at hy
    rcases List.mem_append.mp hy with h | h
    · exact h2.2 k2 y (by rw [mc_cy_app]; exact List.mem_append_left _ h)
    · rcases List.mem_append.mp h with h | h
      · exact h1.2 k1 y h
      · exact h2.2 k2 y (by rw [mc_cy_app]; exact List.mem_append_right _ h)
theorem mc_ph {n : Nat} {l : List Nat} (h : l.Nodup) (hl : ∀ x ∈ l, x < n) : l.length ≤ n := by
  have := List.Nodup.length_le_of_subset h (l₂ := List.range n) (fun x hx => List.mem_range.mpr (hl x hx))
  rwa [List.length_range] at this
/-! the weights of the walks of a span -/
def mc_S (A : Nat → Nat → Prop) (w sp : Nat → Nat → Int) (u v : Nat) (k z : Int) : Prop := ∃ l, mc_hd l v = u ∧ (∀ e ∈ mc_ar l v, A e.1 e.2) ∧ mc_sm sp (mc_ar l v) = k ∧ mc_sm w (mc_ar l v) = z
theorem mc_S_pos {A : Nat → Nat → Prop} {sp : Nat → Nat → Int} (hp : ∀ a b, A a b → 1 ≤ sp a b) {l : List Nat} {v : Nat} (h : ∀ e ∈ mc_ar l v, A e.1 e.2) : (l.length : Int) ≤ mc_sm sp (mc_ar l v) := by
  have := mc_sm_lo (w := sp) (m := 1) (L := mc_ar l v) (fun e he => hp _ _ (h e he))
  rw [mc_ar_len] at this
  omega
theorem mc_S_bnd {A : Nat → Nat → Prop} {w sp : Nat → Nat → Int} (hp : ∀ a b, A a b → 1 ≤ sp a b) (hw : ∀ a b, A a b → -20 ≤ w a b ∧ w a b ≤ 20) {u v : Nat} {k z : Int} (h : mc_S A w sp u v k z) : 0 ≤ k ∧ -20 * k ≤ z ∧ z ≤ 20 * k := by
  obtain ⟨l, _, hA, hk, hz⟩ := h
  have h1 := mc_S_pos hp hA
  have h2 := mc_sm_lo (w := w) (m := -20) (L := mc_ar l v) (fun e he => (hw _ _ (hA e he)).1)
  have h3 := mc_sm_hi (w := w) (m := 20) (L := mc_ar l v) (fun e he => (hw _ _ (hA e he)).2)
  rw [mc_ar_len] at h2 h3
  omega
theorem mc_S_0 {A : Nat → Nat → Prop} {w sp : Nat → Nat → Int} (hp : ∀ a b, A a b → 1 ≤ sp a b) {u v : Nat} {z : Int} : mc_S A w sp u v 0 z ↔ u = v ∧ z = 0 := by
  constructor
  · rintro ⟨l, hu, hA, hk, hz⟩
    have h1 := mc_S_pos hp hA
    have : l = [] := List.length_eq_zero_iff.mp (by omega)
    subst this
    exact ⟨hu.symm, hz.symm⟩
  · rintro ⟨rfl, rfl⟩
    exact ⟨[], rfl, (fun e he => nomatch he), rfl, rfl⟩
theorem mc_S_app {A : Nat → Nat → Prop} {w sp : Nat → Nat → Int} {u x v : Nat} {k z : Int} (h : mc_S A w sp u x k z) (hA : A x v) : mc_S A w sp u v (k + sp x v) (z + w x v) := by
  obtain ⟨l, hu, hl, hk, hz⟩ := h
  have e : mc_ar (l ++ [x]) v = mc_ar l x ++ [(x, v)] := mc_ar_app l [x] v
  refine ⟨l ++ [x], ?_, ?_, ?_, ?_⟩
  · rw [mc_hd_app]; exact hu
  · rw [e]
    intro y hy
    rcases List.mem_append.mp hy with h | h
    · exact hl y h
    · rw [List.mem_singleton.mp h]; exact hA
  · rw [e, mc_sm_app, hk]; show k + (sp x v + 0) = _; omega
  · rw [e, mc_sm_app, hz]; show z + (w x v + 0) = _; omega
theorem mc_S_pre {A : Nat → Nat → Prop} {w sp : Nat → Nat → Int} {u v x : Nat} {k z : Int} (h : mc_S A w sp v x k z) (hA : A u v) : mc_S A w sp u x (k + sp u v) (z + w u v) := by
  obtain ⟨l, hu, hl, hk, hz⟩ := h
  have e : mc_ar (u :: l) x = (u, v) :: mc_ar l x := by rw [← hu]; rfl
  refine ⟨u :: l, rfl, ?_, ?_, ?_⟩
  · rw [e]
    intro y hy
    rcases List.mem_cons.mp hy with h | h
    · rw [h]; exact hA
    · exact hl y h
  · rw [e, ← hk]; exact Int.add_comm _ _
  · rw [e, ← hz]; exact Int.add_comm _ _
theorem mc_S_step {A : Nat → Nat → Prop} {w sp : Nat → Nat → Int} {u v : Nat} {k z : Int} (hk : 1 ≤ k) : mc_S A w sp u v k z ↔ ∃ x, A x v ∧ mc_S A w sp u x (k - sp x v) (z - w x v) := by
  constructor
  · rintro ⟨l, hu, hA, h1, h2⟩
    rcases List.eq_nil_or_concat l with e | ⟨l', x, e⟩
    · subst e
      exact absurd (show (0 : Int) = k from h1) (by omega)
    · rw [List.concat_eq_append] at e
      subst e
      have e : mc_ar (l' ++ [x]) v = mc_ar l' x ++ [(x, v)] := mc_ar_app l' [x] v
      rw [mc_hd_app] at hu
      rw [e] at hA h1 h2
      rw [mc_sm_app] at h1 h2
      have h1' : mc_sm sp (mc_ar l' x) + (sp x v + 0) = k := h1
      have h2' : mc_sm w (mc_ar l' x) + (w x v + 0) = z := h2
      exact ⟨x, hA (x, v) (List.mem_append_right _ (List.mem_singleton.mpr rfl)), l', hu, fun y hy => hA y (List.mem_append_left _ hy), by omega, by omega⟩
  · rintro ⟨x, hA, h⟩
    have := mc_S_app h hA
    rwa [Int.sub_add_cancel, Int.sub_add_cancel] at this
end MC02
end
section
section MC03
/-! the circles as the reference meets them -/
def mc_la (p : List Nat) : Nat := p.getD (p.length - 1) 0
theorem mc_la_app (p : List Nat) (x : Nat) : mc_la (p ++ [x]) = x := by
  unfold mc_la
  simp
theorem mc_la_ar {p : List Nat} (h : p ≠ []) (v : Nat) : (mc_la p, v) ∈ mc_ar p v := by
  rcases List.eq_nil_or_concat p with e | ⟨l, x, e⟩
  · exact absurd e h
  · rw [List.concat_eq_append] at e
    subst e
    rw [mc_la_app, mc_ar_app]
    exact List.mem_append_right _ (List.mem_cons_self)
theorem mc_ar_mem {l : List Nat} {v : Nat} {e : Nat × Nat} (h : e ∈ mc_ar l v) : e.1 ∈ l ∧ (e.2 ∈ l ∨ e.2 = v) := by
  induction l with
  | nil => exact nomatch h
  | cons a l ih =>
    rcases List.mem_cons.mp h with e' | e'
    · subst e'
      refine ⟨List.mem_cons_self, ?_⟩
      cases l with
      | nil => exact Or.inr rfl
      | cons b l => exact Or.inl (List.mem_cons_of_mem _ List.mem_cons_self)
    · obtain ⟨h1, h2⟩ := ih e'
      exact ⟨List.mem_cons_of_mem _ h1, h2.imp (List.mem_cons_of_mem _) id⟩
def mc_br (E : Nat → Nat → Bool) (f : Nat) (R : List Nat → List (List Nat)) (p : List Nat) (v : Nat) : List (List Nat) :=
  if E (mc_la p) v = true then (if v = f then [p] else if f < v ∧ ¬ v ∈ p then R (p ++ [v]) else []) else []
def mc_cs (n : Nat) (E : Nat → Nat → Bool) (f : Nat) : Nat → List Nat → List (List Nat)
  | 0, _ => []
  | k + 1, p => (List.range n).flatMap (mc_br E f (mc_cs n E f k) p)
def mc_gd (n : Nat) (E : Nat → Nat → Bool) (f : Nat) (p : List Nat) : Prop :=
  p ≠ [] ∧ mc_hd p 0 = f ∧ p.Nodup ∧ (∀ x ∈ p, x < n) ∧ ∀ v, E (mc_la p) v = true → ∀ e ∈ mc_ar p v, E e.1 e.2 = true
theorem mc_gd_1 {n : Nat} {E : Nat → Nat → Bool} {f : Nat} (h : f < n) : mc_gd n E f [f] := by
  refine ⟨by simp, rfl, by simp, ?_, ?_⟩
  · intro x hx; rw [List.mem_singleton.mp hx]; exact h
  · intro v hv e he
    have : e = (f, v) := List.mem_singleton.mp he
    rw [this]
    exact hv
theorem mc_gd_s {n : Nat} {E : Nat → Nat → Bool} {f : Nat} {p : List Nat} {v : Nat} (h : mc_gd n E f p) (hE : E (mc_la p) v = true) (hv : v < n) (hp : ¬ v ∈ p) : mc_gd n E f (p ++ [v]) := by
  obtain ⟨h1, h2, h3, h4, h5⟩ := h
  refine ⟨by simp, ?_, ?_, ?_, ?_⟩
  · rw [mc_hd_app]
    cases p with
    | nil => exact absurd rfl h1
    | cons a l => exact h2
  · rw [List.nodup_append]
    refine ⟨h3, by simp, ?_⟩
    intro a ha b hb e
    rw [List.mem_singleton.mp hb] at e
    exact hp (e ▸ ha)
  · intro x hx
    rcases List.mem_append.mp hx with h | h
    · exact h4 x h
    · rw [List.mem_singleton.mp h]; exact hv
  · intro y hy e he
    rw [mc_la_app] at hy
    rw [mc_ar_app] at he
    rcases List.mem_append.mp he with h | h
    · exact h5 v hE e h
    · have : e = (v, y) := List.mem_singleton.mp h
      rw [this]
      exact hy
theorem mc_cs_sound {n : Nat} {E : Nat → Nat → Bool} {f : Nat} : ∀ (k : Nat) (p c : List Nat), mc_gd n E f p → c ∈ mc_cs n E f k p → mc_gd n E f c ∧ E (mc_la c) f = true := by
  intro k
  induction k with
  | zero => intro p c _ hc; exact nomatch hc
  | succ k ih =>
    intro p c hp hc
    obtain ⟨v, hv, hc⟩ := List.mem_flatMap.mp hc
    have hv := List.mem_range.mp hv
    unfold mc_br at hc
    by_cases hE : E (mc_la p) v = true
    · rw [if_pos hE] at hc
      by_cases hf : v = f
      · rw [if_pos hf] at hc
        rw [List.mem_singleton.mp hc]
        exact ⟨hp, hf ▸ hE⟩
      · rw [if_neg hf] at hc
        by_cases hx : f < v ∧ ¬ v ∈ p
        · rw [if_pos hx] at hc
          exact ih _ _ (mc_gd_s hp hE hv hx.2) hc
        · rw [if_neg hx] at hc
          exact nomatch hc
    · rw [if_neg hE] at hc
      exact nomatch hc
theorem mc_cs_compl {n : Nat} {E : Nat → Nat → Bool} {f : Nat} : ∀ (t : List Nat) (k : Nat) (p : List Nat), p ≠ [] → mc_hd p 0 = f → f < n → (p ++ t).Nodup → (∀ x ∈ t, x < n ∧ f < x) → (∀ e ∈ mc_cy (p ++ t), E e.1 e.2 = true) → t.length < k → p ++ t ∈ mc_cs n E f k p := by
  intro t
  induction t with
  | nil =>
    intro k p h1 h2 h3 h4 h5 h6 h7
    obtain ⟨k, rfl⟩ : ∃ j, k = j + 1 := ⟨k - 1, by simp at h7; omega⟩
    rw [List.append_nil] at h6 ⊢
    refine List.mem_flatMap.mpr ⟨f, List.mem_range.mpr h3, ?_⟩
    unfold mc_br
    have hE : E (mc_la p) f = true := by
      have := h6 (mc_la p, f) (by unfold mc_cy; rw [h2]; exact mc_la_ar h1 f)
      exact this
    rw [if_pos hE, if_pos rfl]
    exact List.mem_singleton.mpr rfl
  | cons v t ih =>
    intro k p h1 h2 h3 h4 h5 h6 h7
    rw [List.length_cons] at h7
    obtain ⟨k, rfl⟩ : ∃ j, k = j + 1 := ⟨k - 1, by omega⟩
    have hv := h5 v List.mem_cons_self
    refine List.mem_flatMap.mpr ⟨v, List.mem_range.mpr hv.1, ?_⟩
    unfold mc_br
    have hE : E (mc_la p) v = true := by
      have := h6 (mc_la p, v) (by rw [mc_cy_app]; exact List.mem_append_left _ (mc_la_ar h1 v))
      exact this
    have hp : ¬ v ∈ p := by
      intro hm
      rw [List.nodup_append] at h4
      exact h4.2.2 v hm v List.mem_cons_self rfl
    have ea : p ++ v :: t = (p ++ [v]) ++ t := by simp
    rw [if_pos hE, if_neg (by omega), if_pos ⟨hv.2, hp⟩, ea]
    rw [ea] at h4 h6
    refine ih k (p ++ [v]) (by simp) ?_ h3 h4 (fun x hx => h5 x (List.mem_cons_of_mem _ hx)) h6 (by omega)
    rw [mc_hd_app]
    cases p with
    | nil => exact absurd rfl h1
    | cons a l => exact h2
def mc_al (n : Nat) (E : Nat → Nat → Bool) : List (List Nat) := (List.range n).flatMap (fun f => mc_cs n E f 6 [f])
def mc_A (n : Nat) (E : Nat → Nat → Bool) (u v : Nat) : Prop := u < n ∧ v < n ∧ E u v = true
theorem mc_gd_ci {n : Nat} {E : Nat → Nat → Bool} {f : Nat} {c : List Nat} (hg : mc_gd n E f c) (hE : E (mc_la c) f = true) : mc_ci (mc_A n E) c := by
  obtain ⟨h1, h2, h3, h4, h5⟩ := hg
  have hf : f ∈ c := by
    cases c with
    | nil => exact absurd rfl h1
    | cons a l => rw [← h2]; exact List.mem_cons_self
  refine ⟨h1, h3, ?_⟩
  unfold mc_cy
  rw [h2]
  intro e he
  obtain ⟨m1, m2⟩ := mc_ar_mem he
  refine ⟨h4 _ m1, ?_, h5 f hE e he⟩
  rcases m2 with m | m
  · exact h4 _ m
  · rw [m]; exact h4 _ hf
theorem mc_al_sound {n : Nat} {E : Nat → Nat → Bool} {c : List Nat} (h : c ∈ mc_al n E) : mc_ci (mc_A n E) c := by
  obtain ⟨f, hf, hc⟩ := List.mem_flatMap.mp h
  obtain ⟨hg, hE⟩ := mc_cs_sound 6 [f] c (mc_gd_1 (List.mem_range.mp hf)) hc
  exact mc_gd_ci hg hE
theorem mc_min : ∀ (c : List Nat), c ≠ [] → ∃ m ∈ c, ∀ x ∈ c, m ≤ x := by
  intro c
  induction c with
  | nil => intro h; exact absurd rfl h
  | cons a c ih =>
    intro _
    by_cases hc : c = []
    · subst hc
      exact ⟨a, List.mem_cons_self, fun x hx => by rw [List.mem_singleton.mp hx]; exact Nat.le_refl _⟩
    · obtain ⟨m, hm, hl⟩ := ih hc
      by_cases h : a ≤ m
      · refine ⟨a, List.mem_cons_self, fun x hx => ?_⟩
        rcases List.mem_cons.mp hx with e | e
        · omega
        · have := hl x e; omega
      · refine ⟨m, List.mem_cons_of_mem _ hm, fun x hx => ?_⟩
        rcases List.mem_cons.mp hx with e | e
        · omega
        · exact hl x e
theorem mc_ci_lt {n : Nat} {E : Nat → Nat → Bool} {c : List Nat} (h : mc_ci (mc_A n E) c) : ∀ x ∈ c, x < n := by
  intro x hx
  obtain ⟨y, hy⟩ := mc_ar_fst (v := mc_hd c 0) hx
  exact (h.2.2 (x, y) hy).1
theorem mc_ci_len {n : Nat} {E : Nat → Nat → Bool} {c : List Nat} (h : mc_ci (mc_A n E) c) : c.length ≤ n := mc_ph h.2.1 (mc_ci_lt h)
theorem mc_al_compl {n : Nat} {E : Nat → Nat → Bool} (hn : n ≤ 6) {c : List Nat} (h : mc_ci (mc_A n E) c) : ∃ c' ∈ mc_al n E, (∀ e, e ∈ mc_cy c ↔ e ∈ mc_cy c') ∧ ∀ w : Nat → Nat → Int, mc_sm w (mc_cy c') = mc_sm w (mc_cy c) := by
  have hlt := mc_ci_lt h
  have hlen := mc_ci_len h
  obtain ⟨h1, h2, h3⟩ := h
  obtain ⟨m, hm, hl⟩ := mc_min c h1
  obtain ⟨a, b, rfl⟩ := List.append_of_mem hm
  have e1 : mc_cy (a ++ m :: b) = mc_ar a m ++ mc_ar (m :: b) (mc_hd a m) := mc_cy_app a m b
  have e2 : mc_cy (m :: b ++ a) = mc_ar (m :: b) (mc_hd a m) ++ mc_ar a m := by
    unfold mc_cy
    rw [mc_ar_app]
    rfl
  have hmem : ∀ e, e ∈ mc_cy (a ++ m :: b) ↔ e ∈ mc_cy (m :: b ++ a) := by
    intro e
    rw [e1, e2, List.mem_append, List.mem_append]
    exact Or.comm
  refine ⟨m :: b ++ a, ?_, hmem, ?_⟩
  · refine List.mem_flatMap.mpr ⟨m, List.mem_range.mpr (hlt m hm), ?_⟩
    have hnd : (m :: b ++ a).Nodup := by
      rw [List.nodup_append] at h2 ⊢
      exact ⟨h2.2.1, h2.1, fun x hx y hy e => h2.2.2 y hy x hx e.symm⟩
    have e3 : m :: b ++ a = [m] ++ (b ++ a) := rfl
    rw [e3] at hnd hmem ⊢
    refine mc_cs_compl (b ++ a) 6 [m] (by simp) rfl (hlt m hm) hnd ?_ ?_ ?_
    · intro x hx
      have hxm : x ∈ a ++ m :: b := by
        rcases List.mem_append.mp hx with h | h
        · exact List.mem_append_right _ (List.mem_cons_of_mem _ h)
        · exact List.mem_append_left _ h
      have := hl x hxm
      have hne : m ≠ x := by
        intro e
        have := (List.nodup_cons.mp hnd).1
        exact this (e ▸ hx)
      exact ⟨hlt x hxm, by omega⟩
    · intro e he
      exact (h3 e ((hmem e).mpr he)).2.2
    · rw [List.length_append, List.length_cons] at hlen
      rw [List.length_append]
      omega
  · intro w
    rw [e1, e2, mc_sm_app, mc_sm_app]
    omega
theorem mc_fm_len {g : Nat → List (List Nat)} {m : Nat} : ∀ l : List Nat, (∀ v ∈ l, (g v).length ≤ m) → (l.flatMap g).length ≤ l.length * m := by
  intro l
  induction l with
  | nil => intro _; simp
  | cons a l ih =>
    intro h
    rw [List.flatMap_cons, List.length_append, List.length_cons, Nat.succ_mul]
    have h1 := h a List.mem_cons_self
    have h2 := ih (fun v hv => h v (List.mem_cons_of_mem _ hv))
    omega
theorem mc_cs_len {n : Nat} {E : Nat → Nat → Bool} {f : Nat} (hn : n ≤ 6) : ∀ (k : Nat) (p : List Nat), (mc_cs n E f k p).length ≤ 6 ^ k := by
  intro k
  induction k with
  | zero => intro p; exact Nat.zero_le _
  | succ k ih =>
    intro p
    have h6 : 1 ≤ 6 ^ k := Nat.pow_pos (by omega)
    have : ((List.range n).flatMap (mc_br E f (mc_cs n E f k) p)).length ≤ (List.range n).length * 6 ^ k := by
      refine mc_fm_len _ (fun v _ => ?_)
      unfold mc_br
      split
      · split
        · exact h6
        · split
          · exact ih _
          · exact Nat.zero_le _
      · exact Nat.zero_le _
    rw [List.length_range] at this
    show ((List.range n).flatMap (mc_br E f (mc_cs n E f k) p)).length ≤ 6 ^ (k + 1)
    rw [Nat.pow_succ, Nat.mul_comm]
    exact Nat.le_trans this (Nat.mul_le_mul_right _ hn)
theorem mc_al_len {n : Nat} {E : Nat → Nat → Bool} (hn : n ≤ 6) : (mc_al n E).length ≤ 279936 := by
  have := mc_fm_len (g := fun f => mc_cs n E f 6 [f]) (m := 6 ^ 6) (List.range n) (fun v _ => mc_cs_len hn 6 [v])
  rw [List.length_range] at this
  exact Nat.le_trans this (Nat.mul_le_mul_right (6 ^ 6) hn)
end MC03
end
section
section MC04
/-! bits: the family of kit/rows/BITS.to-paste, and one bit set or read -/
def bt (x : Int32) (i : Nat) : Bool := x.toBitVec.getLsbD i
theorem b_ext {x y : Int32} (h : ∀ i, i < 32 → bt x i = bt y i) : x = y := Int32.toBitVec_inj.mp (BitVec.eq_of_getLsbD_eq (fun i hi => h i hi))
theorem b_or (x y : Int32) (i : Nat) : bt (x ||| y) i = (bt x i || bt y i) := by unfold bt; rw [Int32.toBitVec_or, BitVec.getLsbD_or]
theorem b_and (x y : Int32) (i : Nat) : bt (x &&& y) i = (bt x i && bt y i) := by unfold bt; rw [Int32.toBitVec_and, BitVec.getLsbD_and]
theorem b_xor (x y : Int32) (i : Nat) : bt (x ^^^ y) i = (bt x i ^^ bt y i) := by unfold bt; rw [Int32.toBitVec_xor, BitVec.getLsbD_xor]
theorem b_big {x : Int32} {i : Nat} (h : 32 ≤ i) : bt x i = false := BitVec.getLsbD_of_ge _ _ h
theorem b_0 (i : Nat) : bt 0 i = false := BitVec.getLsbD_zero
theorem s_l : ∀ n, n < 32 → ((nI n &&& 31).toBitVec.smod 32).toNat = n := by decide +kernel
theorem b_shl (n : Nat) (hn : n < 32) (x : Int32) {i : Nat} (hi : i < 32) : bt (x <<< (nI n &&& 31)) i = (decide (n ≤ i) && bt x (i - n)) := by
  unfold bt
  rw [Int32.toBitVec_shiftLeft]
  show (x.toBitVec <<< ((nI n &&& 31).toBitVec.smod 32).toNat).getLsbD i = _
  rw [s_l n hn, BitVec.getLsbD_shiftLeft]
  rcases Nat.lt_or_ge i n with h | h
  · simp [h, Nat.not_le.mpr h]
  · simp [hi, h, Nat.not_lt.mpr h]
theorem b_sshr (n : Nat) (hn : n < 32) (x : Int32) {i : Nat} (hi : i < 32) : bt (x >>> (nI n &&& 31)) i = if n + i < 32 then bt x (n + i) else bt x 31 := by
  unfold bt
  rw [Int32.toBitVec_shiftRight]
  show (x.toBitVec.sshiftRight ((nI n &&& 31).toBitVec.smod 32).toNat).getLsbD i = _
  rw [s_l n hn, BitVec.getLsbD_sshiftRight, BitVec.msb_eq_getLsbD_last]
  simp [hi]
theorem mc_bit1 : ∀ i, i < 32 → bt 1 i = decide (i = 0) := by decide +kernel
theorem mc_set (x : Int32) {u i : Nat} (hu : u < 32) (hi : i < 32) : bt (x ||| ((1 : Int32) <<< (nI u &&& 31))) i = true ↔ bt x i = true ∨ i = u := by
  rw [b_or, b_shl u hu 1 hi, Bool.or_eq_true, Bool.and_eq_true, decide_eq_true_eq, mc_bit1 (i - u) (by omega), decide_eq_true_eq]
  have : (u ≤ i ∧ i - u = 0) ↔ i = u := by omega
  rw [this]
theorem mc_and1 (y : Int32) : y &&& 1 = 1 ↔ bt y 0 = true := by
  constructor
  · intro h
    have h0 : bt (y &&& 1) 0 = true := by rw [h]; decide
    rw [b_and, Bool.and_eq_true] at h0
    exact h0.1
  · intro h
    apply b_ext
    intro i hi
    rw [b_and, mc_bit1 i hi]
    by_cases z : i = 0
    · subst z; rw [h]; rfl
    · rw [decide_eq_false z, Bool.and_false]
theorem mc_get (x : Int32) {u : Nat} (hu : u < 32) : (x >>> (nI u &&& 31)) &&& 1 = 1 ↔ bt x u = true := by
  rw [mc_and1, b_sshr u hu x (by omega), if_pos (by omega)]
  exact Iff.rfl
end MC04
section MC04b
/-! the least of a set of weights, as the component keeps it -/
def mc_M (S : Int → Prop) (x : Int32) : Prop := (x = mc_I 1000000 ∧ ∀ z, ¬ S z) ∨ ∃ z, S z ∧ x = mc_I z ∧ ∀ z', S z' → z ≤ z'
theorem mc_M_congr {S S' : Int → Prop} {x : Int32} (h : ∀ z, S z ↔ S' z) (m : mc_M S x) : mc_M S' x := by
  rcases m with ⟨e, m⟩ | ⟨z, hz, e, m⟩
  · exact Or.inl ⟨e, fun z hz => m z ((h z).mpr hz)⟩
  · exact Or.inr ⟨z, (h z).mp hz, e, fun z' hz' => m z' ((h z').mpr hz')⟩
def mc_U (C : Nat → Int → Prop) (i : Nat) (z : Int) : Prop := ∃ y, y < i ∧ C y z
theorem mc_U_s {C : Nat → Int → Prop} {i : Nat} {z : Int} : mc_U C (i + 1) z ↔ mc_U C i z ∨ C i z := by
  constructor
  · rintro ⟨y, hy, h⟩
    by_cases e : y = i
    · subst e; exact Or.inr h
    · exact Or.inl ⟨y, by omega, h⟩
  · rintro (⟨y, hy, h⟩ | h)
    · exact ⟨y, by omega, h⟩
    · exact ⟨i, by omega, h⟩
theorem mc_M_skip {C : Nat → Int → Prop} {i : Nat} {x : Int32} (m : mc_M (mc_U C i) x) (h : ∀ z, ¬ C i z) : mc_M (mc_U C (i + 1)) x :=
  mc_M_congr (fun z => by rw [mc_U_s]; exact ⟨Or.inl, fun o => o.resolve_right (h z)⟩) m
theorem mc_M_keep {C : Nat → Int → Prop} {i : Nat} {x : Int32} {z0 : Int} (hb : ∀ y z, C y z → -1000 ≤ z ∧ z ≤ 1000) (m : mc_M (mc_U C i) x) (h0 : C i z0) (hm : ∀ z, C i z → z0 ≤ z) (hx : x ≤ mc_I z0) : mc_M (mc_U C (i + 1)) x := by
  have b0 := hb _ _ h0
  rcases m with ⟨e, m⟩ | ⟨z, hz, e, m⟩
  · rw [e, mc_I_le (by omega) (by omega) (by omega) (by omega)] at hx
    omega
  · obtain ⟨y, hy, hyz⟩ := hz
    have bz := hb _ _ hyz
    rw [e, mc_I_le (by omega) (by omega) (by omega) (by omega)] at hx
    refine Or.inr ⟨z, mc_U_s.mpr (Or.inl ⟨y, hy, hyz⟩), e, fun z' hz' => ?_⟩
    rcases mc_U_s.mp hz' with h | h
    · exact m z' h
    · exact Int.le_trans hx (hm z' h)
theorem mc_M_new {C : Nat → Int → Prop} {i : Nat} {x : Int32} {z0 : Int} (hb : ∀ y z, C y z → -1000 ≤ z ∧ z ≤ 1000) (m : mc_M (mc_U C i) x) (h0 : C i z0) (hm : ∀ z, C i z → z0 ≤ z) (hx : ¬ x ≤ mc_I z0) : mc_M (mc_U C (i + 1)) (mc_I z0) := by
  have b0 := hb _ _ h0
  refine Or.inr ⟨z0, mc_U_s.mpr (Or.inr h0), rfl, fun z' hz' => ?_⟩
  rcases mc_U_s.mp hz' with h | h
  · rcases m with ⟨e, m⟩ | ⟨z, hz, e, m⟩
    · exact absurd h (m z')
    · obtain ⟨y, hy, hyz⟩ := hz
      have bz := hb _ _ hyz
      rw [e, mc_I_le (by omega) (by omega) (by omega) (by omega)] at hx
      have := m z' h
      omega
  · exact hm z' h
/-- an entry that is not the mark of no walk -/
theorem mc_M_no {S : Int → Prop} {x : Int32} (hb : ∀ z, S z → -1000 ≤ z ∧ z ≤ 1000) (m : mc_M S x) (h : x = 1000000) : ∀ z, ¬ S z := by
  rcases m with ⟨_, m⟩ | ⟨z, hz, e, _⟩
  · exact m
  · have := hb z hz
    rw [← mc_I_mil, e, mc_I_eq (by omega) (by omega) (by omega) (by omega)] at h
    omega
theorem mc_M_some {S : Int → Prop} {x : Int32} (m : mc_M S x) (h : ¬ x = 1000000) : ∃ z, S z ∧ x = mc_I z ∧ ∀ z', S z' → z ≤ z' := by
  rcases m with ⟨e, _⟩ | m
  · exact absurd (e.trans mc_I_mil) h
  · exact m
/-! the component's data -/
def mc_E (a : Nat → Int32) (u v : Nat) : Bool := decide (¬ a (6 * u + v) = 0)
def mc_fw (a : Nat → Int32) (u v : Nat) : Int := (a (6 * u + v)).toInt
theorem mc_E_t {a : Nat → Int32} {u v : Nat} : mc_E a u v = true ↔ ¬ a (6 * u + v) = 0 := by unfold mc_E; rw [decide_eq_true_eq]
theorem mc_pO {post : Int32 → Prop} {u v : Nat} (h : post (nI (6 * u + v))) : wpX_pairOf post (nI u) (nI v) := by
  show post (nI u * 6 + nI v)
  have e : nI u * 6 + nI v = nI (6 * u + v) := by
    rw [show nI u * 6 = nI (u * 6) from mc_mulN u 6, nI_add, Nat.mul_comm]
  rw [e]; exact h
theorem mc_wO {post : Int32 → Prop} {k u v : Nat} (h : post (nI (k * 36 + u * 6 + v))) : wpX_walkOf post (nI k) (nI u) (nI v) := by
  show post (nI k * 36 + nI u * 6 + nI v)
  have e : nI k * 36 + nI u * 6 + nI v = nI (k * 36 + u * 6 + v) := by
    rw [show nI u * 6 = nI (u * 6) from mc_mulN u 6, show nI k * 36 = nI (k * 36) from mc_mulN k 36, nI_add, nI_add]
  rw [e]; exact h
/-- what holds of weights W and spans sa -/
def mc_ok (W sa : Nat → Int32) : Prop := (∀ q, -20 ≤ (W q).toInt ∧ (W q).toInt ≤ 20) ∧ (∀ q, ¬ sa q = 0 → 1 ≤ (sa q).toInt ∧ (sa q).toInt ≤ 5)
theorem mc_ok_p {W sa : Nat → Int32} {N : Nat} (h : mc_ok W sa) : ∀ a b, mc_A N (mc_E sa) a b → 1 ≤ mc_fw sa a b := fun _ _ hA => (h.2 _ (mc_E_t.mp hA.2.2)).1
theorem mc_ok_w {W sa : Nat → Int32} {N : Nat} (h : mc_ok W sa) : ∀ a b, mc_A N (mc_E sa) a b → -20 ≤ mc_fw W a b ∧ mc_fw W a b ≤ 20 := fun _ _ _ => h.1 _
def mc_Sx (N : Nat) (W sa : Nat → Int32) (u v : Nat) (k : Int) (z : Int) : Prop := mc_S (mc_A N (mc_E sa)) (mc_fw W) (mc_fw sa) u v k z
theorem mc_Sx_b {N : Nat} {W sa : Nat → Int32} (h : mc_ok W sa) {u v : Nat} {k z : Int} (s : mc_Sx N W sa u v k z) : 0 ≤ k ∧ -20 * k ≤ z ∧ z ≤ 20 * k := mc_S_bnd (mc_ok_p h) (mc_ok_w h) s
/-- the table of walks is filled up to (k, u, v) -/
def mc_D (N : Nat) (W sa : Nat → Int32) (k u v : Nat) (wk : Nat → Int32) : Prop := ∀ k' u' v', u' < N → v' < N → (k' < k ∨ (k' = k ∧ (u' < u ∨ (u' = u ∧ v' < v)))) → mc_M (mc_Sx N W sa u' v' k') (wk (k' * 36 + u' * 6 + v'))
theorem mc_D_0 {N : Nat} {W sa wk : Nat → Int32} : mc_D N W sa 0 0 0 wk := fun k' u' v' _ _ h => by omega
theorem mc_D_s {N : Nat} {W sa wk : Nat → Int32} {k u v : Nat} {x : Int32} (hN : N ≤ 6) (hu : u < N) (hv : v < N) (d : mc_D N W sa k u v wk) (m : mc_M (mc_Sx N W sa u v k) x) : mc_D N W sa k u (v + 1) (upd wk (k * 36 + u * 6 + v) x) := by
  intro k' u' v' h1 h2 h3
  by_cases e : k' * 36 + u' * 6 + v' = k * 36 + u * 6 + v
  · obtain ⟨rfl, rfl, rfl⟩ : k' = k ∧ u' = u ∧ v' = v := by omega
    rw [mc_us]
    exact m
  · rw [mc_un e]
    exact d k' u' v' h1 h2 (by omega)
theorem mc_D_v {N : Nat} {W sa wk : Nat → Int32} {k u : Nat} (d : mc_D N W sa k u N wk) : mc_D N W sa k (u + 1) 0 wk := fun k' u' v' h1 h2 h3 => d k' u' v' h1 h2 (by omega)
theorem mc_D_u {N : Nat} {W sa wk : Nat → Int32} {k : Nat} (d : mc_D N W sa k N 0 wk) : mc_D N W sa (k + 1) 0 0 wk := fun k' u' v' h1 h2 h3 => d k' u' v' h1 h2 (by omega)
/-- the last arcs of a walk of span k from u to v -/
def mc_C (N : Nat) (W sa : Nat → Int32) (k u v y : Nat) (z : Int) : Prop := mc_A N (mc_E sa) y v ∧ mc_Sx N W sa u y (k - mc_fw sa y v) (z - mc_fw W y v)
theorem mc_C_b {N : Nat} {W sa : Nat → Int32} (h : mc_ok W sa) {k u v : Nat} (hk : k ≤ 30) : ∀ y z, mc_C N W sa k u v y z → -1000 ≤ z ∧ z ≤ 1000 := by
  rintro y z ⟨h1, h2⟩
  have b := mc_Sx_b h h2
  have p := mc_ok_p h _ _ h1
  have w := mc_ok_w h _ _ h1
  omega
theorem mc_C_all {N : Nat} {W sa : Nat → Int32} {k u v : Nat} (hk : 1 ≤ k) (z : Int) : mc_U (mc_C N W sa k u v) N z ↔ mc_Sx N W sa u v k z := by
  unfold mc_Sx
  rw [mc_S_step (by omega)]
  constructor
  · rintro ⟨y, _, h⟩; exact ⟨y, h⟩
  · rintro ⟨y, h⟩; exact ⟨y, h.1.1, h⟩
end MC04b
end
section
section MC05steps
variable (N : Nat) (tp bm : Int32) (W st tm : Nat → Int32)
theorem mc_li_steps {post : Int32 → Prop} {k u v : Nat} {wk : Nat → Int32} (hN : N ≤ 6) (hk : 1 ≤ k) (hk2 : k ≤ 30) (hu : u < N) (hv : v < N) (ho : mc_ok W st) (hd : mc_D N W st k 0 0 wk) (hp : ∀ x, mc_M (mc_Sx N W st u v k) x → post x) :
    ∀ m i x, i + m = N → mc_M (mc_U (mc_C N W st k u v) i) x → wX_lightest__steps_7 post (nI k) (nI u) (nI v) (nI N) tp bm W st tm wk (m + 1) x (nI i) := by
  intro m
  induction m with
  | zero =>
    intro i x hi hm
    have e : i = N := by omega
    subst e
    exact br_t (nI_le (Nat.le_refl _) (by omega)) (hp x (mc_M_congr (mc_C_all hk) hm))
  | succ m ih =>
    intro i x hi hm
    have hc : (nI (6 * i + v)).toNatClampNeg = 6 * i + v := nI_clamp (by omega)
    have hin : vp_in (nI (6 * i + v)) 36 := vp_in_nI (by omega) (by omega)
    have hs : st (6 * i + v) = mc_I (mc_fw st i v) := (mc_I_of _).symm
    have hw : W (6 * i + v) = mc_I (mc_fw W i v) := (mc_I_of _).symm
    have skip : (∀ z, ¬ mc_C N W st k u v i z) → ∀ y, y = nI i + 1 → wX_lightest__steps_7 post (nI k) (nI u) (nI v) (nI N) tp bm W st tm wk (m + 1) x y :=
      fun h => nm_r (nI_1 i) (ih (i + 1) x (by omega) (mc_M_skip hm h))
    have er : nI k - st (nI (6 * i + v)).toNatClampNeg = mc_I (k - mc_fw st i v) := by
      rw [hc, hs, ← mc_I_nat, mc_I_sub]
    refine br_f (nI_ge (by omega) (by omega)) (mc_pO ⟨hin, nm_r er ⟨hin, br_c (fun z => skip ?_) (fun nz => br_c (fun ng => skip ?_) (fun nn => ?_))⟩⟩)
    · rintro z0 ⟨hA, _⟩
      rw [hc] at z
      exact mc_E_t.mp hA.2.2 z
    · rintro z0 ⟨hA, hS⟩
      have b := mc_Sx_b ho hS
      have b2 := ho.2 _ (mc_E_t.mp hA.2.2)
      have b3 : 1 ≤ mc_fw st i v ∧ mc_fw st i v ≤ 5 := b2
      rw [← mc_I_0, mc_I_lt (by omega) (by omega) (by omega) (by omega)] at ng
      omega
    · rw [hc] at nz
      have b2 := ho.2 _ nz
      have b3 : 1 ≤ mc_fw st i v ∧ mc_fw st i v ≤ 5 := b2
      rw [← mc_I_0, mc_I_lt (by omega) (by omega) (by omega) (by omega)] at nn
      obtain ⟨r, hr⟩ : ∃ r : Nat, (r : Int) = k - mc_fw st i v := ⟨((k : Int) - mc_fw st i v).toNat, by omega⟩
      have hA : mc_A N (mc_E st) i v := ⟨by omega, hv, mc_E_t.mpr nz⟩
      have hM := hd r u i hu (by omega) (Or.inl (by omega))
      have hcw : (nI (r * 36 + u * 6 + i)).toNatClampNeg = r * 36 + u * 6 + i := nI_clamp (by omega)
      have hinw : vp_in (nI (r * 36 + u * 6 + i)) 1116 := vp_in_nI (by omega) (by omega)
      rw [← hr, mc_I_nat]
      refine mc_wO ⟨hinw, br_c (fun e1 => skip ?_) (fun ne1 => ⟨hinw, hin, ?_⟩)⟩
      · rw [hcw] at e1
        rintro z0 ⟨_, hS⟩
        rw [← hr] at hS
        refine mc_M_no (fun z hz => ?_) hM e1 _ hS
        have b := mc_Sx_b ho hz
        omega
      · rw [hcw] at ne1
        obtain ⟨z0, hz0, ez0, hmin⟩ := mc_M_some hM ne1
        have es : wk (nI (r * 36 + u * 6 + i)).toNatClampNeg + W (nI (6 * i + v)).toNatClampNeg = mc_I (z0 + mc_fw W i v) := by
          rw [hcw, hc, ez0, hw, mc_I_add]
        have h0 : mc_C N W st k u v i (z0 + mc_fw W i v) := ⟨hA, by rw [Int.add_sub_cancel, ← hr]; exact hz0⟩
        have hmn : ∀ z, mc_C N W st k u v i z → z0 + mc_fw W i v ≤ z := by
          rintro z ⟨_, hz⟩
          rw [← hr] at hz
          have := hmin _ hz
          omega
        refine br_c (fun hle => ?_) (fun hgt => ⟨hinw, hin, nm_r es (nm_r (nI_1 i) ?_)⟩)
        · rw [es] at hle
          exact nm_r (nI_1 i) (ih (i + 1) x (by omega) (mc_M_keep (mc_C_b ho hk2) hm h0 hmn hle))
        · rw [es] at hgt
          exact ih (i + 1) _ (by omega) (mc_M_new (mc_C_b ho hk2) hm h0 hmn hgt)
theorem mc_lg_steps {post : Int32 → Prop} {k u v : Nat} {wk : Nat → Int32} (hN : N ≤ 6) (hk : 1 ≤ k) (hk2 : k ≤ 30) (hu : u < N) (hv : v < N) (ho : mc_ok W st) (hd : mc_D N W st k 0 0 wk) (hp : ∀ x, mc_M (mc_Sx N W st u v k) x → post x) : wpX_lightest__steps post (nI N, tp, bm, W, st, tm, wk) (nI k) (nI u) (nI v) := by
  refine ⟨N + 1, mc_li_steps N tp bm W st tm hN hk hk2 hu hv ho hd hp N 0 1000000 (by omega) (Or.inl ⟨mc_I_mil.symm, ?_⟩)⟩
  rintro z ⟨y, hy, _⟩
  omega
theorem mc_w79_steps {post : SX → Prop} {J60 J68 : Int32 → (Nat → Int32) → (Nat → Int32) → (Nat → Int32) → (Nat → Int32) → Prop} {k u : Nat} (hN : N ≤ 6) (hk : 1 ≤ k) (hk2 : k ≤ 30) (hu : u < N) (ho : mc_ok W st) (hJ : ∀ wk, mc_D N W st k (u + 1) 0 wk → J68 (nI (u + 1)) W st tm wk) :
    ∀ m v wk, v + m = N → mc_D N W st k u v wk → wX_findWalks__steps_79 post J60 J68 (nI k) (nI u) (nI N) tp bm (m + 1) (nI v) W st tm wk := by
  intro m
  induction m with
  | zero =>
    intro v wk hv hd
    have e : v = N := by omega
    subst e
    exact br_t (nI_le (Nat.le_refl _) (by omega)) (nm_r (nI_1 u) (hJ wk (mc_D_v hd)))
  | succ m ih =>
    intro v wk hv hd
    have hc : (nI (k * 36 + u * 6 + v)).toNatClampNeg = k * 36 + u * 6 + v := nI_clamp (by omega)
    have hin : vp_in (nI (k * 36 + u * 6 + v)) 1116 := vp_in_nI (by omega) (by omega)
    refine br_f (nI_ge (by omega) (by omega)) (mc_wO (mc_lg_steps N tp bm W st tm hN hk hk2 hu (by omega) ho (fun k' u' v' h1 h2 h3 => hd k' u' v' h1 h2 (by omega)) (fun x hx => ⟨hin, nm_r (by rw [hc]) (nm_r (nI_1 v) ?_)⟩)))
    exact ih (v + 1) _ (by omega) (mc_D_s hN hu (by omega) hd hx)
theorem mc_w68_steps {post : SX → Prop} {J60 : Int32 → (Nat → Int32) → (Nat → Int32) → (Nat → Int32) → (Nat → Int32) → Prop} {k : Nat} (hN : N ≤ 6) (hk : 1 ≤ k) (hk2 : k ≤ 30) (ho : mc_ok W st) (hJ : ∀ wk, mc_D N W st (k + 1) 0 0 wk → J60 (nI (k + 1)) W st tm wk) :
    ∀ m u wk, u + m = N → mc_D N W st k u 0 wk → wX_findWalks__steps_68 post J60 (nI k) (nI N) tp bm (m + 1) (nI u) W st tm wk := by
  intro m
  induction m with
  | zero =>
    intro u wk hu hd
    have e : u = N := by omega
    subst e
    exact br_t (nI_le (Nat.le_refl _) (by omega)) (nm_r (nI_1 k) (hJ wk (mc_D_u hd)))
  | succ m ih =>
    intro u wk hu hd
    exact br_f (nI_ge (by omega) (by omega)) ⟨N + 1, mc_w79_steps N tp bm W st tm hN hk hk2 (by omega) ho (fun wk' hd' => ih (u + 1) wk' (by omega) hd') N 0 wk (by omega) hd⟩
theorem mc_w60_steps {post : SX → Prop} (hN : N ≤ 6) (ho : mc_ok W st) (hp : ∀ wk, mc_D N W st 31 0 0 wk → post (nI N, tp, bm, W, st, tm, wk)) :
    ∀ m k wk, k + m = 31 → 1 ≤ k → mc_D N W st k 0 0 wk → wX_findWalks__steps_60 post (nI N) tp bm (m + 1) (nI k) W st tm wk := by
  intro m
  induction m with
  | zero =>
    intro k wk hk hk1 hd
    have e : k = 31 := by omega
    subst e
    exact br_t (nI_lt (a := 30) (by omega) (by omega)) (hp wk hd)
  | succ m ih =>
    intro k wk hk hk1 hd
    exact br_f (nI_nlt (b := 30) (a := k) |> fun h => fun hlt => absurd hlt (Int32.not_lt.mpr (nI_le (a := k) (b := 30) (by omega) (by omega)))) ⟨N + 1, mc_w68_steps N tp bm W st tm hN hk1 (by omega) ho (fun wk' hd' => ih (k + 1) wk' (by omega) (by omega) hd') N 0 wk (by omega) hd⟩
theorem mc_w12_steps {post : SX → Prop} {J2 : Int32 → (Nat → Int32) → (Nat → Int32) → (Nat → Int32) → (Nat → Int32) → Prop} {u : Nat} (hN : N ≤ 6) (hu : u < N) (ho : mc_ok W st) (hJ : ∀ wk, mc_D N W st 0 (u + 1) 0 wk → J2 (nI (u + 1)) W st tm wk) :
    ∀ m v wk, v + m = N → mc_D N W st 0 u v wk → wX_findWalks__steps_12 post J2 (nI u) (nI N) tp bm (m + 1) (nI v) W st tm wk := by
  intro m
  induction m with
  | zero =>
    intro v wk hv hd
    have e : v = N := by omega
    subst e
    exact br_t (nI_le (Nat.le_refl _) (by omega)) (nm_r (nI_1 u) (hJ wk (mc_D_v hd)))
  | succ m ih =>
    intro v wk hv hd
    have hc : (nI (0 * 36 + u * 6 + v)).toNatClampNeg = 0 * 36 + u * 6 + v := nI_clamp (by omega)
    have hin : vp_in (nI (0 * 36 + u * 6 + v)) 1116 := vp_in_nI (by omega) (by omega)
    have h0 : ∀ z, mc_Sx N W st u v ((0 : Nat) : Int) z ↔ u = v ∧ z = 0 := fun z => mc_S_0 (mc_ok_p ho)
    refine br_f (nI_ge (by omega) (by omega)) (mc_wO (k := 0) (br_c (fun e => ⟨hin, nm_r (by rw [hc]) (nm_r (nI_1 v) (ih (v + 1) _ (by omega) (mc_D_s hN hu (by omega) hd ?_)))⟩) (fun ne => ⟨hin, nm_r (by rw [hc]) (nm_r (nI_1 v) (ih (v + 1) _ (by omega) (mc_D_s hN hu (by omega) hd ?_)))⟩)))
    · rw [nI_eq (by omega) (by omega)] at e
      exact Or.inr ⟨0, (h0 0).mpr ⟨e, rfl⟩, mc_I_0.symm, fun z hz => by rw [((h0 z).mp hz).2]; exact Int.le_refl _⟩
    · rw [nI_eq (by omega) (by omega)] at ne
      exact Or.inl ⟨mc_I_mil.symm, fun z hz => ne ((h0 z).mp hz).1⟩
theorem mc_w2_steps {post : SX → Prop} (hN : N ≤ 6) (ho : mc_ok W st) (hp : ∀ wk, mc_D N W st 31 0 0 wk → post (nI N, tp, bm, W, st, tm, wk)) :
    ∀ m u wk, u + m = N → mc_D N W st 0 u 0 wk → wX_findWalks__steps_2 post (nI N) tp bm (m + 1) (nI u) W st tm wk := by
  intro m
  induction m with
  | zero =>
    intro u wk hu hd
    have e : u = N := by omega
    subst e
    exact br_t (nI_le (Nat.le_refl _) (by omega)) ⟨31, mc_w60_steps u tp bm W st tm hN ho hp 30 1 wk (by omega) (by omega) (mc_D_u hd)⟩
  | succ m ih =>
    intro u wk hu hd
    exact br_f (nI_ge (by omega) (by omega)) ⟨N + 1, mc_w12_steps N tp bm W st tm hN (by omega) ho (fun wk' hd' => ih (u + 1) wk' (by omega) hd') N 0 wk (by omega) hd⟩
theorem mc_fW_steps {post : SX → Prop} {wk : Nat → Int32} (hN : N ≤ 6) (ho : mc_ok W st) (hp : ∀ wk, mc_D N W st 31 0 0 wk → post (nI N, tp, bm, W, st, tm, wk)) : wpX_findWalks__steps post (nI N, tp, bm, W, st, tm, wk) :=
  ⟨N + 1, mc_w2_steps N tp bm W st tm hN ho hp N 0 wk (by omega) mc_D_0⟩
end MC05steps

section MC05times
variable (N : Nat) (tp bm : Int32) (W st tm : Nat → Int32)
theorem mc_li_times {post : Int32 → Prop} {k u v : Nat} {wk : Nat → Int32} (hN : N ≤ 6) (hk : 1 ≤ k) (hk2 : k ≤ 30) (hu : u < N) (hv : v < N) (ho : mc_ok W tm) (hd : mc_D N W tm k 0 0 wk) (hp : ∀ x, mc_M (mc_Sx N W tm u v k) x → post x) :
    ∀ m i x, i + m = N → mc_M (mc_U (mc_C N W tm k u v) i) x → wX_lightest__times_7 post (nI k) (nI u) (nI v) (nI N) tp bm W st tm wk (m + 1) x (nI i) := by
  intro m
  induction m with
  | zero =>
    intro i x hi hm
    have e : i = N := by omega
    subst e
    exact br_t (nI_le (Nat.le_refl _) (by omega)) (hp x (mc_M_congr (mc_C_all hk) hm))
  | succ m ih =>
    intro i x hi hm
    have hc : (nI (6 * i + v)).toNatClampNeg = 6 * i + v := nI_clamp (by omega)
    have hin : vp_in (nI (6 * i + v)) 36 := vp_in_nI (by omega) (by omega)
    have hs : tm (6 * i + v) = mc_I (mc_fw tm i v) := (mc_I_of _).symm
    have hw : W (6 * i + v) = mc_I (mc_fw W i v) := (mc_I_of _).symm
    have skip : (∀ z, ¬ mc_C N W tm k u v i z) → ∀ y, y = nI i + 1 → wX_lightest__times_7 post (nI k) (nI u) (nI v) (nI N) tp bm W st tm wk (m + 1) x y :=
      fun h => nm_r (nI_1 i) (ih (i + 1) x (by omega) (mc_M_skip hm h))
    have er : nI k - tm (nI (6 * i + v)).toNatClampNeg = mc_I (k - mc_fw tm i v) := by
      rw [hc, hs, ← mc_I_nat, mc_I_sub]
    refine br_f (nI_ge (by omega) (by omega)) (mc_pO ⟨hin, nm_r er ⟨hin, br_c (fun z => skip ?_) (fun nz => br_c (fun ng => skip ?_) (fun nn => ?_))⟩⟩)
    · rintro z0 ⟨hA, _⟩
      rw [hc] at z
      exact mc_E_t.mp hA.2.2 z
    · rintro z0 ⟨hA, hS⟩
      have b := mc_Sx_b ho hS
      have b2 := ho.2 _ (mc_E_t.mp hA.2.2)
      have b3 : 1 ≤ mc_fw tm i v ∧ mc_fw tm i v ≤ 5 := b2
      rw [← mc_I_0, mc_I_lt (by omega) (by omega) (by omega) (by omega)] at ng
      omega
    · rw [hc] at nz
      have b2 := ho.2 _ nz
      have b3 : 1 ≤ mc_fw tm i v ∧ mc_fw tm i v ≤ 5 := b2
      rw [← mc_I_0, mc_I_lt (by omega) (by omega) (by omega) (by omega)] at nn
      obtain ⟨r, hr⟩ : ∃ r : Nat, (r : Int) = k - mc_fw tm i v := ⟨((k : Int) - mc_fw tm i v).toNat, by omega⟩
      have hA : mc_A N (mc_E tm) i v := ⟨by omega, hv, mc_E_t.mpr nz⟩
      have hM := hd r u i hu (by omega) (Or.inl (by omega))
      have hcw : (nI (r * 36 + u * 6 + i)).toNatClampNeg = r * 36 + u * 6 + i := nI_clamp (by omega)
      have hinw : vp_in (nI (r * 36 + u * 6 + i)) 1116 := vp_in_nI (by omega) (by omega)
      rw [← hr, mc_I_nat]
      refine mc_wO ⟨hinw, br_c (fun e1 => skip ?_) (fun ne1 => ⟨hinw, hin, ?_⟩)⟩
      · rw [hcw] at e1
        rintro z0 ⟨_, hS⟩
        rw [← hr] at hS
        refine mc_M_no (fun z hz => ?_) hM e1 _ hS
        have b := mc_Sx_b ho hz
        omega
      · rw [hcw] at ne1
        obtain ⟨z0, hz0, ez0, hmin⟩ := mc_M_some hM ne1
        have es : wk (nI (r * 36 + u * 6 + i)).toNatClampNeg + W (nI (6 * i + v)).toNatClampNeg = mc_I (z0 + mc_fw W i v) := by
          rw [hcw, hc, ez0, hw, mc_I_add]
        have h0 : mc_C N W tm k u v i (z0 + mc_fw W i v) := ⟨hA, by rw [Int.add_sub_cancel, ← hr]; exact hz0⟩
        have hmn : ∀ z, mc_C N W tm k u v i z → z0 + mc_fw W i v ≤ z := by
          rintro z ⟨_, hz⟩
          rw [← hr] at hz
          have := hmin _ hz
          omega
        refine br_c (fun hle => ?_) (fun hgt => ⟨hinw, hin, nm_r es (nm_r (nI_1 i) ?_)⟩)
        · rw [es] at hle
          exact nm_r (nI_1 i) (ih (i + 1) x (by omega) (mc_M_keep (mc_C_b ho hk2) hm h0 hmn hle))
        · rw [es] at hgt
          exact ih (i + 1) _ (by omega) (mc_M_new (mc_C_b ho hk2) hm h0 hmn hgt)
theorem mc_lg_times {post : Int32 → Prop} {k u v : Nat} {wk : Nat → Int32} (hN : N ≤ 6) (hk : 1 ≤ k) (hk2 : k ≤ 30) (hu : u < N) (hv : v < N) (ho : mc_ok W tm) (hd : mc_D N W tm k 0 0 wk) (hp : ∀ x, mc_M (mc_Sx N W tm u v k) x → post x) : wpX_lightest__times post (nI N, tp, bm, W, st, tm, wk) (nI k) (nI u) (nI v) := by
  refine ⟨N + 1, mc_li_times N tp bm W st tm hN hk hk2 hu hv ho hd hp N 0 1000000 (by omega) (Or.inl ⟨mc_I_mil.symm, ?_⟩)⟩
  rintro z ⟨y, hy, _⟩
  omega
theorem mc_w79_times {post : SX → Prop} {J60 J68 : Int32 → (Nat → Int32) → (Nat → Int32) → (Nat → Int32) → (Nat → Int32) → Prop} {k u : Nat} (hN : N ≤ 6) (hk : 1 ≤ k) (hk2 : k ≤ 30) (hu : u < N) (ho : mc_ok W tm) (hJ : ∀ wk, mc_D N W tm k (u + 1) 0 wk → J68 (nI (u + 1)) W st tm wk) :
    ∀ m v wk, v + m = N → mc_D N W tm k u v wk → wX_findWalks__times_79 post J60 J68 (nI k) (nI u) (nI N) tp bm (m + 1) (nI v) W st tm wk := by
  intro m
  induction m with
  | zero =>
    intro v wk hv hd
    have e : v = N := by omega
    subst e
    exact br_t (nI_le (Nat.le_refl _) (by omega)) (nm_r (nI_1 u) (hJ wk (mc_D_v hd)))
  | succ m ih =>
    intro v wk hv hd
    have hc : (nI (k * 36 + u * 6 + v)).toNatClampNeg = k * 36 + u * 6 + v := nI_clamp (by omega)
    have hin : vp_in (nI (k * 36 + u * 6 + v)) 1116 := vp_in_nI (by omega) (by omega)
    refine br_f (nI_ge (by omega) (by omega)) (mc_wO (mc_lg_times N tp bm W st tm hN hk hk2 hu (by omega) ho (fun k' u' v' h1 h2 h3 => hd k' u' v' h1 h2 (by omega)) (fun x hx => ⟨hin, nm_r (by rw [hc]) (nm_r (nI_1 v) ?_)⟩)))
    exact ih (v + 1) _ (by omega) (mc_D_s hN hu (by omega) hd hx)
theorem mc_w68_times {post : SX → Prop} {J60 : Int32 → (Nat → Int32) → (Nat → Int32) → (Nat → Int32) → (Nat → Int32) → Prop} {k : Nat} (hN : N ≤ 6) (hk : 1 ≤ k) (hk2 : k ≤ 30) (ho : mc_ok W tm) (hJ : ∀ wk, mc_D N W tm (k + 1) 0 0 wk → J60 (nI (k + 1)) W st tm wk) :
    ∀ m u wk, u + m = N → mc_D N W tm k u 0 wk → wX_findWalks__times_68 post J60 (nI k) (nI N) tp bm (m + 1) (nI u) W st tm wk := by
  intro m
  induction m with
  | zero =>
    intro u wk hu hd
    have e : u = N := by omega
    subst e
    exact br_t (nI_le (Nat.le_refl _) (by omega)) (nm_r (nI_1 k) (hJ wk (mc_D_u hd)))
  | succ m ih =>
    intro u wk hu hd
    exact br_f (nI_ge (by omega) (by omega)) ⟨N + 1, mc_w79_times N tp bm W st tm hN hk hk2 (by omega) ho (fun wk' hd' => ih (u + 1) wk' (by omega) hd') N 0 wk (by omega) hd⟩
theorem mc_w60_times {post : SX → Prop} (hN : N ≤ 6) (ho : mc_ok W tm) (hp : ∀ wk, mc_D N W tm 31 0 0 wk → post (nI N, tp, bm, W, st, tm, wk)) :
    ∀ m k wk, k + m = 31 → 1 ≤ k → mc_D N W tm k 0 0 wk → wX_findWalks__times_60 post (nI N) tp bm (m + 1) (nI k) W st tm wk := by
  intro m
  induction m with
  | zero =>
    intro k wk hk hk1 hd
    have e : k = 31 := by omega
    subst e
    exact br_t (nI_lt (a := 30) (by omega) (by omega)) (hp wk hd)
  | succ m ih =>
    intro k wk hk hk1 hd
    exact br_f (nI_nlt (b := 30) (a := k) |> fun h => fun hlt => absurd hlt (Int32.not_lt.mpr (nI_le (a := k) (b := 30) (by omega) (by omega)))) ⟨N + 1, mc_w68_times N tp bm W st tm hN hk1 (by omega) ho (fun wk' hd' => ih (k + 1) wk' (by omega) (by omega) hd') N 0 wk (by omega) hd⟩
theorem mc_w12_times {post : SX → Prop} {J2 : Int32 → (Nat → Int32) → (Nat → Int32) → (Nat → Int32) → (Nat → Int32) → Prop} {u : Nat} (hN : N ≤ 6) (hu : u < N) (ho : mc_ok W tm) (hJ : ∀ wk, mc_D N W tm 0 (u + 1) 0 wk → J2 (nI (u + 1)) W st tm wk) :
    ∀ m v wk, v + m = N → mc_D N W tm 0 u v wk → wX_findWalks__times_12 post J2 (nI u) (nI N) tp bm (m + 1) (nI v) W st tm wk := by
  intro m
  induction m with
  | zero =>
    intro v wk hv hd
    have e : v = N := by omega
    subst e
    exact br_t (nI_le (Nat.le_refl _) (by omega)) (nm_r (nI_1 u) (hJ wk (mc_D_v hd)))
  | succ m ih =>
    intro v wk hv hd
    have hc : (nI (0 * 36 + u * 6 + v)).toNatClampNeg = 0 * 36 + u * 6 + v := nI_clamp (by omega)
    have hin : vp_in (nI (0 * 36 + u * 6 + v)) 1116 := vp_in_nI (by omega) (by omega)
    have h0 : ∀ z, mc_Sx N W tm u v ((0 : Nat) : Int) z ↔ u = v ∧ z = 0 := fun z => mc_S_0 (mc_ok_p ho)
    refine br_f (nI_ge (by omega) (by omega)) (mc_wO (k := 0) (br_c (fun e => ⟨hin, nm_r (by rw [hc]) (nm_r (nI_1 v) (ih (v + 1) _ (by omega) (mc_D_s hN hu (by omega) hd ?_)))⟩) (fun ne => ⟨hin, nm_r (by rw [hc]) (nm_r (nI_1 v) (ih (v + 1) _ (by omega) (mc_D_s hN hu (by omega) hd ?_)))⟩)))
    · rw [nI_eq (by omega) (by omega)] at e
      exact Or.inr ⟨0, (h0 0).mpr ⟨e, rfl⟩, mc_I_0.symm, fun z hz => by rw [((h0 z).mp hz).2]; exact Int.le_refl _⟩
    · rw [nI_eq (by omega) (by omega)] at ne
      exact Or.inl ⟨mc_I_mil.symm, fun z hz => ne ((h0 z).mp hz).1⟩
theorem mc_w2_times {post : SX → Prop} (hN : N ≤ 6) (ho : mc_ok W tm) (hp : ∀ wk, mc_D N W tm 31 0 0 wk → post (nI N, tp, bm, W, st, tm, wk)) :
    ∀ m u wk, u + m = N → mc_D N W tm 0 u 0 wk → wX_findWalks__times_2 post (nI N) tp bm (m + 1) (nI u) W st tm wk := by
  intro m
  induction m with
  | zero =>
    intro u wk hu hd
    have e : u = N := by omega
    subst e
    exact br_t (nI_le (Nat.le_refl _) (by omega)) ⟨31, mc_w60_times u tp bm W st tm hN ho hp 30 1 wk (by omega) (by omega) (mc_D_u hd)⟩
  | succ m ih =>
    intro u wk hu hd
    exact br_f (nI_ge (by omega) (by omega)) ⟨N + 1, mc_w12_times N tp bm W st tm hN (by omega) ho (fun wk' hd' => ih (u + 1) wk' (by omega) hd') N 0 wk (by omega) hd⟩
theorem mc_fW_times {post : SX → Prop} {wk : Nat → Int32} (hN : N ≤ 6) (ho : mc_ok W tm) (hp : ∀ wk, mc_D N W tm 31 0 0 wk → post (nI N, tp, bm, W, st, tm, wk)) : wpX_findWalks__times post (nI N, tp, bm, W, st, tm, wk) :=
  ⟨N + 1, mc_w2_times N tp bm W st tm hN ho hp N 0 wk (by omega) mc_D_0⟩
end MC05times
end
section
section MC06
/-! quotients -/
theorem mc_q1 {T z z' : Int} {k B : Nat} (h : T * k ≤ z * B) (hz : z ≤ z') : T * k ≤ z' * B :=
  Int.le_trans h (Int.mul_le_mul_of_nonneg_right hz (by omega))
theorem mc_q2 {T z z' : Int} {k k' B : Nat} (h : z * B ≤ T * k) (h' : T * k' ≤ z' * B) (hB : 1 ≤ B) : z * k' ≤ z' * k := by
  have a1 : (z * B) * k' ≤ (T * k) * k' := Int.mul_le_mul_of_nonneg_right h (by omega)
  have a2 : (T * k') * k ≤ (z' * B) * k := Int.mul_le_mul_of_nonneg_right h' (by omega)
  have e1 : (z * B) * k' = (z * k') * B := Int.mul_right_comm _ _ _
  have e2 : (T * k) * k' = (T * k') * k := Int.mul_right_comm _ _ _
  have e3 : (z' * B) * k = (z' * k) * B := Int.mul_right_comm _ _ _
  have : (z * k') * B ≤ (z' * k) * B := by rw [← e1, ← e3]; rw [e2] at a1; exact Int.le_trans a1 a2
  exact Int.le_of_mul_le_mul_right this (by omega)
def mc_bf (k' u' k u : Nat) : Prop := k' < k ∨ (k' = k ∧ u' < u)
def mc_O (N : Nat) (W sa : Nat → Int32) (k u : Nat) (T : Int) (B : Nat) : Prop :=
  (B = 0 ∧ T = 0 ∧ ∀ (k' u' : Nat) (z : Int), 1 ≤ k' → u' < N → mc_bf k' u' k u → ¬ mc_Sx N W sa u' u' k' z) ∨
  (1 ≤ B ∧ B ≤ 30 ∧ (∃ u', u' < N ∧ mc_Sx N W sa u' u' B T) ∧ ∀ (k' u' : Nat) (z : Int), 1 ≤ k' → u' < N → mc_bf k' u' k u → mc_Sx N W sa u' u' k' z → T * k' ≤ z * B)
theorem mc_O_b {N : Nat} {W sa : Nat → Int32} {k u : Nat} {T : Int} {B : Nat} (ho : mc_ok W sa) (h : mc_O N W sa k u T B) : B ≤ 30 ∧ -600 ≤ T ∧ T ≤ 600 := by
  rcases h with ⟨h1, h2, _⟩ | ⟨h1, h2, ⟨u', _, h3⟩, _⟩
  · omega
  · have := mc_Sx_b ho h3
    omega
theorem mc_bf_s {k' u' k u : Nat} (h : mc_bf k' u' k (u + 1)) : mc_bf k' u' k u ∨ (k' = k ∧ u' = u) := by
  unfold mc_bf at *
  omega
theorem mc_O_no {N : Nat} {W sa : Nat → Int32} {k u : Nat} {T : Int} {B : Nat} (h : mc_O N W sa k u T B) (hn : ∀ z, ¬ mc_Sx N W sa u u k z) : mc_O N W sa k (u + 1) T B := by
  rcases h with ⟨h1, h2, h3⟩ | ⟨h1, h2, h3, h4⟩
  · refine Or.inl ⟨h1, h2, fun k' u' z a b c => ?_⟩
    rcases mc_bf_s c with c | ⟨rfl, rfl⟩
    · exact h3 k' u' z a b c
    · exact hn z
  · refine Or.inr ⟨h1, h2, h3, fun k' u' z a b c s => ?_⟩
    rcases mc_bf_s c with c | ⟨rfl, rfl⟩
    · exact h4 k' u' z a b c s
    · exact absurd s (hn z)
theorem mc_O_keep {N : Nat} {W sa : Nat → Int32} {k u : Nat} {T z : Int} {B : Nat} (h : mc_O N W sa k u T B) (hB : ¬ B = 0) (hm : ∀ z', mc_Sx N W sa u u k z' → z ≤ z') (hle : T * k ≤ z * B) : mc_O N W sa k (u + 1) T B := by
  rcases h with ⟨h1, h2, h3⟩ | ⟨h1, h2, h3, h4⟩
  · exact absurd h1 hB
  · refine Or.inr ⟨h1, h2, h3, fun k' u' z' a b c s => ?_⟩
    rcases mc_bf_s c with c | ⟨rfl, rfl⟩
    · exact h4 k' u' z' a b c s
    · exact mc_q1 hle (hm z' s)
theorem mc_O_new {N : Nat} {W sa : Nat → Int32} {k u : Nat} {T z : Int} {B : Nat} (h : mc_O N W sa k u T B) (hk : 1 ≤ k) (hk2 : k ≤ 30) (hu : u < N) (hz : mc_Sx N W sa u u k z) (hm : ∀ z', mc_Sx N W sa u u k z' → z ≤ z') (hlt : B = 0 ∨ z * B ≤ T * k) : mc_O N W sa k (u + 1) z k := by
  refine Or.inr ⟨hk, hk2, ⟨u, hu, hz⟩, fun k' u' z' a b c s => ?_⟩
  rcases mc_bf_s c with c | ⟨rfl, rfl⟩
  · rcases h with ⟨h1, h2, h3⟩ | ⟨h1, h2, h3, h4⟩
    · exact absurd s (h3 k' u' z' a b c)
    · exact mc_q2 (hlt.resolve_left (by omega)) (h4 k' u' z' a b c s) h1
  · exact Int.mul_le_mul_of_nonneg_right (hm z' s) (by omega)
theorem mc_of {post : SX → Prop} {N : Nat} {W sa st tm wk : Nat → Int32} {k u : Nat} {T : Int} {B : Nat} {x : Int32} (hO : mc_O N W sa k u T B) (hM : mc_M (mc_Sx N W sa u u k) x) (hk : 1 ≤ k) (hk2 : k ≤ 30) (hu : u < N) (ho : mc_ok W sa) (hp : ∀ T B, mc_O N W sa k (u + 1) T B → post (nI N, mc_I T, nI B, W, st, tm, wk)) : wpX_offer post (nI N, mc_I T, nI B, W, st, tm, wk) x (nI k) := by
  have bO := mc_O_b ho hO
  refine br_c (fun e => hp T B (mc_O_no hO (mc_M_no (fun z hz => ?_) hM e))) (fun ne => ?_)
  · have := mc_Sx_b ho hz
    omega
  · obtain ⟨z, hz, e, hm⟩ := mc_M_some hM ne
    subst e
    have bz := mc_Sx_b ho hz
    refine br_c (fun b0 => hp z k (mc_O_new hO hk hk2 hu hz hm (Or.inl ?_))) (fun nb => br_c (fun le => hp T B (mc_O_keep hO ?_ hm ?_)) (fun gt => hp z k (mc_O_new hO hk hk2 hu hz hm (Or.inr ?_))))
    · rw [← nI_0, nI_eq (by omega) (by omega)] at b0
      exact b0
    · intro h0
      rw [h0] at nb
      exact nb nI_0
    · rw [← mc_I_nat, ← mc_I_nat, mc_cle (by omega) (by omega) (by omega) (by omega) (by omega) (by omega) (by omega) (by omega)] at le
      exact le
    · rw [← mc_I_nat, ← mc_I_nat, mc_cle (by omega) (by omega) (by omega) (by omega) (by omega) (by omega) (by omega) (by omega)] at gt
      omega
theorem mc_r5 {post : SX → Prop} {n : Int32} {W st tm wk : Nat → Int32} {T : Int} {B : Nat} (hT : -600 ≤ T ∧ T ≤ 600) (hB : 1 ≤ B) (hB2 : B ≤ 30) (hp : ∀ (T' : Int) (B' g : Nat), 1 ≤ g → T = T' * g → B = B' * g → mc_cop T' B' → post (n, mc_I T', nI B', W, st, tm, wk)) :
    ∀ d, d ≤ B → (∀ e : Nat, d < e → ¬ ((e : Int) ∣ T ∧ e ∣ B)) → wX_reduceBest_5 post n (mc_I T) (nI B) W st tm wk (d + 1) (nI d) := by
  intro d
  induction d with
  | zero =>
    intro _ h
    exact br_t (nI_le (a := 0) (b := 1) (by omega) (by omega)) (hp T B 1 (by omega) (by omega) (by omega) (fun e he => h e (by omega)))
  | succ d ih =>
    intro hd h
    by_cases h1 : d = 0
    · subst h1
      exact br_t (nI_le (a := 1) (b := 1) (by omega) (by omega)) (hp T B 1 (by omega) (by omega) (by omega) (fun e he => h e (by omega)))
    · have ne : ¬ nI (d + 1) = 0 := nI_ne0 (by omega) (by omega)
      have cT : mc_I T - mc_I T / nI (d + 1) * nI (d + 1) = 0 ↔ ((d + 1 : Nat) : Int) ∣ T := by
        rw [← mc_I_nat]
        exact mc_I_rem (by omega) (by omega) (by omega) (by omega)
      have cB : nI B - nI B / nI (d + 1) * nI (d + 1) = 0 ↔ d + 1 ∣ B := by
        rw [← mc_I_nat, ← mc_I_nat, mc_I_rem (by omega) (by omega) (by omega) (by omega), Int.ofNat_dvd]
      have next : ¬ (((d + 1 : Nat) : Int) ∣ T ∧ d + 1 ∣ B) → ∀ y, y = nI (d + 1) + (-1) → wX_reduceBest_5 post n (mc_I T) (nI B) W st tm wk (d + 1) y := by
        intro hn
        refine nm_r (mc_m1 d) (ih (by omega) (fun e he => ?_))
        by_cases ee : e = d + 1
        · rw [ee]; exact hn
        · exact h e (by omega)
      refine br_f (nI_ge (a := 1) (b := d + 1) (by omega) (by omega)) ⟨ne, br_c (fun dT => ⟨ne, br_c (fun dB => ⟨ne, ?_⟩) (fun nB => next (fun hh => nB (cB.mpr hh.2)))⟩) (fun nT => next (fun hh => nT (cT.mpr hh.1)))⟩
      obtain ⟨T', eT⟩ := cT.mp dT
      obtain ⟨B', eB⟩ := cB.mp dB
      have qT : mc_I T / nI (d + 1) = mc_I T' := by
        rw [← mc_I_nat, mc_I_div (by omega) (by omega) (by omega) (by omega), eT, Int.mul_tdiv_cancel_left _ (by omega)]
      have qB : nI B / nI (d + 1) = nI B' := by
        rw [← mc_I_nat, ← mc_I_nat, mc_I_div (by omega) (by omega) (by omega) (by omega), eB, Int.natCast_mul, Int.mul_tdiv_cancel_left _ (by omega), mc_I_nat]
      refine nm_r qT ⟨ne, nm_r qB (hp T' B' (d + 1) (by omega) (by rw [eT, Int.mul_comm]) (by rw [eB, Nat.mul_comm]) ?_)⟩
      rintro e he ⟨⟨a, ha⟩, ⟨b, hb⟩⟩
      have hlt : d + 1 < (d + 1) * e := by
        have : (d + 1) * 2 ≤ (d + 1) * e := Nat.mul_le_mul_left _ he
        omega
      refine h ((d + 1) * e) hlt ⟨⟨a, ?_⟩, ⟨b, ?_⟩⟩
      · rw [eT, ha, Int.natCast_mul, Int.mul_assoc]
      · rw [eB, hb, Nat.mul_assoc]
/-- the best quotient, in lowest terms -/
def mc_F (N : Nat) (W sa : Nat → Int32) (T : Int) (B : Nat) : Prop :=
  (B = 0 ∧ T = 0 ∧ ∀ (k u : Nat) (z : Int), 1 ≤ k → k ≤ 30 → u < N → ¬ mc_Sx N W sa u u k z) ∨
  (1 ≤ B ∧ B ≤ 30 ∧ Nat.gcd T.natAbs B = 1 ∧ (∃ (k u : Nat) (z : Int), 1 ≤ k ∧ k ≤ 30 ∧ u < N ∧ mc_Sx N W sa u u k z ∧ T * k = z * B) ∧ ∀ (k u : Nat) (z : Int), 1 ≤ k → k ≤ 30 → u < N → mc_Sx N W sa u u k z → T * k ≤ z * B)
theorem mc_rB {post : SX → Prop} {N : Nat} {W sa st tm wk : Nat → Int32} {T : Int} {B : Nat} (ho : mc_ok W sa) (hO : mc_O N W sa 31 0 T B) (hp : ∀ T' B', -600 ≤ T' → T' ≤ 600 → mc_F N W sa T' B' → post (nI N, mc_I T', nI B', W, st, tm, wk)) : wpX_reduceBest post (nI N, mc_I T, nI B, W, st, tm, wk) := by
  have bO := mc_O_b ho hO
  rcases hO with ⟨h1, h2, h3⟩ | ⟨h1, h2, ⟨u', hu', h3⟩, h4⟩
  · subst h1 h2
    exact ⟨1, br_t (nI_le (a := 0) (b := 1) (by omega) (by omega)) (hp 0 0 (by omega) (by omega) (Or.inl ⟨rfl, rfl, fun k u z a b c => h3 k u z a c (Or.inl (by omega))⟩))⟩
  · refine ⟨B + 1, mc_r5 bO.2 h1 h2 (fun T' B' g hg eT eB hc => ?_) B (Nat.le_refl _) (fun e he hh => ?_)⟩
    · have hB' : 1 ≤ B' := by
        rcases Nat.eq_zero_or_pos B' with h | h
        · rw [h] at eB; omega
        · exact h
      have hB3 : B' ≤ 30 := by
        have : B' * 1 ≤ B' * g := Nat.mul_le_mul_left _ hg
        omega
      have hT3 : -600 ≤ T' ∧ T' ≤ 600 := by
        have e := congrArg Int.natAbs eT
        rw [Int.natAbs_mul, Int.natAbs_natCast] at e
        have : T'.natAbs * 1 ≤ T'.natAbs * g := Nat.mul_le_mul_left _ hg
        omega
      refine hp T' B' hT3.1 hT3.2 (Or.inr ⟨hB', hB3, mc_cop_gcd hB' hc, ⟨B, u', T, h1, h2, hu', h3, ?_⟩, fun k u z a b c s => ?_⟩)
      · rw [eT, eB, Int.natCast_mul, Int.mul_assoc T' g B', Int.mul_comm (g : Int)]
      · have := h4 k u z a c (Or.inl (by omega)) s
        rw [eT, eB, Int.natCast_mul, ← Int.mul_assoc, Int.mul_right_comm] at this
        exact Int.le_of_mul_le_mul_right this (by omega)
    · have := Nat.le_of_dvd (by omega) hh.2
      omega
theorem mc_F_le {N : Nat} {W sa : Nat → Int32} {T : Int} {B : Nat} (h : mc_F N W sa T B) : ∀ (k u : Nat) (z : Int), 1 ≤ k → k ≤ 30 → u < N → mc_Sx N W sa u u k z → T * k ≤ z * B := by
  rcases h with ⟨_, _, h⟩ | ⟨_, _, _, _, h⟩
  · exact fun k u z a b c s => absurd s (h k u z a b c)
  · exact h
theorem mc_F_b {N : Nat} {W sa : Nat → Int32} {T : Int} {B : Nat} (h : mc_F N W sa T B) : B ≤ 30 := by
  rcases h with ⟨h, _⟩ | ⟨_, h, _⟩
  · omega
  · exact h
/-! is a point on a best closed walk -/
def mc_BP (N : Nat) (W sa : Nat → Int32) (T : Int) (B : Nat) (u : Nat) : Prop := ∃ (k : Nat) (z : Int), 1 ≤ k ∧ k ≤ 30 ∧ mc_Sx N W sa u u k z ∧ z * B = T * k
theorem mc_isB {post : Int32 → Prop} {n : Int32} {W st tm wk : Nat → Int32} {T z : Int} {B k : Nat} (hT : -600 ≤ T ∧ T ≤ 600) (hB : B ≤ 30) (hz : -1000 ≤ z ∧ z ≤ 1000) (hk : k ≤ 100) (h1 : z * B = T * k → post 1) (h0 : ¬ z * B = T * k → post 0) : wpX_isBest post (n, mc_I T, nI B, W, st, tm, wk) (mc_I z) (nI k) := by
  have c : mc_I z * nI B = mc_I T * nI k ↔ z * B = T * k := by
    rw [← mc_I_nat, ← mc_I_nat, mc_ceq (by omega) (by omega) (by omega) (by omega) (by omega) (by omega) (by omega) (by omega)]
  exact br_c (fun e => h1 (c.mp e)) (fun ne => h0 (fun e => ne (c.mpr e)))
theorem mc_bp2 {post : Int32 → Prop} {N : Nat} {W sa st tm wk : Nat → Int32} {T : Int} {B u : Nat} (hN : N ≤ 6) (hu : u < N) (ho : mc_ok W sa) (hd : mc_D N W sa 31 0 0 wk) (hT : -600 ≤ T ∧ T ≤ 600) (hB : B ≤ 30) (h1 : mc_BP N W sa T B u → post 1) (h0 : (∀ (k : Nat) (z : Int), 1 ≤ k → k ≤ 30 → mc_Sx N W sa u u k z → (∀ z', mc_Sx N W sa u u k z' → z ≤ z') → ¬ z * B = T * k) → post 0) :
    ∀ m k, k + m = 31 → 1 ≤ k → (∀ (k' : Nat) (z : Int), 1 ≤ k' → k' < k → mc_Sx N W sa u u k' z → (∀ z', mc_Sx N W sa u u k' z' → z ≤ z') → ¬ z * B = T * k') → wX_isBestPoint_2 post (nI u) (nI N) (mc_I T) (nI B) W st tm wk (m + 1) (nI k) := by
  intro m
  induction m with
  | zero =>
    intro k hk hk1 hq
    have e : k = 31 := by omega
    subst e
    exact br_t (nI_lt (a := 30) (by omega) (by omega)) (h0 (fun k z a b => hq k z a (by omega)))
  | succ m ih =>
    intro k hk hk1 hq
    have hc : (nI (k * 36 + u * 6 + u)).toNatClampNeg = k * 36 + u * 6 + u := nI_clamp (by omega)
    have hin : vp_in (nI (k * 36 + u * 6 + u)) 1116 := vp_in_nI (by omega) (by omega)
    have hM := hd k u u hu hu (Or.inl (by omega))
    have skip : (∀ z : Int, mc_Sx N W sa u u k z → (∀ z', mc_Sx N W sa u u k z' → z ≤ z') → ¬ z * B = T * k) → ∀ y, y = nI k + 1 → wX_isBestPoint_2 post (nI u) (nI N) (mc_I T) (nI B) W st tm wk (m + 1) y := by
      intro hn
      refine nm_r (nI_1 k) (ih (k + 1) (by omega) (by omega) (fun k' z a b => ?_))
      by_cases e : k' = k
      · subst e; exact hn z
      · exact hq k' z a (by omega)
    refine br_f (fun hlt => absurd hlt (Int32.not_lt.mpr (nI_le (a := k) (b := 30) (by omega) (by omega)))) (mc_wO ⟨hin, br_c (fun e1 => skip ?_) (fun ne1 => ⟨hin, ?_⟩)⟩)
    · rw [hc] at e1
      intro z hz
      refine absurd hz (mc_M_no (fun z hz => ?_) hM e1 z)
      have b := mc_Sx_b ho hz
      omega
    · rw [hc] at ne1 ⊢
      obtain ⟨z, hz, ez, hmin⟩ := mc_M_some hM ne1
      have b := mc_Sx_b ho hz
      rw [ez]
      refine mc_isB hT hB (by omega) (by omega) (fun e => br_f (by decide) (h1 ⟨k, z, hk1, by omega, hz, e⟩)) (fun ne => br_t rfl (skip (fun z' hz' hm' => ?_)))
      have : z' = z := Int.le_antisymm (hm' z hz) (hmin z' hz')
      rw [this]
      exact ne
theorem mc_bp {post : Int32 → Prop} {N : Nat} {W sa st tm wk : Nat → Int32} {T : Int} {B u : Nat} (hN : N ≤ 6) (hu : u < N) (ho : mc_ok W sa) (hd : mc_D N W sa 31 0 0 wk) (hT : -600 ≤ T ∧ T ≤ 600) (hF : mc_F N W sa T B) (h1 : mc_BP N W sa T B u → post 1) (h0 : ¬ mc_BP N W sa T B u → post 0) : wpX_isBestPoint post (nI N, mc_I T, nI B, W, st, tm, wk) (nI u) := by
  refine ⟨31, mc_bp2 hN hu ho hd hT (mc_F_b hF) h1 (fun hq => h0 ?_) 30 1 (by omega) (by omega) (fun k' z a b => by omega)⟩
  rintro ⟨k, z, hk, hk2, hz, e⟩
  rcases hd k u u hu hu (Or.inl (by omega)) with ⟨_, h⟩ | ⟨z0, hz0, _, hmin⟩
  · exact h z hz
  · have l1 := mc_F_le hF k u z0 hk hk2 hu hz0
    have l2 : z0 * (B : Int) ≤ z * B := Int.mul_le_mul_of_nonneg_right (hmin z hz) (by omega)
    exact hq k z0 hk hk2 hz0 hmin (by omega)
theorem mc_mp {post : Int32 → SX → Prop} {N : Nat} {W sa st tm wk : Nat → Int32} {T : Int} {B : Nat} (hN : N ≤ 6) (ho : mc_ok W sa) (hd : mc_D N W sa 31 0 0 wk) (hT : -600 ≤ T ∧ T ≤ 600) (hF : mc_F N W sa T B) (hp : ∀ x, (∀ i, i < 32 → (bt x i = true ↔ i < N ∧ mc_BP N W sa T B i)) → post x (nI N, mc_I T, nI B, W, st, tm, wk)) :
    ∀ m u x, u + m = N → (∀ i, i < 32 → (bt x i = true ↔ i < u ∧ mc_BP N W sa T B i)) → wX_meanPoints_12 post (nI N) (mc_I T) (nI B) W st tm wk (m + 1) x (nI u) := by
  intro m
  induction m with
  | zero =>
    intro u x hu hx
    have e : u = N := by omega
    subst e
    exact br_t (nI_le (Nat.le_refl _) (by omega)) (hp x hx)
  | succ m ih =>
    intro u x hu hx
    refine br_f (nI_ge (by omega) (by omega)) (mc_bp hN (by omega) ho hd hT hF (fun h => br_f (by decide) (nm_e (nm_r (nI_1 u) (ih (u + 1) _ (by omega) (fun i hi => ?_))))) (fun h => br_t rfl (nm_r (nI_1 u) (ih (u + 1) _ (by omega) (fun i hi => ?_)))))
    · rw [mc_set x (by omega) hi, hx i hi]
      constructor
      · rintro (⟨a, b⟩ | rfl)
        · exact ⟨by omega, b⟩
        · exact ⟨by omega, h⟩
      · rintro ⟨a, b⟩
        by_cases e : i = u
        · exact Or.inr e
        · exact Or.inl ⟨by omega, b⟩
    · rw [hx i hi]
      constructor
      · rintro ⟨a, b⟩; exact ⟨by omega, b⟩
      · rintro ⟨a, b⟩
        by_cases e : i = u
        · subst e; exact absurd b h
        · exact ⟨by omega, b⟩
/-! is a point on a closed walk -/
def mc_CP (N : Nat) (W sa : Nat → Int32) (u : Nat) : Prop := ∃ (k : Nat) (z : Int), 1 ≤ k ∧ k ≤ 30 ∧ mc_Sx N W sa u u k z
theorem mc_oc2 {post : Int32 → Prop} {N : Nat} {tp bm : Int32} {W sa st tm wk : Nat → Int32} {u : Nat} (hN : N ≤ 6) (hu : u < N) (ho : mc_ok W sa) (hd : mc_D N W sa 31 0 0 wk) (h1 : mc_CP N W sa u → post 1) (h0 : ¬ mc_CP N W sa u → post 0) :
    ∀ m k, k + m = 31 → 1 ≤ k → (∀ (k' : Nat) (z : Int), 1 ≤ k' → k' < k → ¬ mc_Sx N W sa u u k' z) → wX_isOnCircle_2 post (nI u) (nI N) tp bm W st tm wk (m + 1) (nI k) := by
  intro m
  induction m with
  | zero =>
    intro k hk hk1 hq
    have e : k = 31 := by omega
    subst e
    refine br_t (nI_lt (a := 30) (by omega) (by omega)) (h0 ?_)
    rintro ⟨k, z, a, b, c⟩
    exact hq k z a (by omega) c
  | succ m ih =>
    intro k hk hk1 hq
    have hc : (nI (k * 36 + u * 6 + u)).toNatClampNeg = k * 36 + u * 6 + u := nI_clamp (by omega)
    have hin : vp_in (nI (k * 36 + u * 6 + u)) 1116 := vp_in_nI (by omega) (by omega)
    have hM := hd k u u hu hu (Or.inl (by omega))
    refine br_f (fun hlt => absurd hlt (Int32.not_lt.mpr (nI_le (a := k) (b := 30) (by omega) (by omega)))) (mc_wO ⟨hin, br_c (fun e1 => nm_r (nI_1 k) (ih (k + 1) (by omega) (by omega) (fun k' z a b => ?_))) (fun ne1 => ?_)⟩)
    · by_cases e : k' = k
      · subst e
        rw [hc] at e1
        refine mc_M_no (fun z hz => ?_) hM e1 z
        have b := mc_Sx_b ho hz
        omega
      · exact hq k' z a (by omega)
    · rw [hc] at ne1
      obtain ⟨z, hz, _, _⟩ := mc_M_some hM ne1
      exact h1 ⟨k, z, hk1, by omega, hz⟩
theorem mc_oc {post : Int32 → SX → Prop} {N : Nat} {tp bm : Int32} {W sa st tm wk : Nat → Int32} (hN : N ≤ 6) (ho : mc_ok W sa) (hd : mc_D N W sa 31 0 0 wk) (hp : ∀ x, (∀ i, i < 32 → (bt x i = true ↔ i < N ∧ mc_CP N W sa i)) → post x (nI N, tp, bm, W, st, tm, wk)) :
    ∀ m u x, u + m = N → (∀ i, i < 32 → (bt x i = true ↔ i < u ∧ mc_CP N W sa i)) → wX_onCircle_12 post (nI N) tp bm W st tm wk (m + 1) x (nI u) := by
  intro m
  induction m with
  | zero =>
    intro u x hu hx
    have e : u = N := by omega
    subst e
    exact br_t (nI_le (Nat.le_refl _) (by omega)) (hp x hx)
  | succ m ih =>
    intro u x hu hx
    refine br_f (nI_ge (by omega) (by omega)) ⟨31, mc_oc2 hN (by omega) ho hd (fun h => br_f (by decide) (nm_e (nm_r (nI_1 u) (ih (u + 1) _ (by omega) (fun i hi => ?_))))) (fun h => br_t rfl (nm_r (nI_1 u) (ih (u + 1) _ (by omega) (fun i hi => ?_)))) 30 1 (by omega) (by omega) (fun k' z a b => by omega)⟩
    · rw [mc_set x (by omega) hi, hx i hi]
      constructor
      · rintro (⟨a, b⟩ | rfl)
        · exact ⟨by omega, b⟩
        · exact ⟨by omega, h⟩
      · rintro ⟨a, b⟩
        by_cases e : i = u
        · exact Or.inr e
        · exact Or.inl ⟨by omega, b⟩
    · rw [hx i hi]
      constructor
      · rintro ⟨a, b⟩; exact ⟨by omega, b⟩
      · rintro ⟨a, b⟩
        by_cases e : i = u
        · subst e; exact absurd b h
        · exact ⟨by omega, b⟩
def mc_BA (N : Nat) (W sa : Nat → Int32) (T : Int) (B : Nat) (u v : Nat) : Prop := ∃ (r : Nat) (z : Int), r + mc_fw sa u v ≤ 30 ∧ mc_Sx N W sa v u r z ∧ (z + mc_fw W u v) * B = T * (r + mc_fw sa u v)
end MC06

section MC06steps
variable (N : Nat) (W st tm : Nat → Int32)
theorem mc_b25_steps {post : SX → Prop} {J17 : Int32 → Int32 → Int32 → Int32 → (Nat → Int32) → (Nat → Int32) → (Nat → Int32) → (Nat → Int32) → Prop} {k : Nat} {wk : Nat → Int32} (hN : N ≤ 6) (hk : 1 ≤ k) (hk2 : k ≤ 30) (ho : mc_ok W st) (hd : mc_D N W st 31 0 0 wk) (hJ : ∀ T B, mc_O N W st k N T B → J17 (nI (k + 1)) (nI N) (mc_I T) (nI B) W st tm wk) :
    ∀ m u T B, u + m = N → mc_O N W st k u T B → wX_findBest__steps_25 post J17 (nI k) (m + 1) (nI u) (nI N) (mc_I T) (nI B) W st tm wk := by
  intro m
  induction m with
  | zero =>
    intro u T B hu hO
    have e : u = N := by omega
    subst e
    exact br_t (nI_le (Nat.le_refl _) (by omega)) (nm_r (nI_1 k) (hJ T B hO))
  | succ m ih =>
    intro u T B hu hO
    have hc : (nI (k * 36 + u * 6 + u)).toNatClampNeg = k * 36 + u * 6 + u := nI_clamp (by omega)
    have hin : vp_in (nI (k * 36 + u * 6 + u)) 1116 := vp_in_nI (by omega) (by omega)
    have hM : mc_M (mc_Sx N W st u u k) (wk (nI (k * 36 + u * 6 + u)).toNatClampNeg) := by
      rw [hc]
      exact hd k u u (by omega) (by omega) (Or.inl (by omega))
    exact br_f (nI_ge (by omega) (by omega)) (mc_wO ⟨hin, mc_of hO hM hk hk2 (by omega) ho (fun T' B' hO' => nm_r (nI_1 u) (ih (u + 1) T' B' (by omega) hO'))⟩)
theorem mc_O_u_steps {k : Nat} {T : Int} {B : Nat} (h : mc_O N W st k N T B) : mc_O N W st (k + 1) 0 T B := by
  have hb : ∀ k' u', u' < N → mc_bf k' u' (k + 1) 0 → mc_bf k' u' k N := by
    intro k' u' h1 h2
    unfold mc_bf at *
    omega
  rcases h with ⟨h1, h2, h3⟩ | ⟨h1, h2, h3, h4⟩
  · exact Or.inl ⟨h1, h2, fun k' u' z a b c => h3 k' u' z a b (hb k' u' b c)⟩
  · exact Or.inr ⟨h1, h2, h3, fun k' u' z a b c => h4 k' u' z a b (hb k' u' b c)⟩
theorem mc_b17_steps {post : SX → Prop} {wk : Nat → Int32} (hN : N ≤ 6) (ho : mc_ok W st) (hd : mc_D N W st 31 0 0 wk) (hp : ∀ T B, -600 ≤ T → T ≤ 600 → mc_F N W st T B → post (nI N, mc_I T, nI B, W, st, tm, wk)) :
    ∀ m k T B, k + m = 31 → 1 ≤ k → mc_O N W st k 0 T B → wX_findBest__steps_17 post (m + 1) (nI k) (nI N) (mc_I T) (nI B) W st tm wk := by
  intro m
  induction m with
  | zero =>
    intro k T B hk hk1 hO
    have e : k = 31 := by omega
    subst e
    exact br_t (nI_lt (a := 30) (by omega) (by omega)) (mc_rB ho hO hp)
  | succ m ih =>
    intro k T B hk hk1 hO
    exact br_f (fun hlt => absurd hlt (Int32.not_lt.mpr (nI_le (a := k) (b := 30) (by omega) (by omega)))) ⟨N + 1, mc_b25_steps N W st tm hN hk1 (by omega) ho hd (fun T' B' hO' => ih (k + 1) T' B' (by omega) (by omega) (mc_O_u_steps N W st hO')) N 0 T B (by omega) hO⟩
theorem mc_fB_steps {post : SX → Prop} {tp bm : Int32} {wk : Nat → Int32} (hN : N ≤ 6) (ho : mc_ok W st) (hp : ∀ wk T B, -600 ≤ T → T ≤ 600 → mc_D N W st 31 0 0 wk → mc_F N W st T B → post (nI N, mc_I T, nI B, W, st, tm, wk)) : wpX_findBest__steps post (nI N, tp, bm, W, st, tm, wk) := by
  refine mc_fW_steps N tp bm W st tm hN ho (fun wk' hd => ⟨31, mc_b17_steps N W st tm hN ho hd (fun T B a b h => hp wk' T B a b hd h) 30 1 0 0 (by omega) (by omega) (Or.inl ⟨rfl, rfl, fun k' u' z a b c => ?_⟩)⟩)
  unfold mc_bf at c
  omega
theorem mc_a10_steps {post : Int32 → Prop} {wk : Nat → Int32} {T : Int} {B u v s : Nat} (hN : N ≤ 6) (hu : u < N) (hv : v < N) (ho : mc_ok W st) (hd : mc_D N W st 31 0 0 wk) (hT : -600 ≤ T ∧ T ≤ 600) (hB : B ≤ 30) (hs : (s : Int) = mc_fw st u v) (hs1 : 1 ≤ s) (hs5 : s ≤ 5) (h1 : mc_BA N W st T B u v → post 1) (h0 : (∀ (r : Nat) (z : Int), r + s ≤ 30 → mc_Sx N W st v u r z → (∀ z', mc_Sx N W st v u r z' → z ≤ z') → ¬ (z + mc_fw W u v) * B = T * ((r + s : Nat) : Int)) → post 0) :
    ∀ m r, r + m + s = 31 → (∀ (r' : Nat) (z : Int), r' < r → mc_Sx N W st v u r' z → (∀ z', mc_Sx N W st v u r' z' → z ≤ z') → ¬ (z + mc_fw W u v) * B = T * ((r' + s : Nat) : Int)) → wX_isBestArc__steps_10 post (nI u) (nI v) (nI (6 * u + v)) (nI N) (mc_I T) (nI B) W st tm wk (m + 1) (nI r) := by
  have hcp : (nI (6 * u + v)).toNatClampNeg = 6 * u + v := nI_clamp (by omega)
  have hinp : vp_in (nI (6 * u + v)) 36 := vp_in_nI (by omega) (by omega)
  have hS : st (nI (6 * u + v)).toNatClampNeg = nI s := by
    rw [hcp, ← mc_I_nat, hs]
    exact (mc_I_of _).symm
  have hW : W (nI (6 * u + v)).toNatClampNeg = mc_I (mc_fw W u v) := by
    rw [hcp]
    exact (mc_I_of _).symm
  have bW : -20 ≤ mc_fw W u v ∧ mc_fw W u v ≤ 20 := ho.1 _
  intro m
  induction m with
  | zero =>
    intro r hr hq
    refine ⟨hinp, br_t ?_ (h0 (fun r' z a => hq r' z (by omega)))⟩
    rw [hS, nI_add]
    exact nI_lt (a := 30) (by omega) (by omega)
  | succ m ih =>
    intro r hr hq
    have hc : (nI (r * 36 + v * 6 + u)).toNatClampNeg = r * 36 + v * 6 + u := nI_clamp (by omega)
    have hin : vp_in (nI (r * 36 + v * 6 + u)) 1116 := vp_in_nI (by omega) (by omega)
    have hM := hd r v u hv hu (Or.inl (by omega))
    have skip : (∀ z : Int, mc_Sx N W st v u r z → (∀ z', mc_Sx N W st v u r z' → z ≤ z') → ¬ (z + mc_fw W u v) * B = T * ((r + s : Nat) : Int)) → ∀ y, y = nI r + 1 → wX_isBestArc__steps_10 post (nI u) (nI v) (nI (6 * u + v)) (nI N) (mc_I T) (nI B) W st tm wk (m + 1) y := by
      intro hn
      refine nm_r (nI_1 r) (ih (r + 1) (by omega) (fun r' z a => ?_))
      by_cases e : r' = r
      · subst e; exact hn z
      · exact hq r' z (by omega)
    refine ⟨hinp, br_f ?_ (mc_wO ⟨hin, br_c (fun e1 => skip ?_) (fun ne1 => ⟨hin, hinp, hinp, ?_⟩)⟩)⟩
    · rw [hS, nI_add]
      exact Int32.not_lt.mpr (nI_le (b := 30) (by omega) (by omega))
    · rw [hc] at e1
      intro z hz
      refine absurd hz (mc_M_no (fun z hz => ?_) hM e1 z)
      have b := mc_Sx_b ho hz
      omega
    · rw [hc] at ne1 ⊢
      obtain ⟨z, hz, ez, hmin⟩ := mc_M_some hM ne1
      have b := mc_Sx_b ho hz
      rw [ez, hS, hW, nI_add, mc_I_add]
      refine mc_isB hT hB (by omega) (by omega) (fun e => br_f (by decide) (h1 ⟨r, z, by omega, hz, ?_⟩)) (fun ne => br_t rfl (skip (fun z' hz' hm' => ?_)))
      · rw [← hs, e, Int.natCast_add]
      · have : z' = z := Int.le_antisymm (hm' z hz) (hmin z' hz')
        rw [this]
        exact ne
theorem mc_bA_steps {post : Int32 → Prop} {wk : Nat → Int32} {T : Int} {B u v : Nat} (hN : N ≤ 6) (hA : mc_A N (mc_E st) u v) (ho : mc_ok W st) (hd : mc_D N W st 31 0 0 wk) (hT : -600 ≤ T ∧ T ≤ 600) (hF : mc_F N W st T B) (h1 : mc_BA N W st T B u v → post 1) (h0 : ¬ mc_BA N W st T B u v → post 0) : wpX_isBestArc__steps post (nI N, mc_I T, nI B, W, st, tm, wk) (nI u) (nI v) := by
  have hs := ho.2 _ (mc_E_t.mp hA.2.2)
  have hs' : 1 ≤ mc_fw st u v ∧ mc_fw st u v ≤ 5 := hs
  obtain ⟨s, es⟩ : ∃ s : Nat, (s : Int) = mc_fw st u v := ⟨(mc_fw st u v).toNat, by omega⟩
  unfold wpX_isBestArc__steps
  dsimp only
  refine mc_pO ⟨31 - s + 1, mc_a10_steps N W st tm hN hA.1 hA.2.1 ho hd hT (mc_F_b hF) es (by omega) (by omega) h1 (fun hq => h0 ?_) (31 - s) 0 (by omega) (fun r' z a => by omega)⟩
  rintro ⟨r, z, hr, hz, e⟩
  rcases hd r v u hA.2.1 hA.1 (Or.inl (by omega)) with ⟨_, h⟩ | ⟨z0, hz0, _, hmin⟩
  · exact h z hz
  · have hcl := mc_S_pre hz0 hA
    have er : ((r + s : Nat) : Int) = r + mc_fw st u v := by rw [Int.natCast_add, es]
    rw [← er] at hcl e
    have l1 := mc_F_le hF (r + s) u _ (by omega) (by omega) hA.1 hcl
    have l2 : (z0 + mc_fw W u v) * (B : Int) ≤ (z + mc_fw W u v) * B := Int.mul_le_mul_of_nonneg_right (by have := hmin z hz; omega) (by omega)
    exact hq r z0 (by omega) hz0 hmin (by omega)
end MC06steps

section MC06times
variable (N : Nat) (W st tm : Nat → Int32)
theorem mc_b25_times {post : SX → Prop} {J17 : Int32 → Int32 → Int32 → Int32 → (Nat → Int32) → (Nat → Int32) → (Nat → Int32) → (Nat → Int32) → Prop} {k : Nat} {wk : Nat → Int32} (hN : N ≤ 6) (hk : 1 ≤ k) (hk2 : k ≤ 30) (ho : mc_ok W tm) (hd : mc_D N W tm 31 0 0 wk) (hJ : ∀ T B, mc_O N W tm k N T B → J17 (nI (k + 1)) (nI N) (mc_I T) (nI B) W st tm wk) :
    ∀ m u T B, u + m = N → mc_O N W tm k u T B → wX_findBest__times_25 post J17 (nI k) (m + 1) (nI u) (nI N) (mc_I T) (nI B) W st tm wk := by
  intro m
  induction m with
  | zero =>
    intro u T B hu hO
    have e : u = N := by omega
    subst e
    exact br_t (nI_le (Nat.le_refl _) (by omega)) (nm_r (nI_1 k) (hJ T B hO))
  | succ m ih =>
    intro u T B hu hO
    have hc : (nI (k * 36 + u * 6 + u)).toNatClampNeg = k * 36 + u * 6 + u := nI_clamp (by omega)
    have hin : vp_in (nI (k * 36 + u * 6 + u)) 1116 := vp_in_nI (by omega) (by omega)
    have hM : mc_M (mc_Sx N W tm u u k) (wk (nI (k * 36 + u * 6 + u)).toNatClampNeg) := by
      rw [hc]
      exact hd k u u (by omega) (by omega) (Or.inl (by omega))
    exact br_f (nI_ge (by omega) (by omega)) (mc_wO ⟨hin, mc_of hO hM hk hk2 (by omega) ho (fun T' B' hO' => nm_r (nI_1 u) (ih (u + 1) T' B' (by omega) hO'))⟩)
theorem mc_O_u_times {k : Nat} {T : Int} {B : Nat} (h : mc_O N W tm k N T B) : mc_O N W tm (k + 1) 0 T B := by
  have hb : ∀ k' u', u' < N → mc_bf k' u' (k + 1) 0 → mc_bf k' u' k N := by
    intro k' u' h1 h2
    unfold mc_bf at *
    omega
  rcases h with ⟨h1, h2, h3⟩ | ⟨h1, h2, h3, h4⟩
  · exact Or.inl ⟨h1, h2, fun k' u' z a b c => h3 k' u' z a b (hb k' u' b c)⟩
  · exact Or.inr ⟨h1, h2, h3, fun k' u' z a b c => h4 k' u' z a b (hb k' u' b c)⟩
theorem mc_b17_times {post : SX → Prop} {wk : Nat → Int32} (hN : N ≤ 6) (ho : mc_ok W tm) (hd : mc_D N W tm 31 0 0 wk) (hp : ∀ T B, -600 ≤ T → T ≤ 600 → mc_F N W tm T B → post (nI N, mc_I T, nI B, W, st, tm, wk)) :
    ∀ m k T B, k + m = 31 → 1 ≤ k → mc_O N W tm k 0 T B → wX_findBest__times_17 post (m + 1) (nI k) (nI N) (mc_I T) (nI B) W st tm wk := by
  intro m
  induction m with
  | zero =>
    intro k T B hk hk1 hO
    have e : k = 31 := by omega
    subst e
    exact br_t (nI_lt (a := 30) (by omega) (by omega)) (mc_rB ho hO hp)
  | succ m ih =>
    intro k T B hk hk1 hO
    exact br_f (fun hlt => absurd hlt (Int32.not_lt.mpr (nI_le (a := k) (b := 30) (by omega) (by omega)))) ⟨N + 1, mc_b25_times N W st tm hN hk1 (by omega) ho hd (fun T' B' hO' => ih (k + 1) T' B' (by omega) (by omega) (mc_O_u_times N W tm hO')) N 0 T B (by omega) hO⟩
theorem mc_fB_times {post : SX → Prop} {tp bm : Int32} {wk : Nat → Int32} (hN : N ≤ 6) (ho : mc_ok W tm) (hp : ∀ wk T B, -600 ≤ T → T ≤ 600 → mc_D N W tm 31 0 0 wk → mc_F N W tm T B → post (nI N, mc_I T, nI B, W, st, tm, wk)) : wpX_findBest__times post (nI N, tp, bm, W, st, tm, wk) := by
  refine mc_fW_times N tp bm W st tm hN ho (fun wk' hd => ⟨31, mc_b17_times N W st tm hN ho hd (fun T B a b h => hp wk' T B a b hd h) 30 1 0 0 (by omega) (by omega) (Or.inl ⟨rfl, rfl, fun k' u' z a b c => ?_⟩)⟩)
  unfold mc_bf at c
  omega
theorem mc_a10_times {post : Int32 → Prop} {wk : Nat → Int32} {T : Int} {B u v s : Nat} (hN : N ≤ 6) (hu : u < N) (hv : v < N) (ho : mc_ok W tm) (hd : mc_D N W tm 31 0 0 wk) (hT : -600 ≤ T ∧ T ≤ 600) (hB : B ≤ 30) (hs : (s : Int) = mc_fw tm u v) (hs1 : 1 ≤ s) (hs5 : s ≤ 5) (h1 : mc_BA N W tm T B u v → post 1) (h0 : (∀ (r : Nat) (z : Int), r + s ≤ 30 → mc_Sx N W tm v u r z → (∀ z', mc_Sx N W tm v u r z' → z ≤ z') → ¬ (z + mc_fw W u v) * B = T * ((r + s : Nat) : Int)) → post 0) :
    ∀ m r, r + m + s = 31 → (∀ (r' : Nat) (z : Int), r' < r → mc_Sx N W tm v u r' z → (∀ z', mc_Sx N W tm v u r' z' → z ≤ z') → ¬ (z + mc_fw W u v) * B = T * ((r' + s : Nat) : Int)) → wX_isBestArc__times_10 post (nI u) (nI v) (nI (6 * u + v)) (nI N) (mc_I T) (nI B) W st tm wk (m + 1) (nI r) := by
  have hcp : (nI (6 * u + v)).toNatClampNeg = 6 * u + v := nI_clamp (by omega)
  have hinp : vp_in (nI (6 * u + v)) 36 := vp_in_nI (by omega) (by omega)
  have hS : tm (nI (6 * u + v)).toNatClampNeg = nI s := by
    rw [hcp, ← mc_I_nat, hs]
    exact (mc_I_of _).symm
  have hW : W (nI (6 * u + v)).toNatClampNeg = mc_I (mc_fw W u v) := by
    rw [hcp]
    exact (mc_I_of _).symm
  have bW : -20 ≤ mc_fw W u v ∧ mc_fw W u v ≤ 20 := ho.1 _
  intro m
  induction m with
  | zero =>
    intro r hr hq
    refine ⟨hinp, br_t ?_ (h0 (fun r' z a => hq r' z (by omega)))⟩
    rw [hS, nI_add]
    exact nI_lt (a := 30) (by omega) (by omega)
  | succ m ih =>
    intro r hr hq
    have hc : (nI (r * 36 + v * 6 + u)).toNatClampNeg = r * 36 + v * 6 + u := nI_clamp (by omega)
    have hin : vp_in (nI (r * 36 + v * 6 + u)) 1116 := vp_in_nI (by omega) (by omega)
    have hM := hd r v u hv hu (Or.inl (by omega))
    have skip : (∀ z : Int, mc_Sx N W tm v u r z → (∀ z', mc_Sx N W tm v u r z' → z ≤ z') → ¬ (z + mc_fw W u v) * B = T * ((r + s : Nat) : Int)) → ∀ y, y = nI r + 1 → wX_isBestArc__times_10 post (nI u) (nI v) (nI (6 * u + v)) (nI N) (mc_I T) (nI B) W st tm wk (m + 1) y := by
      intro hn
      refine nm_r (nI_1 r) (ih (r + 1) (by omega) (fun r' z a => ?_))
      by_cases e : r' = r
      · subst e; exact hn z
      · exact hq r' z (by omega)
    refine ⟨hinp, br_f ?_ (mc_wO ⟨hin, br_c (fun e1 => skip ?_) (fun ne1 => ⟨hin, hinp, hinp, ?_⟩)⟩)⟩
    · rw [hS, nI_add]
      exact Int32.not_lt.mpr (nI_le (b := 30) (by omega) (by omega))
    · rw [hc] at e1
      intro z hz
      refine absurd hz (mc_M_no (fun z hz => ?_) hM e1 z)
      have b := mc_Sx_b ho hz
      omega
    · rw [hc] at ne1 ⊢
      obtain ⟨z, hz, ez, hmin⟩ := mc_M_some hM ne1
      have b := mc_Sx_b ho hz
      rw [ez, hS, hW, nI_add, mc_I_add]
      refine mc_isB hT hB (by omega) (by omega) (fun e => br_f (by decide) (h1 ⟨r, z, by omega, hz, ?_⟩)) (fun ne => br_t rfl (skip (fun z' hz' hm' => ?_)))
      · rw [← hs, e, Int.natCast_add]
      · have : z' = z := Int.le_antisymm (hm' z hz) (hmin z' hz')
        rw [this]
        exact ne
theorem mc_bA_times {post : Int32 → Prop} {wk : Nat → Int32} {T : Int} {B u v : Nat} (hN : N ≤ 6) (hA : mc_A N (mc_E tm) u v) (ho : mc_ok W tm) (hd : mc_D N W tm 31 0 0 wk) (hT : -600 ≤ T ∧ T ≤ 600) (hF : mc_F N W tm T B) (h1 : mc_BA N W tm T B u v → post 1) (h0 : ¬ mc_BA N W tm T B u v → post 0) : wpX_isBestArc__times post (nI N, mc_I T, nI B, W, st, tm, wk) (nI u) (nI v) := by
  have hs := ho.2 _ (mc_E_t.mp hA.2.2)
  have hs' : 1 ≤ mc_fw tm u v ∧ mc_fw tm u v ≤ 5 := hs
  obtain ⟨s, es⟩ : ∃ s : Nat, (s : Int) = mc_fw tm u v := ⟨(mc_fw tm u v).toNat, by omega⟩
  unfold wpX_isBestArc__times
  dsimp only
  refine mc_pO ⟨31 - s + 1, mc_a10_times N W st tm hN hA.1 hA.2.1 ho hd hT (mc_F_b hF) es (by omega) (by omega) h1 (fun hq => h0 ?_) (31 - s) 0 (by omega) (fun r' z a => by omega)⟩
  rintro ⟨r, z, hr, hz, e⟩
  rcases hd r v u hA.2.1 hA.1 (Or.inl (by omega)) with ⟨_, h⟩ | ⟨z0, hz0, _, hmin⟩
  · exact h z hz
  · have hcl := mc_S_pre hz0 hA
    have er : ((r + s : Nat) : Int) = r + mc_fw tm u v := by rw [Int.natCast_add, es]
    rw [← er] at hcl e
    have l1 := mc_F_le hF (r + s) u _ (by omega) (by omega) hA.1 hcl
    have l2 : (z0 + mc_fw W u v) * (B : Int) ≤ (z + mc_fw W u v) * B := Int.mul_le_mul_of_nonneg_right (by have := hmin z hz; omega) (by omega)
    exact hq r z0 (by omega) hz0 hmin (by omega)
end MC06times
end
section
section MC07
/-! the reference's search: its way as a list of points -/
def mc_at (wy : Nat → Int32) (p : List Nat) : Prop := ∀ i, i < p.length → wy i = nI (p.getD i 0)
theorem mc_at_app {wy : Nat → Int32} {p : List Nat} {v : Nat} (h : mc_at wy p) : mc_at (upd wy p.length (nI v)) (p ++ [v]) := by
  intro i hi
  rw [List.length_append, List.length_singleton] at hi
  by_cases e : i = p.length
  · subst e
    rw [mc_us]
    simp
  · rw [mc_un e, h i (by omega)]
    congr 1
    simp only [List.getD_eq_getElem?_getD]
    rw [List.getElem?_append_left (by omega)]
theorem mc_at_congr {wy wy' : Nat → Int32} {p : List Nat} (h : mc_at wy p) (e : ∀ i, i < p.length → wy' i = wy i) : mc_at wy' p := fun i hi => (e i hi).trans (h i hi)
theorem mc_hd_getD (p : List Nat) : mc_hd p 0 = p.getD 0 0 := by cases p <;> rfl
theorem mc_getD_mem {p : List Nat} {i : Nat} (h : i < p.length) : p.getD i 0 ∈ p := by
  rw [List.getD_eq_getElem?_getD, List.getElem?_eq_getElem h]
  exact List.getElem_mem h
theorem mc_mem_getD {p : List Nat} {v : Nat} (h : v ∈ p) : ∃ i, i < p.length ∧ p.getD i 0 = v := by
  obtain ⟨i, hi, e⟩ := List.getElem_of_mem h
  exact ⟨i, hi, by rw [List.getD_eq_getElem?_getD, List.getElem?_eq_getElem hi]; exact e⟩
variable (N : Nat) (bz mk bd : Int32) (th W tm : Nat → Int32)
theorem mc_onw {post : Int32 → Prop} {fo tp bo pn un : Int32} {wy nx ma : Nat → Int32} {p : List Nat} {v : Nat} (ha : mc_at wy p) (hl : p.length ≤ 6) (hp : ∀ x ∈ p, x < 100) (hv : v < 100) (h1 : v ∈ p → post 1) (h0 : ¬ v ∈ p → post 0) :
    ∀ m i, i + m = p.length → (∀ j, j < i → p.getD j 0 ≠ v) → wY_isOnWay_2 post (nI v) (nI N) (nI p.length) bz fo tp bo pn mk bd un th W tm wy nx ma (m + 1) (nI i) := by
  intro m
  induction m with
  | zero =>
    intro i hi hq
    have e : i = p.length := by omega
    subst e
    refine br_t (nI_le (Nat.le_refl _) (by omega)) (h0 (fun hm => ?_))
    obtain ⟨j, hj, e⟩ := mc_mem_getD hm
    exact hq j hj e
  | succ m ih =>
    intro i hi hq
    have hc : (nI i).toNatClampNeg = i := nI_clamp (by omega)
    have hx := hp _ (mc_getD_mem (p := p) (i := i) (by omega))
    have ce : wy (nI i).toNatClampNeg = nI v ↔ p.getD i 0 = v := by
      rw [hc, ha i (by omega), nI_eq (by omega) (by omega)]
    refine br_f (nI_ge (by omega) (by omega)) ⟨vp_in_nI (by omega) (by omega), br_c (fun e => h1 ?_) (fun ne => nm_r (nI_1 i) (ih (i + 1) (by omega) (fun j hj => ?_)))⟩
    · rw [← ce.mp e]
      exact mc_getD_mem (by omega)
    · by_cases e : j = i
      · subst e
        exact fun e => ne (ce.mpr e)
      · exact hq j (by omega)
def mc_LK (Q : List (List Nat) → Int32 → Int32 → Int32 → Int32 → Int32 → (Nat → Int32) → Prop) : Prop :=
  ∀ (L : List (List Nat)) (c : List Nat) (fo tp bo pn un : Int32) (ma wy nx : Nat → Int32), mc_ci (mc_A N (mc_E th)) c → mc_at wy c → L.length ≤ 300000 → Q L fo tp bo pn un ma → ∀ post : SY → Prop,
    (∀ (fo' tp' bo' pn' un' : Int32) (ma' : Nat → Int32), Q (L ++ [c]) fo' tp' bo' pn' un' ma' → post (nI N, nI c.length, bz, fo', tp', bo', pn', mk, bd, un', th, W, tm, wy, nx, ma')) →
    wpY_look post (nI N, nI c.length, bz, fo, tp, bo, pn, mk, bd, un, th, W, tm, wy, nx, ma)
theorem mc_go {post : SY → Prop} {fo tp bo pn un : Int32} {wy nx ma : Nat → Int32} {p : List Nat} {f j d : Nat} (hN : N ≤ 6) (hd : p.length = d + 1) (hl : p.length ≤ 6) (hg : mc_gd N (mc_E th) f p) (ha : mc_at wy p) (hn : nx d = nI j) (hj : j ≤ N)
    (hend : j = N → post (nI N, nI d, bz, fo, tp, bo, pn, mk, bd, un, th, W, tm, wy, upd nx d (nI (j + 1)), ma))
    (hskip : j < N → mc_E th (mc_la p) j = false ∨ (j ≠ f ∧ ¬ (f < j ∧ ¬ j ∈ p)) → post (nI N, nI p.length, bz, fo, tp, bo, pn, mk, bd, un, th, W, tm, wy, upd nx d (nI (j + 1)), ma))
    (hlook : j < N → mc_E th (mc_la p) j = true → j = f → ∀ post' : SY → Prop, (∀ (fo' tp' bo' pn' un' : Int32) (ma' : Nat → Int32), post (nI N, nI p.length, bz, fo', tp', bo', pn', mk, bd, un', th, W, tm, wy, upd nx d (nI (j + 1)), ma') → post' (nI N, nI p.length, bz, fo', tp', bo', pn', mk, bd, un', th, W, tm, wy, upd nx d (nI (j + 1)), ma')) → wpY_look post' (nI N, nI p.length, bz, fo, tp, bo, pn, mk, bd, un, th, W, tm, wy, upd nx d (nI (j + 1)), ma))
    (hpush : j < N → mc_E th (mc_la p) j = true → f < j → ¬ j ∈ p → post (nI N, nI (p.length + 1), bz, fo, tp, bo, pn, mk, bd, un, th, W, tm, upd wy p.length (nI j), upd (upd nx d (nI (j + 1))) p.length 0, ma)) :
    wpY_go post (nI N, nI p.length, bz, fo, tp, bo, pn, mk, bd, un, th, W, tm, wy, nx, ma) := by
  obtain ⟨g1, g2, g3, g4, g5⟩ := hg
  have hla : wy d = nI (mc_la p) := by
    rw [ha d (by omega)]
    unfold mc_la
    rw [hd]
    rfl
  have hlm : mc_la p < N := by
    refine g4 _ ?_
    unfold mc_la
    exact mc_getD_mem (by omega)
  have h0 : wy 0 = nI f := by rw [ha 0 (by omega), ← mc_hd_getD, g2]
  have hfN : f < N := by
    refine g4 _ ?_
    rw [← g2, mc_hd_getD]
    exact mc_getD_mem (by omega)
  have ed : nI p.length - 1 = nI d := by rw [hd]; exact nI_pred d
  have hcd : (nI d).toNatClampNeg = d := nI_clamp (by omega)
  have hcl : (nI p.length).toNatClampNeg = p.length := nI_clamp (by omega)
  have hin : vp_in (nI d) 7 := vp_in_nI (by omega) (by omega)
  have hinl : vp_in (nI p.length) 7 := vp_in_nI (by omega) (by omega)
  have ei : 6 * nI (mc_la p) + nI j = nI (6 * mc_la p + j) := by
    rw [show 6 * nI (mc_la p) = nI (6 * mc_la p) from mc_mulN 6 _, nI_add]
  have hci : (nI (6 * mc_la p + j)).toNatClampNeg = 6 * mc_la p + j := nI_clamp (by omega)
  unfold wpY_go
  simp only [ed, hcd]
  refine ⟨hin, nm_r hla ⟨hin, nm_r hn ⟨hin, hin, nm_r (e' := upd nx d (nI (j + 1))) (by rw [hn, nI_1]) ?_⟩⟩⟩
  refine br_c (fun hlt => ?_) (fun hge => nm_e (hend ?_))
  · rw [nI_ltI (by omega) (by omega)] at hlt
    rw [ei, hci, h0]
    refine ⟨vp_in_nI (by omega) (by omega), br_c (fun z => hskip hlt (Or.inl ?_)) (fun nz => ?_)⟩
    · unfold mc_E
      rw [decide_eq_false_iff_not]
      exact fun h => h z
    · have hE : mc_E th (mc_la p) j = true := mc_E_t.mpr nz
      refine br_c (fun e => ?_) (fun ne => br_c (fun le => hskip hlt (Or.inr ?_)) (fun gt => ?_))
      · rw [nI_eq (by omega) (by omega)] at e
        exact hlook hlt hE e _ (fun _ _ _ _ _ _ h => h)
      · rw [nI_eq (by omega) (by omega)] at ne
        rw [nI_leI (by omega) (by omega)] at le
        exact ⟨ne, by omega⟩
      · rw [nI_eq (by omega) (by omega)] at ne
        rw [nI_leI (by omega) (by omega)] at gt
        refine ⟨p.length + 1, mc_onw N bz mk bd th W tm ha hl (fun x hx => by have := g4 x hx; omega) (by omega) (fun hm => br_f (by decide) (hskip hlt (Or.inr ⟨ne, fun h => h.2 hm⟩))) (fun hm => br_t rfl ?_) p.length 0 (by omega) (fun j hj => by omega)⟩
        rw [hcl]
        exact ⟨hinl, nm_e ⟨hinl, nm_e (nm_r (nI_1 p.length) (hpush hlt hE (by omega) hm))⟩⟩
  · rw [nI_ltI (by omega) (by omega)] at hge
    omega
/-! the search from a way on -/
def mc_KK : Nat → Nat
  | 0 => 0
  | k + 1 => 7 + k * mc_KK k
def mc_ct (f : Nat) (p : List Nat) (j r : Nat) : Nat := ((List.range' j r).filter (fun v => decide (f < v ∧ ¬ v ∈ p))).length
theorem mc_ct_s (f : Nat) (p : List Nat) (j r : Nat) : mc_ct f p j (r + 1) = (if f < j ∧ ¬ j ∈ p then 1 else 0) + mc_ct f p (j + 1) r := by
  unfold mc_ct
  rw [List.range'_succ, List.filter_cons]
  by_cases h : f < j ∧ ¬ j ∈ p
  · rw [if_pos (decide_eq_true h), if_pos h, List.length_cons, Nat.add_comm]
  · rw [if_neg (by rw [decide_eq_true_eq]; exact h), if_neg h, Nat.zero_add]
theorem mc_ct_le {f : Nat} {p : List Nat} (hp : p.Nodup) (hx : ∀ x ∈ p, x < N) (hN : N ≤ 6) : p.length + mc_ct f p 0 N ≤ 6 := by
  have h : (p ++ (List.range' 0 N).filter (fun v => decide (f < v ∧ ¬ v ∈ p))).Nodup := by
    rw [List.nodup_append]
    refine ⟨hp, List.Pairwise.filter _ List.nodup_range', ?_⟩
    intro a ha b hb e
    rw [List.mem_filter, decide_eq_true_eq] at hb
    exact hb.2.2 (e ▸ ha)
  have := mc_ph (n := 6) h (fun x hx' => by
    rcases List.mem_append.mp hx' with m | m
    · have := hx x m; omega
    · rw [List.mem_filter, List.mem_range'_1] at m
      omega)
  rw [List.length_append] at this
  exact this
variable (Q : List (List Nat) → Int32 → Int32 → Int32 → Int32 → Int32 → (Nat → Int32) → Prop) (post : SY → Prop) (J : Int32 → Int32 → Int32 → Int32 → Int32 → Int32 → Int32 → Int32 → Int32 → Int32 → Int32 → (Nat → Int32) → (Nat → Int32) → (Nat → Int32) → (Nat → Int32) → (Nat → Int32) → (Nat → Int32) → Prop) (x1 : Int32)
def mc_H (s d : Nat) (L : List (List Nat)) (wy nx : Nat → Int32) : Prop :=
  ∀ (fo tp bo pn un : Int32) (ma : Nat → Int32), Q L fo tp bo pn un ma → ∀ fuel, 14000 < s + fuel → wY_goThrough_36 post J x1 fuel (nI s) (nI N) (nI d) bz fo tp bo pn mk bd un th W tm wy nx ma
def mc_DS (f k : Nat) : Prop := ∀ p, mc_gd N (mc_E th) f p → p.length + k = 6 → ∀ r j s L wy nx, j + r = N → mc_at wy p → nx (p.length - 1) = nI j → s + r + 1 + mc_ct f p j r * mc_KK k ≤ 14000 → L.length + ((List.range' j r).flatMap (mc_br (mc_E th) f (mc_cs N (mc_E th) f k) p)).length ≤ 300000 →
    (∀ s' wy' nx', s' ≤ s + r + 1 + mc_ct f p j r * mc_KK k → (∀ i, i < p.length → wy' i = wy i) → (∀ i, i + 1 < p.length → nx' i = nx i) → mc_H N bz mk bd th W tm Q post J x1 s' (p.length - 1) (L ++ (List.range' j r).flatMap (mc_br (mc_E th) f (mc_cs N (mc_E th) f k) p)) wy' nx') →
    mc_H N bz mk bd th W tm Q post J x1 s p.length L wy nx
theorem mc_ds_s {f k : Nat} (hN : N ≤ 6) (hQ : mc_LK N bz mk bd th W tm Q) (ihk : ∀ k', k = k' + 1 → mc_DS N bz mk bd th W tm Q post J x1 f k') : mc_DS N bz mk bd th W tm Q post J x1 f k := by
  intro p hg hk r
  have hlen : 1 ≤ p.length := by
    rcases Nat.eq_zero_or_pos p.length with h | h
    · exact absurd (List.length_eq_zero_iff.mp h) hg.1
    · exact h
  obtain ⟨d, hd⟩ : ∃ d, p.length = d + 1 := ⟨p.length - 1, by omega⟩
  have hd1 : p.length - 1 = d := by omega
  rw [hd1]
  induction r with
  | zero =>
    intro j s L wy nx hj ha hn hs hL hH fo tp bo pn un ma hq fuel hf
    obtain ⟨fuel, rfl⟩ : ∃ g, fuel = g + 1 := ⟨fuel - 1, by omega⟩
    have e0 : L ++ (List.range' j 0).flatMap (mc_br (mc_E th) f (mc_cs N (mc_E th) f k) p) = L := by simp
    rw [e0] at hH
    refine br_f (nI_ge (b := 14000) (by omega) (by omega)) (br_f (nI_nle (by omega) (by omega)) (mc_go N bz mk bd th W tm hN hd (by omega) hg ha hn (by omega) (fun _ => nm_r (nI_1 s) (hH (s + 1) wy _ (by omega) (fun i _ => rfl) (fun i hi => mc_un (by omega)) fo tp bo pn un ma hq fuel (by omega))) (fun h => by omega) (fun h => by omega) (fun h => by omega)))
  | succ r ihr =>
    intro j s L wy nx hj ha hn hs hL hH fo tp bo pn un ma hq fuel hf
    obtain ⟨fuel, rfl⟩ : ∃ g, fuel = g + 1 := ⟨fuel - 1, by omega⟩
    have ef : (List.range' j (r + 1)).flatMap (mc_br (mc_E th) f (mc_cs N (mc_E th) f k) p) = mc_br (mc_E th) f (mc_cs N (mc_E th) f k) p j ++ (List.range' (j + 1) r).flatMap (mc_br (mc_E th) f (mc_cs N (mc_E th) f k) p) := by
      rw [List.range'_succ, List.flatMap_cons]
    have ec := mc_ct_s f p j r
    rw [ef] at hL hH
    rw [List.length_append] at hL
    have hcK : mc_ct f p (j + 1) r * mc_KK k ≤ mc_ct f p j (r + 1) * mc_KK k := Nat.mul_le_mul_right _ (by rw [ec]; exact Nat.le_add_left _ _)
    refine br_f (nI_ge (b := 14000) (by omega) (by omega)) (br_f (nI_nle (by omega) (by omega)) (mc_go N bz mk bd th W tm hN hd (by omega) hg ha hn (by omega) (fun h => by omega) (fun _ hsk => nm_r (nI_1 s) ?_) (fun _ hE hjf post' hp' => ?_) (fun hjN hE hfj hjp => nm_r (nI_1 s) ?_)))
    · have eb : mc_br (mc_E th) f (mc_cs N (mc_E th) f k) p j = [] := by
        unfold mc_br
        rcases hsk with h | h
        · rw [if_neg (by rw [h]; decide)]
        · split
          · rw [if_neg h.1, if_neg h.2]
          · rfl
      rw [eb, List.nil_append] at hH
      rw [eb, List.length_nil] at hL
      exact ihr (j + 1) (s + 1) L wy (upd nx d (nI (j + 1))) (by omega) ha mc_us (by omega) (by omega) (fun s' wy' nx' h1 h2 h3 => hH s' wy' nx' (by omega) h2 (fun i hi => (h3 i hi).trans (mc_un (by omega)))) fo tp bo pn un ma hq fuel (by omega)
    · have eb : mc_br (mc_E th) f (mc_cs N (mc_E th) f k) p j = [p] := by
        unfold mc_br
        rw [if_pos hE, if_pos hjf]
      rw [eb, ← List.append_assoc] at hH
      rw [eb, List.length_singleton] at hL
      refine hQ L p fo tp bo pn un ma wy _ (mc_gd_ci hg (hjf ▸ hE)) ha (by omega) hq post' (fun fo' tp' bo' pn' un' ma' hq' => hp' fo' tp' bo' pn' un' ma' (nm_r (nI_1 s) ?_))
      exact ihr (j + 1) (s + 1) (L ++ [p]) wy (upd nx d (nI (j + 1))) (by omega) ha mc_us (by omega) (by rw [List.length_append, List.length_singleton]; omega) (fun s' wy' nx' h1 h2 h3 => hH s' wy' nx' (by omega) h2 (fun i hi => (h3 i hi).trans (mc_un (by omega)))) fo' tp' bo' pn' un' ma' hq' fuel (by omega)
    · have hg' := mc_gd_s hg hE hjN hjp
      have hl' : (p ++ [j]).length = p.length + 1 := by simp
      have hph := mc_ph hg'.2.2.1 hg'.2.2.2.1
      rw [hl'] at hph
      obtain ⟨k', rfl⟩ : ∃ k', k = k' + 1 := ⟨k - 1, by omega⟩
      have eb : mc_br (mc_E th) f (mc_cs N (mc_E th) f (k' + 1)) p j = (List.range' 0 N).flatMap (mc_br (mc_E th) f (mc_cs N (mc_E th) f k') (p ++ [j])) := by
        unfold mc_br
        rw [if_pos hE, if_neg (by omega), if_pos ⟨hfj, hjp⟩, ← List.range_eq_range']
        rfl
      rw [eb] at hL hH
      rw [← List.append_assoc] at hH
      have hct := mc_ct_le N (f := f) hg'.2.2.1 hg'.2.2.2.1 hN
      rw [hl'] at hct
      have hK1 : mc_ct f (p ++ [j]) 0 N * mc_KK k' ≤ k' * mc_KK k' := Nat.mul_le_mul_right _ (by omega)
      have hKK : mc_KK (k' + 1) = 7 + k' * mc_KK k' := rfl
      rw [if_pos ⟨hfj, hjp⟩] at ec
      have hcK2 : mc_ct f p j (r + 1) * mc_KK (k' + 1) = mc_KK (k' + 1) + mc_ct f p (j + 1) r * mc_KK (k' + 1) := by
        rw [ec, Nat.add_mul, Nat.one_mul]
      have hm : mc_H N bz mk bd th W tm Q post J x1 (s + 1) (p ++ [j]).length L (upd wy p.length (nI j)) (upd (upd nx d (nI (j + 1))) p.length 0) := by
        refine ihk k' rfl (p ++ [j]) hg' (by omega) N 0 (s + 1) L _ _ (by omega) (mc_at_app ha) ?_ (by omega) (by omega) (fun s' wy' nx' h1 h2 h3 => ?_)
        · rw [hl', Nat.add_sub_cancel]
          exact mc_us
        · rw [hl'] at h2 h3
          rw [hl', Nat.add_sub_cancel]
          exact ihr (j + 1) s' _ wy' nx' (by omega) (mc_at_congr ha (fun i hi => (h2 i (by omega)).trans (mc_un (by omega)))) ((h3 d (by omega)).trans ((mc_un (by omega)).trans mc_us)) (by omega) (by rw [List.length_append]; omega) (fun s'' wy'' nx'' g1 g2 g3 => hH s'' wy'' nx'' (by omega) (fun i hi => (g2 i hi).trans ((h2 i (by omega)).trans (mc_un (by omega)))) (fun i hi => (g3 i hi).trans ((h3 i (by omega)).trans ((mc_un (by omega)).trans (mc_un (by omega))))))
      have hm' := hm fo tp bo pn un ma hq fuel (by omega)
      rw [hl'] at hm'
      exact hm'
theorem mc_dfs {f : Nat} (hN : N ≤ 6) (hQ : mc_LK N bz mk bd th W tm Q) : ∀ k, mc_DS N bz mk bd th W tm Q post J x1 f k := by
  intro k
  induction k with
  | zero => exact mc_ds_s N bz mk bd th W tm Q post J x1 hN hQ (fun k' e => by omega)
  | succ k ih =>
    refine mc_ds_s N bz mk bd th W tm Q post J x1 hN hQ (fun k' e => ?_)
    obtain rfl : k = k' := by omega
    exact ih
theorem mc_KK5 : mc_KK 5 = 455 := by decide
/-- one start point -/
theorem mc_fst {f : Nat} (hN : N ≤ 6) (hQ : mc_LK N bz mk bd th W tm Q) (hf : f < N) {L : List (List Nat)} (hL : L.length + (mc_cs N (mc_E th) f 6 [f]).length ≤ 300000) {wy nx : Nat → Int32} (hw : wy 0 = nI f) (hn : nx 0 = 0)
    (hJ : ∀ (fo tp bo pn un : Int32) (ma wy nx : Nat → Int32), Q (L ++ mc_cs N (mc_E th) f 6 [f]) fo tp bo pn un ma → ∀ y, y = x1 + 1 → J y (nI N) 0 bz fo tp bo pn mk bd un th W tm wy nx ma) :
    ∀ (fo tp bo pn un : Int32) (ma : Nat → Int32), Q L fo tp bo pn un ma → wY_goThrough_36 post J x1 14001 0 (nI N) 1 bz fo tp bo pn mk bd un th W tm wy nx ma := by
  intro fo tp bo pn un ma hq
  have hct := mc_ct_le N (f := f) (p := [f]) (by simp) (fun x hx => by rw [List.mem_singleton.mp hx]; exact hf) hN
  have hK : mc_ct f [f] 0 N * mc_KK 5 ≤ 5 * 455 := by
    rw [mc_KK5]
    refine Nat.mul_le_mul_right _ ?_
    rw [List.length_singleton] at hct
    omega
  have ec : mc_cs N (mc_E th) f 6 [f] = (List.range' 0 N).flatMap (mc_br (mc_E th) f (mc_cs N (mc_E th) f 5) [f]) := by
    rw [← List.range_eq_range']
    rfl
  rw [ec] at hL hJ
  refine mc_dfs N bz mk bd th W tm Q post J x1 hN hQ 5 [f] (mc_gd_1 hf) rfl N 0 0 L wy nx (by omega) ?_ hn (by omega) hL (fun s' wy' nx' h1 h2 h3 => ?_) fo tp bo pn un ma hq 14001 (by omega)
  · intro i hi
    rw [List.length_singleton] at hi
    obtain rfl : i = 0 := by omega
    exact hw
  · intro fo tp bo pn un ma hq fuel hf
    obtain ⟨fuel, rfl⟩ : ∃ g, fuel = g + 1 := ⟨fuel - 1, by omega⟩
    exact br_f (nI_ge (b := 14000) (by omega) (by omega)) (br_t (Int32.le_refl _) (hJ fo tp bo pn un ma wy' nx' hq))
end MC07
section MC07b
variable (N : Nat) (bz mk bd : Int32) (th W tm : Nat → Int32) (Q : List (List Nat) → Int32 → Int32 → Int32 → Int32 → Int32 → (Nat → Int32) → Prop) (post : SY → Prop)
theorem mc_g7 (hN : N ≤ 6) (hQ : mc_LK N bz mk bd th W tm Q) : ∀ m f L, f + m = N → L.length + ((List.range' f m).flatMap (fun f => mc_cs N (mc_E th) f 6 [f])).length ≤ 300000 →
    (∀ (dp fo tp bo pn un : Int32) (ma wy nx : Nat → Int32), Q (L ++ (List.range' f m).flatMap (fun f => mc_cs N (mc_E th) f 6 [f])) fo tp bo pn un ma → post (nI N, dp, bz, fo, tp, bo, pn, mk, bd, un, th, W, tm, wy, nx, ma)) →
    ∀ (dp fo tp bo pn un : Int32) (ma wy nx : Nat → Int32), Q L fo tp bo pn un ma → wY_goThrough_7 post (m + 1) (nI f) (nI N) dp bz fo tp bo pn mk bd un th W tm wy nx ma := by
  intro m
  induction m with
  | zero =>
    intro f L hf hL hp dp fo tp bo pn un ma wy nx hq
    have e : f = N := by omega
    subst e
    refine br_t (nI_le (Nat.le_refl _) (by omega)) (hp dp fo tp bo pn un ma wy nx ?_)
    have e0 : L ++ (List.range' f 0).flatMap (fun g => mc_cs f (mc_E th) g 6 [g]) = L := by simp
    rw [e0]
    exact hq
  | succ m ih =>
    intro f L hf hL hp dp fo tp bo pn un ma wy nx hq
    rw [List.range'_succ, List.flatMap_cons] at hL hp
    rw [List.length_append] at hL
    rw [← List.append_assoc] at hp
    refine br_f (nI_ge (by omega) (by omega)) (nm_e (nm_e ⟨14001, mc_fst N bz mk bd th W tm Q post _ _ hN hQ (by omega) (L := L) (by omega) mc_us mc_us (fun fo tp bo pn un ma wy nx hq' => nm_r (nI_1 f) ?_) fo tp bo pn un ma hq⟩))
    exact ih (f + 1) _ (by omega) (by rw [List.length_append]; omega) hp 0 fo tp bo pn un ma wy nx hq'
theorem mc_gT (hN : N ≤ 6) (hQ : mc_LK N bz mk bd th W tm Q) {dp fo tp bo pn un : Int32} {ma wy nx : Nat → Int32} (hq : Q [] 0 tp bo pn un ma)
    (hp : ∀ (dp fo tp bo pn un : Int32) (ma wy nx : Nat → Int32), Q (mc_al N (mc_E th)) fo tp bo pn un ma → post (nI N, dp, bz, fo, tp, bo, pn, mk, bd, un, th, W, tm, wy, nx, ma)) :
    wpY_goThrough post (nI N, dp, bz, fo, tp, bo, pn, mk, bd, un, th, W, tm, wy, nx, ma) := by
  have hl := mc_al_len (n := N) (E := mc_E th) hN
  have el : mc_al N (mc_E th) = (List.range' 0 N).flatMap (fun f => mc_cs N (mc_E th) f 6 [f]) := by
    rw [← List.range_eq_range']
    rfl
  rw [el] at hl hp
  exact ⟨N + 1, mc_g7 N bz mk bd th W tm Q post hN hQ N 0 [] (by omega) (by rw [List.length_nil]; omega) (by rw [List.nil_append]; exact hp) dp 0 tp bo pn un ma wy nx hq⟩
end MC07b
end
section
section MC08
/-! one circle looked at -/
theorem mc_ar_getD : ∀ (p : List Nat) (v k : Nat), k < p.length → (mc_ar p v).getD k (0, 0) = (p.getD k 0, if k + 1 < p.length then p.getD (k + 1) 0 else v) := by
  intro p
  induction p with
  | nil => intro v k h; exact nomatch h
  | cons a l ih =>
    intro v k h
    cases k with
    | zero =>
      show (a, mc_hd l v) = (a, if 0 + 1 < l.length + 1 then l.getD 0 0 else v)
      cases l with
      | nil => rfl
      | cons b l => rw [if_pos (by simp)]; rfl
    | succ k =>
      have h' : k < l.length := by rw [List.length_cons] at h; omega
      show (mc_ar l v).getD k (0, 0) = (l.getD k 0, if k + 1 + 1 < l.length + 1 then l.getD (k + 1) 0 else v)
      rw [ih v k h']
      by_cases hh : k + 1 < l.length
      · rw [if_pos hh, if_pos (by omega)]
      · rw [if_neg hh, if_neg (by omega)]
def mc_ix (c : List Nat) (k : Nat) : Nat := 6 * ((mc_cy c).getD k (0, 0)).1 + ((mc_cy c).getD k (0, 0)).2
theorem mc_ix_mem {c : List Nat} {q : Nat} : (∃ j, j < c.length ∧ mc_ix c j = q) ↔ ∃ e ∈ mc_cy c, 6 * e.1 + e.2 = q := by
  have hl : (mc_cy c).length = c.length := mc_ar_len _ _
  constructor
  · rintro ⟨j, hj, e⟩
    refine ⟨(mc_cy c).getD j (0, 0), ?_, e⟩
    rw [List.getD_eq_getElem?_getD, List.getElem?_eq_getElem (by omega)]
    exact List.getElem_mem _
  · rintro ⟨e, he, eq⟩
    obtain ⟨j, hj, e1⟩ := List.getElem_of_mem he
    refine ⟨j, by omega, ?_⟩
    unfold mc_ix
    rw [List.getD_eq_getElem?_getD, List.getElem?_eq_getElem hj]
    show 6 * (mc_cy c)[j].1 + (mc_cy c)[j].2 = q
    rw [e1]
    exact eq
def mc_zt (W : Nat → Int32) (c : List Nat) : Int := mc_sm (mc_fw W) (mc_cy c)
def mc_sz (tm : Nat → Int32) (bz : Int32) (c : List Nat) : Int := if bz = 0 then (c.length : Int) else mc_zt tm c
def mc_oy (W th tm : Nat → Int32) : Prop := (∀ q, -20 ≤ (W q).toInt ∧ (W q).toInt ≤ 20) ∧ (∀ q, ¬ th q = 0 → 1 ≤ (tm q).toInt ∧ (tm q).toInt ≤ 5)
theorem mc_cb {N : Nat} {W th tm : Nat → Int32} {bz : Int32} {c : List Nat} (hN : N ≤ 6) (ho : mc_oy W th tm) (hc : mc_ci (mc_A N (mc_E th)) c) : 1 ≤ c.length ∧ c.length ≤ 6 ∧ -120 ≤ mc_zt W c ∧ mc_zt W c ≤ 120 ∧ 1 ≤ mc_zt tm c ∧ mc_zt tm c ≤ 30 ∧ 1 ≤ mc_sz tm bz c ∧ mc_sz tm bz c ≤ 30 := by
  have h6 : c.length ≤ 6 := Nat.le_trans (mc_ci_len hc) hN
  have h1 : 1 ≤ c.length := by
    rcases Nat.eq_zero_or_pos c.length with h | h
    · exact absurd (List.length_eq_zero_iff.mp h) hc.1
    · exact h
  have hl : (mc_cy c).length = c.length := mc_ar_len _ _
  have a1 : -20 * ((mc_cy c).length : Int) ≤ mc_zt W c := mc_sm_lo (fun e _ => (ho.1 _).1)
  have a2 : mc_zt W c ≤ 20 * ((mc_cy c).length : Int) := mc_sm_hi (fun e _ => (ho.1 _).2)
  have a3 : 1 * ((mc_cy c).length : Int) ≤ mc_zt tm c := mc_sm_lo (fun e he => (ho.2 _ (mc_E_t.mp (hc.2.2 e he).2.2)).1)
  have a4 : mc_zt tm c ≤ 5 * ((mc_cy c).length : Int) := mc_sm_hi (fun e he => (ho.2 _ (mc_E_t.mp (hc.2.2 e he).2.2)).2)
  rw [hl] at a1 a2 a3 a4
  have a5 : 1 ≤ mc_sz tm bz c ∧ mc_sz tm bz c ≤ 30 := by
    unfold mc_sz
    split <;> omega
  omega
variable (N : Nat) (bz mk bd : Int32) (th W tm : Nat → Int32)
theorem mc_aA {post : Int32 → Prop} {fo tp bo pn un : Int32} {wy nx ma : Nat → Int32} {c : List Nat} {k : Nat} (hN : N ≤ 6) (ha : mc_at wy c) (hl : c.length ≤ 6) (hx : ∀ x ∈ c, x < N) (hk : k < c.length) (h : mc_ix c k < 36 → post (nI (mc_ix c k))) : wpY_arcAt post (nI N, nI c.length, bz, fo, tp, bo, pn, mk, bd, un, th, W, tm, wy, nx, ma) (nI k) := by
  have hck : (nI k).toNatClampNeg = k := nI_clamp (by omega)
  have hck1 : (nI (k + 1)).toNatClampNeg = k + 1 := nI_clamp (by omega)
  have hg := mc_ar_getD c (mc_hd c 0) k hk
  have x1 := hx _ (mc_getD_mem hk)
  refine ⟨vp_in_nI (by omega) (by omega), ?_⟩
  rw [nI_1, hck, hck1, ha k hk]
  refine br_c (fun le => ?_) (fun gt => ⟨vp_in_nI ?_ (by omega), ?_⟩)
  · rw [nI_leI (by omega) (by omega)] at le
    rw [if_neg (by omega)] at hg
    have x2 := hx _ (mc_getD_mem (p := c) (i := 0) (by omega))
    have e : mc_ix c k = 6 * c.getD k 0 + c.getD 0 0 := by
      unfold mc_ix mc_cy
      rw [hg, ← mc_hd_getD]
    rw [e] at h
    rw [ha 0 (by omega), show 6 * nI (c.getD k 0) = nI (6 * c.getD k 0) from mc_mulN 6 _, nI_add]
    exact h (by omega)
  · rw [nI_leI (by omega) (by omega)] at gt
    omega
  · rw [nI_leI (by omega) (by omega)] at gt
    rw [if_pos (by omega)] at hg
    have x2 := hx _ (mc_getD_mem (p := c) (i := k + 1) (by omega))
    have e : mc_ix c k = 6 * c.getD k 0 + c.getD (k + 1) 0 := by
      unfold mc_ix mc_cy
      rw [hg]
    rw [e] at h
    rw [ha (k + 1) (by omega), show 6 * nI (c.getD k 0) = nI (6 * c.getD k 0) from mc_mulN 6 _, nI_add]
    exact h (by omega)
theorem mc_dr {w : Nat → Int32} {c : List Nat} {k : Nat} (hk : k < c.length) : mc_sm (mc_fw w) ((mc_cy c).drop k) = (w (mc_ix c k)).toInt + mc_sm (mc_fw w) ((mc_cy c).drop (k + 1)) := by
  have hl : (mc_cy c).length = c.length := mc_ar_len _ _
  rw [List.drop_eq_getElem_cons (by omega)]
  show mc_fw w _ _ + _ = _
  unfold mc_ix mc_fw
  rw [List.getD_eq_getElem?_getD, List.getElem?_eq_getElem (by omega)]
  rfl
theorem mc_lk6 {post : SY → Prop} {fo tp bo pn un : Int32} {wy nx ma : Nat → Int32} {c : List Nat} (hN : N ≤ 6) (ha : mc_at wy c) (hl : c.length ≤ 6) (hx : ∀ x ∈ c, x < N) :
    ∀ m k a b, k + m = c.length → ((bz = 0 → wY_look_62 post (mc_I (a + mc_sm (mc_fw W) ((mc_cy c).drop k))) (mc_I (b + mc_sm (mc_fw tm) ((mc_cy c).drop k))) (nI c.length) (nI N) (nI c.length) bz fo tp bo pn mk bd un th W tm wy nx ma) ∧ (¬ bz = 0 → wY_look_62 post (mc_I (a + mc_sm (mc_fw W) ((mc_cy c).drop k))) (mc_I (b + mc_sm (mc_fw tm) ((mc_cy c).drop k))) (mc_I (b + mc_sm (mc_fw tm) ((mc_cy c).drop k))) (nI N) (nI c.length) bz fo tp bo pn mk bd un th W tm wy nx ma)) →
    wY_look_6 post (nI N) (nI c.length) bz fo tp bo pn mk bd un th W tm wy nx ma (m + 1) (mc_I a) (mc_I b) (nI k) := by
  have hle : (mc_cy c).length = c.length := mc_ar_len _ _
  intro m
  induction m with
  | zero =>
    intro k a b hk h
    have e : (mc_cy c).drop k = [] := List.drop_eq_nil_of_le (by omega)
    rw [e, show mc_sm (mc_fw W) [] = 0 from rfl, show mc_sm (mc_fw tm) [] = 0 from rfl, Int.add_zero, Int.add_zero] at h
    exact br_t (nI_le (by omega) (by omega)) h
  | succ m ih =>
    intro k a b hk h
    have hk' : k < c.length := by omega
    rw [mc_dr (w := W) hk', mc_dr (w := tm) hk', ← Int.add_assoc, ← Int.add_assoc] at h
    refine br_f (nI_ge (by omega) (by omega)) (mc_aA N bz mk bd th W tm hN ha hl hx (by omega) (fun hi => ⟨vp_in_nI hi (by omega), nm_r (e' := mc_I (a + (W (mc_ix c k)).toInt)) ?_ ⟨vp_in_nI hi (by omega), nm_r (e' := mc_I (b + (tm (mc_ix c k)).toInt)) ?_ (nm_r (nI_1 k) (ih (k + 1) _ _ (by omega) h))⟩⟩))
    · rw [nI_clamp (by omega), ← mc_I_add, mc_I_of]
    · rw [nI_clamp (by omega), ← mc_I_add, mc_I_of]
theorem mc_lk {post : SY → Prop} {fo tp bo pn un : Int32} {wy nx ma : Nat → Int32} {c : List Nat} (hN : N ≤ 6) (ha : mc_at wy c) (hl : c.length ≤ 6) (hx : ∀ x ∈ c, x < N) (h : wY_look_62 post (mc_I (mc_zt W c)) (mc_I (mc_zt tm c)) (mc_I (mc_sz tm bz c)) (nI N) (nI c.length) bz fo tp bo pn mk bd un th W tm wy nx ma) : wpY_look post (nI N, nI c.length, bz, fo, tp, bo, pn, mk, bd, un, th, W, tm, wy, nx, ma) := by
  refine ⟨c.length + 1, mc_lk6 N bz mk bd th W tm hN ha hl hx c.length 0 0 0 (by omega) ?_⟩
  rw [List.drop_zero, Int.zero_add, Int.zero_add]
  refine br_c (fun e => ?_) (fun ne => ?_)
  · unfold mc_sz at h
    rw [if_pos e, mc_I_nat] at h
    exact h
  · unfold mc_sz at h
    rw [if_neg ne] at h
    exact h
theorem mc_mk2 {post : SY → Prop} {fo tp bo un pn0 : Int32} {wy nx ma0 : Nat → Int32} {c : List Nat} (hN : N ≤ 6) (ha : mc_at wy c) (hl : c.length ≤ 6) (hx : ∀ x ∈ c, x < N)
    (hp : ∀ (pn : Int32) (ma : Nat → Int32), (∀ i, i < 32 → (bt pn i = true ↔ bt pn0 i = true ∨ ∃ j, j < c.length ∧ c.getD j 0 = i)) → (∀ q, (∃ j, j < c.length ∧ mc_ix c j = q) → ma q = 1) → (∀ q, ¬ (∃ j, j < c.length ∧ mc_ix c j = q) → ma q = ma0 q) → post (nI N, nI c.length, bz, fo, tp, bo, pn, mk, bd, un, th, W, tm, wy, nx, ma)) :
    ∀ m k (pn : Int32) (ma : Nat → Int32), k + m = c.length → (∀ i, i < 32 → (bt pn i = true ↔ bt pn0 i = true ∨ ∃ j, j < k ∧ c.getD j 0 = i)) → (∀ q, (∃ j, j < k ∧ mc_ix c j = q) → ma q = 1) → (∀ q, ¬ (∃ j, j < k ∧ mc_ix c j = q) → ma q = ma0 q) →
    wY_mark_2 post (nI N) (nI c.length) bz fo tp bo mk bd un (m + 1) (nI k) pn th W tm wy nx ma := by
  intro m
  induction m with
  | zero =>
    intro k pn ma hk h1 h2 h3
    have e : k = c.length := by omega
    subst e
    exact br_t (nI_le (by omega) (by omega)) (hp pn ma h1 h2 h3)
  | succ m ih =>
    intro k pn ma hk h1 h2 h3
    have hck : (nI k).toNatClampNeg = k := nI_clamp (by omega)
    have hxk := hx _ (mc_getD_mem (p := c) (i := k) (by omega))
    refine br_f (nI_ge (by omega) (by omega)) (mc_aA N bz mk bd th W tm hN ha hl hx (by omega) (fun hi => ⟨vp_in_nI hi (by omega), nm_r (e' := upd ma (mc_ix c k) 1) ?_ ⟨vp_in_nI (by omega) (by omega), nm_r (e' := pn ||| ((1 : Int32) <<< (nI (c.getD k 0) &&& 31))) ?_ (nm_r (nI_1 k) (ih (k + 1) _ _ (by omega) ?_ ?_ ?_))⟩⟩))
    · rw [nI_clamp (by omega), mc_b1]
    · rw [hck, ha k (by omega)]
    · intro i hi32
      rw [mc_set pn (by omega) hi32, h1 i hi32]
      constructor
      · rintro ((h | ⟨j, hj, e⟩) | e)
        · exact Or.inl h
        · exact Or.inr ⟨j, by omega, e⟩
        · exact Or.inr ⟨k, by omega, e.symm⟩
      · rintro (h | ⟨j, hj, e⟩)
        · exact Or.inl (Or.inl h)
        · by_cases ej : j = k
          · subst ej; exact Or.inr e.symm
          · exact Or.inl (Or.inr ⟨j, by omega, e⟩)
    · rintro q ⟨j, hj, e⟩
      by_cases eq : q = mc_ix c k
      · rw [eq, mc_us]
      · rw [mc_un eq]
        by_cases ej : j = k
        · subst ej; exact absurd e.symm eq
        · exact h2 q ⟨j, by omega, e⟩
    · intro q hq
      have eq : q ≠ mc_ix c k := fun e => hq ⟨k, by omega, e.symm⟩
      rw [mc_un eq]
      exact h3 q (fun ⟨j, hj, e⟩ => hq ⟨j, by omega, e⟩)
theorem mc_mk {post : SY → Prop} {fo tp bo un pn0 : Int32} {wy nx ma0 : Nat → Int32} {c : List Nat} (hN : N ≤ 6) (ha : mc_at wy c) (hl : c.length ≤ 6) (hx : ∀ x ∈ c, x < N)
    (hp : ∀ (pn : Int32) (ma : Nat → Int32), (∀ i, i < 32 → (bt pn i = true ↔ bt pn0 i = true ∨ i ∈ c)) → (∀ q, (∃ e ∈ mc_cy c, 6 * e.1 + e.2 = q) → ma q = 1) → (∀ q, ¬ (∃ e ∈ mc_cy c, 6 * e.1 + e.2 = q) → ma q = ma0 q) → post (nI N, nI c.length, bz, fo, tp, bo, pn, mk, bd, un, th, W, tm, wy, nx, ma)) :
    wpY_mark post (nI N, nI c.length, bz, fo, tp, bo, pn0, mk, bd, un, th, W, tm, wy, nx, ma0) := by
  refine ⟨c.length + 1, mc_mk2 N bz mk bd th W tm (pn0 := pn0) (ma0 := ma0) hN ha hl hx (fun pn ma h1 h2 h3 => hp pn ma (fun i hi => ?_) (fun q hq => h2 q (mc_ix_mem.mpr hq)) (fun q hq => h3 q (fun h => hq (mc_ix_mem.mp h)))) c.length 0 pn0 ma0 (by omega) (fun i hi => ?_) (fun q ⟨j, hj, _⟩ => by omega) (fun q _ => rfl)⟩
  · rw [h1 i hi]
    constructor
    · rintro (h | ⟨j, hj, e⟩)
      · exact Or.inl h
      · exact Or.inr (e ▸ mc_getD_mem hj)
    · rintro (h | h)
      · exact Or.inl h
      · exact Or.inr (mc_mem_getD h)
  · exact ⟨Or.inl, fun h => h.elim id (fun ⟨j, hj, _⟩ => by omega)⟩
end MC08
section MC08b
variable (N : Nat) (bz : Int32) (th W tm : Nat → Int32)
theorem mc_q2i {T z z' k k' B : Int} (h : z * B ≤ T * k) (h' : T * k' ≤ z' * B) (hB : 0 < B) (hk : 0 ≤ k) (hk' : 0 ≤ k') : z * k' ≤ z' * k := by
  have a1 : (z * B) * k' ≤ (T * k) * k' := Int.mul_le_mul_of_nonneg_right h hk'
  have a2 : (T * k') * k ≤ (z' * B) * k := Int.mul_le_mul_of_nonneg_right h' hk
  have e1 : (z * B) * k' = (z * k') * B := Int.mul_right_comm _ _ _
  have e2 : (T * k) * k' = (T * k') * k := Int.mul_right_comm _ _ _
  have e3 : (z' * B) * k = (z' * k) * B := Int.mul_right_comm _ _ _
  have : (z * k') * B ≤ (z' * k) * B := by rw [← e1, ← e3]; rw [e2] at a1; exact Int.le_trans a1 a2
  exact Int.le_of_mul_le_mul_right this hB
/-- the least quotient among the circles of L -/
def mc_lq (L : List (List Nat)) (t b : Int) : Prop := (L = [] ∧ t = 0 ∧ b = 1) ∨ ∃ c ∈ L, t = mc_zt W c ∧ b = mc_sz tm bz c ∧ ∀ c' ∈ L, mc_zt W c * mc_sz tm bz c' ≤ mc_zt W c' * mc_sz tm bz c
def mc_ud (bI : Int) (un0 : Int32) (L : List (List Nat)) (un : Int32) : Prop := (un = un0 ∧ ∀ c ∈ L, bI * mc_zt tm c ≤ mc_zt W c) ∨ (un = 1 ∧ ∃ c ∈ L, mc_zt W c < bI * mc_zt tm c)
def mc_Q1 (bI : Int) (un0 pn0 : Int32) (ma0 : Nat → Int32) (L : List (List Nat)) (fo tp bo pn un : Int32) (ma : Nat → Int32) : Prop :=
  fo = nI L.length ∧ pn = pn0 ∧ ma = ma0 ∧ (∀ c ∈ L, mc_ci (mc_A N (mc_E th)) c) ∧ (∃ t b, tp = mc_I t ∧ bo = mc_I b ∧ mc_lq bz W tm L t b) ∧ mc_ud W tm bI un0 L un
theorem mc_LK1 {bI : Int} {un0 pn0 : Int32} {ma0 : Nat → Int32} (hN : N ≤ 6) (ho : mc_oy W th tm) (hb : -1000 ≤ bI ∧ bI ≤ 1000) : mc_LK N bz 0 (mc_I bI) th W tm (mc_Q1 N bz th W tm bI un0 pn0 ma0) := by
  intro L c fo tp bo pn un ma wy nx hc ha hL hq post hp
  obtain ⟨q1, q2, q3, q4, ⟨t, b, q5, q6, q7⟩, q8⟩ := hq
  subst q1 q2 q3 q5 q6
  have bc := mc_cb (bz := bz) hN ho hc
  have hci : ∀ c' ∈ L ++ [c], mc_ci (mc_A N (mc_E th)) c' := by
    intro c' hc'
    rcases List.mem_append.mp hc' with h | h
    · exact q4 c' h
    · rw [List.mem_singleton.mp h]; exact hc
  have hll : (L ++ [c]).length = L.length + 1 := by simp
  have key : ∀ un', mc_ud W tm bI un0 (L ++ [c]) un' → wY_look_78 post (mc_I (mc_zt W c)) (mc_I (mc_sz tm bz c)) (nI N) (nI c.length) bz (nI L.length) (mc_I t) (mc_I b) pn 0 (mc_I bI) un' th W tm wy nx ma := by
    intro un' hu
    have fin : ∀ t b, mc_lq bz W tm (L ++ [c]) t b → post (nI N, nI c.length, bz, nI (L.length + 1), mc_I t, mc_I b, pn, 0, mc_I bI, un', th, W, tm, wy, nx, ma) :=
      fun t b h => hp _ _ _ _ _ _ ⟨by rw [hll], rfl, rfl, hci, ⟨t, b, rfl, rfl, h⟩, hu⟩
    refine br_t rfl (br_t rfl (br_c (fun f0 => nm_r (nI_1 _) (fin _ _ (Or.inr ⟨c, List.mem_append_right _ (List.mem_singleton.mpr rfl), rfl, rfl, ?_⟩))) (fun nf => ?_)))
    · rw [← nI_0, nI_eq (by omega) (by omega)] at f0
      have : L = [] := List.length_eq_zero_iff.mp f0
      subst this
      intro c' hc'
      rw [List.nil_append] at hc'
      rw [List.mem_singleton.mp hc']
      exact Int.le_refl _
    · rcases q7 with ⟨e, _⟩ | ⟨c0, hc0, rfl, rfl, hm⟩
      · subst e
        exact absurd nI_0 nf
      · have b0 := mc_cb (bz := bz) hN ho (q4 c0 hc0)
        have cc : mc_I (mc_zt W c0) * mc_I (mc_sz tm bz c) ≤ mc_I (mc_zt W c) * mc_I (mc_sz tm bz c0) ↔ mc_zt W c0 * mc_sz tm bz c ≤ mc_zt W c * mc_sz tm bz c0 := mc_cle (by omega) (by omega) (by omega) (by omega) (by omega) (by omega) (by omega) (by omega)
        refine br_c (fun le => nm_r (nI_1 _) (fin _ _ (Or.inr ⟨c0, List.mem_append_left _ hc0, rfl, rfl, ?_⟩))) (fun gt => nm_r (nI_1 _) (fin _ _ (Or.inr ⟨c, List.mem_append_right _ (List.mem_singleton.mpr rfl), rfl, rfl, ?_⟩)))
        · intro c' hc'
          rcases List.mem_append.mp hc' with h | h
          · exact hm c' h
          · rw [List.mem_singleton.mp h]; exact cc.mp le
        · intro c' hc'
          rcases List.mem_append.mp hc' with h | h
          · have b' := mc_cb (bz := bz) hN ho (q4 c' h)
            refine mc_q2i (T := mc_zt W c0) (B := mc_sz tm bz c0) ?_ (hm c' h) (by omega) (by omega) (by omega)
            have : ¬ mc_zt W c0 * mc_sz tm bz c ≤ mc_zt W c * mc_sz tm bz c0 := fun h => gt (cc.mpr h)
            omega
          · rw [List.mem_singleton.mp h]; exact Int.le_refl _
  refine mc_lk N bz 0 (mc_I bI) th W tm hN ha (by omega) (mc_ci_lt hc) ?_
  have hbb := mc_bm (a := bI) (b := mc_zt tm c) (by omega) (by omega) (by omega) (by omega)
  have cb : mc_I bI * mc_I (mc_zt tm c) ≤ mc_I (mc_zt W c) ↔ bI * mc_zt tm c ≤ mc_zt W c := by
    rw [mc_I_mul, mc_I_le hbb.1 hbb.2 (by omega) (by omega)]
  refine br_c (fun le => key un ?_) (fun gt => key 1 (Or.inr ⟨rfl, c, List.mem_append_right _ (List.mem_singleton.mpr rfl), ?_⟩))
  · rcases q8 with ⟨e, h⟩ | ⟨e, c', h1, h2⟩
    · refine Or.inl ⟨e, fun c' hc' => ?_⟩
      rcases List.mem_append.mp hc' with h' | h'
      · exact h c' h'
      · rw [List.mem_singleton.mp h']; exact cb.mp le
    · exact Or.inr ⟨e, c', List.mem_append_left _ h1, h2⟩
  · have : ¬ bI * mc_zt tm c ≤ mc_zt W c := fun h => gt (cb.mpr h)
    omega
def mc_bs (t b : Int) (c : List Nat) : Prop := mc_zt W c * b = t * mc_sz tm bz c
def mc_mq (t b : Int) (L : List (List Nat)) (q : Nat) : Prop := ∃ c ∈ L, mc_bs bz W tm t b c ∧ ∃ e ∈ mc_cy c, 6 * e.1 + e.2 = q
def mc_pq (t b : Int) (L : List (List Nat)) (i : Nat) : Prop := ∃ c ∈ L, mc_bs bz W tm t b c ∧ i ∈ c
def mc_Q2 (t b : Int) (L : List (List Nat)) (fo tp bo pn _un : Int32) (ma : Nat → Int32) : Prop :=
  fo = nI L.length ∧ tp = mc_I t ∧ bo = mc_I b ∧ (∀ q, q < 36 → (ma q = 1 ∧ mc_mq bz W tm t b L q) ∨ (ma q = 0 ∧ ¬ mc_mq bz W tm t b L q)) ∧ (∀ i, i < 32 → (bt pn i = true ↔ mc_pq bz W tm t b L i))
theorem mc_LK2 {t b : Int} (hN : N ≤ 6) (ho : mc_oy W th tm) (ht : -1000 ≤ t ∧ t ≤ 1000) (hb : -1000 ≤ b ∧ b ≤ 1000) (bd : Int32) : mc_LK N bz 1 bd th W tm (mc_Q2 bz W tm t b) := by
  intro L c fo tp bo pn un ma wy nx hc ha hL hq post hp
  obtain ⟨q1, q2, q3, q4, q5⟩ := hq
  subst q1 q2 q3
  have bc := mc_cb (bz := bz) hN ho hc
  have hll : (L ++ [c]).length = L.length + 1 := by simp
  have mql : ∀ q, mc_mq bz W tm t b (L ++ [c]) q ↔ mc_mq bz W tm t b L q ∨ (mc_bs bz W tm t b c ∧ ∃ e ∈ mc_cy c, 6 * e.1 + e.2 = q) := by
    intro q
    constructor
    · rintro ⟨c', h1, h2⟩
      rcases List.mem_append.mp h1 with h | h
      · exact Or.inl ⟨c', h, h2⟩
      · rw [List.mem_singleton.mp h] at h2; exact Or.inr h2
    · rintro (⟨c', h1, h2⟩ | h)
      · exact ⟨c', List.mem_append_left _ h1, h2⟩
      · exact ⟨c, List.mem_append_right _ (List.mem_singleton.mpr rfl), h⟩
  have pql : ∀ i, mc_pq bz W tm t b (L ++ [c]) i ↔ mc_pq bz W tm t b L i ∨ (mc_bs bz W tm t b c ∧ i ∈ c) := by
    intro q
    constructor
    · rintro ⟨c', h1, h2⟩
      rcases List.mem_append.mp h1 with h | h
      · exact Or.inl ⟨c', h, h2⟩
      · rw [List.mem_singleton.mp h] at h2; exact Or.inr h2
    · rintro (⟨c', h1, h2⟩ | h)
      · exact ⟨c', List.mem_append_left _ h1, h2⟩
      · exact ⟨c, List.mem_append_right _ (List.mem_singleton.mpr rfl), h⟩
  have cc : mc_I (mc_zt W c) * mc_I b = mc_I t * mc_I (mc_sz tm bz c) ↔ mc_bs bz W tm t b c := mc_ceq (by omega) (by omega) (by omega) (by omega) (by omega) (by omega) (by omega) (by omega)
  have key : ∀ un', wY_look_78 post (mc_I (mc_zt W c)) (mc_I (mc_sz tm bz c)) (nI N) (nI c.length) bz (nI L.length) (mc_I t) (mc_I b) pn 1 bd un' th W tm wy nx ma := by
    intro un'
    refine br_f (by decide) (br_c (fun e => mc_mk N bz 1 bd th W tm hN ha (by omega) (mc_ci_lt hc) (fun pn' ma' h1 h2 h3 => br_f (by decide) (nm_r (nI_1 _) (hp _ _ _ _ _ _ ⟨by rw [hll], rfl, rfl, fun q hq => ?_, fun i hi => ?_⟩)))) (fun ne => br_f (by decide) (nm_r (nI_1 _) (hp _ _ _ _ _ _ ⟨by rw [hll], rfl, rfl, fun q hq => ?_, fun i hi => ?_⟩))))
    · rw [mql]
      by_cases hin : ∃ e ∈ mc_cy c, 6 * e.1 + e.2 = q
      · exact Or.inl ⟨h2 q hin, Or.inr ⟨cc.mp e, hin⟩⟩
      · rw [h3 q hin]
        rcases q4 q hq with ⟨a1, a2⟩ | ⟨a1, a2⟩
        · exact Or.inl ⟨a1, Or.inl a2⟩
        · exact Or.inr ⟨a1, fun h => h.elim a2 (fun h => hin h.2)⟩
    · rw [h1 i hi, q5 i hi, pql]
      exact ⟨fun h => h.imp id (fun h => ⟨cc.mp e, h⟩), fun h => h.imp id (fun h => h.2)⟩
    · rw [mql]
      rcases q4 q hq with ⟨a1, a2⟩ | ⟨a1, a2⟩
      · exact Or.inl ⟨a1, Or.inl a2⟩
      · exact Or.inr ⟨a1, fun h => h.elim a2 (fun h => ne (cc.mpr h.1))⟩
    · rw [q5 i hi, pql]
      exact ⟨Or.inl, fun h => h.elim id (fun h => absurd (cc.mpr h.1) ne)⟩
  refine mc_lk N bz 1 bd th W tm hN ha (by omega) (mc_ci_lt hc) ?_
  exact br_c (fun _ => key un) (fun _ => key 1)
end MC08b
end
section
section MC09
/-! the quotient of two ints, from kit/rows/PURE-ROWS.to-paste -/
theorem pk_div {a d : Nat} (ha : a < 2 ^ 31) (h0 : 0 < d) (hd : d < 2 ^ 31) : nI a / nI d = nI (a / d) := by
  apply Int32.toInt_inj.mp
  rw [lg_idiv_nonneg (by rw [nI_toInt ha]; omega) (by rw [nI_toInt hd]; omega), nI_toInt ha, nI_toInt hd, nI_toInt (Nat.lt_of_le_of_lt (Nat.div_le_self a d) ha)]
  first | rfl | exact (Int.natCast_ediv _ _).symm
theorem pk_rem {a d : Nat} (ha : a < 2 ^ 31) (h0 : 0 < d) (hd : d < 2 ^ 31) : nI a - nI a / nI d * nI d = nI (a % d) := by
  rw [pk_div ha h0 hd, mc_mulN, mc_sub (Nat.div_mul_le_self a d)]
  exact congrArg nI (by have := Nat.div_add_mod' a d; omega)
/-! closed walks and circles -/
theorem mc_rot {A : Nat → Nat → Prop} {w sp : Nat → Nat → Int} {q : List Nat} {u v : Nat} (hq : mc_ci A q) (he : (u, v) ∈ mc_cy q) : mc_S A w sp v u (mc_sm sp (mc_cy q) - sp u v) (mc_sm w (mc_cy q) - w u v) ∧ A u v := by
  refine ⟨?_, hq.2.2 _ he⟩
  obtain ⟨a, d, e1, e2⟩ := mc_ar_spl he
  subst e1
  have eh : mc_hd (a ++ u :: d) 0 = mc_hd a u := mc_hd_app a (u :: d) 0
  rw [eh] at e2
  have ec : mc_cy (a ++ u :: d) = mc_ar a u ++ (u, v) :: mc_ar d (mc_hd a u) := by
    rw [mc_cy_app, e2]
    rfl
  have el : mc_ar (d ++ a) u = mc_ar d (mc_hd a u) ++ mc_ar a u := mc_ar_app d a u
  have es : ∀ f : Nat → Nat → Int, mc_sm f (mc_ar (d ++ a) u) = mc_sm f (mc_cy (a ++ u :: d)) - f u v := by
    intro f
    rw [ec, el, mc_sm_app, mc_sm_app]
    show _ = mc_sm f (mc_ar a u) + (f u v + mc_sm f (mc_ar d (mc_hd a u))) - f u v
    omega
  refine ⟨d ++ a, ?_, ?_, es sp, es w⟩
  · rw [mc_hd_app, e2]
  · intro e h
    refine hq.2.2 e ?_
    rw [el] at h
    rw [ec]
    rcases List.mem_append.mp h with h | h
    · exact List.mem_append_right _ (List.mem_cons_of_mem _ h)
    · exact List.mem_append_left _ h
theorem mc_rot2 {A : Nat → Nat → Prop} {w sp : Nat → Nat → Int} {q : List Nat} {u v : Nat} (hq : mc_ci A q) (he : (u, v) ∈ mc_cy q) : mc_S A w sp u u (mc_sm sp (mc_cy q)) (mc_sm w (mc_cy q)) := by
  obtain ⟨h, hA⟩ := mc_rot (w := w) (sp := sp) hq he
  have := mc_S_pre h hA
  rwa [Int.sub_add_cancel, Int.sub_add_cancel] at this
theorem mc_cls {A : Nat → Nat → Prop} {w sp : Nat → Nat → Int} {u : Nat} {k z : Int} (hk : 1 ≤ k) (h : mc_S A w sp u u k z) : ∃ c, c ≠ [] ∧ (∀ e ∈ mc_cy c, A e.1 e.2) ∧ mc_sm sp (mc_cy c) = k ∧ mc_sm w (mc_cy c) = z ∧ ∃ y, (u, y) ∈ mc_cy c := by
  obtain ⟨l, hu, hA, h1, h2⟩ := h
  cases l with
  | nil => exact absurd (show (0 : Int) = k from h1) (by omega)
  | cons a l =>
    have e : a = u := hu
    subst e
    exact ⟨a :: l, by simp, hA, h1, h2, mc_hd l a, List.mem_cons_self⟩
theorem mc_thr {N : Nat} {W th : Nat → Int32} {u : Nat} {k z : Int} (hN : N ≤ 6) (h01 : ∀ q, th q = 0 ∨ th q = 1) (hk : 1 ≤ k) (h : mc_Sx N W th u u k z) : ∃ (k' : Nat) (z' : Int), 1 ≤ k' ∧ k' ≤ 6 ∧ mc_Sx N W th u u k' z' := by
  obtain ⟨c, c1, c2, _, _, y, c5⟩ := mc_cls hk h
  have hc := mc_clo (A := mc_A N (mc_E th)) (w := fun _ _ => 0) (sp := fun _ _ => 0) (T := 0) (B := 0) (fun q _ => Int.le_refl _) c1 c2
  obtain ⟨q, hq, _, hm⟩ := hc.2 rfl (u, y) c5
  have hs := mc_rot2 (w := mc_fw W) (sp := mc_fw th) hq hm
  have e1 : ∀ e ∈ mc_cy q, mc_fw th e.1 e.2 = 1 := by
    intro e he
    have := mc_E_t.mp (hq.2.2 e he).2.2
    unfold mc_fw
    rw [(h01 _).resolve_left this]
    decide
  have hl : (mc_cy q).length = q.length := mc_ar_len _ _
  have a1 := mc_sm_lo (w := mc_fw th) (m := 1) (L := mc_cy q) (fun e he => by rw [e1 e he]; exact Int.le_refl _)
  have a2 := mc_sm_hi (w := mc_fw th) (m := 1) (L := mc_cy q) (fun e he => by rw [e1 e he]; exact Int.le_refl _)
  have h6 := mc_ci_len hq
  have h1 : 1 ≤ q.length := by
    rcases Nat.eq_zero_or_pos q.length with h | h
    · exact absurd (List.length_eq_zero_iff.mp h) hq.1
    · exact h
  have es : mc_sm (mc_fw th) (mc_cy q) = ((q.length : Nat) : Int) := by rw [hl] at a1 a2; omega
  rw [es] at hs
  exact ⟨q.length, _, h1, by omega, hs⟩
/-! the reference's reach -/
variable (N : Nat) (W th tm : Nat → Int32)
def mc_tn : Prop := ∀ q, ¬ th q = 0 → q / 6 < N ∧ q % 6 < N
def mc_sd (u : Nat) (x : Int32) : Prop := ∀ i, i < 32 → bt x i = true → i < N ∧ ∃ k z : Int, 1 ≤ k ∧ mc_Sx N W th u i k z
def mc_cp (u m : Nat) (x : Int32) : Prop := ∀ (i : Nat) (k z : Int), 1 ≤ k → k ≤ m + 1 → mc_Sx N W th u i k z → bt x i = true
theorem mc_c49 {post : Int32 → Prop} {J : Int32 → Int32 → Prop} {u r : Nat} {dp bz fo tp bo pn mk bd un : Int32} {wy nx ma : Nat → Int32} {x0 : Int32} (hN : N ≤ 6) (h01 : ∀ q, th q = 0 ∨ th q = 1) (hn : mc_tn N th) (hJ : ∀ x, mc_sd N W th u x → (∀ i, bt x0 i = true → bt x i = true) → (∀ a, a < 36 → ¬ th a = 0 → bt x0 (a / 6) = true → bt x (a % 6) = true) → ∀ y, y = nI r + 1 → J x y) :
    ∀ m a x, a + m = 36 → mc_sd N W th u x → (∀ i, bt x0 i = true → bt x i = true) → (∀ a', a' < a → ¬ th a' = 0 → bt x0 (a' / 6) = true → bt x (a' % 6) = true) → wY_comesBack_49 post J (nI u) (nI r) (nI N) dp bz fo tp bo pn mk bd un th W tm wy nx ma (m + 1) x (nI a) := by
  intro m
  induction m with
  | zero =>
    intro a x ha h1 h2 h3
    have e : a = 36 := by omega
    subst e
    exact br_t (nI_le (a := 36) (b := 36) (by omega) (by omega)) (hJ x h1 h2 h3)
  | succ m ih =>
    intro a x ha h1 h2 h3
    have hc : (nI a).toNatClampNeg = a := nI_clamp (by omega)
    have ed : nI a / 6 = nI (a / 6) := pk_div (d := 6) (by omega) (by omega) (by omega)
    have er : nI a - nI a / 6 * 6 = nI (a % 6) := pk_rem (d := 6) (by omega) (by omega) (by omega)
    have cb := mc_get x (u := a / 6) (by omega)
    refine br_f (nI_ge (b := 36) (by omega) (by omega)) ⟨vp_in_nI (by omega) (by omega), br_c (fun z => nm_r (nI_1 a) (ih (a + 1) x (by omega) h1 h2 (fun a' ha' => ?_))) (fun nz => ⟨by decide, br_c (fun b => ⟨by decide, nm_r (e' := x ||| ((1 : Int32) <<< (nI (a % 6) &&& 31))) (by rw [er]) (nm_r (nI_1 a) (ih (a + 1) _ (by omega) ?_ ?_ ?_))⟩) (fun nb => nm_r (nI_1 a) (ih (a + 1) x (by omega) h1 h2 (fun a' ha' => ?_)))⟩)⟩
    · rw [hc] at z
      by_cases e : a' = a
      · subst e; exact fun h => absurd z h
      · exact h3 a' (by omega)
    · rw [hc] at nz
      rw [ed] at b
      intro i hi hb
      rcases (mc_set x (by omega) hi).mp hb with h | h
      · exact h1 i hi h
      · subst h
        obtain ⟨g1, k, z, g2, g3⟩ := h1 (a / 6) (by omega) (cb.mp b)
        have gn := hn a nz
        have ei : 6 * (a / 6) + a % 6 = a := Nat.div_add_mod a 6
        have hA : mc_A N (mc_E th) (a / 6) (a % 6) := ⟨gn.1, gn.2, mc_E_t.mpr (by rw [ei]; exact nz)⟩
        have hf : mc_fw th (a / 6) (a % 6) = 1 := by
          unfold mc_fw
          rw [ei, (h01 a).resolve_left nz]
          decide
        exact ⟨gn.2, k + mc_fw th (a / 6) (a % 6), _, by omega, mc_S_app g3 hA⟩
    · intro i hi
      by_cases hi32 : i < 32
      · exact (mc_set x (by omega) hi32).mpr (Or.inl (h2 i hi))
      · rw [b_big (by omega)] at hi
        exact nomatch hi
    · intro a' ha' hz' hb'
      refine (mc_set x (by omega) (by omega)).mpr ?_
      by_cases e : a' = a
      · subst e; exact Or.inr rfl
      · exact Or.inl (h3 a' (by omega) hz' hb')
    · rw [ed] at nb
      by_cases e : a' = a
      · subst e
        exact fun _ h => absurd (cb.mpr (h2 _ h)) nb
      · exact h3 a' (by omega)
theorem mc_S_lt {u i : Nat} {k z : Int} (hk : 1 ≤ k) (h : mc_Sx N W th u i k z) : ∃ x, mc_A N (mc_E th) x i ∧ mc_Sx N W th u x (k - mc_fw th x i) (z - mc_fw W x i) := (mc_S_step hk).mp h
theorem mc_cp_s {u m : Nat} {x0 x : Int32} (hN : N ≤ 6) (h01 : ∀ q, th q = 0 ∨ th q = 1) (h0 : mc_cp N W th u m x0) (h2 : ∀ i, bt x0 i = true → bt x i = true) (h3 : ∀ a, a < 36 → ¬ th a = 0 → bt x0 (a / 6) = true → bt x (a % 6) = true) : mc_cp N W th u (m + 1) x := by
  intro i k z hk hk2 hS
  by_cases hle : k ≤ m + 1
  · exact h2 i (h0 i k z hk hle hS)
  · obtain ⟨y, hA, hS'⟩ := mc_S_lt N W th hk hS
    have nz := mc_E_t.mp hA.2.2
    have hf : mc_fw th y i = 1 := by
      unfold mc_fw
      rw [(h01 _).resolve_left nz]
      decide
    rw [hf] at hS'
    have hb := h0 y (k - 1) _ (by omega) (by omega) hS'
    have hy := hA.1
    have hi := hA.2.1
    have d1 : (6 * y + i) / 6 = y := by omega
    have d2 : (6 * y + i) % 6 = i := by omega
    have := h3 (6 * y + i) (by omega) nz (by rw [d1]; exact hb)
    rwa [d2] at this
theorem mc_c40 {post : Int32 → Prop} {u : Nat} {dp bz fo tp bo pn mk bd un : Int32} {wy nx ma : Nat → Int32} (hN : N ≤ 6) (hu : u < N) (h01 : ∀ q, th q = 0 ∨ th q = 1) (hn : mc_tn N th) (h1 : mc_CP N W th u → post 1) (h0 : ¬ mc_CP N W th u → post 0) :
    ∀ m r x, r + m = 6 → mc_sd N W th u x → mc_cp N W th u r x → wY_comesBack_40 post (nI u) (nI N) dp bz fo tp bo pn mk bd un th W tm wy nx ma (m + 1) x (nI r) := by
  intro m
  induction m with
  | zero =>
    intro r x hr hs hc
    have e : r = 6 := by omega
    subst e
    have cg := mc_get x (u := u) (by omega)
    refine br_t (nI_le (a := 6) (b := 6) (by omega) (by omega)) (br_c (fun b => h1 ?_) (fun nb => h0 ?_))
    · obtain ⟨_, k, z, g1, g2⟩ := hs u (by omega) (cg.mp b)
      obtain ⟨k', z', a1, a2, a3⟩ := mc_thr hN h01 g1 g2
      exact ⟨k', z', a1, by omega, a3⟩
    · rintro ⟨k, z, a1, a2, a3⟩
      obtain ⟨k', z', b1, b2, b3⟩ := mc_thr hN h01 (by omega) a3
      exact nb (cg.mpr (hc u k' z' (by omega) (by omega) b3))
  | succ m ih =>
    intro r x hr hs hc
    refine br_f (nI_ge (b := 6) (by omega) (by omega)) ⟨37, mc_c49 N W th tm (x0 := x) hN h01 hn (fun x' g1 g2 g3 => nm_r (nI_1 r) (ih (r + 1) x' (by omega) g1 (mc_cp_s N W th hN h01 hc g2 g3))) 36 0 x (by omega) hs (fun _ h => h) (fun a' ha' => by omega)⟩
theorem mc_c4 {post : Int32 → Prop} {u : Nat} {dp bz fo tp bo pn mk bd un : Int32} {wy nx ma : Nat → Int32} (hN : N ≤ 6) (hu : u < N) (h01 : ∀ q, th q = 0 ∨ th q = 1) (hn : mc_tn N th) (h1 : mc_CP N W th u → post 1) (h0 : ¬ mc_CP N W th u → post 0) :
    ∀ m v x, v + m = N → (∀ i, i < 32 → (bt x i = true ↔ i < v ∧ ¬ th (6 * u + i) = 0)) → wY_comesBack_4 post (nI u) (nI N) dp bz fo tp bo pn mk bd un th W tm wy nx ma (m + 1) x (nI v) := by
  intro m
  induction m with
  | zero =>
    intro v x hv hx
    have e : v = N := by omega
    subst e
    refine br_t (nI_le (Nat.le_refl _) (by omega)) ⟨7, mc_c40 v W th tm hN hu h01 hn h1 h0 6 0 x (by omega) ?_ ?_⟩
    · intro i hi hb
      obtain ⟨g1, g2⟩ := (hx i hi).mp hb
      refine ⟨g1, mc_fw th u i, mc_fw W u i, ?_, ?_⟩
      · unfold mc_fw
        rw [(h01 _).resolve_left g2]
        decide
      · have hA : mc_A v (mc_E th) u i := ⟨hu, g1, mc_E_t.mpr g2⟩
        have : mc_Sx v W th u u 0 0 := ⟨[], rfl, (fun e he => nomatch he), rfl, rfl⟩
        have h := mc_S_app this hA
        rw [Int.zero_add, Int.zero_add] at h
        exact h
    · intro i k z hk hk2 hS
      obtain ⟨y, hA, hS'⟩ := mc_S_lt v W th hk hS
      have nz := mc_E_t.mp hA.2.2
      have hf : mc_fw th y i = 1 := by
        unfold mc_fw
        rw [(h01 _).resolve_left nz]
        decide
      have ek : k - mc_fw th y i = 0 := by omega
      rw [ek] at hS'
      have hp : ∀ a b, mc_A v (mc_E th) a b → 1 ≤ mc_fw th a b := by
        intro a b h
        unfold mc_fw
        rw [(h01 _).resolve_left (mc_E_t.mp h.2.2)]
        decide
      have := (mc_S_0 hp).mp hS'
      rw [← this.1] at nz
      exact (hx i (by have := hA.2.1; omega)).mpr ⟨hA.2.1, nz⟩
  | succ m ih =>
    intro v x hv hx
    have ei : 6 * nI u + nI v = nI (6 * u + v) := by
      rw [show 6 * nI u = nI (6 * u) from mc_mulN 6 _, nI_add]
    have hc : (nI (6 * u + v)).toNatClampNeg = 6 * u + v := nI_clamp (by omega)
    refine br_f (nI_ge (by omega) (by omega)) ⟨by rw [ei]; exact vp_in_nI (by omega) (by omega), br_c (fun z => nm_r (nI_1 v) (ih (v + 1) x (by omega) (fun i hi => ?_))) (fun nz => nm_e (nm_r (nI_1 v) (ih (v + 1) _ (by omega) (fun i hi => ?_))))⟩
    · rw [ei, hc] at z
      rw [hx i hi]
      constructor
      · rintro ⟨a, b⟩; exact ⟨by omega, b⟩
      · rintro ⟨a, b⟩
        by_cases e : i = v
        · subst e; exact absurd z b
        · exact ⟨by omega, b⟩
    · rw [ei, hc] at nz
      rw [mc_set x (by omega) hi, hx i hi]
      constructor
      · rintro (⟨a, b⟩ | rfl)
        · exact ⟨by omega, b⟩
        · exact ⟨by omega, nz⟩
      · rintro ⟨a, b⟩
        by_cases e : i = v
        · exact Or.inr e
        · exact Or.inl ⟨by omega, b⟩
theorem mc_yoc {post : Int32 → Prop} {dp bz fo tp bo pn mk bd un : Int32} {wy nx ma : Nat → Int32} (hN : N ≤ 6) (h01 : ∀ q, th q = 0 ∨ th q = 1) (hn : mc_tn N th) (hp : ∀ x, (∀ i, i < 32 → (bt x i = true ↔ i < N ∧ mc_CP N W th i)) → post x) :
    ∀ m u x, u + m = N → (∀ i, i < 32 → (bt x i = true ↔ i < u ∧ mc_CP N W th i)) → wY_onCircle_4 post (nI N) dp bz fo tp bo pn mk bd un th W tm wy nx ma (m + 1) x (nI u) := by
  intro m
  induction m with
  | zero =>
    intro u x hu hx
    have e : u = N := by omega
    subst e
    exact br_t (nI_le (Nat.le_refl _) (by omega)) (hp x hx)
  | succ m ih =>
    intro u x hu hx
    refine br_f (nI_ge (by omega) (by omega)) ⟨N + 1, mc_c4 N W th tm hN (by omega) h01 hn (fun h => br_f (by decide) (nm_e (nm_r (nI_1 u) (ih (u + 1) _ (by omega) (fun i hi => ?_))))) (fun h => br_t rfl (nm_r (nI_1 u) (ih (u + 1) _ (by omega) (fun i hi => ?_)))) N 0 0 (by omega) (fun i hi => ?_)⟩
    · rw [mc_set x (by omega) hi, hx i hi]
      constructor
      · rintro (⟨a, b⟩ | rfl)
        · exact ⟨by omega, b⟩
        · exact ⟨by omega, h⟩
      · rintro ⟨a, b⟩
        by_cases e : i = u
        · exact Or.inr e
        · exact Or.inl ⟨by omega, b⟩
    · rw [hx i hi]
      constructor
      · rintro ⟨a, b⟩; exact ⟨by omega, b⟩
      · rintro ⟨a, b⟩
        by_cases e : i = u
        · subst e; exact absurd b h
        · exact ⟨by omega, b⟩
    · rw [b_0]
      constructor
      · intro h; exact nomatch h
      · rintro ⟨h, _⟩; omega
end MC09
end
section
section MC10
/-! the reference's search in two passes, and its answers -/
variable (N : Nat) (bz : Int32) (th W tm : Nat → Int32)
theorem mc_lq_b {t b : Int} {L : List (List Nat)} (hN : N ≤ 6) (ho : mc_oy W th tm) (hL : ∀ c ∈ L, mc_ci (mc_A N (mc_E th)) c) (h : mc_lq bz W tm L t b) : -120 ≤ t ∧ t ≤ 120 ∧ 1 ≤ b ∧ b ≤ 30 := by
  rcases h with ⟨_, h1, h2⟩ | ⟨c, hc, h1, h2, _⟩
  · omega
  · have := mc_cb (bz := bz) hN ho (hL c hc)
    omega
def mc_sp (post : SY → Prop) : Prop := ∀ (dp pn un : Int32) (wy nx ma : Nat → Int32) (t b : Int), mc_lq bz W tm (mc_al N (mc_E th)) t b → (∀ q, q < 36 → (ma q = 1 ∧ mc_mq bz W tm t b (mc_al N (mc_E th)) q) ∨ (ma q = 0 ∧ ¬ mc_mq bz W tm t b (mc_al N (mc_E th)) q)) → (∀ i, i < 32 → (bt pn i = true ↔ mc_pq bz W tm t b (mc_al N (mc_E th)) i)) → post (nI N, dp, bz, nI (mc_al N (mc_E th)).length, mc_I t, mc_I b, pn, 1, -1000, un, th, W, tm, wy, nx, ma)
theorem mc_s43 {post : SY → Prop} {dp fo un : Int32} {wy nx : Nat → Int32} {t b : Int} (hN : N ≤ 6) (ho : mc_oy W th tm) (hl : mc_lq bz W tm (mc_al N (mc_E th)) t b) (hp : mc_sp N bz th W tm post) :
    ∀ m i (ma : Nat → Int32), i + m = 36 → (∀ q, q < i → ma q = 0) → wY_search_43 post (nI N) dp bz fo (mc_I t) (mc_I b) 0 1 (-1000) un (m + 1) (nI i) th W tm wy nx ma := by
  have bl := mc_lq_b N bz th W tm hN ho (fun c hc => mc_al_sound hc) hl
  intro m
  induction m with
  | zero =>
    intro i ma hi hm
    have e : i = 36 := by omega
    subst e
    refine br_t (nI_le (a := 36) (b := 36) (by omega) (by omega)) (mc_gT N bz 1 (-1000) th W tm (mc_Q2 bz W tm t b) _ hN (mc_LK2 N bz th W tm hN ho (by omega) (by omega) (-1000)) ⟨rfl, rfl, rfl, fun q hq => Or.inr ⟨hm q hq, ?_⟩, fun i hi => ?_⟩ (fun dp fo tp bo pn un ma wy nx hq => ?_))
    · rintro ⟨c, hc, _⟩
      exact nomatch hc
    · rw [b_0]
      constructor
      · intro h; exact nomatch h
      · rintro ⟨c, hc, _⟩
        exact nomatch hc
    · obtain ⟨q1, q2, q3, q4, q5⟩ := hq
      subst q1 q2 q3
      exact hp dp pn un wy nx ma t b hl q4 q5
  | succ m ih =>
    intro i ma hi hm
    refine br_f (nI_ge (b := 36) (by omega) (by omega)) ⟨vp_in_nI (by omega) (by omega), nm_r (e' := upd ma i 0) (by rw [nI_clamp (by omega), mc_b0]) (nm_r (nI_1 i) (ih (i + 1) _ (by omega) (fun q hq => ?_)))⟩
    by_cases e : q = i
    · rw [e, mc_us]
    · rw [mc_un e]
      exact hm q (by omega)
theorem mc_m1000 : mc_I (-1000) = -1000 := by decide
theorem mc_sr {post : SY → Prop} {dp b0 fo tp bo pn mk bd un : Int32} {wy nx ma : Nat → Int32} (hN : N ≤ 6) (ho : mc_oy W th tm) (hz : bz = 0 ∨ bz = 1) (hp : mc_sp N bz th W tm post) : wpY_search post (nI N, dp, b0, fo, tp, bo, pn, mk, bd, un, th, W, tm, wy, nx, ma) bz := by
  have hg : wpY_goThrough (fun u => match u with | (f_n, f_depth, f_byTime, f_found, f_top, f_bottom, _f_points, _f_marking, f_bound, f_under, a_there, a_weights, a_times, a_way, a_next, a_marked) => ∃ n43 : Nat, wY_search_43 post f_n f_depth f_byTime f_found f_top f_bottom 0 1 f_bound f_under n43 0 a_there a_weights a_times a_way a_next a_marked) (nI N, dp, bz, fo, 0, 1, pn, 0, -1000, un, th, W, tm, wy, nx, ma) := by
    rw [← mc_m1000]
    refine mc_gT N bz 0 (mc_I (-1000)) th W tm (mc_Q1 N bz th W tm (-1000) un pn ma) _ hN (mc_LK1 N bz th W tm hN ho (by omega)) ⟨rfl, rfl, rfl, (fun c hc => nomatch hc), ⟨0, 1, mc_I_0.symm, mc_I_1.symm, Or.inl ⟨rfl, rfl, rfl⟩⟩, Or.inl ⟨rfl, (fun c hc => nomatch hc)⟩⟩ (fun dp fo tp bo pn' un' ma' wy nx hq => ?_)
    obtain ⟨q1, q2, q3, q4, ⟨t, b, q5, q6, q7⟩, q8⟩ := hq
    subst q5 q6
    dsimp only
    rw [mc_m1000]
    exact ⟨37, mc_s43 N bz th W tm hN ho q7 hp 36 0 ma' (by omega) (fun q hq => by omega)⟩
  rcases hz with e | e
  · subst e; exact ⟨rfl, rfl, hg⟩
  · subst e; exact ⟨rfl, rfl, hg⟩
/-! Euclid -/
theorem mc_c27 {post : Int32 → Prop} {n dp fo tp bo pn mk bd un : Int32} {wy nx ma : Nat → Int32} : ∀ m k a b, k + m = 20 → a < 1000 → b < 1000 → 1 ≤ mc_eu m a b → post (nI (mc_eu m a b)) → wY_common_27 post n dp bz fo tp bo pn mk bd un th W tm wy nx ma (m + 1) (nI a) (nI b) (nI k) := by
  intro m
  induction m with
  | zero =>
    intro k a b hk ha hb h1 hp
    have e : k = 20 := by omega
    subst e
    exact br_t (nI_le (a := 20) (b := 20) (by omega) (by omega)) (br_t (nI_le (a := 1) (b := b) h1 (by omega)) hp)
  | succ m ih =>
    intro k a b hk ha hb h1 hp
    refine br_f (nI_ge (b := 20) (by omega) (by omega)) (br_c (fun z => ?_) (fun nz => br_f nz ⟨nz, nm_r (e' := nI (b % a)) ?_ (nm_r (nI_1 k) ?_)⟩))
    · rw [← nI_0, nI_eq (by omega) (by omega)] at z
      subst z
      exact nm_r (nI_1 k) (ih (k + 1) 0 b (by omega) (by omega) hb h1 hp)
    · rw [← nI_0, nI_eq (by omega) (by omega)] at nz
      exact pk_rem (by omega) (by omega) (by omega)
    · rw [← nI_0, nI_eq (by omega) (by omega)] at nz
      have e : mc_eu (m + 1) a b = mc_eu m (b % a) a := if_neg nz
      rw [e] at h1 hp
      have := Nat.mod_lt b (Nat.pos_of_ne_zero nz)
      exact ih (k + 1) (b % a) a (by omega) (by omega) ha h1 hp
theorem mc_cm {post : Int32 → Prop} {n dp fo pn mk bd un : Int32} {wy nx ma : Nat → Int32} {t : Int} {b : Nat} (ht : -120 ≤ t ∧ t ≤ 120) (hb : 1 ≤ b ∧ b ≤ 30) (hp : post (nI (Nat.gcd t.natAbs b))) : wpY_common post (n, dp, bz, fo, mc_I t, nI b, pn, mk, bd, un, th, W, tm, wy, nx, ma) := by
  have eg := mc_eu_gcd t.natAbs (by omega) b (by omega)
  have g0 := Nat.gcd_pos_of_pos_right t.natAbs hb.1
  have hw := fun (x : Int32) (ex : x = nI t.natAbs) => (show ∃ n27, wY_common_27 post n dp bz fo (mc_I t) (nI b) pn mk bd un th W tm wy nx ma n27 x (nI b) 0 from by
    rw [ex]
    exact ⟨21, mc_c27 bz th W tm 20 0 t.natAbs b (by omega) (by omega) (by omega) (by rw [eg]; exact g0) (by rw [eg]; exact hp)⟩)
  refine br_c (fun h => hw _ ?_) (fun h => nm_r (e' := nI t.natAbs) ?_ (hw _ rfl))
  · rw [← mc_I_0, mc_I_le (by omega) (by omega) (by omega) (by omega)] at h
    rw [← mc_I_nat, Int.natAbs_of_nonneg h]
  · rw [← mc_I_0, mc_I_le (by omega) (by omega) (by omega) (by omega)] at h
    rw [← mc_I_nat, mc_I_neg]
    congr 1
    omega
/-- the answer's value: upper or lower part of the best quotient in lowest terms -/
def mc_av (p1 : Int32) (r : Int32) : Prop := (mc_al N (mc_E th) = [] ∧ r = -1000) ∨ (¬ mc_al N (mc_E th) = [] ∧ ∃ (t : Int) (b : Int) (t' : Int) (b' g : Nat), mc_lq bz W tm (mc_al N (mc_E th)) t b ∧ 1 ≤ g ∧ 1 ≤ b' ∧ t = t' * g ∧ b = b' * g ∧ Nat.gcd t'.natAbs b' = 1 ∧ r = if p1 = 0 then nI b' else mc_I t')
theorem mc_an {post : Int32 → SY → Prop} {dp b0 fo tp bo pn mk bd un p1 : Int32} {wy nx ma : Nat → Int32} (hN : N ≤ 6) (ho : mc_oy W th tm) (hz : bz = 0 ∨ bz = 1) (hp : ∀ (r dp b0 fo tp bo pn mk bd un : Int32) (wy nx ma : Nat → Int32), mc_av N bz th W tm p1 r → post r (nI N, dp, b0, fo, tp, bo, pn, mk, bd, un, th, W, tm, wy, nx, ma)) : wpY_answer post (nI N, dp, b0, fo, tp, bo, pn, mk, bd, un, th, W, tm, wy, nx, ma) bz p1 := by
  unfold wpY_answer
  dsimp only
  refine mc_sr N bz th W tm hN ho hz (fun dp pn un wy nx ma t b hl hm hq => ?_)
  have hlen := mc_al_len (n := N) (E := mc_E th) hN
  have bl := mc_lq_b N bz th W tm hN ho (fun c hc => mc_al_sound hc) hl
  refine br_c (fun f0 => hp _ _ _ _ _ _ _ _ _ _ _ _ _ (Or.inl ⟨?_, rfl⟩)) (fun nf => ?_)
  · rw [← nI_0, nI_eq (by omega) (by omega)] at f0
    exact List.length_eq_zero_iff.mp f0
  · have hne : ¬ mc_al N (mc_E th) = [] := by
      intro e
      rw [e] at nf
      exact nf nI_0
    obtain ⟨bn, rfl⟩ : ∃ bn : Nat, b = (bn : Int) := ⟨b.toNat, by omega⟩
    obtain ⟨t', b', h1, h2, h3, h4⟩ := mc_div_gcd (t := t) (b := bn) (by omega)
    have g0 := Nat.gcd_pos_of_pos_right t.natAbs (n := bn) (by omega)
    have hgl : Nat.gcd t.natAbs bn ≤ bn := Nat.gcd_le_right _ (by omega)
    rw [mc_I_nat]
    refine mc_cm bz th W tm (by omega) (by omega) ?_
    generalize Nat.gcd t.natAbs bn = g at *
    have gne : ¬ nI g = 0 := nI_ne0 g0 (by omega)
    refine br_c (fun e => ⟨gne, hp _ _ _ _ _ _ _ _ _ _ _ _ _ (Or.inr ⟨hne, t, bn, t', b', g, hl, g0, h1, h2, by rw [h3]; exact Int.natCast_mul _ _, h4, ?_⟩)⟩) (fun ne => ⟨gne, hp _ _ _ _ _ _ _ _ _ _ _ _ _ (Or.inr ⟨hne, t, bn, t', b', g, hl, g0, h1, h2, by rw [h3]; exact Int.natCast_mul _ _, h4, ?_⟩)⟩)
    · rw [if_pos e, pk_div (by omega) (by omega) (by omega), h3, Nat.mul_div_cancel _ g0]
    · rw [if_neg ne, ← mc_I_nat g, mc_I_div (by omega) (by omega) (by omega) (by omega), h2, Int.mul_tdiv_cancel _ (by omega)]
end MC10
end
section
section MC11
/-! where the two sides meet: closed walks of span at most 30 against circles -/
def mc_X (N : Nat) (W th sa tY : Nat → Int32) (bz : Int32) : Prop := N ≤ 6 ∧ mc_ok W sa ∧ mc_oy W th tY ∧ mc_E sa = mc_E th ∧ ∀ c, mc_ci (mc_A N (mc_E th)) c → mc_sz tY bz c = mc_sm (mc_fw sa) (mc_cy c)
variable {N : Nat} {W th sa tY : Nat → Int32} {bz : Int32}
theorem mc_x1 (hX : mc_X N W th sa tY bz) {c : List Nat} (hc : c ∈ mc_al N (mc_E th)) {u v : Nat} (he : (u, v) ∈ mc_cy c) : ∃ k : Nat, (k : Int) = mc_sz tY bz c ∧ 1 ≤ k ∧ k ≤ 30 ∧ u < N ∧ v < N ∧ ¬ sa (6 * u + v) = 0 ∧ mc_Sx N W sa u u k (mc_zt W c) ∧ mc_Sx N W sa v u (k - mc_fw sa u v) (mc_zt W c - mc_fw W u v) := by
  obtain ⟨h1, h2, h3, h4, h5⟩ := hX
  have hci := mc_al_sound hc
  have b := mc_cb (bz := bz) h1 h3 hci
  have hs := h5 c hci
  obtain ⟨k, hk⟩ : ∃ k : Nat, (k : Int) = mc_sz tY bz c := ⟨(mc_sz tY bz c).toNat, by omega⟩
  have hA := hci.2.2 _ he
  have hA' : mc_A N (mc_E sa) u v := by rw [h4]; exact hA
  refine ⟨k, hk, by omega, by omega, hA.1, hA.2.1, mc_E_t.mp hA'.2.2, ?_, ?_⟩
  · unfold mc_Sx
    rw [h4, hk, hs]
    exact mc_rot2 hci he
  · unfold mc_Sx
    rw [h4, hk, hs]
    exact (mc_rot hci he).1
theorem mc_x2 (hX : mc_X N W th sa tY bz) {T B : Int} (hm : ∀ c ∈ mc_al N (mc_E th), T * mc_sz tY bz c ≤ B * mc_zt W c) {c : List Nat} (hn : c ≠ []) (hA : ∀ e ∈ mc_cy c, mc_A N (mc_E sa) e.1 e.2) : T * mc_sm (mc_fw sa) (mc_cy c) ≤ B * mc_sm (mc_fw W) (mc_cy c) ∧ (T * mc_sm (mc_fw sa) (mc_cy c) = B * mc_sm (mc_fw W) (mc_cy c) → ∀ e ∈ mc_cy c, ∃ c' ∈ mc_al N (mc_E th), T * mc_sz tY bz c' = B * mc_zt W c' ∧ e ∈ mc_cy c') := by
  obtain ⟨h1, h2, h3, h4, h5⟩ := hX
  rw [h4] at hA
  have hq : ∀ q, mc_ci (mc_A N (mc_E th)) q → T * mc_sm (mc_fw sa) (mc_cy q) ≤ B * mc_sm (mc_fw W) (mc_cy q) := by
    intro q hq
    obtain ⟨c', m1, m2, m3⟩ := mc_al_compl h1 hq
    have := hm c' m1
    rw [h5 c' (mc_al_sound m1), m3] at this
    unfold mc_zt at this
    rwa [m3] at this
  obtain ⟨g1, g2⟩ := mc_clo hq hn hA
  refine ⟨g1, fun e x hx => ?_⟩
  obtain ⟨q, q1, q2, q3⟩ := g2 e x hx
  obtain ⟨c', m1, m2, m3⟩ := mc_al_compl h1 q1
  refine ⟨c', m1, ?_, (m2 x).mp q3⟩
  rw [h5 c' (mc_al_sound m1)]
  unfold mc_zt
  rw [m3, m3]
  exact q2
/-- a closed walk through an arc -/
theorem mc_cl2 {A : Nat → Nat → Prop} {w sp : Nat → Nat → Int} {u v : Nat} {k z : Int} (hA : A u v) (h : mc_S A w sp v u k z) : ∃ c, c ≠ [] ∧ (∀ e ∈ mc_cy c, A e.1 e.2) ∧ mc_sm sp (mc_cy c) = k + sp u v ∧ mc_sm w (mc_cy c) = z + w u v ∧ (u, v) ∈ mc_cy c := by
  obtain ⟨l, hu, hl, hk, hz⟩ := h
  have e : mc_cy (u :: l) = (u, v) :: mc_ar l u := by rw [← hu]; rfl
  refine ⟨u :: l, by simp, ?_, ?_, ?_, ?_⟩
  · rw [e]
    intro y hy
    rcases List.mem_cons.mp hy with h | h
    · rw [h]; exact hA
    · exact hl y h
  · rw [e, ← hk]; exact Int.add_comm _ _
  · rw [e, ← hz]; exact Int.add_comm _ _
  · rw [e]; exact List.mem_cons_self
theorem mc_arc0 {c : List Nat} (h : c ≠ []) : ∃ e, e ∈ mc_cy c := by
  cases c with
  | nil => exact absurd rfl h
  | cons a l => exact ⟨_, List.mem_cons_self⟩
theorem mc_none (hX : mc_X N W th sa tY bz) {T : Int} {B : Nat} (hF : mc_F N W sa T B) : mc_al N (mc_E th) = [] ↔ B = 0 := by
  constructor
  · intro e
    rcases hF with ⟨h, _⟩ | ⟨_, _, _, ⟨k, u, z, k1, k2, k3, k4, _⟩, _⟩
    · exact h
    · obtain ⟨c, c1, c2, _, _, y, c5⟩ := mc_cls (by omega) k4
      obtain ⟨c', m, _⟩ := (mc_x2 hX (T := 0) (B := 0) (fun _ _ => by rw [Int.zero_mul, Int.zero_mul]; exact Int.le_refl _) c1 c2).2 (by rw [Int.zero_mul, Int.zero_mul]) _ c5
      rw [e] at m
      exact nomatch m
  · intro e
    rcases hF with ⟨_, _, h⟩ | ⟨h, _⟩
    · cases hal : mc_al N (mc_E th) with
      | nil => rfl
      | cons c L =>
        have hc : c ∈ mc_al N (mc_E th) := by rw [hal]; exact List.mem_cons_self
        obtain ⟨⟨u, v⟩, he⟩ := mc_arc0 (mc_al_sound hc).1
        obtain ⟨k, _, k1, k2, k3, _, _, k4, _⟩ := mc_x1 hX hc he
        exact absurd k4 (h k u _ k1 k2 k3)
    · omega
theorem mc_lq_m {t b : Int} (h : mc_lq bz W tY (mc_al N (mc_E th)) t b) : ∀ c ∈ mc_al N (mc_E th), t * mc_sz tY bz c ≤ b * mc_zt W c := by
  rcases h with ⟨e, _⟩ | ⟨c, _, h1, h2, h3⟩
  · intro c hc
    rw [e] at hc
    exact nomatch hc
  · intro c' hc'
    rw [h1, h2, Int.mul_comm (mc_sz tY bz c)]
    exact h3 c' hc'
theorem mc_same (hX : mc_X N W th sa tY bz) {T t b : Int} {B : Nat} (hF : mc_F N W sa T B) (hl : mc_lq bz W tY (mc_al N (mc_E th)) t b) (hB : ¬ B = 0) : 1 ≤ b ∧ b ≤ 30 ∧ T * b = t * B := by
  have hb := mc_lq_b N bz th W tY hX.1 hX.2.2.1 (fun c hc => mc_al_sound hc) hl
  refine ⟨hb.2.2.1, hb.2.2.2, ?_⟩
  have hne : ¬ mc_al N (mc_E th) = [] := fun e => hB ((mc_none hX hF).mp e)
  have hm := mc_lq_m hl
  rcases hF with ⟨h, _⟩ | ⟨h1, _, _, ⟨k, u, z, k1, k2, k3, k4, k5⟩, h5⟩
  · exact absurd h hB
  · apply Int.le_antisymm
    · rcases hl with ⟨e, _⟩ | ⟨c, hc, e1, e2, _⟩
      · exact absurd e hne
      · obtain ⟨⟨u', v'⟩, he⟩ := mc_arc0 (mc_al_sound hc).1
        obtain ⟨k', q0, q1, q2, q3, _, _, q4, _⟩ := mc_x1 hX hc he
        have := h5 k' u' _ q1 q2 q3 q4
        rw [e1, e2, ← q0]
        exact this
    · obtain ⟨c, c1, c2, c3, c4, _⟩ := mc_cls (by omega) k4
      have := (mc_x2 hX hm c1 c2).1
      rw [c3, c4] at this
      have a1 : (t * k) * B ≤ (b * z) * B := Int.mul_le_mul_of_nonneg_right this (by omega)
      have e1 : (b * z) * B = (T * b) * k := by rw [Int.mul_assoc, ← k5, ← Int.mul_assoc, Int.mul_comm b T]
      have e2 : (t * k) * B = (t * B) * k := Int.mul_right_comm _ _ _
      rw [e1, e2] at a1
      exact Int.le_of_mul_le_mul_right a1 (by omega)
theorem mc_ans (hX : mc_X N W th sa tY bz) {T : Int} {B : Nat} {p1 r : Int32} (hF : mc_F N W sa T B) (h : mc_av N bz th W tY p1 r) : (B = 0 ∧ r = -1000) ∨ (¬ B = 0 ∧ r = if p1 = 0 then nI B else mc_I T) := by
  rcases h with ⟨e, hr⟩ | ⟨ne, t, b, t', b', g, hl, g0, hb', h2, h3, h4, hr⟩
  · exact Or.inl ⟨(mc_none hX hF).mp e, hr⟩
  · have hB : ¬ B = 0 := fun e => ne ((mc_none hX hF).mpr e)
    have hs := (mc_same hX hF hl hB).2.2
    have hg : Nat.gcd T.natAbs B = 1 := by
      rcases hF with ⟨h, _⟩ | ⟨_, _, h, _⟩
      · exact absurd h hB
      · exact h
    have e : t' * B = T * b' := by
      rw [h2, h3, ← Int.mul_assoc, Int.mul_right_comm t'] at hs
      exact (Int.eq_of_mul_eq_mul_right (by omega) hs).symm
    obtain ⟨e1, e2⟩ := mc_low (by omega) (by omega) h4 hg e
    rw [e1, e2] at hr
    exact Or.inr ⟨hB, hr⟩
/-- cancel: the two forms of a best quotient -/
theorem mc_can {T t b z k : Int} {B : Nat} (hB : ¬ B = 0) (hb : 1 ≤ b) (h : T * b = t * B) : z * B = T * k ↔ t * k = b * z := by
  constructor
  · intro e
    have : (t * k) * B = (b * z) * B := by
      rw [Int.mul_right_comm, ← h, Int.mul_right_comm, ← e, Int.mul_comm b z, Int.mul_right_comm]
    exact Int.eq_of_mul_eq_mul_right (by omega) this
  · intro e
    have : (z * B) * b = (T * k) * b := by
      rw [Int.mul_right_comm, Int.mul_comm z b, ← e, Int.mul_right_comm, ← h, Int.mul_right_comm]
    exact Int.eq_of_mul_eq_mul_right (by omega) this
theorem mc_pts (hX : mc_X N W th sa tY bz) {T t b : Int} {B : Nat} (hF : mc_F N W sa T B) (hl : mc_lq bz W tY (mc_al N (mc_E th)) t b) (i : Nat) : (i < N ∧ mc_BP N W sa T B i) ↔ mc_pq bz W tY t b (mc_al N (mc_E th)) i := by
  by_cases hB : B = 0
  · have e := (mc_none hX hF).mpr hB
    constructor
    · rintro ⟨hi, k, z, k1, k2, k3, _⟩
      rcases hF with ⟨_, _, h⟩ | ⟨h, _⟩
      · exact absurd k3 (h k i z k1 k2 hi)
      · omega
    · rintro ⟨c, hc, _⟩
      rw [e] at hc
      exact nomatch hc
  · obtain ⟨hb, _, hs⟩ := mc_same hX hF hl hB
    constructor
    · rintro ⟨hi, k, z, k1, k2, k3, k4⟩
      obtain ⟨c, c1, c2, c3, c4, y, c5⟩ := mc_cls (by omega) k3
      have hx := (mc_x2 hX (mc_lq_m hl) c1 c2).2
      rw [c3, c4] at hx
      obtain ⟨c', m1, m2, m3⟩ := hx ((mc_can hB hb hs).mp k4) _ c5
      exact ⟨c', m1, by unfold mc_bs; rw [m2, Int.mul_comm], (mc_ar_mem m3).1⟩
    · rintro ⟨c, hc, hbs, hi⟩
      obtain ⟨y, hy⟩ := mc_ar_fst (v := mc_hd c 0) hi
      obtain ⟨k, q0, q1, q2, q3, _, _, q4, _⟩ := mc_x1 hX hc hy
      refine ⟨q3, k, _, q1, q2, q4, (mc_can hB hb hs).mpr ?_⟩
      unfold mc_bs at hbs
      rw [q0, ← hbs, Int.mul_comm]
theorem mc_arcs (hX : mc_X N W th sa tY bz) {T t b : Int} {B : Nat} (hF : mc_F N W sa T B) (hl : mc_lq bz W tY (mc_al N (mc_E th)) t b) {u v : Nat} (hA : mc_A N (mc_E sa) u v) : mc_BA N W sa T B u v ↔ mc_mq bz W tY t b (mc_al N (mc_E th)) (6 * u + v) := by
  have hN := hX.1
  have hu := hA.1
  have hv := hA.2.1
  have hsp := hX.2.1.2 _ (mc_E_t.mp hA.2.2)
  have hsp' : 1 ≤ mc_fw sa u v ∧ mc_fw sa u v ≤ 5 := hsp
  by_cases hB : B = 0
  · have e := (mc_none hX hF).mpr hB
    constructor
    · rintro ⟨r, z, r1, r2, _⟩
      rcases hF with ⟨_, _, h⟩ | ⟨h, _⟩
      · obtain ⟨s, es⟩ : ∃ s : Nat, (s : Int) = mc_fw sa u v := ⟨(mc_fw sa u v).toNat, by omega⟩
        have hcl := mc_S_pre r2 hA
        have er : (r : Int) + mc_fw sa u v = ((r + s : Nat) : Int) := by rw [Int.natCast_add, es]
        rw [er] at hcl
        exact absurd hcl (h (r + s) u _ (by omega) (by omega) hu)
      · omega
    · rintro ⟨c, hc, _⟩
      rw [e] at hc
      exact nomatch hc
  · obtain ⟨hb, _, hs⟩ := mc_same hX hF hl hB
    constructor
    · rintro ⟨r, z, r1, r2, r3⟩
      obtain ⟨c, c1, c2, c3, c4, c5⟩ := mc_cl2 hA r2
      have hx := (mc_x2 hX (mc_lq_m hl) c1 c2).2
      rw [c3, c4] at hx
      obtain ⟨c', m1, m2, m3⟩ := hx ((mc_can hB hb hs).mp r3) _ c5
      exact ⟨c', m1, by unfold mc_bs; rw [m2, Int.mul_comm], (u, v), m3, rfl⟩
    · rintro ⟨c, hc, hbs, ⟨x, y⟩, he, hxy⟩
      obtain ⟨k, q0, q1, q2, q3, q3', _, q4, q5⟩ := mc_x1 hX hc he
      have hxy' : 6 * x + y = 6 * u + v := hxy
      obtain ⟨rfl, rfl⟩ : x = u ∧ y = v := by omega
      have hb0 := (mc_Sx_b hX.2.1 q5).1
      obtain ⟨r, er⟩ : ∃ r : Nat, (r : Int) = k - mc_fw sa x y := ⟨((k : Int) - mc_fw sa x y).toNat, by omega⟩
      rw [← er] at q5
      refine ⟨r, _, by omega, q5, (mc_can hB hb hs).mpr ?_⟩
      unfold mc_bs at hbs
      rw [Int.sub_add_cancel, er, Int.sub_add_cancel, q0, ← hbs, Int.mul_comm]
theorem mc_mq_A (hX : mc_X N W th sa tY bz) {t b : Int} {u v : Nat} (hu : u < N) (hv : v < N) (h : mc_mq bz W tY t b (mc_al N (mc_E th)) (6 * u + v)) : mc_A N (mc_E sa) u v := by
  have hN := hX.1
  obtain ⟨c, hc, _, ⟨x, y⟩, he, hxy⟩ := h
  obtain ⟨k, _, _, _, q3, q3', q6, _⟩ := mc_x1 hX hc he
  have hxy' : 6 * x + y = 6 * u + v := hxy
  obtain ⟨rfl, rfl⟩ : x = u ∧ y = v := by omega
  exact ⟨hu, hv, mc_E_t.mpr q6⟩
theorem mc_stdy (hX : mc_X N W th sa tY bz) {T p : Int} {B : Nat} (hF : mc_F N W sa T B) : (B = 0 ∨ ¬ T < p * B) ↔ ∀ c ∈ mc_al N (mc_E th), p * mc_sz tY bz c ≤ mc_zt W c := by
  constructor
  · intro h c hc
    have hB : ¬ B = 0 := by
      intro e
      rw [(mc_none hX hF).mpr e] at hc
      exact nomatch hc
    have hT := h.resolve_left hB
    obtain ⟨⟨u, v⟩, he⟩ := mc_arc0 (mc_al_sound hc).1
    obtain ⟨k, q0, q1, q2, q3, _, _, q4, _⟩ := mc_x1 hX hc he
    have h1 := mc_F_le hF k u _ q1 q2 q3 q4
    have h2 : (p * B) * k ≤ T * k := Int.mul_le_mul_of_nonneg_right (by omega) (by omega)
    rw [Int.mul_right_comm] at h2
    rw [← q0]
    exact Int.le_of_mul_le_mul_right (Int.le_trans h2 h1) (by omega)
  · intro h
    by_cases hB : B = 0
    · exact Or.inl hB
    · refine Or.inr (fun hlt => ?_)
      rcases hF with ⟨h', _⟩ | ⟨h1, _, _, ⟨k, u, z, k1, k2, k3, k4, k5⟩, h5⟩
      · exact absurd h' hB
      · obtain ⟨c, c1, c2, c3, c4, _⟩ := mc_cls (by omega) k4
        have hx := (mc_x2 hX (T := p) (B := 1) (fun c hc => by rw [Int.one_mul]; exact h c hc) c1 c2).1
        rw [c3, c4, Int.one_mul] at hx
        have a1 : (p * k) * B ≤ z * B := Int.mul_le_mul_of_nonneg_right hx (by omega)
        have a2 : T * k < (p * B) * k := Int.mul_lt_mul_of_pos_right hlt (by omega)
        rw [Int.mul_right_comm, ← k5] at a1
        omega
end MC11
end
section
section MC12
/-! the relation -/
def mc_R (N : Nat) (W th tX tY : Nat → Int32) : Prop := 1 ≤ N ∧ N ≤ 6 ∧ (∀ q, th q = 0 ∨ th q = 1) ∧ (∀ q, -20 ≤ (W q).toInt ∧ (W q).toInt ≤ 20) ∧ (∀ q, th q = 0 → tX q = 0) ∧ (∀ q, ¬ th q = 0 → tX q = tY q ∧ 1 ≤ (tY q).toInt ∧ (tY q).toInt ≤ 5) ∧ mc_tn N th
theorem mc_R_oks {N : Nat} {W th tX tY : Nat → Int32} (h : mc_R N W th tX tY) : mc_ok W th := by
  refine ⟨h.2.2.2.1, fun q hq => ?_⟩
  rw [(h.2.2.1 q).resolve_left hq]
  decide
theorem mc_R_okt {N : Nat} {W th tX tY : Nat → Int32} (h : mc_R N W th tX tY) : mc_ok W tX := by
  refine ⟨h.2.2.2.1, fun q hq => ?_⟩
  have hz : ¬ th q = 0 := fun e => hq (h.2.2.2.2.1 q e)
  have := h.2.2.2.2.2.1 q hz
  rw [this.1]
  exact this.2
theorem mc_R_oy {N : Nat} {W th tX tY : Nat → Int32} (h : mc_R N W th tX tY) : mc_oy W th tY := ⟨h.2.2.2.1, fun q hq => (h.2.2.2.2.2.1 q hq).2⟩
theorem mc_R_E {N : Nat} {W th tX tY : Nat → Int32} (h : mc_R N W th tX tY) : mc_E tX = mc_E th := by
  funext u v
  have : (tX (6 * u + v) = 0) ↔ (th (6 * u + v) = 0) := by
    constructor
    · intro e
      rcases h.2.2.1 (6 * u + v) with z | z
      · exact z
      · have hz : ¬ th (6 * u + v) = 0 := by rw [z]; decide
        have hh := h.2.2.2.2.2.1 _ hz
        rw [← hh.1, e] at hh
        exact absurd hh.2.1 (by decide)
    · exact h.2.2.2.2.1 _
  unfold mc_E
  simp only [this]
theorem mc_R_Xs {N : Nat} {W th tX tY : Nat → Int32} (h : mc_R N W th tX tY) : mc_X N W th th tY 0 := by
  refine ⟨h.2.1, mc_R_oks h, mc_R_oy h, rfl, fun c hc => ?_⟩
  have e1 : ∀ e ∈ mc_cy c, mc_fw th e.1 e.2 = 1 := by
    intro e he
    have := mc_E_t.mp (hc.2.2 e he).2.2
    unfold mc_fw
    rw [(h.2.2.1 _).resolve_left this]
    decide
  have hl : (mc_cy c).length = c.length := mc_ar_len _ _
  have a1 := mc_sm_lo (w := mc_fw th) (m := 1) (L := mc_cy c) (fun e he => by rw [e1 e he]; exact Int.le_refl _)
  have a2 := mc_sm_hi (w := mc_fw th) (m := 1) (L := mc_cy c) (fun e he => by rw [e1 e he]; exact Int.le_refl _)
  rw [hl] at a1 a2
  unfold mc_sz
  rw [if_pos rfl]
  omega
theorem mc_R_Xt {N : Nat} {W th tX tY : Nat → Int32} (h : mc_R N W th tX tY) : mc_X N W th tX tY 1 := by
  refine ⟨h.2.1, mc_R_okt h, mc_R_oy h, mc_R_E h, fun c hc => ?_⟩
  unfold mc_sz
  rw [if_neg (by decide)]
  refine mc_sm_congr (fun e he => ?_)
  have hz := mc_E_t.mp (hc.2.2 e he).2.2
  unfold mc_fw
  rw [(h.2.2.2.2.2.1 _ hz).1]
theorem mc_R_0 {N : Nat} (h1 : 1 ≤ N) (h6 : N ≤ 6) : mc_R N (fun _ => 0) (fun _ => 0) (fun _ => 0) (fun _ => 0) :=
  ⟨h1, h6, fun _ => Or.inl rfl, fun _ => (by decide : -20 ≤ (0 : Int32).toInt ∧ (0 : Int32).toInt ≤ 20), fun _ _ => rfl, fun _ h => absurd rfl h, fun _ h => absurd rfl h⟩
theorem mc_R_arc {N : Nat} {W th tX tY : Nat → Int32} (h : mc_R N W th tX tY) {u v : Nat} (hu : u < N) (hv : v < N) {w t : Int32} (hw : -20 ≤ w.toInt ∧ w.toInt ≤ 20) (ht : 1 ≤ t.toInt ∧ t.toInt ≤ 5) : mc_R N (upd W (6 * u + v) w) (upd th (6 * u + v) 1) (upd tX (6 * u + v) t) (upd tY (6 * u + v) t) := by
  obtain ⟨h1, h2, h3, h4, h5, h6, h7⟩ := h
  refine ⟨h1, h2, fun q => ?_, fun q => ?_, fun q => ?_, fun q => ?_, fun q => ?_⟩
  · by_cases e : q = 6 * u + v
    · rw [e, mc_us]; exact Or.inr rfl
    · rw [mc_un e]; exact h3 q
  · by_cases e : q = 6 * u + v
    · rw [e, mc_us]; exact hw
    · rw [mc_un e]; exact h4 q
  · by_cases e : q = 6 * u + v
    · rw [e, mc_us]; intro hh; exact absurd hh (by decide)
    · rw [mc_un e, mc_un e]; exact h5 q
  · by_cases e : q = 6 * u + v
    · rw [e, mc_us, mc_us, mc_us]; exact fun _ => ⟨rfl, ht⟩
    · rw [mc_un e, mc_un e, mc_un e]; exact h6 q
  · by_cases e : q = 6 * u + v
    · intro _; omega
    · rw [mc_un e]; exact h7 q
theorem mc_R_cut {N : Nat} {W th tX tY : Nat → Int32} (h : mc_R N W th tX tY) (p : Nat) : mc_R N W (upd th p 0) (upd tX p 0) tY := by
  obtain ⟨h1, h2, h3, h4, h5, h6, h7⟩ := h
  refine ⟨h1, h2, fun q => ?_, h4, fun q => ?_, fun q => ?_, fun q => ?_⟩
  · by_cases e : q = p
    · rw [e, mc_us]; exact Or.inl rfl
    · rw [mc_un e]; exact h3 q
  · by_cases e : q = p
    · rw [e, mc_us, mc_us]; exact fun _ => rfl
    · rw [mc_un e, mc_un e]; exact h5 q
  · by_cases e : q = p
    · rw [e, mc_us]; exact fun h => absurd rfl h
    · rw [mc_un e, mc_un e]; exact h6 q
  · by_cases e : q = p
    · rw [e, mc_us]; exact fun h => absurd rfl h
    · rw [mc_un e]; exact h7 q
/-! points -/
theorem mc_pt {N : Nat} (hN : N ≤ 6) (x : Int32) : (∃ j, j < N ∧ x = nI j) ∨ (x < 0 ∨ nI N ≤ x) := by
  by_cases h : x < 0
  · exact Or.inr (Or.inl h)
  · obtain ⟨j, hj, rfl⟩ := nI_of h
    by_cases hh : j < N
    · exact Or.inl ⟨j, hh, rfl⟩
    · exact Or.inr (Or.inr (nI_le (by omega) hj))
theorem mc_x0 {post : Int32 → Prop} {n tp bm : Int32} {W st tm wk : Nat → Int32} {x : Int32} (hx : x < 0 ∨ n ≤ x) (h : post 0) : wpX_isPoint post (n, tp, bm, W, st, tm, wk) x :=
  br_c (fun _ => h) (fun hn => br_t (hx.resolve_left hn) h)
theorem mc_xp {post : Int32 → Prop} {N : Nat} {tp bm : Int32} {W st tm wk : Nat → Int32} {j : Nat} (hN : N ≤ 6) (hj : j < N) (h : post 1) : wpX_isPoint post (nI N, tp, bm, W, st, tm, wk) (nI j) :=
  br_f (nI_pos (by omega)) (br_f (nI_ge hj (by omega)) h)
theorem mc_y0 {post : Int32 → Prop} {n dp bz fo tp bo pn mk bd un : Int32} {th W tm wy nx ma : Nat → Int32} {x : Int32} (hx : x < 0 ∨ n ≤ x) (h : post 0) : wpY_isPoint post (n, dp, bz, fo, tp, bo, pn, mk, bd, un, th, W, tm, wy, nx, ma) x :=
  br_c (fun _ => h) (fun hn => br_t (hx.resolve_left hn) h)
theorem mc_yp {post : Int32 → Prop} {N : Nat} {dp bz fo tp bo pn mk bd un : Int32} {th W tm wy nx ma : Nat → Int32} {j : Nat} (hN : N ≤ 6) (hj : j < N) (h : post 1) : wpY_isPoint post (nI N, dp, bz, fo, tp, bo, pn, mk, bd, un, th, W, tm, wy, nx, ma) (nI j) :=
  br_f (nI_pos (by omega)) (br_f (nI_ge hj (by omega)) h)
end MC12
def i_Rel (_k : Nat) (u : SX) (v : SY) : Prop := ∃ (N : Nat) (tp bm : Int32) (W th tX tY wk : Nat → Int32) (dp bz fo to bo pn mk bd un : Int32) (wy nx ma : Nat → Int32), u = (nI N, tp, bm, W, th, tX, wk) ∧ v = (nI N, dp, bz, fo, to, bo, pn, mk, bd, un, th, W, tY, wy, nx, ma) ∧ mc_R N W th tX tY
theorem mc_rel {k N : Nat} {tp bm : Int32} {W th tX tY wk : Nat → Int32} {dp bz fo to bo pn mk bd un : Int32} {wy nx ma : Nat → Int32} (h : mc_R N W th tX tY) : i_Rel k (nI N, tp, bm, W, th, tX, wk) (nI N, dp, bz, fo, to, bo, pn, mk, bd, un, th, W, tY, wy, nx, ma) :=
  ⟨N, tp, bm, W, th, tX, tY, wk, dp, bz, fo, to, bo, pn, mk, bd, un, wy, nx, ma, rfl, rfl, h⟩
theorem i_up {k : Nat} {u : SX} {v : SY} (h : i_Rel k u v) : i_Rel (k + 5) u v := h
theorem i_vc0 (k0 : Int32) : wpX_init (fun u => wpY_init (fun v => i_Rel 1 u v) k0) k0 := by
  refine br_c (fun h1 => br_c (fun h6 => br_t h1 (br_t h6 ?_)) (fun n6 => br_t h1 (br_f n6 ?_))) (fun n1 => br_f n1 ?_)
  · obtain ⟨j, hj, rfl⟩ := nI_of2 (x := k0) (M := 6) (n := 6) (by decide) (Int32.not_lt.mpr (Int32.le_trans (by decide) h1)) h6
    have h1' : 1 ≤ j := (nI_leI (a := 1) (b := j) (by omega) (by omega)).mp h1
    exact mc_rel (mc_R_0 h1' hj)
  · exact mc_rel (N := 6) (mc_R_0 (by omega) (by omega))
  · exact mc_rel (N := 1) (mc_R_0 (by omega) (by omega))
theorem i_vc_arc {k : Nat} {u : SX} {v : SY} (I : i_Rel k u v) (hk : k + 5 ≤ 2561) (v1 : Int32) (v2 : Int32) (v3 : Int32) (v4 : Int32) : wpX_arc (fun r u' => wpY_arc (fun r' v' => r' = r ∧ i_Rel (k + 5) u' v') v v1 v2 v3 v4) u v1 v2 v3 v4 := by
  obtain ⟨N, tp, bm, W, th, tX, tY, wk, dp, bz, fo, to, bo, pn, mk, bd, un, wy, nx, ma, rfl, rfl, hR⟩ := I
  have hN := hR.2.1
  unfold wpX_arc wpY_arc
  dsimp only
  rcases mc_pt hN v1 with ⟨a, ha, rfl⟩ | h1
  · refine mc_xp hN ha (br_f (by decide) ?_)
    rcases mc_pt hN v2 with ⟨b, hb, rfl⟩ | h2
    · refine mc_xp hN hb (br_f (by decide) ?_)
      refine br_c (fun c1 => mc_yp hN ha (br_f (by decide) (mc_yp hN hb (br_f (by decide) (br_t c1 ⟨rfl, mc_rel hR⟩))))) (fun c1 => ?_)
      refine br_c (fun c2 => mc_yp hN ha (br_f (by decide) (mc_yp hN hb (br_f (by decide) (br_f c1 (br_t c2 ⟨rfl, mc_rel hR⟩)))))) (fun c2 => ?_)
      refine br_c (fun c3 => mc_yp hN ha (br_f (by decide) (mc_yp hN hb (br_f (by decide) (br_f c1 (br_f c2 (br_t c3 ⟨rfl, mc_rel hR⟩))))))) (fun c3 => ?_)
      refine br_c (fun c4 => ?_) (fun c4 => mc_yp hN ha (br_f (by decide) (mc_yp hN hb (br_f (by decide) (br_f c1 (br_f c2 (br_f c3 (br_f c4 ⟨rfl, mc_rel hR⟩))))))))
      have hc : (nI (6 * a + b)).toNatClampNeg = 6 * a + b := nI_clamp (by omega)
      have hin : vp_in (nI (6 * a + b)) 36 := vp_in_nI (by omega) (by omega)
      have ei : 6 * nI a + nI b = nI (6 * a + b) := by
        rw [show 6 * nI a = nI (6 * a) from mc_mulN 6 _, nI_add]
      refine mc_pO ⟨hin, nm_e ⟨hin, nm_e ⟨hin, nm_e ?_⟩⟩⟩
      refine mc_yp hN ha (br_f (by decide) (mc_yp hN hb (br_f (by decide) (br_f c1 (br_f c2 (br_f c3 (br_t c4 ?_)))))))
      rw [ei, hc, mc_b1]
      refine ⟨hin, nm_e ⟨hin, nm_e ⟨hin, nm_e ⟨rfl, mc_rel (mc_R_arc hR ha hb ?_ ?_)⟩⟩⟩⟩
      · rw [Int32.lt_iff_toInt_lt, show (-20 : Int32).toInt = -20 from by decide] at c1
        rw [Int32.lt_iff_toInt_lt, show (20 : Int32).toInt = 20 from by decide] at c2
        omega
      · rw [Int32.lt_iff_toInt_lt, show (1 : Int32).toInt = 1 from by decide] at c3
        rw [Int32.le_iff_toInt_le, show (5 : Int32).toInt = 5 from by decide] at c4
        omega
    · exact mc_x0 h2 (br_t rfl (mc_yp hN ha (br_f (by decide) (mc_y0 h2 (br_t rfl ⟨rfl, mc_rel hR⟩)))))
  · exact mc_x0 h1 (br_t rfl (mc_y0 h1 (br_t rfl ⟨rfl, mc_rel hR⟩)))
theorem i_vc_cut {k : Nat} {u : SX} {v : SY} (I : i_Rel k u v) (hk : k + 5 ≤ 2561) (v1 : Int32) (v2 : Int32) : wpX_cut (fun r u' => wpY_cut (fun r' v' => r' = r ∧ i_Rel (k + 5) u' v') v v1 v2) u v1 v2 := by
  obtain ⟨N, tp, bm, W, th, tX, tY, wk, dp, bz, fo, to, bo, pn, mk, bd, un, wy, nx, ma, rfl, rfl, hR⟩ := I
  have hN := hR.2.1
  unfold wpX_cut wpX_isArc wpY_cut
  dsimp only
  rcases mc_pt hN v1 with ⟨a, ha, rfl⟩ | h1
  · refine mc_xp hN ha (br_f (by decide) ?_)
    rcases mc_pt hN v2 with ⟨b, hb, rfl⟩ | h2
    · have hc : (nI (6 * a + b)).toNatClampNeg = 6 * a + b := nI_clamp (by omega)
      have hin : vp_in (nI (6 * a + b)) 36 := vp_in_nI (by omega) (by omega)
      have ei : 6 * nI a + nI b = nI (6 * a + b) := by
        rw [show 6 * nI a = nI (6 * a) from mc_mulN 6 _, nI_add]
      refine mc_xp hN hb (br_f (by decide) (mc_pO ⟨hin, ?_⟩))
      rw [ei, hc]
      refine br_c (fun z => br_t rfl (mc_yp hN ha (br_f (by decide) (mc_yp hN hb (br_f (by decide) ⟨hin, br_t z ⟨rfl, mc_rel hR⟩⟩))))) (fun nz => br_f (by decide) (mc_pO ⟨hin, nm_e ⟨hin, nm_e ?_⟩⟩))
      rw [hc, mc_b0]
      exact mc_yp hN ha (br_f (by decide) (mc_yp hN hb (br_f (by decide) ⟨hin, br_f nz ⟨hin, nm_e ⟨rfl, mc_rel (mc_R_cut hR _)⟩⟩⟩)))
    · exact mc_x0 h2 (br_t rfl (br_t rfl (mc_yp hN ha (br_f (by decide) (mc_y0 h2 (br_t rfl ⟨rfl, mc_rel hR⟩))))))
  · exact mc_x0 h1 (br_t rfl (br_t rfl (mc_y0 h1 (br_t rfl ⟨rfl, mc_rel hR⟩))))
end
section
section MC13
theorem mc_bits {x y : Int32} {P : Nat → Prop} (hx : ∀ i, i < 32 → (bt x i = true ↔ P i)) (hy : ∀ i, i < 32 → (bt y i = true ↔ P i)) : x = y := b_ext (fun i hi => Bool.eq_iff_iff.mpr ((hx i hi).trans (hy i hi).symm))
theorem mc_bit0 {P : Nat → Prop} : ∀ i, i < 32 → (bt 0 i = true ↔ i < 0 ∧ P i) := by
  intro i _
  rw [b_0]
  constructor
  · intro h; exact nomatch h
  · rintro ⟨h, _⟩; omega
end MC13
theorem i_vc_meanTop {k : Nat} {u : SX} {v : SY} (I : i_Rel k u v) (hk : k + 5 ≤ 2561) : wpX_meanTop (fun r u' => wpY_meanTop (fun r' v' => r' = r ∧ i_Rel (k + 5) u' v') v) u := by
  obtain ⟨N, tp, bm, W, th, tX, tY, wk, dp, bz, fo, to, bo, pn, mk, bd, un, wy, nx, ma, rfl, rfl, hR⟩ := I
  have hN := hR.2.1
  have hX := mc_R_Xs hR
  unfold wpX_meanTop wpY_meanTop
  dsimp only
  refine mc_fB_steps N W th tX hN (mc_R_oks hR) (fun wk T B t1 t2 hd hF => ?_)
  have hB := mc_F_b hF
  refine br_c (fun b0 => mc_an N 0 th W tY hN (mc_R_oy hR) (Or.inl rfl) (fun r dp b0' fo tp bo pn mk bd un wy nx ma hav => ⟨?_, mc_rel hR⟩)) (fun nb => mc_an N 0 th W tY hN (mc_R_oy hR) (Or.inl rfl) (fun r dp b0' fo tp bo pn mk bd un wy nx ma hav => ⟨?_, mc_rel hR⟩))
  · rw [← nI_0, nI_eq (by omega) (by omega)] at b0
    rcases mc_ans hX hF hav with ⟨_, e⟩ | ⟨h, _⟩
    · exact e
    · exact absurd b0 h
  · rcases mc_ans hX hF hav with ⟨h, _⟩ | ⟨_, e⟩
    · rw [h] at nb
      exact absurd nI_0 nb
    · rw [e]
      exact if_neg (by decide)
theorem i_vc_meanBottom {k : Nat} {u : SX} {v : SY} (I : i_Rel k u v) (hk : k + 5 ≤ 2561) : wpX_meanBottom (fun r u' => wpY_meanBottom (fun r' v' => r' = r ∧ i_Rel (k + 5) u' v') v) u := by
  obtain ⟨N, tp, bm, W, th, tX, tY, wk, dp, bz, fo, to, bo, pn, mk, bd, un, wy, nx, ma, rfl, rfl, hR⟩ := I
  have hN := hR.2.1
  have hX := mc_R_Xs hR
  unfold wpX_meanBottom wpY_meanBottom
  dsimp only
  refine mc_fB_steps N W th tX hN (mc_R_oks hR) (fun wk T B t1 t2 hd hF => ?_)
  have hB := mc_F_b hF
  refine br_c (fun b0 => mc_an N 0 th W tY hN (mc_R_oy hR) (Or.inl rfl) (fun r dp b0' fo tp bo pn mk bd un wy nx ma hav => ⟨?_, mc_rel hR⟩)) (fun nb => mc_an N 0 th W tY hN (mc_R_oy hR) (Or.inl rfl) (fun r dp b0' fo tp bo pn mk bd un wy nx ma hav => ⟨?_, mc_rel hR⟩))
  · rw [← nI_0, nI_eq (by omega) (by omega)] at b0
    rcases mc_ans hX hF hav with ⟨_, e⟩ | ⟨h, _⟩
    · exact e
    · exact absurd b0 h
  · rcases mc_ans hX hF hav with ⟨h, _⟩ | ⟨_, e⟩
    · rw [h] at nb
      exact absurd nI_0 nb
    · rw [e]
      exact if_pos rfl
theorem i_vc_ratioTop {k : Nat} {u : SX} {v : SY} (I : i_Rel k u v) (hk : k + 5 ≤ 2561) : wpX_ratioTop (fun r u' => wpY_ratioTop (fun r' v' => r' = r ∧ i_Rel (k + 5) u' v') v) u := by
  obtain ⟨N, tp, bm, W, th, tX, tY, wk, dp, bz, fo, to, bo, pn, mk, bd, un, wy, nx, ma, rfl, rfl, hR⟩ := I
  have hN := hR.2.1
  have hX := mc_R_Xt hR
  unfold wpX_ratioTop wpY_ratioTop
  dsimp only
  refine mc_fB_times N W th tX hN (mc_R_okt hR) (fun wk T B t1 t2 hd hF => ?_)
  have hB := mc_F_b hF
  refine br_c (fun b0 => mc_an N 1 th W tY hN (mc_R_oy hR) (Or.inr rfl) (fun r dp b0' fo tp bo pn mk bd un wy nx ma hav => ⟨?_, mc_rel hR⟩)) (fun nb => mc_an N 1 th W tY hN (mc_R_oy hR) (Or.inr rfl) (fun r dp b0' fo tp bo pn mk bd un wy nx ma hav => ⟨?_, mc_rel hR⟩))
  · rw [← nI_0, nI_eq (by omega) (by omega)] at b0
    rcases mc_ans hX hF hav with ⟨_, e⟩ | ⟨h, _⟩
    · exact e
    · exact absurd b0 h
  · rcases mc_ans hX hF hav with ⟨h, _⟩ | ⟨_, e⟩
    · rw [h] at nb
      exact absurd nI_0 nb
    · rw [e]
      exact if_neg (by decide)
theorem i_vc_ratioBottom {k : Nat} {u : SX} {v : SY} (I : i_Rel k u v) (hk : k + 5 ≤ 2561) : wpX_ratioBottom (fun r u' => wpY_ratioBottom (fun r' v' => r' = r ∧ i_Rel (k + 5) u' v') v) u := by
  obtain ⟨N, tp, bm, W, th, tX, tY, wk, dp, bz, fo, to, bo, pn, mk, bd, un, wy, nx, ma, rfl, rfl, hR⟩ := I
  have hN := hR.2.1
  have hX := mc_R_Xt hR
  unfold wpX_ratioBottom wpY_ratioBottom
  dsimp only
  refine mc_fB_times N W th tX hN (mc_R_okt hR) (fun wk T B t1 t2 hd hF => ?_)
  have hB := mc_F_b hF
  refine br_c (fun b0 => mc_an N 1 th W tY hN (mc_R_oy hR) (Or.inr rfl) (fun r dp b0' fo tp bo pn mk bd un wy nx ma hav => ⟨?_, mc_rel hR⟩)) (fun nb => mc_an N 1 th W tY hN (mc_R_oy hR) (Or.inr rfl) (fun r dp b0' fo tp bo pn mk bd un wy nx ma hav => ⟨?_, mc_rel hR⟩))
  · rw [← nI_0, nI_eq (by omega) (by omega)] at b0
    rcases mc_ans hX hF hav with ⟨_, e⟩ | ⟨h, _⟩
    · exact e
    · exact absurd b0 h
  · rcases mc_ans hX hF hav with ⟨h, _⟩ | ⟨_, e⟩
    · rw [h] at nb
      exact absurd nI_0 nb
    · rw [e]
      exact if_pos rfl
theorem i_vc_meanArc {k : Nat} {u : SX} {v : SY} (I : i_Rel k u v) (hk : k + 5 ≤ 2561) (v1 : Int32) (v2 : Int32) : wpX_meanArc (fun r u' => wpY_meanArc (fun r' v' => r' = r ∧ i_Rel (k + 5) u' v') v v1 v2) u v1 v2 := by
  obtain ⟨N, tp, bm, W, th, tX, tY, wk, dp, bz, fo, to, bo, pn, mk, bd, un, wy, nx, ma, rfl, rfl, hR⟩ := I
  have hN := hR.2.1
  have hX := mc_R_Xs hR
  unfold wpX_meanArc wpX_isArc wpY_meanArc
  dsimp only
  rcases mc_pt hN v1 with ⟨a, ha, rfl⟩ | h1
  · refine mc_xp hN ha (br_f (by decide) ?_)
    rcases mc_pt hN v2 with ⟨b, hb, rfl⟩ | h2
    · have hc : (nI (6 * a + b)).toNatClampNeg = 6 * a + b := nI_clamp (by omega)
      have hin : vp_in (nI (6 * a + b)) 36 := vp_in_nI (by omega) (by omega)
      have ei : 6 * nI a + nI b = nI (6 * a + b) := by
        rw [show 6 * nI a = nI (6 * a) from mc_mulN 6 _, nI_add]
      refine mc_xp hN hb (br_f (by decide) (mc_pO ⟨hin, ?_⟩))
      rw [ei, hc]
      refine br_c (fun z => br_t rfl (mc_yp hN ha (br_f (by decide) (mc_yp hN hb (br_f (by decide) (mc_sr N 0 th W tY hN (mc_R_oy hR) (Or.inl rfl) (fun dp pn un wy nx ma t b' hl hm hq => ?_))))))) (fun nz => br_f (by decide) (mc_fB_steps N W th tX hN (mc_R_oks hR) (fun wk T B t1 t2 hd hF => ?_)))
      · rcases hm (6 * a + b) (by omega) with ⟨_, h⟩ | ⟨e, _⟩
        · have hA := mc_mq_A hX ha hb h
          rw [hX.2.2.2.1] at hA
          exact absurd z (mc_E_t.mp hA.2.2)
        · dsimp only
          rw [e]
          exact ⟨hin, rfl, rfl, mc_rel hR⟩
      · have hA : mc_A N (mc_E th) a b := by
          rw [hX.2.2.2.1]
          exact ⟨ha, hb, mc_E_t.mpr nz⟩
        refine mc_bA_steps N W th tX hN hA (mc_R_oks hR) hd ⟨t1, t2⟩ hF (fun hBA => ⟨rfl, mc_yp hN ha (br_f (by decide) (mc_yp hN hb (br_f (by decide) (mc_sr N 0 th W tY hN (mc_R_oy hR) (Or.inl rfl) (fun dp pn un wy nx ma t b' hl hm hq => ?_)))))⟩) (fun nBA => ⟨rfl, mc_yp hN ha (br_f (by decide) (mc_yp hN hb (br_f (by decide) (mc_sr N 0 th W tY hN (mc_R_oy hR) (Or.inl rfl) (fun dp pn un wy nx ma t b' hl hm hq => ?_)))))⟩)
        · rcases hm (6 * a + b) (by omega) with ⟨e, _⟩ | ⟨_, h⟩
          · dsimp only
            rw [e]
            exact ⟨hin, rfl, rfl, mc_rel hR⟩
          · exact absurd ((mc_arcs hX hF hl hA).mp hBA) h
        · rcases hm (6 * a + b) (by omega) with ⟨_, h⟩ | ⟨e, _⟩
          · exact absurd ((mc_arcs hX hF hl hA).mpr h) nBA
          · dsimp only
            rw [e]
            exact ⟨hin, rfl, rfl, mc_rel hR⟩
    · exact mc_x0 h2 (br_t rfl (br_t rfl (mc_yp hN ha (br_f (by decide) (mc_y0 h2 (br_t rfl ⟨rfl, mc_rel hR⟩))))))
  · exact mc_x0 h1 (br_t rfl (br_t rfl (mc_y0 h1 (br_t rfl ⟨rfl, mc_rel hR⟩))))
theorem i_vc_ratioArc {k : Nat} {u : SX} {v : SY} (I : i_Rel k u v) (hk : k + 5 ≤ 2561) (v1 : Int32) (v2 : Int32) : wpX_ratioArc (fun r u' => wpY_ratioArc (fun r' v' => r' = r ∧ i_Rel (k + 5) u' v') v v1 v2) u v1 v2 := by
  obtain ⟨N, tp, bm, W, th, tX, tY, wk, dp, bz, fo, to, bo, pn, mk, bd, un, wy, nx, ma, rfl, rfl, hR⟩ := I
  have hN := hR.2.1
  have hX := mc_R_Xt hR
  unfold wpX_ratioArc wpX_isArc wpY_ratioArc
  dsimp only
  rcases mc_pt hN v1 with ⟨a, ha, rfl⟩ | h1
  · refine mc_xp hN ha (br_f (by decide) ?_)
    rcases mc_pt hN v2 with ⟨b, hb, rfl⟩ | h2
    · have hc : (nI (6 * a + b)).toNatClampNeg = 6 * a + b := nI_clamp (by omega)
      have hin : vp_in (nI (6 * a + b)) 36 := vp_in_nI (by omega) (by omega)
      have ei : 6 * nI a + nI b = nI (6 * a + b) := by
        rw [show 6 * nI a = nI (6 * a) from mc_mulN 6 _, nI_add]
      refine mc_xp hN hb (br_f (by decide) (mc_pO ⟨hin, ?_⟩))
      rw [ei, hc]
      refine br_c (fun z => br_t rfl (mc_yp hN ha (br_f (by decide) (mc_yp hN hb (br_f (by decide) (mc_sr N 1 th W tY hN (mc_R_oy hR) (Or.inr rfl) (fun dp pn un wy nx ma t b' hl hm hq => ?_))))))) (fun nz => br_f (by decide) (mc_fB_times N W th tX hN (mc_R_okt hR) (fun wk T B t1 t2 hd hF => ?_)))
      · rcases hm (6 * a + b) (by omega) with ⟨_, h⟩ | ⟨e, _⟩
        · have hA := mc_mq_A hX ha hb h
          rw [hX.2.2.2.1] at hA
          exact absurd z (mc_E_t.mp hA.2.2)
        · dsimp only
          rw [e]
          exact ⟨hin, rfl, rfl, mc_rel hR⟩
      · have hA : mc_A N (mc_E tX) a b := by
          rw [hX.2.2.2.1]
          exact ⟨ha, hb, mc_E_t.mpr nz⟩
        refine mc_bA_times N W th tX hN hA (mc_R_okt hR) hd ⟨t1, t2⟩ hF (fun hBA => ⟨rfl, mc_yp hN ha (br_f (by decide) (mc_yp hN hb (br_f (by decide) (mc_sr N 1 th W tY hN (mc_R_oy hR) (Or.inr rfl) (fun dp pn un wy nx ma t b' hl hm hq => ?_)))))⟩) (fun nBA => ⟨rfl, mc_yp hN ha (br_f (by decide) (mc_yp hN hb (br_f (by decide) (mc_sr N 1 th W tY hN (mc_R_oy hR) (Or.inr rfl) (fun dp pn un wy nx ma t b' hl hm hq => ?_)))))⟩)
        · rcases hm (6 * a + b) (by omega) with ⟨e, _⟩ | ⟨_, h⟩
          · dsimp only
            rw [e]
            exact ⟨hin, rfl, rfl, mc_rel hR⟩
          · exact absurd ((mc_arcs hX hF hl hA).mp hBA) h
        · rcases hm (6 * a + b) (by omega) with ⟨_, h⟩ | ⟨e, _⟩
          · exact absurd ((mc_arcs hX hF hl hA).mpr h) nBA
          · dsimp only
            rw [e]
            exact ⟨hin, rfl, rfl, mc_rel hR⟩
    · exact mc_x0 h2 (br_t rfl (br_t rfl (mc_yp hN ha (br_f (by decide) (mc_y0 h2 (br_t rfl ⟨rfl, mc_rel hR⟩))))))
  · exact mc_x0 h1 (br_t rfl (br_t rfl (mc_y0 h1 (br_t rfl ⟨rfl, mc_rel hR⟩))))
theorem i_vc_meanPoints {k : Nat} {u : SX} {v : SY} (I : i_Rel k u v) (hk : k + 5 ≤ 2561) : wpX_meanPoints (fun r u' => wpY_meanPoints (fun r' v' => r' = r ∧ i_Rel (k + 5) u' v') v) u := by
  obtain ⟨N, tp, bm, W, th, tX, tY, wk, dp, bz, fo, to, bo, pn, mk, bd, un, wy, nx, ma, rfl, rfl, hR⟩ := I
  have hN := hR.2.1
  have hX := mc_R_Xs hR
  unfold wpX_meanPoints wpY_meanPoints
  dsimp only
  refine mc_fB_steps N W th tX hN (mc_R_oks hR) (fun wk T B t1 t2 hd hF => ⟨N + 1, mc_mp hN (mc_R_oks hR) hd ⟨t1, t2⟩ hF (fun x hx => ?_) N 0 0 (by omega) mc_bit0⟩)
  refine mc_sr N 0 th W tY hN (mc_R_oy hR) (Or.inl rfl) (fun dp pn un wy nx ma t b hl hm hq => ⟨?_, mc_rel hR⟩)
  exact mc_bits hq (fun i hi => (hx i hi).trans (mc_pts hX hF hl i))
theorem i_vc_steady {k : Nat} {u : SX} {v : SY} (I : i_Rel k u v) (hk : k + 5 ≤ 2561) (v1 : Int32) : wpX_steady (fun r u' => wpY_steady (fun r' v' => r' = r ∧ i_Rel (k + 5) u' v') v v1) u v1 := by
  obtain ⟨N, tp, bm, W, th, tX, tY, wk, dp, bz, fo, to, bo, pn, mk, bd, un, wy, nx, ma, rfl, rfl, hR⟩ := I
  have hN := hR.2.1
  have hX := mc_R_Xt hR
  obtain ⟨p, rfl, hp⟩ : ∃ p : Int, v1 = mc_I p ∧ v1.toInt = p := ⟨v1.toInt, (mc_I_of v1).symm, rfl⟩
  unfold wpX_steady wpY_steady
  dsimp only
  refine br_c (fun c1 => br_t c1 ⟨rfl, mc_rel hR⟩) (fun c1 => br_c (fun c2 => ?_) (fun c2 => br_f c1 (br_f c2 ⟨rfl, mc_rel hR⟩)))
  have hp1 : -100 ≤ p ∧ p ≤ 100 := by
    have d1 := c1
    have d2 := c2
    rw [Int32.lt_iff_toInt_lt, hp, show (-100 : Int32).toInt = -100 from by decide] at d1
    rw [Int32.le_iff_toInt_le, hp, show (100 : Int32).toInt = 100 from by decide] at d2
    omega
  have hsz : ∀ c, mc_sz tY 1 c = mc_zt tY c := fun c => if_neg (by decide)
  refine mc_fB_times N W th tX hN (mc_R_okt hR) (fun wk T B t1 t2 hd hF => ?_)
  have hB := mc_F_b hF
  have hs := mc_stdy (p := p) hX hF
  have key : ∀ r : Int32, (r = 1 ∧ (B = 0 ∨ ¬ T < p * B)) ∨ (r = 0 ∧ ¬ (B = 0 ∨ ¬ T < p * B)) → wpY_steady (fun r' v' => r' = r ∧ i_Rel (k + 5) (nI N, mc_I T, nI B, W, th, tX, wk) v') (nI N, dp, bz, fo, to, bo, pn, mk, bd, un, th, W, tY, wy, nx, ma) (mc_I p) := by
    intro r hr
    refine br_f c1 (br_t c2 (mc_gT N bz 0 (mc_I p) th W tY (mc_Q1 N bz th W tY p 0 pn ma) _ hN (mc_LK1 N bz th W tY hN (mc_R_oy hR) (by omega)) ⟨rfl, rfl, rfl, (fun c hc => nomatch hc), ⟨0, 1, mc_I_0.symm, mc_I_1.symm, Or.inl ⟨rfl, rfl, rfl⟩⟩, Or.inl ⟨rfl, (fun c hc => nomatch hc)⟩⟩ (fun dp fo tp bo pn' un' ma' wy nx hq => ?_)))
    have hu := hq.2.2.2.2.2
    rcases hu with ⟨e, h⟩ | ⟨e, c, hc, h⟩
    · have hst := hs.mpr (fun c hc => by rw [hsz]; exact h c hc)
      rcases hr with ⟨er, _⟩ | ⟨_, hn⟩
      · subst er
        exact br_t e ⟨rfl, mc_rel hR⟩
      · exact absurd hst hn
    · rcases hr with ⟨_, hy⟩ | ⟨er, _⟩
      · have := hs.mp hy c hc
        rw [hsz] at this
        omega
      · subst er
        exact br_f (by rw [e]; decide) ⟨rfl, mc_rel hR⟩
  have hpb := mc_bm (a := p) (b := B) (by omega) (by omega) (by omega) (by omega)
  have ct : mc_I T < mc_I p * nI B ↔ T < p * B := by
    rw [← mc_I_nat, mc_I_mul, mc_I_lt (by omega) (by omega) hpb.1 hpb.2]
  refine br_c (fun b0 => key 1 (Or.inl ⟨rfl, Or.inl ?_⟩)) (fun nb => br_c (fun lt => key 0 (Or.inr ⟨rfl, ?_⟩)) (fun ge => key 1 (Or.inl ⟨rfl, Or.inr (fun h => ge (ct.mpr h))⟩)))
  · rw [← nI_0, nI_eq (by omega) (by omega)] at b0
    exact b0
  · rintro (h | h)
    · rw [h] at nb
      exact nb nI_0
    · exact h (ct.mp lt)
theorem i_vc_onCircle {k : Nat} {u : SX} {v : SY} (I : i_Rel k u v) (hk : k + 5 ≤ 2561) : wpX_onCircle (fun r u' => wpY_onCircle (fun r' => r' = r ∧ i_Rel (k + 5) u' v) v) u := by
  obtain ⟨N, tp, bm, W, th, tX, tY, wk, dp, bz, fo, to, bo, pn, mk, bd, un, wy, nx, ma, rfl, rfl, hR⟩ := I
  have hN := hR.2.1
  unfold wpX_onCircle
  dsimp only
  refine mc_fW_steps N tp bm W th tX hN (mc_R_oks hR) (fun wk hd => ⟨N + 1, mc_oc hN (mc_R_oks hR) hd (fun x hx => ⟨N + 1, mc_yoc N W th tY hN hR.2.2.1 hR.2.2.2.2.2.2 (fun x' hx' => ⟨mc_bits hx' hx, mc_rel hR⟩) N 0 0 (by omega) mc_bit0⟩) N 0 0 (by omega) mc_bit0⟩)
end
