section MC02
/-! walks and circles: a list of points and an end; its arcs -/
def mc_hd : List Nat → Nat → Nat
  | [], v => v
  | a :: _, _ => a
def mc_ar : List Nat → Nat → List (Nat × Nat)
  | [], _ => []
  | a :: l, v => (a, mc_hd l v) :: mc_ar l v
theorem mc_hd_app (l m : List Nat) (v : Nat) : mc_hd (l ++ m) v = mc_hd l (mc_hd m v) := by cases l <;> rfl
theorem mc_ar_app (l m : List Nat) (v : Nat) : mc_ar (l ++ m) v = mc_ar l (mc_hd m v) ++ mc_ar m v := by
  induction l with
  | nil => rfl
  | cons a l ih =>
    show (a, mc_hd (l ++ m) v) :: mc_ar (l ++ m) v = (a, mc_hd l (mc_hd m v)) :: (mc_ar l (mc_hd m v) ++ mc_ar m v)
    rw [ih, mc_hd_app]
def mc_sm (w : Nat → Nat → Int) : List (Nat × Nat) → Int
  | [] => 0
  | e :: l => w e.1 e.2 + mc_sm w l
theorem mc_sm_app (w : Nat → Nat → Int) (a b : List (Nat × Nat)) : mc_sm w (a ++ b) = mc_sm w a + mc_sm w b := by
  induction a with
  | nil => show mc_sm w b = 0 + mc_sm w b; omega
  | cons e l ih => show w e.1 e.2 + mc_sm w (l ++ b) = w e.1 e.2 + mc_sm w l + mc_sm w b; omega
theorem mc_sm_congr {w w' : Nat → Nat → Int} {L : List (Nat × Nat)} (h : ∀ e ∈ L, w e.1 e.2 = w' e.1 e.2) : mc_sm w L = mc_sm w' L := by
  induction L with
  | nil => rfl
  | cons e l ih =>
    show w e.1 e.2 + mc_sm w l = w' e.1 e.2 + mc_sm w' l
    rw [ih (fun x hx => h x (List.mem_cons_of_mem _ hx)), h e (List.mem_cons_self)]
theorem mc_sm_lo {w : Nat → Nat → Int} {m : Int} {L : List (Nat × Nat)} (h : ∀ e ∈ L, m ≤ w e.1 e.2) : m * L.length ≤ mc_sm w L := by
  induction L with
  | nil => show m * 0 ≤ 0; omega
  | cons e l ih =>
    have h1 := ih (fun x hx => h x (List.mem_cons_of_mem _ hx))
    have h2 := h e (List.mem_cons_self)
    show m * ((l.length + 1 : Nat) : Int) ≤ w e.1 e.2 + mc_sm w l
    rw [Int.natCast_add, Int.mul_add]
    omega
theorem mc_sm_hi {w : Nat → Nat → Int} {m : Int} {L : List (Nat × Nat)} (h : ∀ e ∈ L, w e.1 e.2 ≤ m) : mc_sm w L ≤ m * L.length := by
  induction L with
  | nil => show 0 ≤ m * 0; omega
  | cons e l ih =>
    have h1 := ih (fun x hx => h x (List.mem_cons_of_mem _ hx))
    have h2 := h e (List.mem_cons_self)
    show w e.1 e.2 + mc_sm w l ≤ m * ((l.length + 1 : Nat) : Int)
    rw [Int.natCast_add, Int.mul_add]
    omega
theorem mc_ar_len (l : List Nat) (v : Nat) : (mc_ar l v).length = l.length := by
  induction l with
  | nil => rfl
  | cons a l ih => show (mc_ar l v).length + 1 = l.length + 1; rw [ih]
theorem mc_ar_fst {l : List Nat} {v x : Nat} (h : x ∈ l) : ∃ y, (x, y) ∈ mc_ar l v := by
  induction l with
  | nil => exact nomatch h
  | cons a l ih =>
    rcases List.mem_cons.mp h with e | e
    · exact ⟨mc_hd l v, by rw [e]; exact List.mem_cons_self⟩
    · obtain ⟨y, hy⟩ := ih e
      exact ⟨y, List.mem_cons_of_mem _ hy⟩
theorem mc_ar_spl {l : List Nat} {v x y : Nat} (h : (x, y) ∈ mc_ar l v) : ∃ a d, l = a ++ x :: d ∧ y = mc_hd d v := by
  induction l with
  | nil => exact nomatch h
  | cons a l ih =>
    rcases List.mem_cons.mp h with e | e
    · cases e
      exact ⟨[], l, rfl, rfl⟩
    · obtain ⟨b, d, e1, e2⟩ := ih e
      exact ⟨a :: b, d, by rw [e1]; rfl, e2⟩
def mc_cy (c : List Nat) : List (Nat × Nat) := mc_ar c (mc_hd c 0)
theorem mc_cy_app (a : List Nat) (x : Nat) (d : List Nat) : mc_cy (a ++ x :: d) = mc_ar a x ++ mc_ar (x :: d) (mc_hd a x) := by
  unfold mc_cy
  rw [mc_ar_app, mc_hd_app]
  rfl
theorem mc_cy_spl (a : List Nat) (x : Nat) (b d : List Nat) : mc_cy (a ++ x :: (b ++ x :: d)) = mc_ar a x ++ (mc_cy (x :: b) ++ mc_ar (x :: d) (mc_hd a x)) := by
  rw [mc_cy_app]
  have : x :: (b ++ x :: d) = (x :: b) ++ (x :: d) := rfl
  rw [this, mc_ar_app]
  rfl
theorem mc_dup {c : List Nat} (h : ¬ c.Nodup) : ∃ a x b d, c = a ++ x :: (b ++ x :: d) := by
  induction c with
  | nil => exact absurd List.nodup_nil h
  | cons y c ih =>
    by_cases hy : y ∈ c
    · obtain ⟨b, d, e⟩ := List.append_of_mem hy
      exact ⟨[], y, b, d, by rw [e]; rfl⟩
    · have : ¬ c.Nodup := fun hc => h (List.nodup_cons.mpr ⟨hy, hc⟩)
      obtain ⟨a, x, b, d, e⟩ := ih this
      exact ⟨y :: a, x, b, d, by rw [e]; rfl⟩
def mc_ci (A : Nat → Nat → Prop) (c : List Nat) : Prop := c ≠ [] ∧ c.Nodup ∧ ∀ e ∈ mc_cy c, A e.1 e.2
theorem mc_dec {A : Nat → Nat → Prop} {P : List Nat → Prop} (hb : ∀ c, mc_ci A c → P c) (hs : ∀ a x b d, P (x :: b) → P (a ++ x :: d) → P (a ++ x :: (b ++ x :: d))) : ∀ (m : Nat) (c : List Nat), c.length ≤ m → c ≠ [] → (∀ e ∈ mc_cy c, A e.1 e.2) → P c := by
  intro m
  induction m with
  | zero =>
    intro c hl hn
    exact absurd (List.length_eq_zero_iff.mp (by omega)) hn
  | succ m ih =>
    intro c hl hn hA
    by_cases hd : c.Nodup
    · exact hb c ⟨hn, hd, hA⟩
    · obtain ⟨a, x, b, d, rfl⟩ := mc_dup hd
      rw [mc_cy_spl] at hA
      have len : (a ++ x :: (b ++ x :: d)).length = a.length + (b.length + (d.length + 1) + 1) := by
        rw [List.length_append, List.length_cons, List.length_append, List.length_cons]
      refine hs a x b d (ih _ ?_ (by simp) ?_) (ih _ ?_ (by simp) ?_)
      · rw [List.length_cons]; omega
      · intro e he
        exact hA e (List.mem_append_right _ (List.mem_append_left _ he))
      · rw [List.length_append, List.length_cons]; omega
      · rw [mc_cy_app]
        intro e he
        rcases List.mem_append.mp he with h | h
        · exact hA e (List.mem_append_left _ h)
        · exact hA e (List.mem_append_right _ (List.mem_append_right _ h))
/-- every closed walk keeps what every circle keeps, and one that meets it is made of circles that do -/
theorem mc_clo {A : Nat → Nat → Prop} {w sp : Nat → Nat → Int} {T B : Int} (hm : ∀ q, mc_ci A q → T * mc_sm sp (mc_cy q) ≤ B * mc_sm w (mc_cy q)) {c : List Nat} (hn : c ≠ []) (hA : ∀ e ∈ mc_cy c, A e.1 e.2) :
    T * mc_sm sp (mc_cy c) ≤ B * mc_sm w (mc_cy c) ∧ (T * mc_sm sp (mc_cy c) = B * mc_sm w (mc_cy c) → ∀ e ∈ mc_cy c, ∃ q, mc_ci A q ∧ T * mc_sm sp (mc_cy q) = B * mc_sm w (mc_cy q) ∧ e ∈ mc_cy q) := by
  refine mc_dec (A := A) (P := fun c => T * mc_sm sp (mc_cy c) ≤ B * mc_sm w (mc_cy c) ∧ (T * mc_sm sp (mc_cy c) = B * mc_sm w (mc_cy c) → ∀ e ∈ mc_cy c, ∃ q, mc_ci A q ∧ T * mc_sm sp (mc_cy q) = B * mc_sm w (mc_cy q) ∧ e ∈ mc_cy q)) ?_ ?_ c.length c (Nat.le_refl _) hn hA
  · intro q hq
    exact ⟨hm q hq, fun e x hx => ⟨q, hq, e, hx⟩⟩
  · intro a x b d h1 h2
    have e1 : ∀ f : Nat → Nat → Int, mc_sm f (mc_cy (a ++ x :: (b ++ x :: d))) = mc_sm f (mc_cy (x :: b)) + mc_sm f (mc_cy (a ++ x :: d)) := by
      intro f
      rw [mc_cy_spl, mc_cy_app, mc_sm_app, mc_sm_app, mc_sm_app]
      omega
    rw [e1, e1, Int.mul_add, Int.mul_add]
    refine ⟨by omega, fun e y hy => ?_⟩
    have k1 : T * mc_sm sp (mc_cy (x :: b)) = B * mc_sm w (mc_cy (x :: b)) := by omega
    have k2 : T * mc_sm sp (mc_cy (a ++ x :: d)) = B * mc_sm w (mc_cy (a ++ x :: d)) := by omega
    rw [mc_cy_spl] at hy
    rcases List.mem_append.mp hy with h | h
    · exact h2.2 k2 y (by rw [mc_cy_app]; exact List.mem_append_left _ h)
    · rcases List.mem_append.mp h with h | h
      · exact h1.2 k1 y h
      · exact h2.2 k2 y (by rw [mc_cy_app]; exact List.mem_append_right _ h)
theorem mc_ph {n : Nat} {l : List Nat} (h : l.Nodup) (hl : ∀ x ∈ l, x < n) : l.length ≤ n := by
  have := List.Nodup.length_le_of_subset h (l₂ := List.range n) (fun x hx => List.mem_range.mpr (hl x hx))
  rwa [List.length_range] at this
/-! the weights of the walks of a span -/
def mc_S (A : Nat → Nat → Prop) (w sp : Nat → Nat → Int) (u v : Nat) (k z : Int) : Prop := ∃ l, mc_hd l v = u ∧ (∀ e ∈ mc_ar l v, A e.1 e.2) ∧ mc_sm sp (mc_ar l v) = k ∧ mc_sm w (mc_ar l v) = z
theorem mc_S_pos {A : Nat → Nat → Prop} {sp : Nat → Nat → Int} (hp : ∀ a b, A a b → 1 ≤ sp a b) {l : List Nat} {v : Nat} (h : ∀ e ∈ mc_ar l v, A e.1 e.2) : (l.length : Int) ≤ mc_sm sp (mc_ar l v) := by
  have := mc_sm_lo (w := sp) (m := 1) (L := mc_ar l v) (fun e he => hp _ _ (h e he))
  rw [mc_ar_len] at this
  omega
theorem mc_S_bnd {A : Nat → Nat → Prop} {w sp : Nat → Nat → Int} (hp : ∀ a b, A a b → 1 ≤ sp a b) (hw : ∀ a b, A a b → -20 ≤ w a b ∧ w a b ≤ 20) {u v : Nat} {k z : Int} (h : mc_S A w sp u v k z) : 0 ≤ k ∧ -20 * k ≤ z ∧ z ≤ 20 * k := by
  obtain ⟨l, _, hA, hk, hz⟩ := h
  have h1 := mc_S_pos hp hA
  have h2 := mc_sm_lo (w := w) (m := -20) (L := mc_ar l v) (fun e he => (hw _ _ (hA e he)).1)
  have h3 := mc_sm_hi (w := w) (m := 20) (L := mc_ar l v) (fun e he => (hw _ _ (hA e he)).2)
  rw [mc_ar_len] at h2 h3
  omega
theorem mc_S_0 {A : Nat → Nat → Prop} {w sp : Nat → Nat → Int} (hp : ∀ a b, A a b → 1 ≤ sp a b) {u v : Nat} {z : Int} : mc_S A w sp u v 0 z ↔ u = v ∧ z = 0 := by
  constructor
  · rintro ⟨l, hu, hA, hk, hz⟩
    have h1 := mc_S_pos hp hA
    have : l = [] := List.length_eq_zero_iff.mp (by omega)
    subst this
    exact ⟨hu.symm, hz.symm⟩
  · rintro ⟨rfl, rfl⟩
    exact ⟨[], rfl, (fun e he => nomatch he), rfl, rfl⟩
theorem mc_S_app {A : Nat → Nat → Prop} {w sp : Nat → Nat → Int} {u x v : Nat} {k z : Int} (h : mc_S A w sp u x k z) (hA : A x v) : mc_S A w sp u v (k + sp x v) (z + w x v) := by
  obtain ⟨l, hu, hl, hk, hz⟩ := h
  have e : mc_ar (l ++ [x]) v = mc_ar l x ++ [(x, v)] := mc_ar_app l [x] v
  refine ⟨l ++ [x], ?_, ?_, ?_, ?_⟩
  · rw [mc_hd_app]; exact hu
  · rw [e]
    intro y hy
    rcases List.mem_append.mp hy with h | h
    · exact hl y h
    · rw [List.mem_singleton.mp h]; exact hA
  · rw [e, mc_sm_app, hk]; show k + (sp x v + 0) = _; omega
  · rw [e, mc_sm_app, hz]; show z + (w x v + 0) = _; omega
theorem mc_S_pre {A : Nat → Nat → Prop} {w sp : Nat → Nat → Int} {u v x : Nat} {k z : Int} (h : mc_S A w sp v x k z) (hA : A u v) : mc_S A w sp u x (k + sp u v) (z + w u v) := by
  obtain ⟨l, hu, hl, hk, hz⟩ := h
  have e : mc_ar (u :: l) x = (u, v) :: mc_ar l x := by rw [← hu]; rfl
  refine ⟨u :: l, rfl, ?_, ?_, ?_⟩
  · rw [e]
    intro y hy
    rcases List.mem_cons.mp hy with h | h
    · rw [h]; exact hA
    · exact hl y h
  · rw [e, ← hk]; exact Int.add_comm _ _
  · rw [e, ← hz]; exact Int.add_comm _ _
theorem mc_S_step {A : Nat → Nat → Prop} {w sp : Nat → Nat → Int} {u v : Nat} {k z : Int} (hk : 1 ≤ k) : mc_S A w sp u v k z ↔ ∃ x, A x v ∧ mc_S A w sp u x (k - sp x v) (z - w x v) := by
  constructor
  · rintro ⟨l, hu, hA, h1, h2⟩
    rcases List.eq_nil_or_concat l with e | ⟨l', x, e⟩
    · subst e
      exact absurd (show (0 : Int) = k from h1) (by omega)
    · rw [List.concat_eq_append] at e
      subst e
      have e : mc_ar (l' ++ [x]) v = mc_ar l' x ++ [(x, v)] := mc_ar_app l' [x] v
      rw [mc_hd_app] at hu
      rw [e] at hA h1 h2
      rw [mc_sm_app] at h1 h2
      have h1' : mc_sm sp (mc_ar l' x) + (sp x v + 0) = k := h1
      have h2' : mc_sm w (mc_ar l' x) + (w x v + 0) = z := h2
      exact ⟨x, hA (x, v) (List.mem_append_right _ (List.mem_singleton.mpr rfl)), l', hu, fun y hy => hA y (List.mem_append_left _ hy), by omega, by omega⟩
  · rintro ⟨x, hA, h⟩
    have := mc_S_app h hA
    rwa [Int.sub_add_cancel, Int.sub_add_cancel] at this
end MC02
