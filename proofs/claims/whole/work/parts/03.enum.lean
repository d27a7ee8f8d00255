section MC03
/-! the circles as the reference meets them -/
def mc_la (p : List Nat) : Nat := p.getD (p.length - 1) 0
theorem mc_la_app (p : List Nat) (x : Nat) : mc_la (p ++ [x]) = x := by
  unfold mc_la
  simp
theorem mc_la_ar {p : List Nat} (h : p ≠ []) (v : Nat) : (mc_la p, v) ∈ mc_ar p v := by
  rcases List.eq_nil_or_concat p with e | ⟨l, x, e⟩
  · exact absurd e h
  · rw [List.concat_eq_append] at e
    subst e
    rw [mc_la_app, mc_ar_app]
    exact List.mem_append_right _ (List.mem_cons_self)
theorem mc_ar_mem {l : List Nat} {v : Nat} {e : Nat × Nat} (h : e ∈ mc_ar l v) : e.1 ∈ l ∧ (e.2 ∈ l ∨ e.2 = v) := by
  induction l with
  | nil => exact nomatch h
  | cons a l ih =>
    rcases List.mem_cons.mp h with e' | e'
    · subst e'
      refine ⟨List.mem_cons_self, ?_⟩
      cases l with
      | nil => exact Or.inr rfl
      | cons b l => exact Or.inl (List.mem_cons_of_mem _ List.mem_cons_self)
    · obtain ⟨h1, h2⟩ := ih e'
      exact ⟨List.mem_cons_of_mem _ h1, h2.imp (List.mem_cons_of_mem _) id⟩
def mc_br (E : Nat → Nat → Bool) (f : Nat) (R : List Nat → List (List Nat)) (p : List Nat) (v : Nat) : List (List Nat) :=
  if E (mc_la p) v = true then (if v = f then [p] else if f < v ∧ ¬ v ∈ p then R (p ++ [v]) else []) else []
def mc_cs (n : Nat) (E : Nat → Nat → Bool) (f : Nat) : Nat → List Nat → List (List Nat)
  | 0, _ => []
  | k + 1, p => (List.range n).flatMap (mc_br E f (mc_cs n E f k) p)
def mc_gd (n : Nat) (E : Nat → Nat → Bool) (f : Nat) (p : List Nat) : Prop :=
  p ≠ [] ∧ mc_hd p 0 = f ∧ p.Nodup ∧ (∀ x ∈ p, x < n) ∧ ∀ v, E (mc_la p) v = true → ∀ e ∈ mc_ar p v, E e.1 e.2 = true
theorem mc_gd_1 {n : Nat} {E : Nat → Nat → Bool} {f : Nat} (h : f < n) : mc_gd n E f [f] := by
  refine ⟨by simp, rfl, by simp, ?_, ?_⟩
  · intro x hx; rw [List.mem_singleton.mp hx]; exact h
  · intro v hv e he
    have : e = (f, v) := List.mem_singleton.mp he
    rw [this]
    exact hv
theorem mc_gd_s {n : Nat} {E : Nat → Nat → Bool} {f : Nat} {p : List Nat} {v : Nat} (h : mc_gd n E f p) (hE : E (mc_la p) v = true) (hv : v < n) (hp : ¬ v ∈ p) : mc_gd n E f (p ++ [v]) := by
  obtain ⟨h1, h2, h3, h4, h5⟩ := h
  refine ⟨by simp, ?_, ?_, ?_, ?_⟩
  · rw [mc_hd_app]
    cases p with
    | nil => exact absurd rfl h1
    | cons a l => exact h2
  · rw [List.nodup_append]
    refine ⟨h3, by simp, ?_⟩
    intro a ha b hb e
    rw [List.mem_singleton.mp hb] at e
    exact hp (e ▸ ha)
  · intro x hx
    rcases List.mem_append.mp hx with h | h
    · exact h4 x h
    · rw [List.mem_singleton.mp h]; exact hv
  · intro y hy e he
    rw [mc_la_app] at hy
    rw [mc_ar_app] at he
    rcases List.mem_append.mp he with h | h
    · exact h5 v hE e h
    · have : e = (v, y) := List.mem_singleton.mp h
      rw [this]
      exact hy
theorem mc_cs_sound {n : Nat} {E : Nat → Nat → Bool} {f : Nat} : ∀ (k : Nat) (p c : List Nat), mc_gd n E f p → c ∈ mc_cs n E f k p → mc_gd n E f c ∧ E (mc_la c) f = true := by
  intro k
  induction k with
  | zero => intro p c _ hc; exact nomatch hc
  | succ k ih =>
    intro p c hp hc
    obtain ⟨v, hv, hc⟩ := List.mem_flatMap.mp hc
    have hv := List.mem_range.mp hv
    unfold mc_br at hc
    by_cases hE : E (mc_la p) v = true
    · rw [if_pos hE] at hc
      by_cases hf : v = f
      · rw [if_pos hf] at hc
        rw [List.mem_singleton.mp hc]
        exact ⟨hp, hf ▸ hE⟩
      · rw [if_neg hf] at hc
        by_cases hx : f < v ∧ ¬ v ∈ p
        · rw [if_pos hx] at hc
          exact ih _ _ (mc_gd_s hp hE hv hx.2) hc
        · rw [if_neg hx] at hc
          exact nomatch hc
    · rw [if_neg hE] at hc
      exact nomatch hc
theorem mc_cs_compl {n : Nat} {E : Nat → Nat → Bool} {f : Nat} : ∀ (t : List Nat) (k : Nat) (p : List Nat), p ≠ [] → mc_hd p 0 = f → f < n → (p ++ t).Nodup → (∀ x ∈ t, x < n ∧ f < x) → (∀ e ∈ mc_cy (p ++ t), E e.1 e.2 = true) → t.length < k → p ++ t ∈ mc_cs n E f k p := by
  intro t
  induction t with
  | nil =>
    intro k p h1 h2 h3 h4 h5 h6 h7
    obtain ⟨k, rfl⟩ : ∃ j, k = j + 1 := ⟨k - 1, by simp at h7; omega⟩
    rw [List.append_nil] at h6 ⊢
    refine List.mem_flatMap.mpr ⟨f, List.mem_range.mpr h3, ?_⟩
    unfold mc_br
    have hE : E (mc_la p) f = true := by
      have := h6 (mc_la p, f) (by unfold mc_cy; rw [h2]; exact mc_la_ar h1 f)
      exact this
    rw [if_pos hE, if_pos rfl]
    exact List.mem_singleton.mpr rfl
  | cons v t ih =>
    intro k p h1 h2 h3 h4 h5 h6 h7
    rw [List.length_cons] at h7
    obtain ⟨k, rfl⟩ : ∃ j, k = j + 1 := ⟨k - 1, by omega⟩
    have hv := h5 v List.mem_cons_self
    refine List.mem_flatMap.mpr ⟨v, List.mem_range.mpr hv.1, ?_⟩
    unfold mc_br
    have hE : E (mc_la p) v = true := by
      have := h6 (mc_la p, v) (by rw [mc_cy_app]; exact List.mem_append_left _ (mc_la_ar h1 v))
      exact this
    have hp : ¬ v ∈ p := by
      intro hm
      rw [List.nodup_append] at h4
      exact h4.2.2 v hm v List.mem_cons_self rfl
    have ea : p ++ v :: t = (p ++ [v]) ++ t := by simp
    rw [if_pos hE, if_neg (by omega), if_pos ⟨hv.2, hp⟩, ea]
    rw [ea] at h4 h6
    refine ih k (p ++ [v]) (by simp) ?_ h3 h4 (fun x hx => h5 x (List.mem_cons_of_mem _ hx)) h6 (by omega)
    rw [mc_hd_app]
    cases p with
    | nil => exact absurd rfl h1
    | cons a l => exact h2
def mc_al (n : Nat) (E : Nat → Nat → Bool) : List (List Nat) := (List.range n).flatMap (fun f => mc_cs n E f 6 [f])
def mc_A (n : Nat) (E : Nat → Nat → Bool) (u v : Nat) : Prop := u < n ∧ v < n ∧ E u v = true
theorem mc_gd_ci {n : Nat} {E : Nat → Nat → Bool} {f : Nat} {c : List Nat} (hg : mc_gd n E f c) (hE : E (mc_la c) f = true) : mc_ci (mc_A n E) c := by
  obtain ⟨h1, h2, h3, h4, h5⟩ := hg
  have hf : f ∈ c := by
    cases c with
    | nil => exact absurd rfl h1
    | cons a l => rw [← h2]; exact List.mem_cons_self
  refine ⟨h1, h3, ?_⟩
  unfold mc_cy
  rw [h2]
  intro e he
  obtain ⟨m1, m2⟩ := mc_ar_mem he
  refine ⟨h4 _ m1, ?_, h5 f hE e he⟩
  rcases m2 with m | m
  · exact h4 _ m
  · rw [m]; exact h4 _ hf
theorem mc_al_sound {n : Nat} {E : Nat → Nat → Bool} {c : List Nat} (h : c ∈ mc_al n E) : mc_ci (mc_A n E) c := by
  obtain ⟨f, hf, hc⟩ := List.mem_flatMap.mp h
  obtain ⟨hg, hE⟩ := mc_cs_sound 6 [f] c (mc_gd_1 (List.mem_range.mp hf)) hc
  exact mc_gd_ci hg hE
theorem mc_min : ∀ (c : List Nat), c ≠ [] → ∃ m ∈ c, ∀ x ∈ c, m ≤ x := by
  intro c
  induction c with
  | nil => intro h; exact absurd rfl h
  | cons a c ih =>
    intro _
    by_cases hc : c = []
    · subst hc
      exact ⟨a, List.mem_cons_self, fun x hx => by rw [List.mem_singleton.mp hx]; exact Nat.le_refl _⟩
    · obtain ⟨m, hm, hl⟩ := ih hc
      by_cases h : a ≤ m
      · refine ⟨a, List.mem_cons_self, fun x hx => ?_⟩
        rcases List.mem_cons.mp hx with e | e
        · omega
        · have := hl x e; omega
      · refine ⟨m, List.mem_cons_of_mem _ hm, fun x hx => ?_⟩
        rcases List.mem_cons.mp hx with e | e
        · omega
        · exact hl x e
theorem mc_ci_lt {n : Nat} {E : Nat → Nat → Bool} {c : List Nat} (h : mc_ci (mc_A n E) c) : ∀ x ∈ c, x < n := by
  intro x hx
  obtain ⟨y, hy⟩ := mc_ar_fst (v := mc_hd c 0) hx
  exact (h.2.2 (x, y) hy).1
theorem mc_ci_len {n : Nat} {E : Nat → Nat → Bool} {c : List Nat} (h : mc_ci (mc_A n E) c) : c.length ≤ n := mc_ph h.2.1 (mc_ci_lt h)
theorem mc_al_compl {n : Nat} {E : Nat → Nat → Bool} (hn : n ≤ 6) {c : List Nat} (h : mc_ci (mc_A n E) c) : ∃ c' ∈ mc_al n E, (∀ e, e ∈ mc_cy c ↔ e ∈ mc_cy c') ∧ ∀ w : Nat → Nat → Int, mc_sm w (mc_cy c') = mc_sm w (mc_cy c) := by
  have hlt := mc_ci_lt h
  have hlen := mc_ci_len h
  obtain ⟨h1, h2, h3⟩ := h
  obtain ⟨m, hm, hl⟩ := mc_min c h1
  obtain ⟨a, b, rfl⟩ := List.append_of_mem hm
  have e1 : mc_cy (a ++ m :: b) = mc_ar a m ++ mc_ar (m :: b) (mc_hd a m) := mc_cy_app a m b
  have e2 : mc_cy (m :: b ++ a) = mc_ar (m :: b) (mc_hd a m) ++ mc_ar a m := by
    unfold mc_cy
    rw [mc_ar_app]
    rfl
  have hmem : ∀ e, e ∈ mc_cy (a ++ m :: b) ↔ e ∈ mc_cy (m :: b ++ a) := by
    intro e
    rw [e1, e2, List.mem_append, List.mem_append]
    exact Or.comm
  refine ⟨m :: b ++ a, ?_, hmem, ?_⟩
  · refine List.mem_flatMap.mpr ⟨m, List.mem_range.mpr (hlt m hm), ?_⟩
    have hnd : (m :: b ++ a).Nodup := by
      rw [List.nodup_append] at h2 ⊢
      exact ⟨h2.2.1, h2.1, fun x hx y hy e => h2.2.2 y hy x hx e.symm⟩
    have e3 : m :: b ++ a = [m] ++ (b ++ a) := rfl
    rw [e3] at hnd hmem ⊢
    refine mc_cs_compl (b ++ a) 6 [m] (by simp) rfl (hlt m hm) hnd ?_ ?_ ?_
    · intro x hx
      have hxm : x ∈ a ++ m :: b := by
        rcases List.mem_append.mp hx with h | h
        · exact List.mem_append_right _ (List.mem_cons_of_mem _ h)
        · exact List.mem_append_left _ h
      have := hl x hxm
      have hne : m ≠ x := by
        intro e
        have := (List.nodup_cons.mp hnd).1
        exact this (e ▸ hx)
      exact ⟨hlt x hxm, by omega⟩
    · intro e he
      exact (h3 e ((hmem e).mpr he)).2.2
    · rw [List.length_append, List.length_cons] at hlen
      rw [List.length_append]
      omega
  · intro w
    rw [e1, e2, mc_sm_app, mc_sm_app]
    omega
theorem mc_fm_len {g : Nat → List (List Nat)} {m : Nat} : ∀ l : List Nat, (∀ v ∈ l, (g v).length ≤ m) → (l.flatMap g).length ≤ l.length * m := by
  intro l
  induction l with
  | nil => intro _; simp
  | cons a l ih =>
    intro h
    rw [List.flatMap_cons, List.length_append, List.length_cons, Nat.succ_mul]
    have h1 := h a List.mem_cons_self
    have h2 := ih (fun v hv => h v (List.mem_cons_of_mem _ hv))
    omega
theorem mc_cs_len {n : Nat} {E : Nat → Nat → Bool} {f : Nat} (hn : n ≤ 6) : ∀ (k : Nat) (p : List Nat), (mc_cs n E f k p).length ≤ 6 ^ k := by
  intro k
  induction k with
  | zero => intro p; exact Nat.zero_le _
  | succ k ih =>
    intro p
    have h6 : 1 ≤ 6 ^ k := Nat.pow_pos (by omega)
    have : ((List.range n).flatMap (mc_br E f (mc_cs n E f k) p)).length ≤ (List.range n).length * 6 ^ k := by
      refine mc_fm_len _ (fun v _ => ?_)
      unfold mc_br
      split
      · split
        · exact h6
        · split
          · exact ih _
          · exact Nat.zero_le _
      · exact Nat.zero_le _
    rw [List.length_range] at this
    show ((List.range n).flatMap (mc_br E f (mc_cs n E f k) p)).length ≤ 6 ^ (k + 1)
    rw [Nat.pow_succ, Nat.mul_comm]
    exact Nat.le_trans this (Nat.mul_le_mul_right _ hn)
theorem mc_al_len {n : Nat} {E : Nat → Nat → Bool} (hn : n ≤ 6) : (mc_al n E).length ≤ 279936 := by
  have := mc_fm_len (g := fun f => mc_cs n E f 6 [f]) (m := 6 ^ 6) (List.range n) (fun v _ => mc_cs_len hn 6 [v])
  rw [List.length_range] at this
  exact Nat.le_trans this (Nat.mul_le_mul_right (6 ^ 6) hn)
end MC03
