section MC11
/-! where the two sides meet: closed walks of span at most 30 against circles -/
def mc_X (N : Nat) (W th sa tY : Nat → Int32) (bz : Int32) : Prop := N ≤ 6 ∧ mc_ok W sa ∧ mc_oy W th tY ∧ mc_E sa = mc_E th ∧ ∀ c, mc_ci (mc_A N (mc_E th)) c → mc_sz tY bz c = mc_sm (mc_fw sa) (mc_cy c)
variable {N : Nat} {W th sa tY : Nat → Int32} {bz : Int32}
theorem mc_x1 (hX : mc_X N W th sa tY bz) {c : List Nat} (hc : c ∈ mc_al N (mc_E th)) {u v : Nat} (he : (u, v) ∈ mc_cy c) : ∃ k : Nat, (k : Int) = mc_sz tY bz c ∧ 1 ≤ k ∧ k ≤ 30 ∧ u < N ∧ v < N ∧ ¬ sa (6 * u + v) = 0 ∧ mc_Sx N W sa u u k (mc_zt W c) ∧ mc_Sx N W sa v u (k - mc_fw sa u v) (mc_zt W c - mc_fw W u v) := by
  obtain ⟨h1, h2, h3, h4, h5⟩ := hX
  have hci := mc_al_sound hc
  have b := mc_cb (bz := bz) h1 h3 hci
  have hs := h5 c hci
  obtain ⟨k, hk⟩ : ∃ k : Nat, (k : Int) = mc_sz tY bz c := ⟨(mc_sz tY bz c).toNat, by omega⟩
  have hA := hci.2.2 _ he
  have hA' : mc_A N (mc_E sa) u v := by rw [h4]; exact hA
  refine ⟨k, hk, by omega, by omega, hA.1, hA.2.1, mc_E_t.mp hA'.2.2, ?_, ?_⟩
  · unfold mc_Sx
    rw [h4, hk, hs]
    exact mc_rot2 hci he
  · unfold mc_Sx
    rw [h4, hk, hs]
    exact (mc_rot hci he).1
theorem mc_x2 (hX : mc_X N W th sa tY bz) {T B : Int} (hm : ∀ c ∈ mc_al N (mc_E th), T * mc_sz tY bz c ≤ B * mc_zt W c) {c : List Nat} (hn : c ≠ []) (hA : ∀ e ∈ mc_cy c, mc_A N (mc_E sa) e.1 e.2) : T * mc_sm (mc_fw sa) (mc_cy c) ≤ B * mc_sm (mc_fw W) (mc_cy c) ∧ (T * mc_sm (mc_fw sa) (mc_cy c) = B * mc_sm (mc_fw W) (mc_cy c) → ∀ e ∈ mc_cy c, ∃ c' ∈ mc_al N (mc_E th), T * mc_sz tY bz c' = B * mc_zt W c' ∧ e ∈ mc_cy c') := by
  obtain ⟨h1, h2, h3, h4, h5⟩ := hX
  rw [h4] at hA
  have hq : ∀ q, mc_ci (mc_A N (mc_E th)) q → T * mc_sm (mc_fw sa) (mc_cy q) ≤ B * mc_sm (mc_fw W) (mc_cy q) := by
    intro q hq
    obtain ⟨c', m1, m2, m3⟩ := mc_al_compl h1 hq
    have := hm c' m1
    rw [h5 c' (mc_al_sound m1), m3] at this
    unfold mc_zt at this
    rwa [m3] at this
  obtain ⟨g1, g2⟩ := mc_clo hq hn hA
  refine ⟨g1, fun e x hx => ?_⟩
  obtain ⟨q, q1, q2, q3⟩ := g2 e x hx
  obtain ⟨c', m1, m2, m3⟩ := mc_al_compl h1 q1
  refine ⟨c', m1, ?_, (m2 x).mp q3⟩
  rw [h5 c' (mc_al_sound m1)]
  unfold mc_zt
  rw [m3, m3]
  exact q2
/-- a closed walk through an arc -/
theorem mc_cl2 {A : Nat → Nat → Prop} {w sp : Nat → Nat → Int} {u v : Nat} {k z : Int} (hA : A u v) (h : mc_S A w sp v u k z) : ∃ c, c ≠ [] ∧ (∀ e ∈ mc_cy c, A e.1 e.2) ∧ mc_sm sp (mc_cy c) = k + sp u v ∧ mc_sm w (mc_cy c) = z + w u v ∧ (u, v) ∈ mc_cy c := by
  obtain ⟨l, hu, hl, hk, hz⟩ := h
  have e : mc_cy (u :: l) = (u, v) :: mc_ar l u := by rw [← hu]; rfl
  refine ⟨u :: l, by simp, ?_, ?_, ?_, ?_⟩
  · rw [e]
    intro y hy
    rcases List.mem_cons.mp hy with h | h
    · rw [h]; exact hA
    · exact hl y h
  · rw [e, ← hk]; exact Int.add_comm _ _
  · rw [e, ← hz]; exact Int.add_comm _ _
  · rw [e]; exact List.mem_cons_self
theorem mc_arc0 {c : List Nat} (h : c ≠ []) : ∃ e, e ∈ mc_cy c := by
  cases c with
  | nil => exact absurd rfl h
  | cons a l => exact ⟨_, List.mem_cons_self⟩
theorem mc_none (hX : mc_X N W th sa tY bz) {T : Int} {B : Nat} (hF : mc_F N W sa T B) : mc_al N (mc_E th) = [] ↔ B = 0 := by
  constructor
  · intro e
    rcases hF with ⟨h, _⟩ | ⟨_, _, _, ⟨k, u, z, k1, k2, k3, k4, _⟩, _⟩
    · exact h
    · obtain ⟨c, c1, c2, _, _, y, c5⟩ := mc_cls (by omega) k4
      obtain ⟨c', m, _⟩ := (mc_x2 hX (T := 0) (B := 0) (fun _ _ => by rw [Int.zero_mul, Int.zero_mul]; exact Int.le_refl _) c1 c2).2 (by rw [Int.zero_mul, Int.zero_mul]) _ c5
      rw [e] at m
      exact nomatch m
  · intro e
    rcases hF with ⟨_, _, h⟩ | ⟨h, _⟩
    · cases hal : mc_al N (mc_E th) with
      | nil => rfl
      | cons c L =>
        have hc : c ∈ mc_al N (mc_E th) := by rw [hal]; exact List.mem_cons_self
        obtain ⟨⟨u, v⟩, he⟩ := mc_arc0 (mc_al_sound hc).1
        obtain ⟨k, _, k1, k2, k3, _, _, k4, _⟩ := mc_x1 hX hc he
        exact absurd k4 (h k u _ k1 k2 k3)
    · omega
theorem mc_lq_m {t b : Int} (h : mc_lq bz W tY (mc_al N (mc_E th)) t b) : ∀ c ∈ mc_al N (mc_E th), t * mc_sz tY bz c ≤ b * mc_zt W c := by
  rcases h with ⟨e, _⟩ | ⟨c, _, h1, h2, h3⟩
  · intro c hc
    rw [e] at hc
    exact nomatch hc
  · intro c' hc'
    rw [h1, h2, Int.mul_comm (mc_sz tY bz c)]
    exact h3 c' hc'
theorem mc_same (hX : mc_X N W th sa tY bz) {T t b : Int} {B : Nat} (hF : mc_F N W sa T B) (hl : mc_lq bz W tY (mc_al N (mc_E th)) t b) (hB : ¬ B = 0) : 1 ≤ b ∧ b ≤ 30 ∧ T * b = t * B := by
  have hb := mc_lq_b N bz th W tY hX.1 hX.2.2.1 (fun c hc => mc_al_sound hc) hl
  refine ⟨hb.2.2.1, hb.2.2.2, ?_⟩
  have hne : ¬ mc_al N (mc_E th) = [] := fun e => hB ((mc_none hX hF).mp e)
  have hm := mc_lq_m hl
  rcases hF with ⟨h, _⟩ | ⟨h1, _, _, ⟨k, u, z, k1, k2, k3, k4, k5⟩, h5⟩
  · exact absurd h hB
  · apply Int.le_antisymm
    · rcases hl with ⟨e, _⟩ | ⟨c, hc, e1, e2, _⟩
      · exact absurd e hne
      · obtain ⟨⟨u', v'⟩, he⟩ := mc_arc0 (mc_al_sound hc).1
        obtain ⟨k', q0, q1, q2, q3, _, _, q4, _⟩ := mc_x1 hX hc he
        have := h5 k' u' _ q1 q2 q3 q4
        rw [e1, e2, ← q0]
        exact this
    · obtain ⟨c, c1, c2, c3, c4, _⟩ := mc_cls (by omega) k4
      have := (mc_x2 hX hm c1 c2).1
      rw [c3, c4] at this
      have a1 : (t * k) * B ≤ (b * z) * B := Int.mul_le_mul_of_nonneg_right this (by omega)
      have e1 : (b * z) * B = (T * b) * k := by rw [Int.mul_assoc, ← k5, ← Int.mul_assoc, Int.mul_comm b T]
      have e2 : (t * k) * B = (t * B) * k := Int.mul_right_comm _ _ _
      rw [e1, e2] at a1
      exact Int.le_of_mul_le_mul_right a1 (by omega)
theorem mc_ans (hX : mc_X N W th sa tY bz) {T : Int} {B : Nat} {p1 r : Int32} (hF : mc_F N W sa T B) (h : mc_av N bz th W tY p1 r) : (B = 0 ∧ r = -1000) ∨ (¬ B = 0 ∧ r = if p1 = 0 then nI B else mc_I T) := by
  rcases h with ⟨e, hr⟩ | ⟨ne, t, b, t', b', g, hl, g0, hb', h2, h3, h4, hr⟩
  · exact Or.inl ⟨(mc_none hX hF).mp e, hr⟩
  · have hB : ¬ B = 0 := fun e => ne ((mc_none hX hF).mpr e)
    have hs := (mc_same hX hF hl hB).2.2
    have hg : Nat.gcd T.natAbs B = 1 := by
      rcases hF with ⟨h, _⟩ | ⟨_, _, h, _⟩
      · exact absurd h hB
      · exact h
    have e : t' * B = T * b' := by
      rw [h2, h3, ← Int.mul_assoc, Int.mul_right_comm t'] at hs
      exact (Int.eq_of_mul_eq_mul_right (by omega) hs).symm
    obtain ⟨e1, e2⟩ := mc_low (by omega) (by omega) h4 hg e
    rw [e1, e2] at hr
    exact Or.inr ⟨hB, hr⟩
/-- cancel: the two forms of a best quotient -/
theorem mc_can {T t b z k : Int} {B : Nat} (hB : ¬ B = 0) (hb : 1 ≤ b) (h : T * b = t * B) : z * B = T * k ↔ t * k = b * z := by
  constructor
  · intro e
    have : (t * k) * B = (b * z) * B := by
      rw [Int.mul_right_comm, ← h, Int.mul_right_comm, ← e, Int.mul_comm b z, Int.mul_right_comm]
    exact Int.eq_of_mul_eq_mul_right (by omega) this
  · intro e
    have : (z * B) * b = (T * k) * b := by
      rw [Int.mul_right_comm, Int.mul_comm z b, ← e, Int.mul_right_comm, ← h, Int.mul_right_comm]
    exact Int.eq_of_mul_eq_mul_right (by omega) this
theorem mc_pts (hX : mc_X N W th sa tY bz) {T t b : Int} {B : Nat} (hF : mc_F N W sa T B) (hl : mc_lq bz W tY (mc_al N (mc_E th)) t b) (i : Nat) : (i < N ∧ mc_BP N W sa T B i) ↔ mc_pq bz W tY t b (mc_al N (mc_E th)) i := by
  by_cases hB : B = 0
  · have e := (mc_none hX hF).mpr hB
    constructor
    · rintro ⟨hi, k, z, k1, k2, k3, _⟩
      rcases hF with ⟨_, _, h⟩ | ⟨h, _⟩
      · exact absurd k3 (h k i z k1 k2 hi)
      · omega
    · rintro ⟨c, hc, _⟩
      rw [e] at hc
      exact nomatch hc
  · obtain ⟨hb, _, hs⟩ := mc_same hX hF hl hB
    constructor
    · rintro ⟨hi, k, z, k1, k2, k3, k4⟩
      obtain ⟨c, c1, c2, c3, c4, y, c5⟩ := mc_cls (by omega) k3
      have hx := (mc_x2 hX (mc_lq_m hl) c1 c2).2
      rw [c3, c4] at hx
      obtain ⟨c', m1, m2, m3⟩ := hx ((mc_can hB hb hs).mp k4) _ c5
      exact ⟨c', m1, by unfold mc_bs; rw [m2, Int.mul_comm], (mc_ar_mem m3).1⟩
    · rintro ⟨c, hc, hbs, hi⟩
      obtain ⟨y, hy⟩ := mc_ar_fst (v := mc_hd c 0) hi
      obtain ⟨k, q0, q1, q2, q3, _, _, q4, _⟩ := mc_x1 hX hc hy
      refine ⟨q3, k, _, q1, q2, q4, (mc_can hB hb hs).mpr ?_⟩
      unfold mc_bs at hbs
      rw [q0, ← hbs, Int.mul_comm]
theorem mc_arcs (hX : mc_X N W th sa tY bz) {T t b : Int} {B : Nat} (hF : mc_F N W sa T B) (hl : mc_lq bz W tY (mc_al N (mc_E th)) t b) {u v : Nat} (hA : mc_A N (mc_E sa) u v) : mc_BA N W sa T B u v ↔ mc_mq bz W tY t b (mc_al N (mc_E th)) (6 * u + v) := by
  have hN := hX.1
  have hu := hA.1
  have hv := hA.2.1
  have hsp := hX.2.1.2 _ (mc_E_t.mp hA.2.2)
  have hsp' : 1 ≤ mc_fw sa u v ∧ mc_fw sa u v ≤ 5 := hsp
  by_cases hB : B = 0
  · have e := (mc_none hX hF).mpr hB
    constructor
    · rintro ⟨r, z, r1, r2, _⟩
      rcases hF with ⟨_, _, h⟩ | ⟨h, _⟩
      · obtain ⟨s, es⟩ : ∃ s : Nat, (s : Int) = mc_fw sa u v := ⟨(mc_fw sa u v).toNat, by omega⟩
        have hcl := mc_S_pre r2 hA
        have er : (r : Int) + mc_fw sa u v = ((r + s : Nat) : Int) := by rw [Int.natCast_add, es]
        rw [er] at hcl
        exact absurd hcl (h (r + s) u _ (by omega) (by omega) hu)
      · omega
    · rintro ⟨c, hc, _⟩
      rw [e] at hc
      exact nomatch hc
  · obtain ⟨hb, _, hs⟩ := mc_same hX hF hl hB
    constructor
    · rintro ⟨r, z, r1, r2, r3⟩
      obtain ⟨c, c1, c2, c3, c4, c5⟩ := mc_cl2 hA r2
      have hx := (mc_x2 hX (mc_lq_m hl) c1 c2).2
      rw [c3, c4] at hx
      obtain ⟨c', m1, m2, m3⟩ := hx ((mc_can hB hb hs).mp r3) _ c5
      exact ⟨c', m1, by unfold mc_bs; rw [m2, Int.mul_comm], (u, v), m3, rfl⟩
    · rintro ⟨c, hc, hbs, ⟨x, y⟩, he, hxy⟩
      obtain ⟨k, q0, q1, q2, q3, q3', _, q4, q5⟩ := mc_x1 hX hc he
      have hxy' : 6 * x + y = 6 * u + v := hxy
      obtain ⟨rfl, rfl⟩ : x = u ∧ y = v := by omega
      have hb0 := (mc_Sx_b hX.2.1 q5).1
      obtain ⟨r, er⟩ : ∃ r : Nat, (r : Int) = k - mc_fw sa x y := ⟨((k : Int) - mc_fw sa x y).toNat, by omega⟩
      rw [← er] at q5
      refine ⟨r, _, by omega, q5, (mc_can hB hb hs).mpr ?_⟩
      unfold mc_bs at hbs
      rw [Int.sub_add_cancel, er, Int.sub_add_cancel, q0, ← hbs, Int.mul_comm]
theorem mc_mq_A (hX : mc_X N W th sa tY bz) {t b : Int} {u v : Nat} (hu : u < N) (hv : v < N) (h : mc_mq bz W tY t b (mc_al N (mc_E th)) (6 * u + v)) : mc_A N (mc_E sa) u v := by
  have hN := hX.1
  obtain ⟨c, hc, _, ⟨x, y⟩, he, hxy⟩ := h
  obtain ⟨k, _, _, _, q3, q3', q6, _⟩ := mc_x1 hX hc he
  have hxy' : 6 * x + y = 6 * u + v := hxy
  obtain ⟨rfl, rfl⟩ : x = u ∧ y = v := by omega
  exact ⟨hu, hv, mc_E_t.mpr q6⟩
theorem mc_stdy (hX : mc_X N W th sa tY bz) {T p : Int} {B : Nat} (hF : mc_F N W sa T B) : (B = 0 ∨ ¬ T < p * B) ↔ ∀ c ∈ mc_al N (mc_E th), p * mc_sz tY bz c ≤ mc_zt W c := by
  constructor
  · intro h c hc
    have hB : ¬ B = 0 := by
      intro e
      rw [(mc_none hX hF).mpr e] at hc
      exact nomatch hc
    have hT := h.resolve_left hB
    obtain ⟨⟨u, v⟩, he⟩ := mc_arc0 (mc_al_sound hc).1
    obtain ⟨k, q0, q1, q2, q3, _, _, q4, _⟩ := mc_x1 hX hc he
    have h1 := mc_F_le hF k u _ q1 q2 q3 q4
    have h2 : (p * B) * k ≤ T * k := Int.mul_le_mul_of_nonneg_right (by omega) (by omega)
    rw [Int.mul_right_comm] at h2
    rw [← q0]
    exact Int.le_of_mul_le_mul_right (Int.le_trans h2 h1) (by omega)
  · intro h
    by_cases hB : B = 0
    · exact Or.inl hB
    · refine Or.inr (fun hlt => ?_)
      rcases hF with ⟨h', _⟩ | ⟨h1, _, _, ⟨k, u, z, k1, k2, k3, k4, k5⟩, h5⟩
      · exact absurd h' hB
      · obtain ⟨c, c1, c2, c3, c4, _⟩ := mc_cls (by omega) k4
        have hx := (mc_x2 hX (T := p) (B := 1) (fun c hc => by rw [Int.one_mul]; exact h c hc) c1 c2).1
        rw [c3, c4, Int.one_mul] at hx
        have a1 : (p * k) * B ≤ z * B := Int.mul_le_mul_of_nonneg_right hx (by omega)
        have a2 : T * k < (p * B) * k := Int.mul_lt_mul_of_pos_right hlt (by omega)
        rw [Int.mul_right_comm, ← k5] at a1
        omega
end MC11
