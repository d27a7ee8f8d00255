section MC13
theorem mc_bits {x y : Int32} {P : Nat → Prop} (hx : ∀ i, i < 32 → (bt x i = true ↔ P i)) (hy : ∀ i, i < 32 → (bt y i = true ↔ P i)) : x = y := b_ext (fun i hi => Bool.eq_iff_iff.mpr ((hx i hi).trans (hy i hi).symm))
theorem mc_bit0 {P : Nat → Prop} : ∀ i, i < 32 → (bt 0 i = true ↔ i < 0 ∧ P i) := by
  intro i _
  rw [b_0]
  constructor
  · intro h; exact nomatch h
  · rintro ⟨h, _⟩; omega
end MC13
theorem i_vc_meanTop {k : Nat} {u : SX} {v : SY} (I : i_Rel k u v) (hk : k + 5 ≤ 2561) : wpX_meanTop (fun r u' => wpY_meanTop (fun r' v' => r' = r ∧ i_Rel (k + 5) u' v') v) u := by
  obtain ⟨N, tp, bm, W, th, tX, tY, wk, dp, bz, fo, to, bo, pn, mk, bd, un, wy, nx, ma, rfl, rfl, hR⟩ := I
  have hN := hR.2.1
  have hX := mc_R_Xs hR
  unfold wpX_meanTop wpY_meanTop
  dsimp only
  refine mc_fB_steps N W th tX hN (mc_R_oks hR) (fun wk T B t1 t2 hd hF => ?_)
  have hB := mc_F_b hF
  refine br_c (fun b0 => mc_an N 0 th W tY hN (mc_R_oy hR) (Or.inl rfl) (fun r dp b0' fo tp bo pn mk bd un wy nx ma hav => ⟨?_, mc_rel hR⟩)) (fun nb => mc_an N 0 th W tY hN (mc_R_oy hR) (Or.inl rfl) (fun r dp b0' fo tp bo pn mk bd un wy nx ma hav => ⟨?_, mc_rel hR⟩))
  · rw [← nI_0, nI_eq (by omega) (by omega)] at b0
    rcases mc_ans hX hF hav with ⟨_, e⟩ | ⟨h, _⟩
    · exact e
    · exact absurd b0 h
  · rcases mc_ans hX hF hav with ⟨h, _⟩ | ⟨_, e⟩
    · rw [h] at nb
      exact absurd nI_0 nb
    · rw [e]
      exact if_neg (by decide)
theorem i_vc_meanBottom {k : Nat} {u : SX} {v : SY} (I : i_Rel k u v) (hk : k + 5 ≤ 2561) : wpX_meanBottom (fun r u' => wpY_meanBottom (fun r' v' => r' = r ∧ i_Rel (k + 5) u' v') v) u := by
  obtain ⟨N, tp, bm, W, th, tX, tY, wk, dp, bz, fo, to, bo, pn, mk, bd, un, wy, nx, ma, rfl, rfl, hR⟩ := I
  have hN := hR.2.1
  have hX := mc_R_Xs hR
  unfold wpX_meanBottom wpY_meanBottom
  dsimp only
  refine mc_fB_steps N W th tX hN (mc_R_oks hR) (fun wk T B t1 t2 hd hF => ?_)
  have hB := mc_F_b hF
  refine br_c (fun b0 => mc_an N 0 th W tY hN (mc_R_oy hR) (Or.inl rfl) (fun r dp b0' fo tp bo pn mk bd un wy nx ma hav => ⟨?_, mc_rel hR⟩)) (fun nb => mc_an N 0 th W tY hN (mc_R_oy hR) (Or.inl rfl) (fun r dp b0' fo tp bo pn mk bd un wy nx ma hav => ⟨?_, mc_rel hR⟩))
  · rw [← nI_0, nI_eq (by omega) (by omega)] at b0
    rcases mc_ans hX hF hav with ⟨_, e⟩ | ⟨h, _⟩
    · exact e
    · exact absurd b0 h
  · rcases mc_ans hX hF hav with ⟨h, _⟩ | ⟨_, e⟩
    · rw [h] at nb
      exact absurd nI_0 nb
    · rw [e]
      exact if_pos rfl
theorem i_vc_ratioTop {k : Nat} {u : SX} {v : SY} (I : i_Rel k u v) (hk : k + 5 ≤ 2561) : wpX_ratioTop (fun r u' => wpY_ratioTop (fun r' v' => r' = r ∧ i_Rel (k + 5) u' v') v) u := by
  obtain ⟨N, tp, bm, W, th, tX, tY, wk, dp, bz, fo, to, bo, pn, mk, bd, un, wy, nx, ma, rfl, rfl, hR⟩ := I
  have hN := hR.2.1
  have hX := mc_R_Xt hR
  unfold wpX_ratioTop wpY_ratioTop
  dsimp only
  refine mc_fB_times N W th tX hN (mc_R_okt hR) (fun wk T B t1 t2 hd hF => ?_)
  have hB := mc_F_b hF
  refine br_c (fun b0 => mc_an N 1 th W tY hN (mc_R_oy hR) (Or.inr rfl) (fun r dp b0' fo tp bo pn mk bd un wy nx ma hav => ⟨?_, mc_rel hR⟩)) (fun nb => mc_an N 1 th W tY hN (mc_R_oy hR) (Or.inr rfl) (fun r dp b0' fo tp bo pn mk bd un wy nx ma hav => ⟨?_, mc_rel hR⟩))
  · rw [← nI_0, nI_eq (by omega) (by omega)] at b0
    rcases mc_ans hX hF hav with ⟨_, e⟩ | ⟨h, _⟩
    · exact e
    · exact absurd b0 h
  · rcases mc_ans hX hF hav with ⟨h, _⟩ | ⟨_, e⟩
    · rw [h] at nb
      exact absurd nI_0 nb
    · rw [e]
      exact if_neg (by decide)
theorem i_vc_ratioBottom {k : Nat} {u : SX} {v : SY} (I : i_Rel k u v) (hk : k + 5 ≤ 2561) : wpX_ratioBottom (fun r u' => wpY_ratioBottom (fun r' v' => r' = r ∧ i_Rel (k + 5) u' v') v) u := by
  obtain ⟨N, tp, bm, W, th, tX, tY, wk, dp, bz, fo, to, bo, pn, mk, bd, un, wy, nx, ma, rfl, rfl, hR⟩ := I
  have hN := hR.2.1
  have hX := mc_R_Xt hR
  unfold wpX_ratioBottom wpY_ratioBottom
  dsimp only
  refine mc_fB_times N W th tX hN (mc_R_okt hR) (fun wk T B t1 t2 hd hF => ?_)
  have hB := mc_F_b hF
  refine br_c (fun b0 => mc_an N 1 th W tY hN (mc_R_oy hR) (Or.inr rfl) (fun r dp b0' fo tp bo pn mk bd un wy nx ma hav => ⟨?_, mc_rel hR⟩)) (fun nb => mc_an N 1 th W tY hN (mc_R_oy hR) (Or.inr rfl) (fun r dp b0' fo tp bo pn mk bd un wy nx ma hav => ⟨?_, mc_rel hR⟩))
  · rw [← nI_0, nI_eq (by omega) (by omega)] at b0
    rcases mc_ans hX hF hav with ⟨_, e⟩ | ⟨h, _⟩
    · exact e
    · exact absurd b0 h
  · rcases mc_ans hX hF hav with ⟨h, _⟩ | ⟨_, e⟩
    · rw [h] at nb
      exact absurd nI_0 nb
    · rw [e]
      exact if_pos rfl
theorem i_vc_meanArc {k : Nat} {u : SX} {v : SY} (I : i_Rel k u v) (hk : k + 5 ≤ 2561) (v1 : Int32) (v2 : Int32) : wpX_meanArc (fun r u' => wpY_meanArc (fun r' v' => r' = r ∧ i_Rel (k + 5) u' v') v v1 v2) u v1 v2 := by
  obtain ⟨N, tp, bm, W, th, tX, tY, wk, dp, bz, fo, to, bo, pn, mk, bd, un, wy, nx, ma, rfl, rfl, hR⟩ := I
  have hN := hR.2.1
  have hX := mc_R_Xs hR
  unfold wpX_meanArc wpX_isArc wpY_meanArc
  dsimp only
  rcases mc_pt hN v1 with ⟨a, ha, rfl⟩ | h1
  · refine mc_xp hN ha (br_f (by decide) ?_)
    rcases mc_pt hN v2 with ⟨b, hb, rfl⟩ | h2
    · have hc : (nI (6 * a + b)).toNatClampNeg = 6 * a + b := nI_clamp (by omega)
      have hin : vp_in (nI (6 * a + b)) 36 := vp_in_nI (by omega) (by omega)
      have ei : 6 * nI a + nI b = nI (6 * a + b) := by
        rw [show 6 * nI a = nI (6 * a) from mc_mulN 6 _, nI_add]
      refine mc_xp hN hb (br_f (by decide) (mc_pO ⟨hin, ?_⟩))
      rw [ei, hc]
      refine br_c (fun z => br_t rfl (mc_yp hN ha (br_f (by decide) (mc_yp hN hb (br_f (by decide) (mc_sr N 0 th W tY hN (mc_R_oy hR) (Or.inl rfl) (fun dp pn un wy nx ma t b' hl hm hq => ?_))))))) (fun nz => br_f (by decide) (mc_fB_steps N W th tX hN (mc_R_oks hR) (fun wk T B t1 t2 hd hF => ?_)))
      · rcases hm (6 * a + b) (by omega) with ⟨_, h⟩ | ⟨e, _⟩
        · have hA := mc_mq_A hX ha hb h
          rw [hX.2.2.2.1] at hA
          exact absurd z (mc_E_t.mp hA.2.2)
        · dsimp only
          rw [e]
          exact ⟨hin, rfl, rfl, mc_rel hR⟩
      · have hA : mc_A N (mc_E th) a b := by
          rw [hX.2.2.2.1]
          exact ⟨ha, hb, mc_E_t.mpr nz⟩
        refine mc_bA_steps N W th tX hN hA (mc_R_oks hR) hd ⟨t1, t2⟩ hF (fun hBA => ⟨rfl, mc_yp hN ha (br_f (by decide) (mc_yp hN hb (br_f (by decide) (mc_sr N 0 th W tY hN (mc_R_oy hR) (Or.inl rfl) (fun dp pn un wy nx ma t b' hl hm hq => ?_)))))⟩) (fun nBA => ⟨rfl, mc_yp hN ha (br_f (by decide) (mc_yp hN hb (br_f (by decide) (mc_sr N 0 th W tY hN (mc_R_oy hR) (Or.inl rfl) (fun dp pn un wy nx ma t b' hl hm hq => ?_)))))⟩)
        · rcases hm (6 * a + b) (by omega) with ⟨e, _⟩ | ⟨_, h⟩
          · dsimp only
            rw [e]
            exact ⟨hin, rfl, rfl, mc_rel hR⟩
          · exact absurd ((mc_arcs hX hF hl hA).mp hBA) h
        · rcases hm (6 * a + b) (by omega) with ⟨_, h⟩ | ⟨e, _⟩
          · exact absurd ((mc_arcs hX hF hl hA).mpr h) nBA
          · dsimp only
            rw [e]
            exact ⟨hin, rfl, rfl, mc_rel hR⟩
    · exact mc_x0 h2 (br_t rfl (br_t rfl (mc_yp hN ha (br_f (by decide) (mc_y0 h2 (br_t rfl ⟨rfl, mc_rel hR⟩))))))
  · exact mc_x0 h1 (br_t rfl (br_t rfl (mc_y0 h1 (br_t rfl ⟨rfl, mc_rel hR⟩))))
theorem i_vc_ratioArc {k : Nat} {u : SX} {v : SY} (I : i_Rel k u v) (hk : k + 5 ≤ 2561) (v1 : Int32) (v2 : Int32) : wpX_ratioArc (fun r u' => wpY_ratioArc (fun r' v' => r' = r ∧ i_Rel (k + 5) u' v') v v1 v2) u v1 v2 := by
  obtain ⟨N, tp, bm, W, th, tX, tY, wk, dp, bz, fo, to, bo, pn, mk, bd, un, wy, nx, ma, rfl, rfl, hR⟩ := I
  have hN := hR.2.1
  have hX := mc_R_Xt hR
  unfold wpX_ratioArc wpX_isArc wpY_ratioArc
  dsimp only
  rcases mc_pt hN v1 with ⟨a, ha, rfl⟩ | h1
  · refine mc_xp hN ha (br_f (by decide) ?_)
    rcases mc_pt hN v2 with ⟨b, hb, rfl⟩ | h2
    · have hc : (nI (6 * a + b)).toNatClampNeg = 6 * a + b := nI_clamp (by omega)
      have hin : vp_in (nI (6 * a + b)) 36 := vp_in_nI (by omega) (by omega)
      have ei : 6 * nI a + nI b = nI (6 * a + b) := by
        rw [show 6 * nI a = nI (6 * a) from mc_mulN 6 _, nI_add]
      refine mc_xp hN hb (br_f (by decide) (mc_pO ⟨hin, ?_⟩))
      rw [ei, hc]
      refine br_c (fun z => br_t rfl (mc_yp hN ha (br_f (by decide) (mc_yp hN hb (br_f (by decide) (mc_sr N 1 th W tY hN (mc_R_oy hR) (Or.inr rfl) (fun dp pn un wy nx ma t b' hl hm hq => ?_))))))) (fun nz => br_f (by decide) (mc_fB_times N W th tX hN (mc_R_okt hR) (fun wk T B t1 t2 hd hF => ?_)))
      · rcases hm (6 * a + b) (by omega) with ⟨_, h⟩ | ⟨e, _⟩
        · have hA := mc_mq_A hX ha hb h
          rw [hX.2.2.2.1] at hA
          exact absurd z (mc_E_t.mp hA.2.2)
        · dsimp only
          rw [e]
          exact ⟨hin, rfl, rfl, mc_rel hR⟩
      · have hA : mc_A N (mc_E tX) a b := by
          rw [hX.2.2.2.1]
          exact ⟨ha, hb, mc_E_t.mpr nz⟩
        refine mc_bA_times N W th tX hN hA (mc_R_okt hR) hd ⟨t1, t2⟩ hF (fun hBA => ⟨rfl, mc_yp hN ha (br_f (by decide) (mc_yp hN hb (br_f (by decide) (mc_sr N 1 th W tY hN (mc_R_oy hR) (Or.inr rfl) (fun dp pn un wy nx ma t b' hl hm hq => ?_)))))⟩) (fun nBA => ⟨rfl, mc_yp hN ha (br_f (by decide) (mc_yp hN hb (br_f (by decide) (mc_sr N 1 th W tY hN (mc_R_oy hR) (Or.inr rfl) (fun dp pn un wy nx ma t b' hl hm hq => ?_)))))⟩)
        · rcases hm (6 * a + b) (by omega) with ⟨e, _⟩ | ⟨_, h⟩
          · dsimp only
            rw [e]
            exact ⟨hin, rfl, rfl, mc_rel hR⟩
          · exact absurd ((mc_arcs hX hF hl hA).mp hBA) h
        · rcases hm (6 * a + b) (by omega) with ⟨_, h⟩ | ⟨e, _⟩
          · exact absurd ((mc_arcs hX hF hl hA).mpr h) nBA
          · dsimp only
            rw [e]
            exact ⟨hin, rfl, rfl, mc_rel hR⟩
    · exact mc_x0 h2 (br_t rfl (br_t rfl (mc_yp hN ha (br_f (by decide) (mc_y0 h2 (br_t rfl ⟨rfl, mc_rel hR⟩))))))
  · exact mc_x0 h1 (br_t rfl (br_t rfl (mc_y0 h1 (br_t rfl ⟨rfl, mc_rel hR⟩))))
theorem i_vc_meanPoints {k : Nat} {u : SX} {v : SY} (I : i_Rel k u v) (hk : k + 5 ≤ 2561) : wpX_meanPoints (fun r u' => wpY_meanPoints (fun r' v' => r' = r ∧ i_Rel (k + 5) u' v') v) u := by
  obtain ⟨N, tp, bm, W, th, tX, tY, wk, dp, bz, fo, to, bo, pn, mk, bd, un, wy, nx, ma, rfl, rfl, hR⟩ := I
  have hN := hR.2.1
  have hX := mc_R_Xs hR
  unfold wpX_meanPoints wpY_meanPoints
  dsimp only
  refine mc_fB_steps N W th tX hN (mc_R_oks hR) (fun wk T B t1 t2 hd hF => ⟨N + 1, mc_mp hN (mc_R_oks hR) hd ⟨t1, t2⟩ hF (fun x hx => ?_) N 0 0 (by omega) mc_bit0⟩)
  refine mc_sr N 0 th W tY hN (mc_R_oy hR) (Or.inl rfl) (fun dp pn un wy nx ma t b hl hm hq => ⟨?_, mc_rel hR⟩)
  exact mc_bits hq (fun i hi => (hx i hi).trans (mc_pts hX hF hl i))
theorem i_vc_steady {k : Nat} {u : SX} {v : SY} (I : i_Rel k u v) (hk : k + 5 ≤ 2561) (v1 : Int32) : wpX_steady (fun r u' => wpY_steady (fun r' v' => r' = r ∧ i_Rel (k + 5) u' v') v v1) u v1 := by
  obtain ⟨N, tp, bm, W, th, tX, tY, wk, dp, bz, fo, to, bo, pn, mk, bd, un, wy, nx, ma, rfl, rfl, hR⟩ := I
  have hN := hR.2.1
  have hX := mc_R_Xt hR
  obtain ⟨p, rfl, hp⟩ : ∃ p : Int, v1 = mc_I p ∧ v1.toInt = p := ⟨v1.toInt, (mc_I_of v1).symm, rfl⟩
  unfold wpX_steady wpY_steady
  dsimp only
  refine br_c (fun c1 => br_t c1 ⟨rfl, mc_rel hR⟩) (fun c1 => br_c (fun c2 => ?_) (fun c2 => br_f c1 (br_f c2 ⟨rfl, mc_rel hR⟩)))
  have hp1 : -100 ≤ p ∧ p ≤ 100 := by
    have d1 := c1
    have d2 := c2
    rw [Int32.lt_iff_toInt_lt, hp, show (-100 : Int32).toInt = -100 from by decide] at d1
    rw [Int32.le_iff_toInt_le, hp, show (100 : Int32).toInt = 100 from by decide] at d2
    omega
  have hsz : ∀ c, mc_sz tY 1 c = mc_zt tY c := fun c => if_neg (by decide)
  refine mc_fB_times N W th tX hN (mc_R_okt hR) (fun wk T B t1 t2 hd hF => ?_)
  have hB := mc_F_b hF
  have hs := mc_stdy (p := p) hX hF
  have key : ∀ r : Int32, (r = 1 ∧ (B = 0 ∨ ¬ T < p * B)) ∨ (r = 0 ∧ ¬ (B = 0 ∨ ¬ T < p * B)) → wpY_steady (fun r' v' => r' = r ∧ i_Rel (k + 5) (nI N, mc_I T, nI B, W, th, tX, wk) v') (nI N, dp, bz, fo, to, bo, pn, mk, bd, un, th, W, tY, wy, nx, ma) (mc_I p) := by
    intro r hr
    refine br_f c1 (br_t c2 (mc_gT N bz 0 (mc_I p) th W tY (mc_Q1 N bz th W tY p 0 pn ma) _ hN (mc_LK1 N bz th W tY hN (mc_R_oy hR) (by omega)) ⟨rfl, rfl, rfl, (fun c hc => nomatch hc), ⟨0, 1, mc_I_0.symm, mc_I_1.symm, Or.inl ⟨rfl, rfl, rfl⟩⟩, Or.inl ⟨rfl, (fun c hc => nomatch hc)⟩⟩ (fun dp fo tp bo pn' un' ma' wy nx hq => ?_)))
    have hu := hq.2.2.2.2.2
    rcases hu with ⟨e, h⟩ | ⟨e, c, hc, h⟩
    · have hst := hs.mpr (fun c hc => by rw [hsz]; exact h c hc)
      rcases hr with ⟨er, _⟩ | ⟨_, hn⟩
      · subst er
        exact br_t e ⟨rfl, mc_rel hR⟩
      · exact absurd hst hn
    · rcases hr with ⟨_, hy⟩ | ⟨er, _⟩
      · have := hs.mp hy c hc
        rw [hsz] at this
        omega
      · subst er
        exact br_f (by rw [e]; decide) ⟨rfl, mc_rel hR⟩
  have hpb := mc_bm (a := p) (b := B) (by omega) (by omega) (by omega) (by omega)
  have ct : mc_I T < mc_I p * nI B ↔ T < p * B := by
    rw [← mc_I_nat, mc_I_mul, mc_I_lt (by omega) (by omega) hpb.1 hpb.2]
  refine br_c (fun b0 => key 1 (Or.inl ⟨rfl, Or.inl ?_⟩)) (fun nb => br_c (fun lt => key 0 (Or.inr ⟨rfl, ?_⟩)) (fun ge => key 1 (Or.inl ⟨rfl, Or.inr (fun h => ge (ct.mpr h))⟩)))
  · rw [← nI_0, nI_eq (by omega) (by omega)] at b0
    exact b0
  · rintro (h | h)
    · rw [h] at nb
      exact nb nI_0
    · exact h (ct.mp lt)
theorem i_vc_onCircle {k : Nat} {u : SX} {v : SY} (I : i_Rel k u v) (hk : k + 5 ≤ 2561) : wpX_onCircle (fun r u' => wpY_onCircle (fun r' => r' = r ∧ i_Rel (k + 5) u' v) v) u := by
  obtain ⟨N, tp, bm, W, th, tX, tY, wk, dp, bz, fo, to, bo, pn, mk, bd, un, wy, nx, ma, rfl, rfl, hR⟩ := I
  have hN := hR.2.1
  unfold wpX_onCircle
  dsimp only
  refine mc_fW_steps N tp bm W th tX hN (mc_R_oks hR) (fun wk hd => ⟨N + 1, mc_oc hN (mc_R_oks hR) hd (fun x hx => ⟨N + 1, mc_yoc N W th tY hN hR.2.2.1 hR.2.2.2.2.2.2 (fun x' hx' => ⟨mc_bits hx' hx, mc_rel hR⟩) N 0 0 (by omega) mc_bit0⟩) N 0 0 (by omega) mc_bit0⟩)
