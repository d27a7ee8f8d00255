section MC12
/-! the relation -/
def mc_R (N : Nat) (W th tX tY : Nat → Int32) : Prop := 1 ≤ N ∧ N ≤ 6 ∧ (∀ q, th q = 0 ∨ th q = 1) ∧ (∀ q, -20 ≤ (W q).toInt ∧ (W q).toInt ≤ 20) ∧ (∀ q, th q = 0 → tX q = 0) ∧ (∀ q, ¬ th q = 0 → tX q = tY q ∧ 1 ≤ (tY q).toInt ∧ (tY q).toInt ≤ 5) ∧ mc_tn N th
theorem mc_R_oks {N : Nat} {W th tX tY : Nat → Int32} (h : mc_R N W th tX tY) : mc_ok W th := by
  refine ⟨h.2.2.2.1, fun q hq => ?_⟩
  rw [(h.2.2.1 q).resolve_left hq]
  decide
theorem mc_R_okt {N : Nat} {W th tX tY : Nat → Int32} (h : mc_R N W th tX tY) : mc_ok W tX := by
  refine ⟨h.2.2.2.1, fun q hq => ?_⟩
  have hz : ¬ th q = 0 := fun e => hq (h.2.2.2.2.1 q e)
  have := h.2.2.2.2.2.1 q hz
  rw [this.1]
  exact this.2
theorem mc_R_oy {N : Nat} {W th tX tY : Nat → Int32} (h : mc_R N W th tX tY) : mc_oy W th tY := ⟨h.2.2.2.1, fun q hq => (h.2.2.2.2.2.1 q hq).2⟩
theorem mc_R_E {N : Nat} {W th tX tY : Nat → Int32} (h : mc_R N W th tX tY) : mc_E tX = mc_E th := by
  funext u v
  have : (tX (6 * u + v) = 0) ↔ (th (6 * u + v) = 0) := by
    constructor
    · intro e
      rcases h.2.2.1 (6 * u + v) with z | z
      · exact z
      · have hz : ¬ th (6 * u + v) = 0 := by rw [z]; decide
        have hh := h.2.2.2.2.2.1 _ hz
        rw [← hh.1, e] at hh
        exact absurd hh.2.1 (by decide)
    · exact h.2.2.2.2.1 _
  unfold mc_E
  simp only [this]
theorem mc_R_Xs {N : Nat} {W th tX tY : Nat → Int32} (h : mc_R N W th tX tY) : mc_X N W th th tY 0 := by
  refine ⟨h.2.1, mc_R_oks h, mc_R_oy h, rfl, fun c hc => ?_⟩
  have e1 : ∀ e ∈ mc_cy c, mc_fw th e.1 e.2 = 1 := by
    intro e he
    have := mc_E_t.mp (hc.2.2 e he).2.2
    unfold mc_fw
    rw [(h.2.2.1 _).resolve_left this]
    decide
  have hl : (mc_cy c).length = c.length := mc_ar_len _ _
  have a1 := mc_sm_lo (w := mc_fw th) (m := 1) (L := mc_cy c) (fun e he => by rw [e1 e he]; exact Int.le_refl _)
  have a2 := mc_sm_hi (w := mc_fw th) (m := 1) (L := mc_cy c) (fun e he => by rw [e1 e he]; exact Int.le_refl _)
  rw [hl] at a1 a2
  unfold mc_sz
  rw [if_pos rfl]
  omega
theorem mc_R_Xt {N : Nat} {W th tX tY : Nat → Int32} (h : mc_R N W th tX tY) : mc_X N W th tX tY 1 := by
  refine ⟨h.2.1, mc_R_okt h, mc_R_oy h, mc_R_E h, fun c hc => ?_⟩
  unfold mc_sz
  rw [if_neg (by decide)]
  refine mc_sm_congr (fun e he => ?_)
  have hz := mc_E_t.mp (hc.2.2 e he).2.2
  unfold mc_fw
  rw [(h.2.2.2.2.2.1 _ hz).1]
theorem mc_R_0 {N : Nat} (h1 : 1 ≤ N) (h6 : N ≤ 6) : mc_R N (fun _ => 0) (fun _ => 0) (fun _ => 0) (fun _ => 0) :=
  ⟨h1, h6, fun _ => Or.inl rfl, fun _ => (by decide : -20 ≤ (0 : Int32).toInt ∧ (0 : Int32).toInt ≤ 20), fun _ _ => rfl, fun _ h => absurd rfl h, fun _ h => absurd rfl h⟩
theorem mc_R_arc {N : Nat} {W th tX tY : Nat → Int32} (h : mc_R N W th tX tY) {u v : Nat} (hu : u < N) (hv : v < N) {w t : Int32} (hw : -20 ≤ w.toInt ∧ w.toInt ≤ 20) (ht : 1 ≤ t.toInt ∧ t.toInt ≤ 5) : mc_R N (upd W (6 * u + v) w) (upd th (6 * u + v) 1) (upd tX (6 * u + v) t) (upd tY (6 * u + v) t) := by
  obtain ⟨h1, h2, h3, h4, h5, h6, h7⟩ := h
  refine ⟨h1, h2, fun q => ?_, fun q => ?_, fun q => ?_, fun q => ?_, fun q => ?_⟩
  · by_cases e : q = 6 * u + v
    · rw [e, mc_us]; exact Or.inr rfl
    · rw [mc_un e]; exact h3 q
  · by_cases e : q = 6 * u + v
    · rw [e, mc_us]; exact hw
    · rw [mc_un e]; exact h4 q
  · by_cases e : q = 6 * u + v
    · rw [e, mc_us]; intro hh; exact absurd hh (by decide)
    · rw [mc_un e, mc_un e]; exact h5 q
  · by_cases e : q = 6 * u + v
    · rw [e, mc_us, mc_us, mc_us]; exact fun _ => ⟨rfl, ht⟩
    · rw [mc_un e, mc_un e, mc_un e]; exact h6 q
  · by_cases e : q = 6 * u + v
    · intro _; omega
    · rw [mc_un e]; exact h7 q
theorem mc_R_cut {N : Nat} {W th tX tY : Nat → Int32} (h : mc_R N W th tX tY) (p : Nat) : mc_R N W (upd th p 0) (upd tX p 0) tY := by
  obtain ⟨h1, h2, h3, h4, h5, h6, h7⟩ := h
  refine ⟨h1, h2, fun q => ?_, h4, fun q => ?_, fun q => ?_, fun q => ?_⟩
  · by_cases e : q = p
    · rw [e, mc_us]; exact Or.inl rfl
    · rw [mc_un e]; exact h3 q
  · by_cases e : q = p
    · rw [e, mc_us, mc_us]; exact fun _ => rfl
    · rw [mc_un e, mc_un e]; exact h5 q
  · by_cases e : q = p
    · rw [e, mc_us]; exact fun h => absurd rfl h
    · rw [mc_un e, mc_un e]; exact h6 q
  · by_cases e : q = p
    · rw [e, mc_us]; exact fun h => absurd rfl h
    · rw [mc_un e]; exact h7 q
/-! points -/
theorem mc_pt {N : Nat} (hN : N ≤ 6) (x : Int32) : (∃ j, j < N ∧ x = nI j) ∨ (x < 0 ∨ nI N ≤ x) := by
  by_cases h : x < 0
  · exact Or.inr (Or.inl h)
  · obtain ⟨j, hj, rfl⟩ := nI_of h
    by_cases hh : j < N
    · exact Or.inl ⟨j, hh, rfl⟩
    · exact Or.inr (Or.inr (nI_le (by omega) hj))
theorem mc_x0 {post : Int32 → Prop} {n tp bm : Int32} {W st tm wk : Nat → Int32} {x : Int32} (hx : x < 0 ∨ n ≤ x) (h : post 0) : wpX_isPoint post (n, tp, bm, W, st, tm, wk) x :=
  br_c (fun _ => h) (fun hn => br_t (hx.resolve_left hn) h)
theorem mc_xp {post : Int32 → Prop} {N : Nat} {tp bm : Int32} {W st tm wk : Nat → Int32} {j : Nat} (hN : N ≤ 6) (hj : j < N) (h : post 1) : wpX_isPoint post (nI N, tp, bm, W, st, tm, wk) (nI j) :=
  br_f (nI_pos (by omega)) (br_f (nI_ge hj (by omega)) h)
theorem mc_y0 {post : Int32 → Prop} {n dp bz fo tp bo pn mk bd un : Int32} {th W tm wy nx ma : Nat → Int32} {x : Int32} (hx : x < 0 ∨ n ≤ x) (h : post 0) : wpY_isPoint post (n, dp, bz, fo, tp, bo, pn, mk, bd, un, th, W, tm, wy, nx, ma) x :=
  br_c (fun _ => h) (fun hn => br_t (hx.resolve_left hn) h)
theorem mc_yp {post : Int32 → Prop} {N : Nat} {dp bz fo tp bo pn mk bd un : Int32} {th W tm wy nx ma : Nat → Int32} {j : Nat} (hN : N ≤ 6) (hj : j < N) (h : post 1) : wpY_isPoint post (nI N, dp, bz, fo, tp, bo, pn, mk, bd, un, th, W, tm, wy, nx, ma) (nI j) :=
  br_f (nI_pos (by omega)) (br_f (nI_ge hj (by omega)) h)
end MC12
def i_Rel (_k : Nat) (u : SX) (v : SY) : Prop := ∃ (N : Nat) (tp bm : Int32) (W th tX tY wk : Nat → Int32) (dp bz fo to bo pn mk bd un : Int32) (wy nx ma : Nat → Int32), u = (nI N, tp, bm, W, th, tX, wk) ∧ v = (nI N, dp, bz, fo, to, bo, pn, mk, bd, un, th, W, tY, wy, nx, ma) ∧ mc_R N W th tX tY
theorem mc_rel {k N : Nat} {tp bm : Int32} {W th tX tY wk : Nat → Int32} {dp bz fo to bo pn mk bd un : Int32} {wy nx ma : Nat → Int32} (h : mc_R N W th tX tY) : i_Rel k (nI N, tp, bm, W, th, tX, wk) (nI N, dp, bz, fo, to, bo, pn, mk, bd, un, th, W, tY, wy, nx, ma) :=
  ⟨N, tp, bm, W, th, tX, tY, wk, dp, bz, fo, to, bo, pn, mk, bd, un, wy, nx, ma, rfl, rfl, h⟩
theorem i_up {k : Nat} {u : SX} {v : SY} (h : i_Rel k u v) : i_Rel (k + 5) u v := h
theorem i_vc0 (k0 : Int32) : wpX_init (fun u => wpY_init (fun v => i_Rel 1 u v) k0) k0 := by
  refine br_c (fun h1 => br_c (fun h6 => br_t h1 (br_t h6 ?_)) (fun n6 => br_t h1 (br_f n6 ?_))) (fun n1 => br_f n1 ?_)
  · obtain ⟨j, hj, rfl⟩ := nI_of2 (x := k0) (M := 6) (n := 6) (by decide) (Int32.not_lt.mpr (Int32.le_trans (by decide) h1)) h6
    have h1' : 1 ≤ j := (nI_leI (a := 1) (b := j) (by omega) (by omega)).mp h1
    exact mc_rel (mc_R_0 h1' hj)
  · exact mc_rel (N := 6) (mc_R_0 (by omega) (by omega))
  · exact mc_rel (N := 1) (mc_R_0 (by omega) (by omega))
theorem i_vc_arc {k : Nat} {u : SX} {v : SY} (I : i_Rel k u v) (hk : k + 5 ≤ 2561) (v1 : Int32) (v2 : Int32) (v3 : Int32) (v4 : Int32) : wpX_arc (fun r u' => wpY_arc (fun r' v' => r' = r ∧ i_Rel (k + 5) u' v') v v1 v2 v3 v4) u v1 v2 v3 v4 := by
  obtain ⟨N, tp, bm, W, th, tX, tY, wk, dp, bz, fo, to, bo, pn, mk, bd, un, wy, nx, ma, rfl, rfl, hR⟩ := I
  have hN := hR.2.1
  unfold wpX_arc wpY_arc
  dsimp only
  rcases mc_pt hN v1 with ⟨a, ha, rfl⟩ | h1
  · refine mc_xp hN ha (br_f (by decide) ?_)
    rcases mc_pt hN v2 with ⟨b, hb, rfl⟩ | h2
    · refine mc_xp hN hb (br_f (by decide) ?_)
      refine br_c (fun c1 => mc_yp hN ha (br_f (by decide) (mc_yp hN hb (br_f (by decide) (br_t c1 ⟨rfl, mc_rel hR⟩))))) (fun c1 => ?_)
      refine br_c (fun c2 => mc_yp hN ha (br_f (by decide) (mc_yp hN hb (br_f (by decide) (br_f c1 (br_t c2 ⟨rfl, mc_rel hR⟩)))))) (fun c2 => ?_)
      refine br_c (fun c3 => mc_yp hN ha (br_f (by decide) (mc_yp hN hb (br_f (by decide) (br_f c1 (br_f c2 (br_t c3 ⟨rfl, mc_rel hR⟩))))))) (fun c3 => ?_)
      refine br_c (fun c4 => ?_) (fun c4 => mc_yp hN ha (br_f (by decide) (mc_yp hN hb (br_f (by decide) (br_f c1 (br_f c2 (br_f c3 (br_f c4 ⟨rfl, mc_rel hR⟩))))))))
      have hc : (nI (6 * a + b)).toNatClampNeg = 6 * a + b := nI_clamp (by omega)
      have hin : vp_in (nI (6 * a + b)) 36 := vp_in_nI (by omega) (by omega)
      have ei : 6 * nI a + nI b = nI (6 * a + b) := by
        rw [show 6 * nI a = nI (6 * a) from mc_mulN 6 _, nI_add]
      refine mc_pO ⟨hin, nm_e ⟨hin, nm_e ⟨hin, nm_e ?_⟩⟩⟩
      refine mc_yp hN ha (br_f (by decide) (mc_yp hN hb (br_f (by decide) (br_f c1 (br_f c2 (br_f c3 (br_t c4 ?_)))))))
      rw [ei, hc, mc_b1]
      refine ⟨hin, nm_e ⟨hin, nm_e ⟨hin, nm_e ⟨rfl, mc_rel (mc_R_arc hR ha hb ?_ ?_)⟩⟩⟩⟩
      · rw [Int32.lt_iff_toInt_lt, show (-20 : Int32).toInt = -20 from by decide] at c1
        rw [Int32.lt_iff_toInt_lt, show (20 : Int32).toInt = 20 from by decide] at c2
        omega
      · rw [Int32.lt_iff_toInt_lt, show (1 : Int32).toInt = 1 from by decide] at c3
        rw [Int32.le_iff_toInt_le, show (5 : Int32).toInt = 5 from by decide] at c4
        omega
    · exact mc_x0 h2 (br_t rfl (mc_yp hN ha (br_f (by decide) (mc_y0 h2 (br_t rfl ⟨rfl, mc_rel hR⟩)))))
  · exact mc_x0 h1 (br_t rfl (mc_y0 h1 (br_t rfl ⟨rfl, mc_rel hR⟩)))
theorem i_vc_cut {k : Nat} {u : SX} {v : SY} (I : i_Rel k u v) (hk : k + 5 ≤ 2561) (v1 : Int32) (v2 : Int32) : wpX_cut (fun r u' => wpY_cut (fun r' v' => r' = r ∧ i_Rel (k + 5) u' v') v v1 v2) u v1 v2 := by
  obtain ⟨N, tp, bm, W, th, tX, tY, wk, dp, bz, fo, to, bo, pn, mk, bd, un, wy, nx, ma, rfl, rfl, hR⟩ := I
  have hN := hR.2.1
  unfold wpX_cut wpX_isArc wpY_cut
  dsimp only
  rcases mc_pt hN v1 with ⟨a, ha, rfl⟩ | h1
  · refine mc_xp hN ha (br_f (by decide) ?_)
    rcases mc_pt hN v2 with ⟨b, hb, rfl⟩ | h2
    · have hc : (nI (6 * a + b)).toNatClampNeg = 6 * a + b := nI_clamp (by omega)
      have hin : vp_in (nI (6 * a + b)) 36 := vp_in_nI (by omega) (by omega)
      have ei : 6 * nI a + nI b = nI (6 * a + b) := by
        rw [show 6 * nI a = nI (6 * a) from mc_mulN 6 _, nI_add]
      refine mc_xp hN hb (br_f (by decide) (mc_pO ⟨hin, ?_⟩))
      rw [ei, hc]
      refine br_c (fun z => br_t rfl (mc_yp hN ha (br_f (by decide) (mc_yp hN hb (br_f (by decide) ⟨hin, br_t z ⟨rfl, mc_rel hR⟩⟩))))) (fun nz => br_f (by decide) (mc_pO ⟨hin, nm_e ⟨hin, nm_e ?_⟩⟩))
      rw [hc, mc_b0]
      exact mc_yp hN ha (br_f (by decide) (mc_yp hN hb (br_f (by decide) ⟨hin, br_f nz ⟨hin, nm_e ⟨rfl, mc_rel (mc_R_cut hR _)⟩⟩⟩)))
    · exact mc_x0 h2 (br_t rfl (br_t rfl (mc_yp hN ha (br_f (by decide) (mc_y0 h2 (br_t rfl ⟨rfl, mc_rel hR⟩))))))
  · exact mc_x0 h1 (br_t rfl (br_t rfl (mc_y0 h1 (br_t rfl ⟨rfl, mc_rel hR⟩))))
