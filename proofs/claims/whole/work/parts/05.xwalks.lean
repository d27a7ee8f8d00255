section MC05steps
variable (N : Nat) (tp bm : Int32) (W st tm : Nat → Int32)
theorem mc_li_steps {post : Int32 → Prop} {k u v : Nat} {wk : Nat → Int32} (hN : N ≤ 6) (hk : 1 ≤ k) (hk2 : k ≤ 30) (hu : u < N) (hv : v < N) (ho : mc_ok W st) (hd : mc_D N W st k 0 0 wk) (hp : ∀ x, mc_M (mc_Sx N W st u v k) x → post x) :
    ∀ m i x, i + m = N → mc_M (mc_U (mc_C N W st k u v) i) x → wX_lightest__steps_7 post (nI k) (nI u) (nI v) (nI N) tp bm W st tm wk (m + 1) x (nI i) := by
  intro m
  induction m with
  | zero =>
    intro i x hi hm
    have e : i = N := by omega
    subst e
    exact br_t (nI_le (Nat.le_refl _) (by omega)) (hp x (mc_M_congr (mc_C_all hk) hm))
  | succ m ih =>
    intro i x hi hm
    have hc : (nI (6 * i + v)).toNatClampNeg = 6 * i + v := nI_clamp (by omega)
    have hin : vp_in (nI (6 * i + v)) 36 := vp_in_nI (by omega) (by omega)
    have hs : st (6 * i + v) = mc_I (mc_fw st i v) := (mc_I_of _).symm
    have hw : W (6 * i + v) = mc_I (mc_fw W i v) := (mc_I_of _).symm
    have skip : (∀ z, ¬ mc_C N W st k u v i z) → ∀ y, y = nI i + 1 → wX_lightest__steps_7 post (nI k) (nI u) (nI v) (nI N) tp bm W st tm wk (m + 1) x y :=
      fun h => nm_r (nI_1 i) (ih (i + 1) x (by omega) (mc_M_skip hm h))
    have er : nI k - st (nI (6 * i + v)).toNatClampNeg = mc_I (k - mc_fw st i v) := by
      rw [hc, hs, ← mc_I_nat, mc_I_sub]
    refine br_f (nI_ge (by omega) (by omega)) (mc_pO ⟨hin, nm_r er ⟨hin, br_c (fun z => skip ?_) (fun nz => br_c (fun ng => skip ?_) (fun nn => ?_))⟩⟩)
    · rintro z0 ⟨hA, _⟩
      rw [hc] at z
      exact mc_E_t.mp hA.2.2 z
    · rintro z0 ⟨hA, hS⟩
      have b := mc_Sx_b ho hS
      have b2 := ho.2 _ (mc_E_t.mp hA.2.2)
      have b3 : 1 ≤ mc_fw st i v ∧ mc_fw st i v ≤ 5 := b2
      rw [← mc_I_0, mc_I_lt (by omega) (by omega) (by omega) (by omega)] at ng
      omega
    · rw [hc] at nz
      have b2 := ho.2 _ nz
      have b3 : 1 ≤ mc_fw st i v ∧ mc_fw st i v ≤ 5 := b2
      rw [← mc_I_0, mc_I_lt (by omega) (by omega) (by omega) (by omega)] at nn
      obtain ⟨r, hr⟩ : ∃ r : Nat, (r : Int) = k - mc_fw st i v := ⟨((k : Int) - mc_fw st i v).toNat, by omega⟩
      have hA : mc_A N (mc_E st) i v := ⟨by omega, hv, mc_E_t.mpr nz⟩
      have hM := hd r u i hu (by omega) (Or.inl (by omega))
      have hcw : (nI (r * 36 + u * 6 + i)).toNatClampNeg = r * 36 + u * 6 + i := nI_clamp (by omega)
      have hinw : vp_in (nI (r * 36 + u * 6 + i)) 1116 := vp_in_nI (by omega) (by omega)
      rw [← hr, mc_I_nat]
      refine mc_wO ⟨hinw, br_c (fun e1 => skip ?_) (fun ne1 => ⟨hinw, hin, ?_⟩)⟩
      · rw [hcw] at e1
        rintro z0 ⟨_, hS⟩
        rw [← hr] at hS
        refine mc_M_no (fun z hz => ?_) hM e1 _ hS
        have b := mc_Sx_b ho hz
        omega
      · rw [hcw] at ne1
        obtain ⟨z0, hz0, ez0, hmin⟩ := mc_M_some hM ne1
        have es : wk (nI (r * 36 + u * 6 + i)).toNatClampNeg + W (nI (6 * i + v)).toNatClampNeg = mc_I (z0 + mc_fw W i v) := by
          rw [hcw, hc, ez0, hw, mc_I_add]
        have h0 : mc_C N W st k u v i (z0 + mc_fw W i v) := ⟨hA, by rw [Int.add_sub_cancel, ← hr]; exact hz0⟩
        have hmn : ∀ z, mc_C N W st k u v i z → z0 + mc_fw W i v ≤ z := by
          rintro z ⟨_, hz⟩
          rw [← hr] at hz
          have := hmin _ hz
          omega
        refine br_c (fun hle => ?_) (fun hgt => ⟨hinw, hin, nm_r es (nm_r (nI_1 i) ?_)⟩)
        · rw [es] at hle
          exact nm_r (nI_1 i) (ih (i + 1) x (by omega) (mc_M_keep (mc_C_b ho hk2) hm h0 hmn hle))
        · rw [es] at hgt
          exact ih (i + 1) _ (by omega) (mc_M_new (mc_C_b ho hk2) hm h0 hmn hgt)
theorem mc_lg_steps {post : Int32 → Prop} {k u v : Nat} {wk : Nat → Int32} (hN : N ≤ 6) (hk : 1 ≤ k) (hk2 : k ≤ 30) (hu : u < N) (hv : v < N) (ho : mc_ok W st) (hd : mc_D N W st k 0 0 wk) (hp : ∀ x, mc_M (mc_Sx N W st u v k) x → post x) : wpX_lightest__steps post (nI N, tp, bm, W, st, tm, wk) (nI k) (nI u) (nI v) := by
  refine ⟨N + 1, mc_li_steps N tp bm W st tm hN hk hk2 hu hv ho hd hp N 0 1000000 (by omega) (Or.inl ⟨mc_I_mil.symm, ?_⟩)⟩
  rintro z ⟨y, hy, _⟩
  omega
theorem mc_w79_steps {post : SX → Prop} {J60 J68 : Int32 → (Nat → Int32) → (Nat → Int32) → (Nat → Int32) → (Nat → Int32) → Prop} {k u : Nat} (hN : N ≤ 6) (hk : 1 ≤ k) (hk2 : k ≤ 30) (hu : u < N) (ho : mc_ok W st) (hJ : ∀ wk, mc_D N W st k (u + 1) 0 wk → J68 (nI (u + 1)) W st tm wk) :
    ∀ m v wk, v + m = N → mc_D N W st k u v wk → wX_findWalks__steps_79 post J60 J68 (nI k) (nI u) (nI N) tp bm (m + 1) (nI v) W st tm wk := by
  intro m
  induction m with
  | zero =>
    intro v wk hv hd
    have e : v = N := by omega
    subst e
    exact br_t (nI_le (Nat.le_refl _) (by omega)) (nm_r (nI_1 u) (hJ wk (mc_D_v hd)))
  | succ m ih =>
    intro v wk hv hd
    have hc : (nI (k * 36 + u * 6 + v)).toNatClampNeg = k * 36 + u * 6 + v := nI_clamp (by omega)
    have hin : vp_in (nI (k * 36 + u * 6 + v)) 1116 := vp_in_nI (by omega) (by omega)
    refine br_f (nI_ge (by omega) (by omega)) (mc_wO (mc_lg_steps N tp bm W st tm hN hk hk2 hu (by omega) ho (fun k' u' v' h1 h2 h3 => hd k' u' v' h1 h2 (by omega)) (fun x hx => ⟨hin, nm_r (by rw [hc]) (nm_r (nI_1 v) ?_)⟩)))
    exact ih (v + 1) _ (by omega) (mc_D_s hN hu (by omega) hd hx)
theorem mc_w68_steps {post : SX → Prop} {J60 : Int32 → (Nat → Int32) → (Nat → Int32) → (Nat → Int32) → (Nat → Int32) → Prop} {k : Nat} (hN : N ≤ 6) (hk : 1 ≤ k) (hk2 : k ≤ 30) (ho : mc_ok W st) (hJ : ∀ wk, mc_D N W st (k + 1) 0 0 wk → J60 (nI (k + 1)) W st tm wk) :
    ∀ m u wk, u + m = N → mc_D N W st k u 0 wk → wX_findWalks__steps_68 post J60 (nI k) (nI N) tp bm (m + 1) (nI u) W st tm wk := by
  intro m
  induction m with
  | zero =>
    intro u wk hu hd
    have e : u = N := by omega
    subst e
    exact br_t (nI_le (Nat.le_refl _) (by omega)) (nm_r (nI_1 k) (hJ wk (mc_D_u hd)))
  | succ m ih =>
    intro u wk hu hd
    exact br_f (nI_ge (by omega) (by omega)) ⟨N + 1, mc_w79_steps N tp bm W st tm hN hk hk2 (by omega) ho (fun wk' hd' => ih (u + 1) wk' (by omega) hd') N 0 wk (by omega) hd⟩
theorem mc_w60_steps {post : SX → Prop} (hN : N ≤ 6) (ho : mc_ok W st) (hp : ∀ wk, mc_D N W st 31 0 0 wk → post (nI N, tp, bm, W, st, tm, wk)) :
    ∀ m k wk, k + m = 31 → 1 ≤ k → mc_D N W st k 0 0 wk → wX_findWalks__steps_60 post (nI N) tp bm (m + 1) (nI k) W st tm wk := by
  intro m
  induction m with
  | zero =>
    intro k wk hk hk1 hd
    have e : k = 31 := by omega
    subst e
    exact br_t (nI_lt (a := 30) (by omega) (by omega)) (hp wk hd)
  | succ m ih =>
    intro k wk hk hk1 hd
    exact br_f (nI_nlt (b := 30) (a := k) |> fun h => fun hlt => absurd hlt (Int32.not_lt.mpr (nI_le (a := k) (b := 30) (by omega) (by omega)))) ⟨N + 1, mc_w68_steps N tp bm W st tm hN hk1 (by omega) ho (fun wk' hd' => ih (k + 1) wk' (by omega) (by omega) hd') N 0 wk (by omega) hd⟩
theorem mc_w12_steps {post : SX → Prop} {J2 : Int32 → (Nat → Int32) → (Nat → Int32) → (Nat → Int32) → (Nat → Int32) → Prop} {u : Nat} (hN : N ≤ 6) (hu : u < N) (ho : mc_ok W st) (hJ : ∀ wk, mc_D N W st 0 (u + 1) 0 wk → J2 (nI (u + 1)) W st tm wk) :
    ∀ m v wk, v + m = N → mc_D N W st 0 u v wk → wX_findWalks__steps_12 post J2 (nI u) (nI N) tp bm (m + 1) (nI v) W st tm wk := by
  intro m
  induction m with
  | zero =>
    intro v wk hv hd
    have e : v = N := by omega
    subst e
    exact br_t (nI_le (Nat.le_refl _) (by omega)) (nm_r (nI_1 u) (hJ wk (mc_D_v hd)))
  | succ m ih =>
    intro v wk hv hd
    have hc : (nI (0 * 36 + u * 6 + v)).toNatClampNeg = 0 * 36 + u * 6 + v := nI_clamp (by omega)
    have hin : vp_in (nI (0 * 36 + u * 6 + v)) 1116 := vp_in_nI (by omega) (by omega)
    have h0 : ∀ z, mc_Sx N W st u v ((0 : Nat) : Int) z ↔ u = v ∧ z = 0 := fun z => mc_S_0 (mc_ok_p ho)
    refine br_f (nI_ge (by omega) (by omega)) (mc_wO (k := 0) (br_c (fun e => ⟨hin, nm_r (by rw [hc]) (nm_r (nI_1 v) (ih (v + 1) _ (by omega) (mc_D_s hN hu (by omega) hd ?_)))⟩) (fun ne => ⟨hin, nm_r (by rw [hc]) (nm_r (nI_1 v) (ih (v + 1) _ (by omega) (mc_D_s hN hu (by omega) hd ?_)))⟩)))
    · rw [nI_eq (by omega) (by omega)] at e
      exact Or.inr ⟨0, (h0 0).mpr ⟨e, rfl⟩, mc_I_0.symm, fun z hz => by rw [((h0 z).mp hz).2]; exact Int.le_refl _⟩
    · rw [nI_eq (by omega) (by omega)] at ne
      exact Or.inl ⟨mc_I_mil.symm, fun z hz => ne ((h0 z).mp hz).1⟩
theorem mc_w2_steps {post : SX → Prop} (hN : N ≤ 6) (ho : mc_ok W st) (hp : ∀ wk, mc_D N W st 31 0 0 wk → post (nI N, tp, bm, W, st, tm, wk)) :
    ∀ m u wk, u + m = N → mc_D N W st 0 u 0 wk → wX_findWalks__steps_2 post (nI N) tp bm (m + 1) (nI u) W st tm wk := by
  intro m
  induction m with
  | zero =>
    intro u wk hu hd
    have e : u = N := by omega
    subst e
    exact br_t (nI_le (Nat.le_refl _) (by omega)) ⟨31, mc_w60_steps u tp bm W st tm hN ho hp 30 1 wk (by omega) (by omega) (mc_D_u hd)⟩
  | succ m ih =>
    intro u wk hu hd
    exact br_f (nI_ge (by omega) (by omega)) ⟨N + 1, mc_w12_steps N tp bm W st tm hN (by omega) ho (fun wk' hd' => ih (u + 1) wk' (by omega) hd') N 0 wk (by omega) hd⟩
theorem mc_fW_steps {post : SX → Prop} {wk : Nat → Int32} (hN : N ≤ 6) (ho : mc_ok W st) (hp : ∀ wk, mc_D N W st 31 0 0 wk → post (nI N, tp, bm, W, st, tm, wk)) : wpX_findWalks__steps post (nI N, tp, bm, W, st, tm, wk) :=
  ⟨N + 1, mc_w2_steps N tp bm W st tm hN ho hp N 0 wk (by omega) mc_D_0⟩
end MC05steps

section MC05times
variable (N : Nat) (tp bm : Int32) (W st tm : Nat → Int32)
theorem mc_li_times {post : Int32 → Prop} {k u v : Nat} {wk : Nat → Int32} (hN : N ≤ 6) (hk : 1 ≤ k) (hk2 : k ≤ 30) (hu : u < N) (hv : v < N) (ho : mc_ok W tm) (hd : mc_D N W tm k 0 0 wk) (hp : ∀ x, mc_M (mc_Sx N W tm u v k) x → post x) :
    ∀ m i x, i + m = N → mc_M (mc_U (mc_C N W tm k u v) i) x → wX_lightest__times_7 post (nI k) (nI u) (nI v) (nI N) tp bm W st tm wk (m + 1) x (nI i) := by
  intro m
  induction m with
  | zero =>
    intro i x hi hm
    have e : i = N := by omega
    subst e
    exact br_t (nI_le (Nat.le_refl _) (by omega)) (hp x (mc_M_congr (mc_C_all hk) hm))
  | succ m ih =>
    intro i x hi hm
    have hc : (nI (6 * i + v)).toNatClampNeg = 6 * i + v := nI_clamp (by omega)
    have hin : vp_in (nI (6 * i + v)) 36 := vp_in_nI (by omega) (by omega)
    have hs : tm (6 * i + v) = mc_I (mc_fw tm i v) := (mc_I_of _).symm
    have hw : W (6 * i + v) = mc_I (mc_fw W i v) := (mc_I_of _).symm
    have skip : (∀ z, ¬ mc_C N W tm k u v i z) → ∀ y, y = nI i + 1 → wX_lightest__times_7 post (nI k) (nI u) (nI v) (nI N) tp bm W st tm wk (m + 1) x y :=
      fun h => nm_r (nI_1 i) (ih (i + 1) x (by omega) (mc_M_skip hm h))
    have er : nI k - tm (nI (6 * i + v)).toNatClampNeg = mc_I (k - mc_fw tm i v) := by
      rw [hc, hs, ← mc_I_nat, mc_I_sub]
    refine br_f (nI_ge (by omega) (by omega)) (mc_pO ⟨hin, nm_r er ⟨hin, br_c (fun z => skip ?_) (fun nz => br_c (fun ng => skip ?_) (fun nn => ?_))⟩⟩)
    · rintro z0 ⟨hA, _⟩
      rw [hc] at z
      exact mc_E_t.mp hA.2.2 z
    · rintro z0 ⟨hA, hS⟩
      have b := mc_Sx_b ho hS
      have b2 := ho.2 _ (mc_E_t.mp hA.2.2)
      have b3 : 1 ≤ mc_fw tm i v ∧ mc_fw tm i v ≤ 5 := b2
      rw [← mc_I_0, mc_I_lt (by omega) (by omega) (by omega) (by omega)] at ng
      omega
    · rw [hc] at nz
      have b2 := ho.2 _ nz
      have b3 : 1 ≤ mc_fw tm i v ∧ mc_fw tm i v ≤ 5 := b2
      rw [← mc_I_0, mc_I_lt (by omega) (by omega) (by omega) (by omega)] at nn
      obtain ⟨r, hr⟩ : ∃ r : Nat, (r : Int) = k - mc_fw tm i v := ⟨((k : Int) - mc_fw tm i v).toNat, by omega⟩
      have hA : mc_A N (mc_E tm) i v := ⟨by omega, hv, mc_E_t.mpr nz⟩
      have hM := hd r u i hu (by omega) (Or.inl (by omega))
      have hcw : (nI (r * 36 + u * 6 + i)).toNatClampNeg = r * 36 + u * 6 + i := nI_clamp (by omega)
      have hinw : vp_in (nI (r * 36 + u * 6 + i)) 1116 := vp_in_nI (by omega) (by omega)
      rw [← hr, mc_I_nat]
      refine mc_wO ⟨hinw, br_c (fun e1 => skip ?_) (fun ne1 => ⟨hinw, hin, ?_⟩)⟩
      · rw [hcw] at e1
        rintro z0 ⟨_, hS⟩
        rw [← hr] at hS
        refine mc_M_no (fun z hz => ?_) hM e1 _ hS
        have b := mc_Sx_b ho hz
        omega
      · rw [hcw] at ne1
        obtain ⟨z0, hz0, ez0, hmin⟩ := mc_M_some hM ne1
        have es : wk (nI (r * 36 + u * 6 + i)).toNatClampNeg + W (nI (6 * i + v)).toNatClampNeg = mc_I (z0 + mc_fw W i v) := by
          rw [hcw, hc, ez0, hw, mc_I_add]
        have h0 : mc_C N W tm k u v i (z0 + mc_fw W i v) := ⟨hA, by rw [Int.add_sub_cancel, ← hr]; exact hz0⟩
        have hmn : ∀ z, mc_C N W tm k u v i z → z0 + mc_fw W i v ≤ z := by
          rintro z ⟨_, hz⟩
          rw [← hr] at hz
          have := hmin _ hz
          omega
        refine br_c (fun hle => ?_) (fun hgt => ⟨hinw, hin, nm_r es (nm_r (nI_1 i) ?_)⟩)
        · rw [es] at hle
          exact nm_r (nI_1 i) (ih (i + 1) x (by omega) (mc_M_keep (mc_C_b ho hk2) hm h0 hmn hle))
        · rw [es] at hgt
          exact ih (i + 1) _ (by omega) (mc_M_new (mc_C_b ho hk2) hm h0 hmn hgt)
theorem mc_lg_times {post : Int32 → Prop} {k u v : Nat} {wk : Nat → Int32} (hN : N ≤ 6) (hk : 1 ≤ k) (hk2 : k ≤ 30) (hu : u < N) (hv : v < N) (ho : mc_ok W tm) (hd : mc_D N W tm k 0 0 wk) (hp : ∀ x, mc_M (mc_Sx N W tm u v k) x → post x) : wpX_lightest__times post (nI N, tp, bm, W, st, tm, wk) (nI k) (nI u) (nI v) := by
  refine ⟨N + 1, mc_li_times N tp bm W st tm hN hk hk2 hu hv ho hd hp N 0 1000000 (by omega) (Or.inl ⟨mc_I_mil.symm, ?_⟩)⟩
  rintro z ⟨y, hy, _⟩
  omega
theorem mc_w79_times {post : SX → Prop} {J60 J68 : Int32 → (Nat → Int32) → (Nat → Int32) → (Nat → Int32) → (Nat → Int32) → Prop} {k u : Nat} (hN : N ≤ 6) (hk : 1 ≤ k) (hk2 : k ≤ 30) (hu : u < N) (ho : mc_ok W tm) (hJ : ∀ wk, mc_D N W tm k (u + 1) 0 wk → J68 (nI (u + 1)) W st tm wk) :
    ∀ m v wk, v + m = N → mc_D N W tm k u v wk → wX_findWalks__times_79 post J60 J68 (nI k) (nI u) (nI N) tp bm (m + 1) (nI v) W st tm wk := by
  intro m
  induction m with
  | zero =>
    intro v wk hv hd
    have e : v = N := by omega
    subst e
    exact br_t (nI_le (Nat.le_refl _) (by omega)) (nm_r (nI_1 u) (hJ wk (mc_D_v hd)))
  | succ m ih =>
    intro v wk hv hd
    have hc : (nI (k * 36 + u * 6 + v)).toNatClampNeg = k * 36 + u * 6 + v := nI_clamp (by omega)
    have hin : vp_in (nI (k * 36 + u * 6 + v)) 1116 := vp_in_nI (by omega) (by omega)
    refine br_f (nI_ge (by omega) (by omega)) (mc_wO (mc_lg_times N tp bm W st tm hN hk hk2 hu (by omega) ho (fun k' u' v' h1 h2 h3 => hd k' u' v' h1 h2 (by omega)) (fun x hx => ⟨hin, nm_r (by rw [hc]) (nm_r (nI_1 v) ?_)⟩)))
    exact ih (v + 1) _ (by omega) (mc_D_s hN hu (by omega) hd hx)
theorem mc_w68_times {post : SX → Prop} {J60 : Int32 → (Nat → Int32) → (Nat → Int32) → (Nat → Int32) → (Nat → Int32) → Prop} {k : Nat} (hN : N ≤ 6) (hk : 1 ≤ k) (hk2 : k ≤ 30) (ho : mc_ok W tm) (hJ : ∀ wk, mc_D N W tm (k + 1) 0 0 wk → J60 (nI (k + 1)) W st tm wk) :
    ∀ m u wk, u + m = N → mc_D N W tm k u 0 wk → wX_findWalks__times_68 post J60 (nI k) (nI N) tp bm (m + 1) (nI u) W st tm wk := by
  intro m
  induction m with
  | zero =>
    intro u wk hu hd
    have e : u = N := by omega
    subst e
    exact br_t (nI_le (Nat.le_refl _) (by omega)) (nm_r (nI_1 k) (hJ wk (mc_D_u hd)))
  | succ m ih =>
    intro u wk hu hd
    exact br_f (nI_ge (by omega) (by omega)) ⟨N + 1, mc_w79_times N tp bm W st tm hN hk hk2 (by omega) ho (fun wk' hd' => ih (u + 1) wk' (by omega) hd') N 0 wk (by omega) hd⟩
theorem mc_w60_times {post : SX → Prop} (hN : N ≤ 6) (ho : mc_ok W tm) (hp : ∀ wk, mc_D N W tm 31 0 0 wk → post (nI N, tp, bm, W, st, tm, wk)) :
    ∀ m k wk, k + m = 31 → 1 ≤ k → mc_D N W tm k 0 0 wk → wX_findWalks__times_60 post (nI N) tp bm (m + 1) (nI k) W st tm wk := by
  intro m
  induction m with
  | zero =>
    intro k wk hk hk1 hd
    have e : k = 31 := by omega
    subst e
    exact br_t (nI_lt (a := 30) (by omega) (by omega)) (hp wk hd)
  | succ m ih =>
    intro k wk hk hk1 hd
    exact br_f (nI_nlt (b := 30) (a := k) |> fun h => fun hlt => absurd hlt (Int32.not_lt.mpr (nI_le (a := k) (b := 30) (by omega) (by omega)))) ⟨N + 1, mc_w68_times N tp bm W st tm hN hk1 (by omega) ho (fun wk' hd' => ih (k + 1) wk' (by omega) (by omega) hd') N 0 wk (by omega) hd⟩
theorem mc_w12_times {post : SX → Prop} {J2 : Int32 → (Nat → Int32) → (Nat → Int32) → (Nat → Int32) → (Nat → Int32) → Prop} {u : Nat} (hN : N ≤ 6) (hu : u < N) (ho : mc_ok W tm) (hJ : ∀ wk, mc_D N W tm 0 (u + 1) 0 wk → J2 (nI (u + 1)) W st tm wk) :
    ∀ m v wk, v + m = N → mc_D N W tm 0 u v wk → wX_findWalks__times_12 post J2 (nI u) (nI N) tp bm (m + 1) (nI v) W st tm wk := by
  intro m
  induction m with
  | zero =>
    intro v wk hv hd
    have e : v = N := by omega
    subst e
    exact br_t (nI_le (Nat.le_refl _) (by omega)) (nm_r (nI_1 u) (hJ wk (mc_D_v hd)))
  | succ m ih =>
    intro v wk hv hd
    have hc : (nI (0 * 36 + u * 6 + v)).toNatClampNeg = 0 * 36 + u * 6 + v := nI_clamp (by omega)
    have hin : vp_in (nI (0 * 36 + u * 6 + v)) 1116 := vp_in_nI (by omega) (by omega)
    have h0 : ∀ z, mc_Sx N W tm u v ((0 : Nat) : Int) z ↔ u = v ∧ z = 0 := fun z => mc_S_0 (mc_ok_p ho)
    refine br_f (nI_ge (by omega) (by omega)) (mc_wO (k := 0) (br_c (fun e => ⟨hin, nm_r (by rw [hc]) (nm_r (nI_1 v) (ih (v + 1) _ (by omega) (mc_D_s hN hu (by omega) hd ?_)))⟩) (fun ne => ⟨hin, nm_r (by rw [hc]) (nm_r (nI_1 v) (ih (v + 1) _ (by omega) (mc_D_s hN hu (by omega) hd ?_)))⟩)))
    · rw [nI_eq (by omega) (by omega)] at e
      exact Or.inr ⟨0, (h0 0).mpr ⟨e, rfl⟩, mc_I_0.symm, fun z hz => by rw [((h0 z).mp hz).2]; exact Int.le_refl _⟩
    · rw [nI_eq (by omega) (by omega)] at ne
      exact Or.inl ⟨mc_I_mil.symm, fun z hz => ne ((h0 z).mp hz).1⟩
theorem mc_w2_times {post : SX → Prop} (hN : N ≤ 6) (ho : mc_ok W tm) (hp : ∀ wk, mc_D N W tm 31 0 0 wk → post (nI N, tp, bm, W, st, tm, wk)) :
    ∀ m u wk, u + m = N → mc_D N W tm 0 u 0 wk → wX_findWalks__times_2 post (nI N) tp bm (m + 1) (nI u) W st tm wk := by
  intro m
  induction m with
  | zero =>
    intro u wk hu hd
    have e : u = N := by omega
    subst e
    exact br_t (nI_le (Nat.le_refl _) (by omega)) ⟨31, mc_w60_times u tp bm W st tm hN ho hp 30 1 wk (by omega) (by omega) (mc_D_u hd)⟩
  | succ m ih =>
    intro u wk hu hd
    exact br_f (nI_ge (by omega) (by omega)) ⟨N + 1, mc_w12_times N tp bm W st tm hN (by omega) ho (fun wk' hd' => ih (u + 1) wk' (by omega) hd') N 0 wk (by omega) hd⟩
theorem mc_fW_times {post : SX → Prop} {wk : Nat → Int32} (hN : N ≤ 6) (ho : mc_ok W tm) (hp : ∀ wk, mc_D N W tm 31 0 0 wk → post (nI N, tp, bm, W, st, tm, wk)) : wpX_findWalks__times post (nI N, tp, bm, W, st, tm, wk) :=
  ⟨N + 1, mc_w2_times N tp bm W st tm hN ho hp N 0 wk (by omega) mc_D_0⟩
end MC05times
