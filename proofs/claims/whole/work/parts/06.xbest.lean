section MC06
/-! quotients -/
theorem mc_q1 {T z z' : Int} {k B : Nat} (h : T * k ≤ z * B) (hz : z ≤ z') : T * k ≤ z' * B :=
  Int.le_trans h (Int.mul_le_mul_of_nonneg_right hz (by omega))
theorem mc_q2 {T z z' : Int} {k k' B : Nat} (h : z * B ≤ T * k) (h' : T * k' ≤ z' * B) (hB : 1 ≤ B) : z * k' ≤ z' * k := by
  have a1 : (z * B) * k' ≤ (T * k) * k' := Int.mul_le_mul_of_nonneg_right h (by omega)
  have a2 : (T * k') * k ≤ (z' * B) * k := Int.mul_le_mul_of_nonneg_right h' (by omega)
  have e1 : (z * B) * k' = (z * k') * B := Int.mul_right_comm _ _ _
  have e2 : (T * k) * k' = (T * k') * k := Int.mul_right_comm _ _ _
  have e3 : (z' * B) * k = (z' * k) * B := Int.mul_right_comm _ _ _
  have : (z * k') * B ≤ (z' * k) * B := by rw [← e1, ← e3]; rw [e2] at a1; exact Int.le_trans a1 a2
  exact Int.le_of_mul_le_mul_right this (by omega)
def mc_bf (k' u' k u : Nat) : Prop := k' < k ∨ (k' = k ∧ u' < u)
def mc_O (N : Nat) (W sa : Nat → Int32) (k u : Nat) (T : Int) (B : Nat) : Prop :=
  (B = 0 ∧ T = 0 ∧ ∀ (k' u' : Nat) (z : Int), 1 ≤ k' → u' < N → mc_bf k' u' k u → ¬ mc_Sx N W sa u' u' k' z) ∨
  (1 ≤ B ∧ B ≤ 30 ∧ (∃ u', u' < N ∧ mc_Sx N W sa u' u' B T) ∧ ∀ (k' u' : Nat) (z : Int), 1 ≤ k' → u' < N → mc_bf k' u' k u → mc_Sx N W sa u' u' k' z → T * k' ≤ z * B)
theorem mc_O_b {N : Nat} {W sa : Nat → Int32} {k u : Nat} {T : Int} {B : Nat} (ho : mc_ok W sa) (h : mc_O N W sa k u T B) : B ≤ 30 ∧ -600 ≤ T ∧ T ≤ 600 := by
  rcases h with ⟨h1, h2, _⟩ | ⟨h1, h2, ⟨u', _, h3⟩, _⟩
  · omega
  · have := mc_Sx_b ho h3
    omega
theorem mc_bf_s {k' u' k u : Nat} (h : mc_bf k' u' k (u + 1)) : mc_bf k' u' k u ∨ (k' = k ∧ u' = u) := by
  unfold mc_bf at *
  omega
theorem mc_O_no {N : Nat} {W sa : Nat → Int32} {k u : Nat} {T : Int} {B : Nat} (h : mc_O N W sa k u T B) (hn : ∀ z, ¬ mc_Sx N W sa u u k z) : mc_O N W sa k (u + 1) T B := by
  rcases h with ⟨h1, h2, h3⟩ | ⟨h1, h2, h3, h4⟩
  · refine Or.inl ⟨h1, h2, fun k' u' z a b c => ?_⟩
    rcases mc_bf_s c with c | ⟨rfl, rfl⟩
    · exact h3 k' u' z a b c
    · exact hn z
  · refine Or.inr ⟨h1, h2, h3, fun k' u' z a b c s => ?_⟩
    rcases mc_bf_s c with c | ⟨rfl, rfl⟩
    · exact h4 k' u' z a b c s
    · exact absurd s (hn z)
theorem mc_O_keep {N : Nat} {W sa : Nat → Int32} {k u : Nat} {T z : Int} {B : Nat} (h : mc_O N W sa k u T B) (hB : ¬ B = 0) (hm : ∀ z', mc_Sx N W sa u u k z' → z ≤ z') (hle : T * k ≤ z * B) : mc_O N W sa k (u + 1) T B := by
  rcases h with ⟨h1, h2, h3⟩ | ⟨h1, h2, h3, h4⟩
  · exact absurd h1 hB
  · refine Or.inr ⟨h1, h2, h3, fun k' u' z' a b c s => ?_⟩
    rcases mc_bf_s c with c | ⟨rfl, rfl⟩
    · exact h4 k' u' z' a b c s
    · exact mc_q1 hle (hm z' s)
theorem mc_O_new {N : Nat} {W sa : Nat → Int32} {k u : Nat} {T z : Int} {B : Nat} (h : mc_O N W sa k u T B) (hk : 1 ≤ k) (hk2 : k ≤ 30) (hu : u < N) (hz : mc_Sx N W sa u u k z) (hm : ∀ z', mc_Sx N W sa u u k z' → z ≤ z') (hlt : B = 0 ∨ z * B ≤ T * k) : mc_O N W sa k (u + 1) z k := by
  refine Or.inr ⟨hk, hk2, ⟨u, hu, hz⟩, fun k' u' z' a b c s => ?_⟩
  rcases mc_bf_s c with c | ⟨rfl, rfl⟩
  · rcases h with ⟨h1, h2, h3⟩ | ⟨h1, h2, h3, h4⟩
    · exact absurd s (h3 k' u' z' a b c)
    · exact mc_q2 (hlt.resolve_left (by omega)) (h4 k' u' z' a b c s) h1
  · exact Int.mul_le_mul_of_nonneg_right (hm z' s) (by omega)
theorem mc_of {post : SX → Prop} {N : Nat} {W sa st tm wk : Nat → Int32} {k u : Nat} {T : Int} {B : Nat} {x : Int32} (hO : mc_O N W sa k u T B) (hM : mc_M (mc_Sx N W sa u u k) x) (hk : 1 ≤ k) (hk2 : k ≤ 30) (hu : u < N) (ho : mc_ok W sa) (hp : ∀ T B, mc_O N W sa k (u + 1) T B → post (nI N, mc_I T, nI B, W, st, tm, wk)) : wpX_offer post (nI N, mc_I T, nI B, W, st, tm, wk) x (nI k) := by
  have bO := mc_O_b ho hO
  refine br_c (fun e => hp T B (mc_O_no hO (mc_M_no (fun z hz => ?_) hM e))) (fun ne => ?_)
  · have := mc_Sx_b ho hz
    omega
  · obtain ⟨z, hz, e, hm⟩ := mc_M_some hM ne
    subst e
    have bz := mc_Sx_b ho hz
    refine br_c (fun b0 => hp z k (mc_O_new hO hk hk2 hu hz hm (Or.inl ?_))) (fun nb => br_c (fun le => hp T B (mc_O_keep hO ?_ hm ?_)) (fun gt => hp z k (mc_O_new hO hk hk2 hu hz hm (Or.inr ?_))))
    · rw [← nI_0, nI_eq (by omega) (by omega)] at b0
      exact b0
    · intro h0
      rw [h0] at nb
      exact nb nI_0
    · rw [← mc_I_nat, ← mc_I_nat, mc_cle (by omega) (by omega) (by omega) (by omega) (by omega) (by omega) (by omega) (by omega)] at le
      exact le
    · rw [← mc_I_nat, ← mc_I_nat, mc_cle (by omega) (by omega) (by omega) (by omega) (by omega) (by omega) (by omega) (by omega)] at gt
      omega
theorem mc_r5 {post : SX → Prop} {n : Int32} {W st tm wk : Nat → Int32} {T : Int} {B : Nat} (hT : -600 ≤ T ∧ T ≤ 600) (hB : 1 ≤ B) (hB2 : B ≤ 30) (hp : ∀ (T' : Int) (B' g : Nat), 1 ≤ g → T = T' * g → B = B' * g → mc_cop T' B' → post (n, mc_I T', nI B', W, st, tm, wk)) :
    ∀ d, d ≤ B → (∀ e : Nat, d < e → ¬ ((e : Int) ∣ T ∧ e ∣ B)) → wX_reduceBest_5 post n (mc_I T) (nI B) W st tm wk (d + 1) (nI d) := by
  intro d
  induction d with
  | zero =>
    intro _ h
    exact br_t (nI_le (a := 0) (b := 1) (by omega) (by omega)) (hp T B 1 (by omega) (by omega) (by omega) (fun e he => h e (by omega)))
  | succ d ih =>
    intro hd h
    by_cases h1 : d = 0
    · subst h1
      exact br_t (nI_le (a := 1) (b := 1) (by omega) (by omega)) (hp T B 1 (by omega) (by omega) (by omega) (fun e he => h e (by omega)))
    · have ne : ¬ nI (d + 1) = 0 := nI_ne0 (by omega) (by omega)
      have cT : mc_I T - mc_I T / nI (d + 1) * nI (d + 1) = 0 ↔ ((d + 1 : Nat) : Int) ∣ T := by
        rw [← mc_I_nat]
        exact mc_I_rem (by omega) (by omega) (by omega) (by omega)
      have cB : nI B - nI B / nI (d + 1) * nI (d + 1) = 0 ↔ d + 1 ∣ B := by
        rw [← mc_I_nat, ← mc_I_nat, mc_I_rem (by omega) (by omega) (by omega) (by omega), Int.ofNat_dvd]
      have next : ¬ (((d + 1 : Nat) : Int) ∣ T ∧ d + 1 ∣ B) → ∀ y, y = nI (d + 1) + (-1) → wX_reduceBest_5 post n (mc_I T) (nI B) W st tm wk (d + 1) y := by
        intro hn
        refine nm_r (mc_m1 d) (ih (by omega) (fun e he => ?_))
        by_cases ee : e = d + 1
        · rw [ee]; exact hn
        · exact h e (by omega)
      refine br_f (nI_ge (a := 1) (b := d + 1) (by omega) (by omega)) ⟨ne, br_c (fun dT => ⟨ne, br_c (fun dB => ⟨ne, ?_⟩) (fun nB => next (fun hh => nB (cB.mpr hh.2)))⟩) (fun nT => next (fun hh => nT (cT.mpr hh.1)))⟩
      obtain ⟨T', eT⟩ := cT.mp dT
      obtain ⟨B', eB⟩ := cB.mp dB
      have qT : mc_I T / nI (d + 1) = mc_I T' := by
        rw [← mc_I_nat, mc_I_div (by omega) (by omega) (by omega) (by omega), eT, Int.mul_tdiv_cancel_left _ (by omega)]
      have qB : nI B / nI (d + 1) = nI B' := by
        rw [← mc_I_nat, ← mc_I_nat, mc_I_div (by omega) (by omega) (by omega) (by omega), eB, Int.natCast_mul, Int.mul_tdiv_cancel_left _ (by omega), mc_I_nat]
      refine nm_r qT ⟨ne, nm_r qB (hp T' B' (d + 1) (by omega) (by rw [eT, Int.mul_comm]) (by rw [eB, Nat.mul_comm]) ?_)⟩
      rintro e he ⟨⟨a, ha⟩, ⟨b, hb⟩⟩
      have hlt : d + 1 < (d + 1) * e := by
        have : (d + 1) * 2 ≤ (d + 1) * e := Nat.mul_le_mul_left _ he
        omega
      refine h ((d + 1) * e) hlt ⟨⟨a, ?_⟩, ⟨b, ?_⟩⟩
      · rw [eT, ha, Int.natCast_mul, Int.mul_assoc]
      · rw [eB, hb, Nat.mul_assoc]
/-- the best quotient, in lowest terms -/
def mc_F (N : Nat) (W sa : Nat → Int32) (T : Int) (B : Nat) : Prop :=
  (B = 0 ∧ T = 0 ∧ ∀ (k u : Nat) (z : Int), 1 ≤ k → k ≤ 30 → u < N → ¬ mc_Sx N W sa u u k z) ∨
  (1 ≤ B ∧ B ≤ 30 ∧ Nat.gcd T.natAbs B = 1 ∧ (∃ (k u : Nat) (z : Int), 1 ≤ k ∧ k ≤ 30 ∧ u < N ∧ mc_Sx N W sa u u k z ∧ T * k = z * B) ∧ ∀ (k u : Nat) (z : Int), 1 ≤ k → k ≤ 30 → u < N → mc_Sx N W sa u u k z → T * k ≤ z * B)
theorem mc_rB {post : SX → Prop} {N : Nat} {W sa st tm wk : Nat → Int32} {T : Int} {B : Nat} (ho : mc_ok W sa) (hO : mc_O N W sa 31 0 T B) (hp : ∀ T' B', -600 ≤ T' → T' ≤ 600 → mc_F N W sa T' B' → post (nI N, mc_I T', nI B', W, st, tm, wk)) : wpX_reduceBest post (nI N, mc_I T, nI B, W, st, tm, wk) := by
  have bO := mc_O_b ho hO
  rcases hO with ⟨h1, h2, h3⟩ | ⟨h1, h2, ⟨u', hu', h3⟩, h4⟩
  · subst h1 h2
    exact ⟨1, br_t (nI_le (a := 0) (b := 1) (by omega) (by omega)) (hp 0 0 (by omega) (by omega) (Or.inl ⟨rfl, rfl, fun k u z a b c => h3 k u z a c (Or.inl (by omega))⟩))⟩
  · refine ⟨B + 1, mc_r5 bO.2 h1 h2 (fun T' B' g hg eT eB hc => ?_) B (Nat.le_refl _) (fun e he hh => ?_)⟩
    · have hB' : 1 ≤ B' := by
        rcases Nat.eq_zero_or_pos B' with h | h
        · rw [h] at eB; omega
        · exact h
      have hB3 : B' ≤ 30 := by
        have : B' * 1 ≤ B' * g := Nat.mul_le_mul_left _ hg
        omega
      have hT3 : -600 ≤ T' ∧ T' ≤ 600 := by
        have e := congrArg Int.natAbs eT
        rw [Int.natAbs_mul, Int.natAbs_natCast] at e
        have : T'.natAbs * 1 ≤ T'.natAbs * g := Nat.mul_le_mul_left _ hg
        omega
      refine hp T' B' hT3.1 hT3.2 (Or.inr ⟨hB', hB3, mc_cop_gcd hB' hc, ⟨B, u', T, h1, h2, hu', h3, ?_⟩, fun k u z a b c s => ?_⟩)
      · rw [eT, eB, Int.natCast_mul, Int.mul_assoc T' g B', Int.mul_comm (g : Int)]
      · have := h4 k u z a c (Or.inl (by omega)) s
        rw [eT, eB, Int.natCast_mul, ← Int.mul_assoc, Int.mul_right_comm] at this
        exact Int.le_of_mul_le_mul_right this (by omega)
    · have := Nat.le_of_dvd (by omega) hh.2
      omega
theorem mc_F_le {N : Nat} {W sa : Nat → Int32} {T : Int} {B : Nat} (h : mc_F N W sa T B) : ∀ (k u : Nat) (z : Int), 1 ≤ k → k ≤ 30 → u < N → mc_Sx N W sa u u k z → T * k ≤ z * B := by
  rcases h with ⟨_, _, h⟩ | ⟨_, _, _, _, h⟩
  · exact fun k u z a b c s => absurd s (h k u z a b c)
  · exact h
theorem mc_F_b {N : Nat} {W sa : Nat → Int32} {T : Int} {B : Nat} (h : mc_F N W sa T B) : B ≤ 30 := by
  rcases h with ⟨h, _⟩ | ⟨_, h, _⟩
  · omega
  · exact h
/-! is a point on a best closed walk -/
def mc_BP (N : Nat) (W sa : Nat → Int32) (T : Int) (B : Nat) (u : Nat) : Prop := ∃ (k : Nat) (z : Int), 1 ≤ k ∧ k ≤ 30 ∧ mc_Sx N W sa u u k z ∧ z * B = T * k
theorem mc_isB {post : Int32 → Prop} {n : Int32} {W st tm wk : Nat → Int32} {T z : Int} {B k : Nat} (hT : -600 ≤ T ∧ T ≤ 600) (hB : B ≤ 30) (hz : -1000 ≤ z ∧ z ≤ 1000) (hk : k ≤ 100) (h1 : z * B = T * k → post 1) (h0 : ¬ z * B = T * k → post 0) : wpX_isBest post (n, mc_I T, nI B, W, st, tm, wk) (mc_I z) (nI k) := by
  have c : mc_I z * nI B = mc_I T * nI k ↔ z * B = T * k := by
    rw [← mc_I_nat, ← mc_I_nat, mc_ceq (by omega) (by omega) (by omega) (by omega) (by omega) (by omega) (by omega) (by omega)]
  exact br_c (fun e => h1 (c.mp e)) (fun ne => h0 (fun e => ne (c.mpr e)))
theorem mc_bp2 {post : Int32 → Prop} {N : Nat} {W sa st tm wk : Nat → Int32} {T : Int} {B u : Nat} (hN : N ≤ 6) (hu : u < N) (ho : mc_ok W sa) (hd : mc_D N W sa 31 0 0 wk) (hT : -600 ≤ T ∧ T ≤ 600) (hB : B ≤ 30) (h1 : mc_BP N W sa T B u → post 1) (h0 : (∀ (k : Nat) (z : Int), 1 ≤ k → k ≤ 30 → mc_Sx N W sa u u k z → (∀ z', mc_Sx N W sa u u k z' → z ≤ z') → ¬ z * B = T * k) → post 0) :
    ∀ m k, k + m = 31 → 1 ≤ k → (∀ (k' : Nat) (z : Int), 1 ≤ k' → k' < k → mc_Sx N W sa u u k' z → (∀ z', mc_Sx N W sa u u k' z' → z ≤ z') → ¬ z * B = T * k') → wX_isBestPoint_2 post (nI u) (nI N) (mc_I T) (nI B) W st tm wk (m + 1) (nI k) := by
  intro m
  induction m with
  | zero =>
    intro k hk hk1 hq
    have e : k = 31 := by omega
    subst e
    exact br_t (nI_lt (a := 30) (by omega) (by omega)) (h0 (fun k z a b => hq k z a (by omega)))
  | succ m ih =>
    intro k hk hk1 hq
    have hc : (nI (k * 36 + u * 6 + u)).toNatClampNeg = k * 36 + u * 6 + u := nI_clamp (by omega)
    have hin : vp_in (nI (k * 36 + u * 6 + u)) 1116 := vp_in_nI (by omega) (by omega)
    have hM := hd k u u hu hu (Or.inl (by omega))
    have skip : (∀ z : Int, mc_Sx N W sa u u k z → (∀ z', mc_Sx N W sa u u k z' → z ≤ z') → ¬ z * B = T * k) → ∀ y, y = nI k + 1 → wX_isBestPoint_2 post (nI u) (nI N) (mc_I T) (nI B) W st tm wk (m + 1) y := by
      intro hn
      refine nm_r (nI_1 k) (ih (k + 1) (by omega) (by omega) (fun k' z a b => ?_))
      by_cases e : k' = k
      · subst e; exact hn z
      · exact hq k' z a (by omega)
    refine br_f (fun hlt => absurd hlt (Int32.not_lt.mpr (nI_le (a := k) (b := 30) (by omega) (by omega)))) (mc_wO ⟨hin, br_c (fun e1 => skip ?_) (fun ne1 => ⟨hin, ?_⟩)⟩)
    · rw [hc] at e1
      intro z hz
      refine absurd hz (mc_M_no (fun z hz => ?_) hM e1 z)
      have b := mc_Sx_b ho hz
      omega
    · rw [hc] at ne1 ⊢
      obtain ⟨z, hz, ez, hmin⟩ := mc_M_some hM ne1
      have b := mc_Sx_b ho hz
      rw [ez]
      refine mc_isB hT hB (by omega) (by omega) (fun e => br_f (by decide) (h1 ⟨k, z, hk1, by omega, hz, e⟩)) (fun ne => br_t rfl (skip (fun z' hz' hm' => ?_)))
      have : z' = z := Int.le_antisymm (hm' z hz) (hmin z' hz')
      rw [this]
      exact ne
theorem mc_bp {post : Int32 → Prop} {N : Nat} {W sa st tm wk : Nat → Int32} {T : Int} {B u : Nat} (hN : N ≤ 6) (hu : u < N) (ho : mc_ok W sa) (hd : mc_D N W sa 31 0 0 wk) (hT : -600 ≤ T ∧ T ≤ 600) (hF : mc_F N W sa T B) (h1 : mc_BP N W sa T B u → post 1) (h0 : ¬ mc_BP N W sa T B u → post 0) : wpX_isBestPoint post (nI N, mc_I T, nI B, W, st, tm, wk) (nI u) := by
  refine ⟨31, mc_bp2 hN hu ho hd hT (mc_F_b hF) h1 (fun hq => h0 ?_) 30 1 (by omega) (by omega) (fun k' z a b => by omega)⟩
  rintro ⟨k, z, hk, hk2, hz, e⟩
  rcases hd k u u hu hu (Or.inl (by omega)) with ⟨_, h⟩ | ⟨z0, hz0, _, hmin⟩
  · exact h z hz
  · have l1 := mc_F_le hF k u z0 hk hk2 hu hz0
    have l2 : z0 * (B : Int) ≤ z * B := Int.mul_le_mul_of_nonneg_right (hmin z hz) (by omega)
    exact hq k z0 hk hk2 hz0 hmin (by omega)
theorem mc_mp {post : Int32 → SX → Prop} {N : Nat} {W sa st tm wk : Nat → Int32} {T : Int} {B : Nat} (hN : N ≤ 6) (ho : mc_ok W sa) (hd : mc_D N W sa 31 0 0 wk) (hT : -600 ≤ T ∧ T ≤ 600) (hF : mc_F N W sa T B) (hp : ∀ x, (∀ i, i < 32 → (bt x i = true ↔ i < N ∧ mc_BP N W sa T B i)) → post x (nI N, mc_I T, nI B, W, st, tm, wk)) :
    ∀ m u x, u + m = N → (∀ i, i < 32 → (bt x i = true ↔ i < u ∧ mc_BP N W sa T B i)) → wX_meanPoints_12 post (nI N) (mc_I T) (nI B) W st tm wk (m + 1) x (nI u) := by
  intro m
  induction m with
  | zero =>
    intro u x hu hx
    have e : u = N := by omega
    subst e
    exact br_t (nI_le (Nat.le_refl _) (by omega)) (hp x hx)
  | succ m ih =>
    intro u x hu hx
    refine br_f (nI_ge (by omega) (by omega)) (mc_bp hN (by omega) ho hd hT hF (fun h => br_f (by decide) (nm_e (nm_r (nI_1 u) (ih (u + 1) _ (by omega) (fun i hi => ?_))))) (fun h => br_t rfl (nm_r (nI_1 u) (ih (u + 1) _ (by omega) (fun i hi => ?_)))))
    · rw [mc_set x (by omega) hi, hx i hi]
      constructor
      · rintro (⟨a, b⟩ | rfl)
        · exact ⟨by omega, b⟩
        · exact ⟨by omega, h⟩
      · rintro ⟨a, b⟩
        by_cases e : i = u
        · exact Or.inr e
        · exact Or.inl ⟨by omega, b⟩
    · rw [hx i hi]
      constructor
      · rintro ⟨a, b⟩; exact ⟨by omega, b⟩
      · rintro ⟨a, b⟩
        by_cases e : i = u
        · subst e; exact absurd b h
        · exact ⟨by omega, b⟩
/-! is a point on a closed walk -/
def mc_CP (N : Nat) (W sa : Nat → Int32) (u : Nat) : Prop := ∃ (k : Nat) (z : Int), 1 ≤ k ∧ k ≤ 30 ∧ mc_Sx N W sa u u k z
theorem mc_oc2 {post : Int32 → Prop} {N : Nat} {tp bm : Int32} {W sa st tm wk : Nat → Int32} {u : Nat} (hN : N ≤ 6) (hu : u < N) (ho : mc_ok W sa) (hd : mc_D N W sa 31 0 0 wk) (h1 : mc_CP N W sa u → post 1) (h0 : ¬ mc_CP N W sa u → post 0) :
    ∀ m k, k + m = 31 → 1 ≤ k → (∀ (k' : Nat) (z : Int), 1 ≤ k' → k' < k → ¬ mc_Sx N W sa u u k' z) → wX_isOnCircle_2 post (nI u) (nI N) tp bm W st tm wk (m + 1) (nI k) := by
  intro m
  induction m with
  | zero =>
    intro k hk hk1 hq
    have e : k = 31 := by omega
    subst e
    refine br_t (nI_lt (a := 30) (by omega) (by omega)) (h0 ?_)
    rintro ⟨k, z, a, b, c⟩
    exact hq k z a (by omega) c
  | succ m ih =>
    intro k hk hk1 hq
    have hc : (nI (k * 36 + u * 6 + u)).toNatClampNeg = k * 36 + u * 6 + u := nI_clamp (by omega)
    have hin : vp_in (nI (k * 36 + u * 6 + u)) 1116 := vp_in_nI (by omega) (by omega)
    have hM := hd k u u hu hu (Or.inl (by omega))
    refine br_f (fun hlt => absurd hlt (Int32.not_lt.mpr (nI_le (a := k) (b := 30) (by omega) (by omega)))) (mc_wO ⟨hin, br_c (fun e1 => nm_r (nI_1 k) (ih (k + 1) (by omega) (by omega) (fun k' z a b => ?_))) (fun ne1 => ?_)⟩)
    · by_cases e : k' = k
      · subst e
        rw [hc] at e1
        refine mc_M_no (fun z hz => ?_) hM e1 z
        have b := mc_Sx_b ho hz
        omega
      · exact hq k' z a (by omega)
    · rw [hc] at ne1
      obtain ⟨z, hz, _, _⟩ := mc_M_some hM ne1
      exact h1 ⟨k, z, hk1, by omega, hz⟩
theorem mc_oc {post : Int32 → SX → Prop} {N : Nat} {tp bm : Int32} {W sa st tm wk : Nat → Int32} (hN : N ≤ 6) (ho : mc_ok W sa) (hd : mc_D N W sa 31 0 0 wk) (hp : ∀ x, (∀ i, i < 32 → (bt x i = true ↔ i < N ∧ mc_CP N W sa i)) → post x (nI N, tp, bm, W, st, tm, wk)) :
    ∀ m u x, u + m = N → (∀ i, i < 32 → (bt x i = true ↔ i < u ∧ mc_CP N W sa i)) → wX_onCircle_12 post (nI N) tp bm W st tm wk (m + 1) x (nI u) := by
  intro m
  induction m with
  | zero =>
    intro u x hu hx
    have e : u = N := by omega
    subst e
    exact br_t (nI_le (Nat.le_refl _) (by omega)) (hp x hx)
  | succ m ih =>
    intro u x hu hx
    refine br_f (nI_ge (by omega) (by omega)) ⟨31, mc_oc2 hN (by omega) ho hd (fun h => br_f (by decide) (nm_e (nm_r (nI_1 u) (ih (u + 1) _ (by omega) (fun i hi => ?_))))) (fun h => br_t rfl (nm_r (nI_1 u) (ih (u + 1) _ (by omega) (fun i hi => ?_)))) 30 1 (by omega) (by omega) (fun k' z a b => by omega)⟩
    · rw [mc_set x (by omega) hi, hx i hi]
      constructor
      · rintro (⟨a, b⟩ | rfl)
        · exact ⟨by omega, b⟩
        · exact ⟨by omega, h⟩
      · rintro ⟨a, b⟩
        by_cases e : i = u
        · exact Or.inr e
        · exact Or.inl ⟨by omega, b⟩
    · rw [hx i hi]
      constructor
      · rintro ⟨a, b⟩; exact ⟨by omega, b⟩
      · rintro ⟨a, b⟩
        by_cases e : i = u
        · subst e; exact absurd b h
        · exact ⟨by omega, b⟩
def mc_BA (N : Nat) (W sa : Nat → Int32) (T : Int) (B : Nat) (u v : Nat) : Prop := ∃ (r : Nat) (z : Int), r + mc_fw sa u v ≤ 30 ∧ mc_Sx N W sa v u r z ∧ (z + mc_fw W u v) * B = T * (r + mc_fw sa u v)
end MC06

section MC06steps
variable (N : Nat) (W st tm : Nat → Int32)
theorem mc_b25_steps {post : SX → Prop} {J17 : Int32 → Int32 → Int32 → Int32 → (Nat → Int32) → (Nat → Int32) → (Nat → Int32) → (Nat → Int32) → Prop} {k : Nat} {wk : Nat → Int32} (hN : N ≤ 6) (hk : 1 ≤ k) (hk2 : k ≤ 30) (ho : mc_ok W st) (hd : mc_D N W st 31 0 0 wk) (hJ : ∀ T B, mc_O N W st k N T B → J17 (nI (k + 1)) (nI N) (mc_I T) (nI B) W st tm wk) :
    ∀ m u T B, u + m = N → mc_O N W st k u T B → wX_findBest__steps_25 post J17 (nI k) (m + 1) (nI u) (nI N) (mc_I T) (nI B) W st tm wk := by
  intro m
  induction m with
  | zero =>
    intro u T B hu hO
    have e : u = N := by omega
    subst e
    exact br_t (nI_le (Nat.le_refl _) (by omega)) (nm_r (nI_1 k) (hJ T B hO))
  | succ m ih =>
    intro u T B hu hO
    have hc : (nI (k * 36 + u * 6 + u)).toNatClampNeg = k * 36 + u * 6 + u := nI_clamp (by omega)
    have hin : vp_in (nI (k * 36 + u * 6 + u)) 1116 := vp_in_nI (by omega) (by omega)
    have hM : mc_M (mc_Sx N W st u u k) (wk (nI (k * 36 + u * 6 + u)).toNatClampNeg) := by
      rw [hc]
      exact hd k u u (by omega) (by omega) (Or.inl (by omega))
    exact br_f (nI_ge (by omega) (by omega)) (mc_wO ⟨hin, mc_of hO hM hk hk2 (by omega) ho (fun T' B' hO' => nm_r (nI_1 u) (ih (u + 1) T' B' (by omega) hO'))⟩)
theorem mc_O_u_steps {k : Nat} {T : Int} {B : Nat} (h : mc_O N W st k N T B) : mc_O N W st (k + 1) 0 T B := by
  have hb : ∀ k' u', u' < N → mc_bf k' u' (k + 1) 0 → mc_bf k' u' k N := by
    intro k' u' h1 h2
    unfold mc_bf at *
    omega
  rcases h with ⟨h1, h2, h3⟩ | ⟨h1, h2, h3, h4⟩
  · exact Or.inl ⟨h1, h2, fun k' u' z a b c => h3 k' u' z a b (hb k' u' b c)⟩
  · exact Or.inr ⟨h1, h2, h3, fun k' u' z a b c => h4 k' u' z a b (hb k' u' b c)⟩
theorem mc_b17_steps {post : SX → Prop} {wk : Nat → Int32} (hN : N ≤ 6) (ho : mc_ok W st) (hd : mc_D N W st 31 0 0 wk) (hp : ∀ T B, -600 ≤ T → T ≤ 600 → mc_F N W st T B → post (nI N, mc_I T, nI B, W, st, tm, wk)) :
    ∀ m k T B, k + m = 31 → 1 ≤ k → mc_O N W st k 0 T B → wX_findBest__steps_17 post (m + 1) (nI k) (nI N) (mc_I T) (nI B) W st tm wk := by
  intro m
  induction m with
  | zero =>
    intro k T B hk hk1 hO
    have e : k = 31 := by omega
    subst e
    exact br_t (nI_lt (a := 30) (by omega) (by omega)) (mc_rB ho hO hp)
  | succ m ih =>
    intro k T B hk hk1 hO
    exact br_f (fun hlt => absurd hlt (Int32.not_lt.mpr (nI_le (a := k) (b := 30) (by omega) (by omega)))) ⟨N + 1, mc_b25_steps N W st tm hN hk1 (by omega) ho hd (fun T' B' hO' => ih (k + 1) T' B' (by omega) (by omega) (mc_O_u_steps N W st hO')) N 0 T B (by omega) hO⟩
theorem mc_fB_steps {post : SX → Prop} {tp bm : Int32} {wk : Nat → Int32} (hN : N ≤ 6) (ho : mc_ok W st) (hp : ∀ wk T B, -600 ≤ T → T ≤ 600 → mc_D N W st 31 0 0 wk → mc_F N W st T B → post (nI N, mc_I T, nI B, W, st, tm, wk)) : wpX_findBest__steps post (nI N, tp, bm, W, st, tm, wk) := by
  refine mc_fW_steps N tp bm W st tm hN ho (fun wk' hd => ⟨31, mc_b17_steps N W st tm hN ho hd (fun T B a b h => hp wk' T B a b hd h) 30 1 0 0 (by omega) (by omega) (Or.inl ⟨rfl, rfl, fun k' u' z a b c => ?_⟩)⟩)
  unfold mc_bf at c
  omega
theorem mc_a10_steps {post : Int32 → Prop} {wk : Nat → Int32} {T : Int} {B u v s : Nat} (hN : N ≤ 6) (hu : u < N) (hv : v < N) (ho : mc_ok W st) (hd : mc_D N W st 31 0 0 wk) (hT : -600 ≤ T ∧ T ≤ 600) (hB : B ≤ 30) (hs : (s : Int) = mc_fw st u v) (hs1 : 1 ≤ s) (hs5 : s ≤ 5) (h1 : mc_BA N W st T B u v → post 1) (h0 : (∀ (r : Nat) (z : Int), r + s ≤ 30 → mc_Sx N W st v u r z → (∀ z', mc_Sx N W st v u r z' → z ≤ z') → ¬ (z + mc_fw W u v) * B = T * ((r + s : Nat) : Int)) → post 0) :
    ∀ m r, r + m + s = 31 → (∀ (r' : Nat) (z : Int), r' < r → mc_Sx N W st v u r' z → (∀ z', mc_Sx N W st v u r' z' → z ≤ z') → ¬ (z + mc_fw W u v) * B = T * ((r' + s : Nat) : Int)) → wX_isBestArc__steps_10 post (nI u) (nI v) (nI (6 * u + v)) (nI N) (mc_I T) (nI B) W st tm wk (m + 1) (nI r) := by
  have hcp : (nI (6 * u + v)).toNatClampNeg = 6 * u + v := nI_clamp (by omega)
  have hinp : vp_in (nI (6 * u + v)) 36 := vp_in_nI (by omega) (by omega)
  have hS : st (nI (6 * u + v)).toNatClampNeg = nI s := by
    rw [hcp, ← mc_I_nat, hs]
    exact (mc_I_of _).symm
  have hW : W (nI (6 * u + v)).toNatClampNeg = mc_I (mc_fw W u v) := by
    rw [hcp]
    exact (mc_I_of _).symm
  have bW : -20 ≤ mc_fw W u v ∧ mc_fw W u v ≤ 20 := ho.1 _
  intro m
  induction m with
  | zero =>
    intro r hr hq
    refine ⟨hinp, br_t ?_ (h0 (fun r' z a => hq r' z (by omega)))⟩
    rw [hS, nI_add]
    exact nI_lt (a := 30) (by omega) (by omega)
  | succ m ih =>
    intro r hr hq
    have hc : (nI (r * 36 + v * 6 + u)).toNatClampNeg = r * 36 + v * 6 + u := nI_clamp (by omega)
    have hin : vp_in (nI (r * 36 + v * 6 + u)) 1116 := vp_in_nI (by omega) (by omega)
    have hM := hd r v u hv hu (Or.inl (by omega))
    have skip : (∀ z : Int, mc_Sx N W st v u r z → (∀ z', mc_Sx N W st v u r z' → z ≤ z') → ¬ (z + mc_fw W u v) * B = T * ((r + s : Nat) : Int)) → ∀ y, y = nI r + 1 → wX_isBestArc__steps_10 post (nI u) (nI v) (nI (6 * u + v)) (nI N) (mc_I T) (nI B) W st tm wk (m + 1) y := by
      intro hn
      refine nm_r (nI_1 r) (ih (r + 1) (by omega) (fun r' z a => ?_))
      by_cases e : r' = r
      · subst e; exact hn z
      · exact hq r' z (by omega)
    refine ⟨hinp, br_f ?_ (mc_wO ⟨hin, br_c (fun e1 => skip ?_) (fun ne1 => ⟨hin, hinp, hinp, ?_⟩)⟩)⟩
    · rw [hS, nI_add]
      exact Int32.not_lt.mpr (nI_le (b := 30) (by omega) (by omega))
    · rw [hc] at e1
      intro z hz
      refine absurd hz (mc_M_no (fun z hz => ?_) hM e1 z)
      have b := mc_Sx_b ho hz
      omega
    · rw [hc] at ne1 ⊢
      obtain ⟨z, hz, ez, hmin⟩ := mc_M_some hM ne1
      have b := mc_Sx_b ho hz
      rw [ez, hS, hW, nI_add, mc_I_add]
      refine mc_isB hT hB (by omega) (by omega) (fun e => br_f (by decide) (h1 ⟨r, z, by omega, hz, ?_⟩)) (fun ne => br_t rfl (skip (fun z' hz' hm' => ?_)))
      · rw [← hs, e, Int.natCast_add]
      · have : z' = z := Int.le_antisymm (hm' z hz) (hmin z' hz')
        rw [this]
        exact ne
theorem mc_bA_steps {post : Int32 → Prop} {wk : Nat → Int32} {T : Int} {B u v : Nat} (hN : N ≤ 6) (hA : mc_A N (mc_E st) u v) (ho : mc_ok W st) (hd : mc_D N W st 31 0 0 wk) (hT : -600 ≤ T ∧ T ≤ 600) (hF : mc_F N W st T B) (h1 : mc_BA N W st T B u v → post 1) (h0 : ¬ mc_BA N W st T B u v → post 0) : wpX_isBestArc__steps post (nI N, mc_I T, nI B, W, st, tm, wk) (nI u) (nI v) := by
  have hs := ho.2 _ (mc_E_t.mp hA.2.2)
  have hs' : 1 ≤ mc_fw st u v ∧ mc_fw st u v ≤ 5 := hs
  obtain ⟨s, es⟩ : ∃ s : Nat, (s : Int) = mc_fw st u v := ⟨(mc_fw st u v).toNat, by omega⟩
  unfold wpX_isBestArc__steps
  dsimp only
  refine mc_pO ⟨31 - s + 1, mc_a10_steps N W st tm hN hA.1 hA.2.1 ho hd hT (mc_F_b hF) es (by omega) (by omega) h1 (fun hq => h0 ?_) (31 - s) 0 (by omega) (fun r' z a => by omega)⟩
  rintro ⟨r, z, hr, hz, e⟩
  rcases hd r v u hA.2.1 hA.1 (Or.inl (by omega)) with ⟨_, h⟩ | ⟨z0, hz0, _, hmin⟩
  · exact h z hz
  · have hcl := mc_S_pre hz0 hA
    have er : ((r + s : Nat) : Int) = r + mc_fw st u v := by rw [Int.natCast_add, es]
    rw [← er] at hcl e
    have l1 := mc_F_le hF (r + s) u _ (by omega) (by omega) hA.1 hcl
    have l2 : (z0 + mc_fw W u v) * (B : Int) ≤ (z + mc_fw W u v) * B := Int.mul_le_mul_of_nonneg_right (by have := hmin z hz; omega) (by omega)
    exact hq r z0 (by omega) hz0 hmin (by omega)
end MC06steps

section MC06times
variable (N : Nat) (W st tm : Nat → Int32)
theorem mc_b25_times {post : SX → Prop} {J17 : Int32 → Int32 → Int32 → Int32 → (Nat → Int32) → (Nat → Int32) → (Nat → Int32) → (Nat → Int32) → Prop} {k : Nat} {wk : Nat → Int32} (hN : N ≤ 6) (hk : 1 ≤ k) (hk2 : k ≤ 30) (ho : mc_ok W tm) (hd : mc_D N W tm 31 0 0 wk) (hJ : ∀ T B, mc_O N W tm k N T B → J17 (nI (k + 1)) (nI N) (mc_I T) (nI B) W st tm wk) :
    ∀ m u T B, u + m = N → mc_O N W tm k u T B → wX_findBest__times_25 post J17 (nI k) (m + 1) (nI u) (nI N) (mc_I T) (nI B) W st tm wk := by
  intro m
  induction m with
  | zero =>
    intro u T B hu hO
    have e : u = N := by omega
    subst e
    exact br_t (nI_le (Nat.le_refl _) (by omega)) (nm_r (nI_1 k) (hJ T B hO))
  | succ m ih =>
    intro u T B hu hO
    have hc : (nI (k * 36 + u * 6 + u)).toNatClampNeg = k * 36 + u * 6 + u := nI_clamp (by omega)
    have hin : vp_in (nI (k * 36 + u * 6 + u)) 1116 := vp_in_nI (by omega) (by omega)
    have hM : mc_M (mc_Sx N W tm u u k) (wk (nI (k * 36 + u * 6 + u)).toNatClampNeg) := by
      rw [hc]
      exact hd k u u (by omega) (by omega) (Or.inl (by omega))
    exact br_f (nI_ge (by omega) (by omega)) (mc_wO ⟨hin, mc_of hO hM hk hk2 (by omega) ho (fun T' B' hO' => nm_r (nI_1 u) (ih (u + 1) T' B' (by omega) hO'))⟩)
theorem mc_O_u_times {k : Nat} {T : Int} {B : Nat} (h : mc_O N W tm k N T B) : mc_O N W tm (k + 1) 0 T B := by
  have hb : ∀ k' u', u' < N → mc_bf k' u' (k + 1) 0 → mc_bf k' u' k N := by
    intro k' u' h1 h2
    unfold mc_bf at *
    omega
  rcases h with ⟨h1, h2, h3⟩ | ⟨h1, h2, h3, h4⟩
  · exact Or.inl ⟨h1, h2, fun k' u' z a b c => h3 k' u' z a b (hb k' u' b c)⟩
  · exact Or.inr ⟨h1, h2, h3, fun k' u' z a b c => h4 k' u' z a b (hb k' u' b c)⟩
theorem mc_b17_times {post : SX → Prop} {wk : Nat → Int32} (hN : N ≤ 6) (ho : mc_ok W tm) (hd : mc_D N W tm 31 0 0 wk) (hp : ∀ T B, -600 ≤ T → T ≤ 600 → mc_F N W tm T B → post (nI N, mc_I T, nI B, W, st, tm, wk)) :
    ∀ m k T B, k + m = 31 → 1 ≤ k → mc_O N W tm k 0 T B → wX_findBest__times_17 post (m + 1) (nI k) (nI N) (mc_I T) (nI B) W st tm wk := by
  intro m
  induction m with
  | zero =>
    intro k T B hk hk1 hO
    have e : k = 31 := by omega
    subst e
    exact br_t (nI_lt (a := 30) (by omega) (by omega)) (mc_rB ho hO hp)
  | succ m ih =>
    intro k T B hk hk1 hO
    exact br_f (fun hlt => absurd hlt (Int32.not_lt.mpr (nI_le (a := k) (b := 30) (by omega) (by omega)))) ⟨N + 1, mc_b25_times N W st tm hN hk1 (by omega) ho hd (fun T' B' hO' => ih (k + 1) T' B' (by omega) (by omega) (mc_O_u_times N W tm hO')) N 0 T B (by omega) hO⟩
theorem mc_fB_times {post : SX → Prop} {tp bm : Int32} {wk : Nat → Int32} (hN : N ≤ 6) (ho : mc_ok W tm) (hp : ∀ wk T B, -600 ≤ T → T ≤ 600 → mc_D N W tm 31 0 0 wk → mc_F N W tm T B → post (nI N, mc_I T, nI B, W, st, tm, wk)) : wpX_findBest__times post (nI N, tp, bm, W, st, tm, wk) := by
  refine mc_fW_times N tp bm W st tm hN ho (fun wk' hd => ⟨31, mc_b17_times N W st tm hN ho hd (fun T B a b h => hp wk' T B a b hd h) 30 1 0 0 (by omega) (by omega) (Or.inl ⟨rfl, rfl, fun k' u' z a b c => ?_⟩)⟩)
  unfold mc_bf at c
  omega
theorem mc_a10_times {post : Int32 → Prop} {wk : Nat → Int32} {T : Int} {B u v s : Nat} (hN : N ≤ 6) (hu : u < N) (hv : v < N) (ho : mc_ok W tm) (hd : mc_D N W tm 31 0 0 wk) (hT : -600 ≤ T ∧ T ≤ 600) (hB : B ≤ 30) (hs : (s : Int) = mc_fw tm u v) (hs1 : 1 ≤ s) (hs5 : s ≤ 5) (h1 : mc_BA N W tm T B u v → post 1) (h0 : (∀ (r : Nat) (z : Int), r + s ≤ 30 → mc_Sx N W tm v u r z → (∀ z', mc_Sx N W tm v u r z' → z ≤ z') → ¬ (z + mc_fw W u v) * B = T * ((r + s : Nat) : Int)) → post 0) :
    ∀ m r, r + m + s = 31 → (∀ (r' : Nat) (z : Int), r' < r → mc_Sx N W tm v u r' z → (∀ z', mc_Sx N W tm v u r' z' → z ≤ z') → ¬ (z + mc_fw W u v) * B = T * ((r' + s : Nat) : Int)) → wX_isBestArc__times_10 post (nI u) (nI v) (nI (6 * u + v)) (nI N) (mc_I T) (nI B) W st tm wk (m + 1) (nI r) := by
  have hcp : (nI (6 * u + v)).toNatClampNeg = 6 * u + v := nI_clamp (by omega)
  have hinp : vp_in (nI (6 * u + v)) 36 := vp_in_nI (by omega) (by omega)
  have hS : tm (nI (6 * u + v)).toNatClampNeg = nI s := by
    rw [hcp, ← mc_I_nat, hs]
    exact (mc_I_of _).symm
  have hW : W (nI (6 * u + v)).toNatClampNeg = mc_I (mc_fw W u v) := by
    rw [hcp]
    exact (mc_I_of _).symm
  have bW : -20 ≤ mc_fw W u v ∧ mc_fw W u v ≤ 20 := ho.1 _
  intro m
  induction m with
  | zero =>
    intro r hr hq
    refine ⟨hinp, br_t ?_ (h0 (fun r' z a => hq r' z (by omega)))⟩
    rw [hS, nI_add]
    exact nI_lt (a := 30) (by omega) (by omega)
  | succ m ih =>
    intro r hr hq
    have hc : (nI (r * 36 + v * 6 + u)).toNatClampNeg = r * 36 + v * 6 + u := nI_clamp (by omega)
    have hin : vp_in (nI (r * 36 + v * 6 + u)) 1116 := vp_in_nI (by omega) (by omega)
    have hM := hd r v u hv hu (Or.inl (by omega))
    have skip : (∀ z : Int, mc_Sx N W tm v u r z → (∀ z', mc_Sx N W tm v u r z' → z ≤ z') → ¬ (z + mc_fw W u v) * B = T * ((r + s : Nat) : Int)) → ∀ y, y = nI r + 1 → wX_isBestArc__times_10 post (nI u) (nI v) (nI (6 * u + v)) (nI N) (mc_I T) (nI B) W st tm wk (m + 1) y := by
      intro hn
      refine nm_r (nI_1 r) (ih (r + 1) (by omega) (fun r' z a => ?_))
      by_cases e : r' = r
      · subst e; exact hn z
      · exact hq r' z (by omega)
    refine ⟨hinp, br_f ?_ (mc_wO ⟨hin, br_c (fun e1 => skip ?_) (fun ne1 => ⟨hin, hinp, hinp, ?_⟩)⟩)⟩
    · rw [hS, nI_add]
      exact Int32.not_lt.mpr (nI_le (b := 30) (by omega) (by omega))
    · rw [hc] at e1
      intro z hz
      refine absurd hz (mc_M_no (fun z hz => ?_) hM e1 z)
      have b := mc_Sx_b ho hz
      omega
    · rw [hc] at ne1 ⊢
      obtain ⟨z, hz, ez, hmin⟩ := mc_M_some hM ne1
      have b := mc_Sx_b ho hz
      rw [ez, hS, hW, nI_add, mc_I_add]
      refine mc_isB hT hB (by omega) (by omega) (fun e => br_f (by decide) (h1 ⟨r, z, by omega, hz, ?_⟩)) (fun ne => br_t rfl (skip (fun z' hz' hm' => ?_)))
      · rw [← hs, e, Int.natCast_add]
      · have : z' = z := Int.le_antisymm (hm' z hz) (hmin z' hz')
        rw [this]
        exact ne
theorem mc_bA_times {post : Int32 → Prop} {wk : Nat → Int32} {T : Int} {B u v : Nat} (hN : N ≤ 6) (hA : mc_A N (mc_E tm) u v) (ho : mc_ok W tm) (hd : mc_D N W tm 31 0 0 wk) (hT : -600 ≤ T ∧ T ≤ 600) (hF : mc_F N W tm T B) (h1 : mc_BA N W tm T B u v → post 1) (h0 : ¬ mc_BA N W tm T B u v → post 0) : wpX_isBestArc__times post (nI N, mc_I T, nI B, W, st, tm, wk) (nI u) (nI v) := by
  have hs := ho.2 _ (mc_E_t.mp hA.2.2)
  have hs' : 1 ≤ mc_fw tm u v ∧ mc_fw tm u v ≤ 5 := hs
  obtain ⟨s, es⟩ : ∃ s : Nat, (s : Int) = mc_fw tm u v := ⟨(mc_fw tm u v).toNat, by omega⟩
  unfold wpX_isBestArc__times
  dsimp only
  refine mc_pO ⟨31 - s + 1, mc_a10_times N W st tm hN hA.1 hA.2.1 ho hd hT (mc_F_b hF) es (by omega) (by omega) h1 (fun hq => h0 ?_) (31 - s) 0 (by omega) (fun r' z a => by omega)⟩
  rintro ⟨r, z, hr, hz, e⟩
  rcases hd r v u hA.2.1 hA.1 (Or.inl (by omega)) with ⟨_, h⟩ | ⟨z0, hz0, _, hmin⟩
  · exact h z hz
  · have hcl := mc_S_pre hz0 hA
    have er : ((r + s : Nat) : Int) = r + mc_fw tm u v := by rw [Int.natCast_add, es]
    rw [← er] at hcl e
    have l1 := mc_F_le hF (r + s) u _ (by omega) (by omega) hA.1 hcl
    have l2 : (z0 + mc_fw W u v) * (B : Int) ≤ (z + mc_fw W u v) * B := Int.mul_le_mul_of_nonneg_right (by have := hmin z hz; omega) (by omega)
    exact hq r z0 (by omega) hz0 hmin (by omega)
end MC06times
