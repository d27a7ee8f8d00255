section MC09
/-! the quotient of two ints, from kit/rows/PURE-ROWS.to-paste -/
theorem pk_div {a d : Nat} (ha : a < 2 ^ 31) (h0 : 0 < d) (hd : d < 2 ^ 31) : nI a / nI d = nI (a / d) := by
  apply Int32.toInt_inj.mp
  rw [lg_idiv_nonneg (by rw [nI_toInt ha]; omega) (by rw [nI_toInt hd]; omega), nI_toInt ha, nI_toInt hd, nI_toInt (Nat.lt_of_le_of_lt (Nat.div_le_self a d) ha)]
  first | rfl | exact (Int.natCast_ediv _ _).symm
theorem pk_rem {a d : Nat} (ha : a < 2 ^ 31) (h0 : 0 < d) (hd : d < 2 ^ 31) : nI a - nI a / nI d * nI d = nI (a % d) := by
  rw [pk_div ha h0 hd, mc_mulN, mc_sub (Nat.div_mul_le_self a d)]
  exact congrArg nI (by have := Nat.div_add_mod' a d; omega)
/-! closed walks and circles -/
theorem mc_rot {A : Nat → Nat → Prop} {w sp : Nat → Nat → Int} {q : List Nat} {u v : Nat} (hq : mc_ci A q) (he : (u, v) ∈ mc_cy q) : mc_S A w sp v u (mc_sm sp (mc_cy q) - sp u v) (mc_sm w (mc_cy q) - w u v) ∧ A u v := by
  refine ⟨?_, hq.2.2 _ he⟩
  obtain ⟨a, d, e1, e2⟩ := mc_ar_spl he
  subst e1
  have eh : mc_hd (a ++ u :: d) 0 = mc_hd a u := mc_hd_app a (u :: d) 0
  rw [eh] at e2
  have ec : mc_cy (a ++ u :: d) = mc_ar a u ++ (u, v) :: mc_ar d (mc_hd a u) := by
    rw [mc_cy_app, e2]
    rfl
  have el : mc_ar (d ++ a) u = mc_ar d (mc_hd a u) ++ mc_ar a u := mc_ar_app d a u
  have es : ∀ f : Nat → Nat → Int, mc_sm f (mc_ar (d ++ a) u) = mc_sm f (mc_cy (a ++ u :: d)) - f u v := by
    intro f
    rw [ec, el, mc_sm_app, mc_sm_app]
    show _ = mc_sm f (mc_ar a u) + (f u v + mc_sm f (mc_ar d (mc_hd a u))) - f u v
    omega
  refine ⟨d ++ a, ?_, ?_, es sp, es w⟩
  · rw [mc_hd_app, e2]
  · intro e h
    refine hq.2.2 e ?_
    rw [el] at h
    rw [ec]
    rcases List.mem_append.mp h with h | h
    · exact List.mem_append_right _ (List.mem_cons_of_mem _ h)
    · exact List.mem_append_left _ h
theorem mc_rot2 {A : Nat → Nat → Prop} {w sp : Nat → Nat → Int} {q : List Nat} {u v : Nat} (hq : mc_ci A q) (he : (u, v) ∈ mc_cy q) : mc_S A w sp u u (mc_sm sp (mc_cy q)) (mc_sm w (mc_cy q)) := by
  obtain ⟨h, hA⟩ := mc_rot (w := w) (sp := sp) hq he
  have := mc_S_pre h hA
  rwa [Int.sub_add_cancel, Int.sub_add_cancel] at this
theorem mc_cls {A : Nat → Nat → Prop} {w sp : Nat → Nat → Int} {u : Nat} {k z : Int} (hk : 1 ≤ k) (h : mc_S A w sp u u k z) : ∃ c, c ≠ [] ∧ (∀ e ∈ mc_cy c, A e.1 e.2) ∧ mc_sm sp (mc_cy c) = k ∧ mc_sm w (mc_cy c) = z ∧ ∃ y, (u, y) ∈ mc_cy c := by
  obtain ⟨l, hu, hA, h1, h2⟩ := h
  cases l with
  | nil => exact absurd (show (0 : Int) = k from h1) (by omega)
  | cons a l =>
    have e : a = u := hu
    subst e
    exact ⟨a :: l, by simp, hA, h1, h2, mc_hd l a, List.mem_cons_self⟩
theorem mc_thr {N : Nat} {W th : Nat → Int32} {u : Nat} {k z : Int} (hN : N ≤ 6) (h01 : ∀ q, th q = 0 ∨ th q = 1) (hk : 1 ≤ k) (h : mc_Sx N W th u u k z) : ∃ (k' : Nat) (z' : Int), 1 ≤ k' ∧ k' ≤ 6 ∧ mc_Sx N W th u u k' z' := by
  obtain ⟨c, c1, c2, _, _, y, c5⟩ := mc_cls hk h
  have hc := mc_clo (A := mc_A N (mc_E th)) (w := fun _ _ => 0) (sp := fun _ _ => 0) (T := 0) (B := 0) (fun q _ => Int.le_refl _) c1 c2
  obtain ⟨q, hq, _, hm⟩ := hc.2 rfl (u, y) c5
  have hs := mc_rot2 (w := mc_fw W) (sp := mc_fw th) hq hm
  have e1 : ∀ e ∈ mc_cy q, mc_fw th e.1 e.2 = 1 := by
    intro e he
    have := mc_E_t.mp (hq.2.2 e he).2.2
    unfold mc_fw
    rw [(h01 _).resolve_left this]
    decide
  have hl : (mc_cy q).length = q.length := mc_ar_len _ _
  have a1 := mc_sm_lo (w := mc_fw th) (m := 1) (L := mc_cy q) (fun e he => by rw [e1 e he]; exact Int.le_refl _)
  have a2 := mc_sm_hi (w := mc_fw th) (m := 1) (L := mc_cy q) (fun e he => by rw [e1 e he]; exact Int.le_refl _)
  have h6 := mc_ci_len hq
  have h1 : 1 ≤ q.length := by
    rcases Nat.eq_zero_or_pos q.length with h | h
    · exact absurd (List.length_eq_zero_iff.mp h) hq.1
    · exact h
  have es : mc_sm (mc_fw th) (mc_cy q) = ((q.length : Nat) : Int) := by rw [hl] at a1 a2; omega
  rw [es] at hs
  exact ⟨q.length, _, h1, by omega, hs⟩
/-! the reference's reach -/
variable (N : Nat) (W th tm : Nat → Int32)
def mc_tn : Prop := ∀ q, ¬ th q = 0 → q / 6 < N ∧ q % 6 < N
def mc_sd (u : Nat) (x : Int32) : Prop := ∀ i, i < 32 → bt x i = true → i < N ∧ ∃ k z : Int, 1 ≤ k ∧ mc_Sx N W th u i k z
def mc_cp (u m : Nat) (x : Int32) : Prop := ∀ (i : Nat) (k z : Int), 1 ≤ k → k ≤ m + 1 → mc_Sx N W th u i k z → bt x i = true
theorem mc_c49 {post : Int32 → Prop} {J : Int32 → Int32 → Prop} {u r : Nat} {dp bz fo tp bo pn mk bd un : Int32} {wy nx ma : Nat → Int32} {x0 : Int32} (hN : N ≤ 6) (h01 : ∀ q, th q = 0 ∨ th q = 1) (hn : mc_tn N th) (hJ : ∀ x, mc_sd N W th u x → (∀ i, bt x0 i = true → bt x i = true) → (∀ a, a < 36 → ¬ th a = 0 → bt x0 (a / 6) = true → bt x (a % 6) = true) → ∀ y, y = nI r + 1 → J x y) :
    ∀ m a x, a + m = 36 → mc_sd N W th u x → (∀ i, bt x0 i = true → bt x i = true) → (∀ a', a' < a → ¬ th a' = 0 → bt x0 (a' / 6) = true → bt x (a' % 6) = true) → wY_comesBack_49 post J (nI u) (nI r) (nI N) dp bz fo tp bo pn mk bd un th W tm wy nx ma (m + 1) x (nI a) := by
  intro m
  induction m with
  | zero =>
    intro a x ha h1 h2 h3
    have e : a = 36 := by omega
    subst e
    exact br_t (nI_le (a := 36) (b := 36) (by omega) (by omega)) (hJ x h1 h2 h3)
  | succ m ih =>
    intro a x ha h1 h2 h3
    have hc : (nI a).toNatClampNeg = a := nI_clamp (by omega)
    have ed : nI a / 6 = nI (a / 6) := pk_div (d := 6) (by omega) (by omega) (by omega)
    have er : nI a - nI a / 6 * 6 = nI (a % 6) := pk_rem (d := 6) (by omega) (by omega) (by omega)
    have cb := mc_get x (u := a / 6) (by omega)
    refine br_f (nI_ge (b := 36) (by omega) (by omega)) ⟨vp_in_nI (by omega) (by omega), br_c (fun z => nm_r (nI_1 a) (ih (a + 1) x (by omega) h1 h2 (fun a' ha' => ?_))) (fun nz => ⟨by decide, br_c (fun b => ⟨by decide, nm_r (e' := x ||| ((1 : Int32) <<< (nI (a % 6) &&& 31))) (by rw [er]) (nm_r (nI_1 a) (ih (a + 1) _ (by omega) ?_ ?_ ?_))⟩) (fun nb => nm_r (nI_1 a) (ih (a + 1) x (by omega) h1 h2 (fun a' ha' => ?_)))⟩)⟩
    · rw [hc] at z
      by_cases e : a' = a
      · subst e; exact fun h => absurd z h
      · exact h3 a' (by omega)
    · rw [hc] at nz
      rw [ed] at b
      intro i hi hb
      rcases (mc_set x (by omega) hi).mp hb with h | h
      · exact h1 i hi h
      · subst h
        obtain ⟨g1, k, z, g2, g3⟩ := h1 (a / 6) (by omega) (cb.mp b)
        have gn := hn a nz
        have ei : 6 * (a / 6) + a % 6 = a := Nat.div_add_mod a 6
        have hA : mc_A N (mc_E th) (a / 6) (a % 6) := ⟨gn.1, gn.2, mc_E_t.mpr (by rw [ei]; exact nz)⟩
        have hf : mc_fw th (a / 6) (a % 6) = 1 := by
          unfold mc_fw
          rw [ei, (h01 a).resolve_left nz]
          decide
        exact ⟨gn.2, k + mc_fw th (a / 6) (a % 6), _, by omega, mc_S_app g3 hA⟩
    · intro i hi
      by_cases hi32 : i < 32
      · exact (mc_set x (by omega) hi32).mpr (Or.inl (h2 i hi))
      · rw [b_big (by omega)] at hi
        exact nomatch hi
    · intro a' ha' hz' hb'
      refine (mc_set x (by omega) (by omega)).mpr ?_
      by_cases e : a' = a
      · subst e; exact Or.inr rfl
      · exact Or.inl (h3 a' (by omega) hz' hb')
    · rw [ed] at nb
      by_cases e : a' = a
      · subst e
        exact fun _ h => absurd (cb.mpr (h2 _ h)) nb
      · exact h3 a' (by omega)
theorem mc_S_lt {u i : Nat} {k z : Int} (hk : 1 ≤ k) (h : mc_Sx N W th u i k z) : ∃ x, mc_A N (mc_E th) x i ∧ mc_Sx N W th u x (k - mc_fw th x i) (z - mc_fw W x i) := (mc_S_step hk).mp h
theorem mc_cp_s {u m : Nat} {x0 x : Int32} (hN : N ≤ 6) (h01 : ∀ q, th q = 0 ∨ th q = 1) (h0 : mc_cp N W th u m x0) (h2 : ∀ i, bt x0 i = true → bt x i = true) (h3 : ∀ a, a < 36 → ¬ th a = 0 → bt x0 (a / 6) = true → bt x (a % 6) = true) : mc_cp N W th u (m + 1) x := by
  intro i k z hk hk2 hS
  by_cases hle : k ≤ m + 1
  · exact h2 i (h0 i k z hk hle hS)
  · obtain ⟨y, hA, hS'⟩ := mc_S_lt N W th hk hS
    have nz := mc_E_t.mp hA.2.2
    have hf : mc_fw th y i = 1 := by
      unfold mc_fw
      rw [(h01 _).resolve_left nz]
      decide
    rw [hf] at hS'
    have hb := h0 y (k - 1) _ (by omega) (by omega) hS'
    have hy := hA.1
    have hi := hA.2.1
    have d1 : (6 * y + i) / 6 = y := by omega
    have d2 : (6 * y + i) % 6 = i := by omega
    have := h3 (6 * y + i) (by omega) nz (by rw [d1]; exact hb)
    rwa [d2] at this
theorem mc_c40 {post : Int32 → Prop} {u : Nat} {dp bz fo tp bo pn mk bd un : Int32} {wy nx ma : Nat → Int32} (hN : N ≤ 6) (hu : u < N) (h01 : ∀ q, th q = 0 ∨ th q = 1) (hn : mc_tn N th) (h1 : mc_CP N W th u → post 1) (h0 : ¬ mc_CP N W th u → post 0) :
    ∀ m r x, r + m = 6 → mc_sd N W th u x → mc_cp N W th u r x → wY_comesBack_40 post (nI u) (nI N) dp bz fo tp bo pn mk bd un th W tm wy nx ma (m + 1) x (nI r) := by
  intro m
  induction m with
  | zero =>
    intro r x hr hs hc
    have e : r = 6 := by omega
    subst e
    have cg := mc_get x (u := u) (by omega)
    refine br_t (nI_le (a := 6) (b := 6) (by omega) (by omega)) (br_c (fun b => h1 ?_) (fun nb => h0 ?_))
    · obtain ⟨_, k, z, g1, g2⟩ := hs u (by omega) (cg.mp b)
      obtain ⟨k', z', a1, a2, a3⟩ := mc_thr hN h01 g1 g2
      exact ⟨k', z', a1, by omega, a3⟩
    · rintro ⟨k, z, a1, a2, a3⟩
      obtain ⟨k', z', b1, b2, b3⟩ := mc_thr hN h01 (by omega) a3
      exact nb (cg.mpr (hc u k' z' (by omega) (by omega) b3))
  | succ m ih =>
    intro r x hr hs hc
    refine br_f (nI_ge (b := 6) (by omega) (by omega)) ⟨37, mc_c49 N W th tm (x0 := x) hN h01 hn (fun x' g1 g2 g3 => nm_r (nI_1 r) (ih (r + 1) x' (by omega) g1 (mc_cp_s N W th hN h01 hc g2 g3))) 36 0 x (by omega) hs (fun _ h => h) (fun a' ha' => by omega)⟩
theorem mc_c4 {post : Int32 → Prop} {u : Nat} {dp bz fo tp bo pn mk bd un : Int32} {wy nx ma : Nat → Int32} (hN : N ≤ 6) (hu : u < N) (h01 : ∀ q, th q = 0 ∨ th q = 1) (hn : mc_tn N th) (h1 : mc_CP N W th u → post 1) (h0 : ¬ mc_CP N W th u → post 0) :
    ∀ m v x, v + m = N → (∀ i, i < 32 → (bt x i = true ↔ i < v ∧ ¬ th (6 * u + i) = 0)) → wY_comesBack_4 post (nI u) (nI N) dp bz fo tp bo pn mk bd un th W tm wy nx ma (m + 1) x (nI v) := by
  intro m
  induction m with
  | zero =>
    intro v x hv hx
    have e : v = N := by omega
    subst e
    refine br_t (nI_le (Nat.le_refl _) (by omega)) ⟨7, mc_c40 v W th tm hN hu h01 hn h1 h0 6 0 x (by omega) ?_ ?_⟩
    · intro i hi hb
      obtain ⟨g1, g2⟩ := (hx i hi).mp hb
      refine ⟨g1, mc_fw th u i, mc_fw W u i, ?_, ?_⟩
      · unfold mc_fw
        rw [(h01 _).resolve_left g2]
        decide
      · have hA : mc_A v (mc_E th) u i := ⟨hu, g1, mc_E_t.mpr g2⟩
        have : mc_Sx v W th u u 0 0 := ⟨[], rfl, (fun e he => nomatch he), rfl, rfl⟩
        have h := mc_S_app this hA
        rw [Int.zero_add, Int.zero_add] at h
        exact h
    · intro i k z hk hk2 hS
      obtain ⟨y, hA, hS'⟩ := mc_S_lt v W th hk hS
      have nz := mc_E_t.mp hA.2.2
      have hf : mc_fw th y i = 1 := by
        unfold mc_fw
        rw [(h01 _).resolve_left nz]
        decide
      have ek : k - mc_fw th y i = 0 := by omega
      rw [ek] at hS'
      have hp : ∀ a b, mc_A v (mc_E th) a b → 1 ≤ mc_fw th a b := by
        intro a b h
        unfold mc_fw
        rw [(h01 _).resolve_left (mc_E_t.mp h.2.2)]
        decide
      have := (mc_S_0 hp).mp hS'
      rw [← this.1] at nz
      exact (hx i (by have := hA.2.1; omega)).mpr ⟨hA.2.1, nz⟩
  | succ m ih =>
    intro v x hv hx
    have ei : 6 * nI u + nI v = nI (6 * u + v) := by
      rw [show 6 * nI u = nI (6 * u) from mc_mulN 6 _, nI_add]
    have hc : (nI (6 * u + v)).toNatClampNeg = 6 * u + v := nI_clamp (by omega)
    refine br_f (nI_ge (by omega) (by omega)) ⟨by rw [ei]; exact vp_in_nI (by omega) (by omega), br_c (fun z => nm_r (nI_1 v) (ih (v + 1) x (by omega) (fun i hi => ?_))) (fun nz => nm_e (nm_r (nI_1 v) (ih (v + 1) _ (by omega) (fun i hi => ?_))))⟩
    · rw [ei, hc] at z
      rw [hx i hi]
      constructor
      · rintro ⟨a, b⟩; exact ⟨by omega, b⟩
      · rintro ⟨a, b⟩
        by_cases e : i = v
        · subst e; exact absurd z b
        · exact ⟨by omega, b⟩
    · rw [ei, hc] at nz
      rw [mc_set x (by omega) hi, hx i hi]
      constructor
      · rintro (⟨a, b⟩ | rfl)
        · exact ⟨by omega, b⟩
        · exact ⟨by omega, nz⟩
      · rintro ⟨a, b⟩
        by_cases e : i = v
        · exact Or.inr e
        · exact Or.inl ⟨by omega, b⟩
theorem mc_yoc {post : Int32 → Prop} {dp bz fo tp bo pn mk bd un : Int32} {wy nx ma : Nat → Int32} (hN : N ≤ 6) (h01 : ∀ q, th q = 0 ∨ th q = 1) (hn : mc_tn N th) (hp : ∀ x, (∀ i, i < 32 → (bt x i = true ↔ i < N ∧ mc_CP N W th i)) → post x) :
    ∀ m u x, u + m = N → (∀ i, i < 32 → (bt x i = true ↔ i < u ∧ mc_CP N W th i)) → wY_onCircle_4 post (nI N) dp bz fo tp bo pn mk bd un th W tm wy nx ma (m + 1) x (nI u) := by
  intro m
  induction m with
  | zero =>
    intro u x hu hx
    have e : u = N := by omega
    subst e
    exact br_t (nI_le (Nat.le_refl _) (by omega)) (hp x hx)
  | succ m ih =>
    intro u x hu hx
    refine br_f (nI_ge (by omega) (by omega)) ⟨N + 1, mc_c4 N W th tm hN (by omega) h01 hn (fun h => br_f (by decide) (nm_e (nm_r (nI_1 u) (ih (u + 1) _ (by omega) (fun i hi => ?_))))) (fun h => br_t rfl (nm_r (nI_1 u) (ih (u + 1) _ (by omega) (fun i hi => ?_)))) N 0 0 (by omega) (fun i hi => ?_)⟩
    · rw [mc_set x (by omega) hi, hx i hi]
      constructor
      · rintro (⟨a, b⟩ | rfl)
        · exact ⟨by omega, b⟩
        · exact ⟨by omega, h⟩
      · rintro ⟨a, b⟩
        by_cases e : i = u
        · exact Or.inr e
        · exact Or.inl ⟨by omega, b⟩
    · rw [hx i hi]
      constructor
      · rintro ⟨a, b⟩; exact ⟨by omega, b⟩
      · rintro ⟨a, b⟩
        by_cases e : i = u
        · subst e; exact absurd b h
        · exact ⟨by omega, b⟩
    · rw [b_0]
      constructor
      · intro h; exact nomatch h
      · rintro ⟨h, _⟩; omega
end MC09
