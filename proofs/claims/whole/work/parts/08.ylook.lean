section MC08
/-! one circle looked at -/
theorem mc_ar_getD : ∀ (p : List Nat) (v k : Nat), k < p.length → (mc_ar p v).getD k (0, 0) = (p.getD k 0, if k + 1 < p.length then p.getD (k + 1) 0 else v) := by
  intro p
  induction p with
  | nil => intro v k h; exact nomatch h
  | cons a l ih =>
    intro v k h
    cases k with
    | zero =>
      show (a, mc_hd l v) = (a, if 0 + 1 < l.length + 1 then l.getD 0 0 else v)
      cases l with
      | nil => rfl
      | cons b l => rw [if_pos (by simp)]; rfl
    | succ k =>
      have h' : k < l.length := by rw [List.length_cons] at h; omega
      show (mc_ar l v).getD k (0, 0) = (l.getD k 0, if k + 1 + 1 < l.length + 1 then l.getD (k + 1) 0 else v)
      rw [ih v k h']
      by_cases hh : k + 1 < l.length
      · rw [if_pos hh, if_pos (by omega)]
      · rw [if_neg hh, if_neg (by omega)]
def mc_ix (c : List Nat) (k : Nat) : Nat := 6 * ((mc_cy c).getD k (0, 0)).1 + ((mc_cy c).getD k (0, 0)).2
theorem mc_ix_mem {c : List Nat} {q : Nat} : (∃ j, j < c.length ∧ mc_ix c j = q) ↔ ∃ e ∈ mc_cy c, 6 * e.1 + e.2 = q := by
  have hl : (mc_cy c).length = c.length := mc_ar_len _ _
  constructor
  · rintro ⟨j, hj, e⟩
    refine ⟨(mc_cy c).getD j (0, 0), ?_, e⟩
    rw [List.getD_eq_getElem?_getD, List.getElem?_eq_getElem (by omega)]
    exact List.getElem_mem _
  · rintro ⟨e, he, eq⟩
    obtain ⟨j, hj, e1⟩ := List.getElem_of_mem he
    refine ⟨j, by omega, ?_⟩
    unfold mc_ix
    rw [List.getD_eq_getElem?_getD, List.getElem?_eq_getElem hj]
    show 6 * (mc_cy c)[j].1 + (mc_cy c)[j].2 = q
    rw [e1]
    exact eq
def mc_zt (W : Nat → Int32) (c : List Nat) : Int := mc_sm (mc_fw W) (mc_cy c)
def mc_sz (tm : Nat → Int32) (bz : Int32) (c : List Nat) : Int := if bz = 0 then (c.length : Int) else mc_zt tm c
def mc_oy (W th tm : Nat → Int32) : Prop := (∀ q, -20 ≤ (W q).toInt ∧ (W q).toInt ≤ 20) ∧ (∀ q, ¬ th q = 0 → 1 ≤ (tm q).toInt ∧ (tm q).toInt ≤ 5)
theorem mc_cb {N : Nat} {W th tm : Nat → Int32} {bz : Int32} {c : List Nat} (hN : N ≤ 6) (ho : mc_oy W th tm) (hc : mc_ci (mc_A N (mc_E th)) c) : 1 ≤ c.length ∧ c.length ≤ 6 ∧ -120 ≤ mc_zt W c ∧ mc_zt W c ≤ 120 ∧ 1 ≤ mc_zt tm c ∧ mc_zt tm c ≤ 30 ∧ 1 ≤ mc_sz tm bz c ∧ mc_sz tm bz c ≤ 30 := by
  have h6 : c.length ≤ 6 := Nat.le_trans (mc_ci_len hc) hN
  have h1 : 1 ≤ c.length := by
    rcases Nat.eq_zero_or_pos c.length with h | h
    · exact absurd (List.length_eq_zero_iff.mp h) hc.1
    · exact h
  have hl : (mc_cy c).length = c.length := mc_ar_len _ _
  have a1 : -20 * ((mc_cy c).length : Int) ≤ mc_zt W c := mc_sm_lo (fun e _ => (ho.1 _).1)
  have a2 : mc_zt W c ≤ 20 * ((mc_cy c).length : Int) := mc_sm_hi (fun e _ => (ho.1 _).2)
  have a3 : 1 * ((mc_cy c).length : Int) ≤ mc_zt tm c := mc_sm_lo (fun e he => (ho.2 _ (mc_E_t.mp (hc.2.2 e he).2.2)).1)
  have a4 : mc_zt tm c ≤ 5 * ((mc_cy c).length : Int) := mc_sm_hi (fun e he => (ho.2 _ (mc_E_t.mp (hc.2.2 e he).2.2)).2)
  rw [hl] at a1 a2 a3 a4
  have a5 : 1 ≤ mc_sz tm bz c ∧ mc_sz tm bz c ≤ 30 := by
    unfold mc_sz
    split <;> omega
  omega
variable (N : Nat) (bz mk bd : Int32) (th W tm : Nat → Int32)
theorem mc_aA {post : Int32 → Prop} {fo tp bo pn un : Int32} {wy nx ma : Nat → Int32} {c : List Nat} {k : Nat} (hN : N ≤ 6) (ha : mc_at wy c) (hl : c.length ≤ 6) (hx : ∀ x ∈ c, x < N) (hk : k < c.length) (h : mc_ix c k < 36 → post (nI (mc_ix c k))) : wpY_arcAt post (nI N, nI c.length, bz, fo, tp, bo, pn, mk, bd, un, th, W, tm, wy, nx, ma) (nI k) := by
  have hck : (nI k).toNatClampNeg = k := nI_clamp (by omega)
  have hck1 : (nI (k + 1)).toNatClampNeg = k + 1 := nI_clamp (by omega)
  have hg := mc_ar_getD c (mc_hd c 0) k hk
  have x1 := hx _ (mc_getD_mem hk)
  refine ⟨vp_in_nI (by omega) (by omega), ?_⟩
  rw [nI_1, hck, hck1, ha k hk]
  refine br_c (fun le => ?_) (fun gt => ⟨vp_in_nI ?_ (by omega), ?_⟩)
  · rw [nI_leI (by omega) (by omega)] at le
    rw [if_neg (by omega)] at hg
    have x2 := hx _ (mc_getD_mem (p := c) (i := 0) (by omega))
    have e : mc_ix c k = 6 * c.getD k 0 + c.getD 0 0 := by
      unfold mc_ix mc_cy
      rw [hg, ← mc_hd_getD]
    rw [e] at h
    rw [ha 0 (by omega), show 6 * nI (c.getD k 0) = nI (6 * c.getD k 0) from mc_mulN 6 _, nI_add]
    exact h (by omega)
  · rw [nI_leI (by omega) (by omega)] at gt
    omega
  · rw [nI_leI (by omega) (by omega)] at gt
    rw [if_pos (by omega)] at hg
    have x2 := hx _ (mc_getD_mem (p := c) (i := k + 1) (by omega))
    have e : mc_ix c k = 6 * c.getD k 0 + c.getD (k + 1) 0 := by
      unfold mc_ix mc_cy
      rw [hg]
    rw [e] at h
    rw [ha (k + 1) (by omega), show 6 * nI (c.getD k 0) = nI (6 * c.getD k 0) from mc_mulN 6 _, nI_add]
    exact h (by omega)
theorem mc_dr {w : Nat → Int32} {c : List Nat} {k : Nat} (hk : k < c.length) : mc_sm (mc_fw w) ((mc_cy c).drop k) = (w (mc_ix c k)).toInt + mc_sm (mc_fw w) ((mc_cy c).drop (k + 1)) := by
  have hl : (mc_cy c).length = c.length := mc_ar_len _ _
  rw [List.drop_eq_getElem_cons (by omega)]
  show mc_fw w _ _ + _ = _
  unfold mc_ix mc_fw
  rw [List.getD_eq_getElem?_getD, List.getElem?_eq_getElem (by omega)]
  rfl
theorem mc_lk6 {post : SY → Prop} {fo tp bo pn un : Int32} {wy nx ma : Nat → Int32} {c : List Nat} (hN : N ≤ 6) (ha : mc_at wy c) (hl : c.length ≤ 6) (hx : ∀ x ∈ c, x < N) :
    ∀ m k a b, k + m = c.length → ((bz = 0 → wY_look_62 post (mc_I (a + mc_sm (mc_fw W) ((mc_cy c).drop k))) (mc_I (b + mc_sm (mc_fw tm) ((mc_cy c).drop k))) (nI c.length) (nI N) (nI c.length) bz fo tp bo pn mk bd un th W tm wy nx ma) ∧ (¬ bz = 0 → wY_look_62 post (mc_I (a + mc_sm (mc_fw W) ((mc_cy c).drop k))) (mc_I (b + mc_sm (mc_fw tm) ((mc_cy c).drop k))) (mc_I (b + mc_sm (mc_fw tm) ((mc_cy c).drop k))) (nI N) (nI c.length) bz fo tp bo pn mk bd un th W tm wy nx ma)) →
    wY_look_6 post (nI N) (nI c.length) bz fo tp bo pn mk bd un th W tm wy nx ma (m + 1) (mc_I a) (mc_I b) (nI k) := by
  have hle : (mc_cy c).length = c.length := mc_ar_len _ _
  intro m
  induction m with
  | zero =>
    intro k a b hk h
    have e : (mc_cy c).drop k = [] := List.drop_eq_nil_of_le (by omega)
    rw [e, show mc_sm (mc_fw W) [] = 0 from rfl, show mc_sm (mc_fw tm) [] = 0 from rfl, Int.add_zero, Int.add_zero] at h
    exact br_t (nI_le (by omega) (by omega)) h
  | succ m ih =>
    intro k a b hk h
    have hk' : k < c.length := by omega
    rw [mc_dr (w := W) hk', mc_dr (w := tm) hk', ← Int.add_assoc, ← Int.add_assoc] at h
    refine br_f (nI_ge (by omega) (by omega)) (mc_aA N bz mk bd th W tm hN ha hl hx (by omega) (fun hi => ⟨vp_in_nI hi (by omega), nm_r (e' := mc_I (a + (W (mc_ix c k)).toInt)) ?_ ⟨vp_in_nI hi (by omega), nm_r (e' := mc_I (b + (tm (mc_ix c k)).toInt)) ?_ (nm_r (nI_1 k) (ih (k + 1) _ _ (by omega) h))⟩⟩))
    · rw [nI_clamp (by omega), ← mc_I_add, mc_I_of]
    · rw [nI_clamp (by omega), ← mc_I_add, mc_I_of]
theorem mc_lk {post : SY → Prop} {fo tp bo pn un : Int32} {wy nx ma : Nat → Int32} {c : List Nat} (hN : N ≤ 6) (ha : mc_at wy c) (hl : c.length ≤ 6) (hx : ∀ x ∈ c, x < N) (h : wY_look_62 post (mc_I (mc_zt W c)) (mc_I (mc_zt tm c)) (mc_I (mc_sz tm bz c)) (nI N) (nI c.length) bz fo tp bo pn mk bd un th W tm wy nx ma) : wpY_look post (nI N, nI c.length, bz, fo, tp, bo, pn, mk, bd, un, th, W, tm, wy, nx, ma) := by
  refine ⟨c.length + 1, mc_lk6 N bz mk bd th W tm hN ha hl hx c.length 0 0 0 (by omega) ?_⟩
  rw [List.drop_zero, Int.zero_add, Int.zero_add]
  refine br_c (fun e => ?_) (fun ne => ?_)
  · unfold mc_sz at h
    rw [if_pos e, mc_I_nat] at h
    exact h
  · unfold mc_sz at h
    rw [if_neg ne] at h
    exact h
theorem mc_mk2 {post : SY → Prop} {fo tp bo un pn0 : Int32} {wy nx ma0 : Nat → Int32} {c : List Nat} (hN : N ≤ 6) (ha : mc_at wy c) (hl : c.length ≤ 6) (hx : ∀ x ∈ c, x < N)
    (hp : ∀ (pn : Int32) (ma : Nat → Int32), (∀ i, i < 32 → (bt pn i = true ↔ bt pn0 i = true ∨ ∃ j, j < c.length ∧ c.getD j 0 = i)) → (∀ q, (∃ j, j < c.length ∧ mc_ix c j = q) → ma q = 1) → (∀ q, ¬ (∃ j, j < c.length ∧ mc_ix c j = q) → ma q = ma0 q) → post (nI N, nI c.length, bz, fo, tp, bo, pn, mk, bd, un, th, W, tm, wy, nx, ma)) :
    ∀ m k (pn : Int32) (ma : Nat → Int32), k + m = c.length → (∀ i, i < 32 → (bt pn i = true ↔ bt pn0 i = true ∨ ∃ j, j < k ∧ c.getD j 0 = i)) → (∀ q, (∃ j, j < k ∧ mc_ix c j = q) → ma q = 1) → (∀ q, ¬ (∃ j, j < k ∧ mc_ix c j = q) → ma q = ma0 q) →
    wY_mark_2 post (nI N) (nI c.length) bz fo tp bo mk bd un (m + 1) (nI k) pn th W tm wy nx ma := by
  intro m
  induction m with
  | zero =>
    intro k pn ma hk h1 h2 h3
    have e : k = c.length := by omega
    subst e
    exact br_t (nI_le (by omega) (by omega)) (hp pn ma h1 h2 h3)
  | succ m ih =>
    intro k pn ma hk h1 h2 h3
    have hck : (nI k).toNatClampNeg = k := nI_clamp (by omega)
    have hxk := hx _ (mc_getD_mem (p := c) (i := k) (by omega))
    refine br_f (nI_ge (by omega) (by omega)) (mc_aA N bz mk bd th W tm hN ha hl hx (by omega) (fun hi => ⟨vp_in_nI hi (by omega), nm_r (e' := upd ma (mc_ix c k) 1) ?_ ⟨vp_in_nI (by omega) (by omega), nm_r (e' := pn ||| ((1 : Int32) <<< (nI (c.getD k 0) &&& 31))) ?_ (nm_r (nI_1 k) (ih (k + 1) _ _ (by omega) ?_ ?_ ?_))⟩⟩))
    · rw [nI_clamp (by omega), mc_b1]
    · rw [hck, ha k (by omega)]
    · intro i hi32
      rw [mc_set pn (by omega) hi32, h1 i hi32]
      constructor
      · rintro ((h | ⟨j, hj, e⟩) | e)
        · exact Or.inl h
        · exact Or.inr ⟨j, by omega, e⟩
        · exact Or.inr ⟨k, by omega, e.symm⟩
      · rintro (h | ⟨j, hj, e⟩)
        · exact Or.inl (Or.inl h)
        · by_cases ej : j = k
          · subst ej; exact Or.inr e.symm
          · exact Or.inl (Or.inr ⟨j, by omega, e⟩)
    · rintro q ⟨j, hj, e⟩
      by_cases eq : q = mc_ix c k
      · rw [eq, mc_us]
      · rw [mc_un eq]
        by_cases ej : j = k
        · subst ej; exact absurd e.symm eq
        · exact h2 q ⟨j, by omega, e⟩
    · intro q hq
      have eq : q ≠ mc_ix c k := fun e => hq ⟨k, by omega, e.symm⟩
      rw [mc_un eq]
      exact h3 q (fun ⟨j, hj, e⟩ => hq ⟨j, by omega, e⟩)
theorem mc_mk {post : SY → Prop} {fo tp bo un pn0 : Int32} {wy nx ma0 : Nat → Int32} {c : List Nat} (hN : N ≤ 6) (ha : mc_at wy c) (hl : c.length ≤ 6) (hx : ∀ x ∈ c, x < N)
    (hp : ∀ (pn : Int32) (ma : Nat → Int32), (∀ i, i < 32 → (bt pn i = true ↔ bt pn0 i = true ∨ i ∈ c)) → (∀ q, (∃ e ∈ mc_cy c, 6 * e.1 + e.2 = q) → ma q = 1) → (∀ q, ¬ (∃ e ∈ mc_cy c, 6 * e.1 + e.2 = q) → ma q = ma0 q) → post (nI N, nI c.length, bz, fo, tp, bo, pn, mk, bd, un, th, W, tm, wy, nx, ma)) :
    wpY_mark post (nI N, nI c.length, bz, fo, tp, bo, pn0, mk, bd, un, th, W, tm, wy, nx, ma0) := by
  refine ⟨c.length + 1, mc_mk2 N bz mk bd th W tm (pn0 := pn0) (ma0 := ma0) hN ha hl hx (fun pn ma h1 h2 h3 => hp pn ma (fun i hi => ?_) (fun q hq => h2 q (mc_ix_mem.mpr hq)) (fun q hq => h3 q (fun h => hq (mc_ix_mem.mp h)))) c.length 0 pn0 ma0 (by omega) (fun i hi => ?_) (fun q ⟨j, hj, _⟩ => by omega) (fun q _ => rfl)⟩
  · rw [h1 i hi]
    constructor
    · rintro (h | ⟨j, hj, e⟩)
      · exact Or.inl h
      · exact Or.inr (e ▸ mc_getD_mem hj)
    · rintro (h | h)
      · exact Or.inl h
      · exact Or.inr (mc_mem_getD h)
  · exact ⟨Or.inl, fun h => h.elim id (fun ⟨j, hj, _⟩ => by omega)⟩
end MC08
section MC08b
variable (N : Nat) (bz : Int32) (th W tm : Nat → Int32)
theorem mc_q2i {T z z' k k' B : Int} (h : z * B ≤ T * k) (h' : T * k' ≤ z' * B) (hB : 0 < B) (hk : 0 ≤ k) (hk' : 0 ≤ k') : z * k' ≤ z' * k := by
  have a1 : (z * B) * k' ≤ (T * k) * k' := Int.mul_le_mul_of_nonneg_right h hk'
  have a2 : (T * k') * k ≤ (z' * B) * k := Int.mul_le_mul_of_nonneg_right h' hk
  have e1 : (z * B) * k' = (z * k') * B := Int.mul_right_comm _ _ _
  have e2 : (T * k) * k' = (T * k') * k := Int.mul_right_comm _ _ _
  have e3 : (z' * B) * k = (z' * k) * B := Int.mul_right_comm _ _ _
  have : (z * k') * B ≤ (z' * k) * B := by rw [← e1, ← e3]; rw [e2] at a1; exact Int.le_trans a1 a2
  exact Int.le_of_mul_le_mul_right this hB
/-- the least quotient among the circles of L -/
def mc_lq (L : List (List Nat)) (t b : Int) : Prop := (L = [] ∧ t = 0 ∧ b = 1) ∨ ∃ c ∈ L, t = mc_zt W c ∧ b = mc_sz tm bz c ∧ ∀ c' ∈ L, mc_zt W c * mc_sz tm bz c' ≤ mc_zt W c' * mc_sz tm bz c
def mc_ud (bI : Int) (un0 : Int32) (L : List (List Nat)) (un : Int32) : Prop := (un = un0 ∧ ∀ c ∈ L, bI * mc_zt tm c ≤ mc_zt W c) ∨ (un = 1 ∧ ∃ c ∈ L, mc_zt W c < bI * mc_zt tm c)
def mc_Q1 (bI : Int) (un0 pn0 : Int32) (ma0 : Nat → Int32) (L : List (List Nat)) (fo tp bo pn un : Int32) (ma : Nat → Int32) : Prop :=
  fo = nI L.length ∧ pn = pn0 ∧ ma = ma0 ∧ (∀ c ∈ L, mc_ci (mc_A N (mc_E th)) c) ∧ (∃ t b, tp = mc_I t ∧ bo = mc_I b ∧ mc_lq bz W tm L t b) ∧ mc_ud W tm bI un0 L un
theorem mc_LK1 {bI : Int} {un0 pn0 : Int32} {ma0 : Nat → Int32} (hN : N ≤ 6) (ho : mc_oy W th tm) (hb : -1000 ≤ bI ∧ bI ≤ 1000) : mc_LK N bz 0 (mc_I bI) th W tm (mc_Q1 N bz th W tm bI un0 pn0 ma0) := by
  intro L c fo tp bo pn un ma wy nx hc ha hL hq post hp
  obtain ⟨q1, q2, q3, q4, ⟨t, b, q5, q6, q7⟩, q8⟩ := hq
  subst q1 q2 q3 q5 q6
  have bc := mc_cb (bz := bz) hN ho hc
  have hci : ∀ c' ∈ L ++ [c], mc_ci (mc_A N (mc_E th)) c' := by
    intro c' hc'
    rcases List.mem_append.mp hc' with h | h
    · exact q4 c' h
    · rw [List.mem_singleton.mp h]; exact hc
  have hll : (L ++ [c]).length = L.length + 1 := by simp
  have key : ∀ un', mc_ud W tm bI un0 (L ++ [c]) un' → wY_look_78 post (mc_I (mc_zt W c)) (mc_I (mc_sz tm bz c)) (nI N) (nI c.length) bz (nI L.length) (mc_I t) (mc_I b) pn 0 (mc_I bI) un' th W tm wy nx ma := by
    intro un' hu
    have fin : ∀ t b, mc_lq bz W tm (L ++ [c]) t b → post (nI N, nI c.length, bz, nI (L.length + 1), mc_I t, mc_I b, pn, 0, mc_I bI, un', th, W, tm, wy, nx, ma) :=
      fun t b h => hp _ _ _ _ _ _ ⟨by rw [hll], rfl, rfl, hci, ⟨t, b, rfl, rfl, h⟩, hu⟩
    refine br_t rfl (br_t rfl (br_c (fun f0 => nm_r (nI_1 _) (fin _ _ (Or.inr ⟨c, List.mem_append_right _ (List.mem_singleton.mpr rfl), rfl, rfl, ?_⟩))) (fun nf => ?_)))
    · rw [← nI_0, nI_eq (by omega) (by omega)] at f0
      have : L = [] := List.length_eq_zero_iff.mp f0
      subst this
      intro c' hc'
      rw [List.nil_append] at hc'
      rw [List.mem_singleton.mp hc']
      exact Int.le_refl _
    · rcases q7 with ⟨e, _⟩ | ⟨c0, hc0, rfl, rfl, hm⟩
      · subst e
        exact absurd nI_0 nf
      · have b0 := mc_cb (bz := bz) hN ho (q4 c0 hc0)
        have cc : mc_I (mc_zt W c0) * mc_I (mc_sz tm bz c) ≤ mc_I (mc_zt W c) * mc_I (mc_sz tm bz c0) ↔ mc_zt W c0 * mc_sz tm bz c ≤ mc_zt W c * mc_sz tm bz c0 := mc_cle (by omega) (by omega) (by omega) (by omega) (by omega) (by omega) (by omega) (by omega)
        refine br_c (fun le => nm_r (nI_1 _) (fin _ _ (Or.inr ⟨c0, List.mem_append_left _ hc0, rfl, rfl, ?_⟩))) (fun gt => nm_r (nI_1 _) (fin _ _ (Or.inr ⟨c, List.mem_append_right _ (List.mem_singleton.mpr rfl), rfl, rfl, ?_⟩)))
        · intro c' hc'
          rcases List.mem_append.mp hc' with h | h
          · exact hm c' h
          · rw [List.mem_singleton.mp h]; exact cc.mp le
        · intro c' hc'
          rcases List.mem_append.mp hc' with h | h
          · have b' := mc_cb (bz := bz) hN ho (q4 c' h)
            refine mc_q2i (T := mc_zt W c0) (B := mc_sz tm bz c0) ?_ (hm c' h) (by omega) (by omega) (by omega)
            have : ¬ mc_zt W c0 * mc_sz tm bz c ≤ mc_zt W c * mc_sz tm bz c0 := fun h => gt (cc.mpr h)
            omega
          · rw [List.mem_singleton.mp h]; exact Int.le_refl _
  refine mc_lk N bz 0 (mc_I bI) th W tm hN ha (by omega) (mc_ci_lt hc) ?_
  have hbb := mc_bm (a := bI) (b := mc_zt tm c) (by omega) (by omega) (by omega) (by omega)
  have cb : mc_I bI * mc_I (mc_zt tm c) ≤ mc_I (mc_zt W c) ↔ bI * mc_zt tm c ≤ mc_zt W c := by
    rw [mc_I_mul, mc_I_le hbb.1 hbb.2 (by omega) (by omega)]
  refine br_c (fun le => key un ?_) (fun gt => key 1 (Or.inr ⟨rfl, c, List.mem_append_right _ (List.mem_singleton.mpr rfl), ?_⟩))
  · rcases q8 with ⟨e, h⟩ | ⟨e, c', h1, h2⟩
    · refine Or.inl ⟨e, fun c' hc' => ?_⟩
      rcases List.mem_append.mp hc' with h' | h'
      · exact h c' h'
      · rw [List.mem_singleton.mp h']; exact cb.mp le
    · exact Or.inr ⟨e, c', List.mem_append_left _ h1, h2⟩
  · have : ¬ bI * mc_zt tm c ≤ mc_zt W c := fun h => gt (cb.mpr h)
    omega
def mc_bs (t b : Int) (c : List Nat) : Prop := mc_zt W c * b = t * mc_sz tm bz c
def mc_mq (t b : Int) (L : List (List Nat)) (q : Nat) : Prop := ∃ c ∈ L, mc_bs bz W tm t b c ∧ ∃ e ∈ mc_cy c, 6 * e.1 + e.2 = q
def mc_pq (t b : Int) (L : List (List Nat)) (i : Nat) : Prop := ∃ c ∈ L, mc_bs bz W tm t b c ∧ i ∈ c
def mc_Q2 (t b : Int) (L : List (List Nat)) (fo tp bo pn _un : Int32) (ma : Nat → Int32) : Prop :=
  fo = nI L.length ∧ tp = mc_I t ∧ bo = mc_I b ∧ (∀ q, q < 36 → (ma q = 1 ∧ mc_mq bz W tm t b L q) ∨ (ma q = 0 ∧ ¬ mc_mq bz W tm t b L q)) ∧ (∀ i, i < 32 → (bt pn i = true ↔ mc_pq bz W tm t b L i))
theorem mc_LK2 {t b : Int} (hN : N ≤ 6) (ho : mc_oy W th tm) (ht : -1000 ≤ t ∧ t ≤ 1000) (hb : -1000 ≤ b ∧ b ≤ 1000) (bd : Int32) : mc_LK N bz 1 bd th W tm (mc_Q2 bz W tm t b) := by
  intro L c fo tp bo pn un ma wy nx hc ha hL hq post hp
  obtain ⟨q1, q2, q3, q4, q5⟩ := hq
  subst q1 q2 q3
  have bc := mc_cb (bz := bz) hN ho hc
  have hll : (L ++ [c]).length = L.length + 1 := by simp
  have mql : ∀ q, mc_mq bz W tm t b (L ++ [c]) q ↔ mc_mq bz W tm t b L q ∨ (mc_bs bz W tm t b c ∧ ∃ e ∈ mc_cy c, 6 * e.1 + e.2 = q) := by
    intro q
    constructor
    · rintro ⟨c', h1, h2⟩
      rcases List.mem_append.mp h1 with h | h
      · exact Or.inl ⟨c', h, h2⟩
      · rw [List.mem_singleton.mp h] at h2; exact Or.inr h2
    · rintro (⟨c', h1, h2⟩ | h)
      · exact ⟨c', List.mem_append_left _ h1, h2⟩
      · exact ⟨c, List.mem_append_right _ (List.mem_singleton.mpr rfl), h⟩
  have pql : ∀ i, mc_pq bz W tm t b (L ++ [c]) i ↔ mc_pq bz W tm t b L i ∨ (mc_bs bz W tm t b c ∧ i ∈ c) := by
    intro q
    constructor
    · rintro ⟨c', h1, h2⟩
      rcases List.mem_append.mp h1 with h | h
      · exact Or.inl ⟨c', h, h2⟩
      · rw [List.mem_singleton.mp h] at h2; exact Or.inr h2
    · rintro (⟨c', h1, h2⟩ | h)
      · exact ⟨c', List.mem_append_left _ h1, h2⟩
      · exact ⟨c, List.mem_append_right _ (List.mem_singleton.mpr rfl), h⟩
  have cc : mc_I (mc_zt W c) * mc_I b = mc_I t * mc_I (mc_sz tm bz c) ↔ mc_bs bz W tm t b c := mc_ceq (by omega) (by omega) (by omega) (by omega) (by omega) (by omega) (by omega) (by omega)
  have key : ∀ un', wY_look_78 post (mc_I (mc_zt W c)) (mc_I (mc_sz tm bz c)) (nI N) (nI c.length) bz (nI L.length) (mc_I t) (mc_I b) pn 1 bd un' th W tm wy nx ma := by
    intro un'
    refine br_f (by decide) (br_c (fun e => mc_mk N bz 1 bd th W tm hN ha (by omega) (mc_ci_lt hc) (fun pn' ma' h1 h2 h3 => br_f (by decide) (nm_r (nI_1 _) (hp _ _ _ _ _ _ ⟨by rw [hll], rfl, rfl, fun q hq => ?_, fun i hi => ?_⟩)))) (fun ne => br_f (by decide) (nm_r (nI_1 _) (hp _ _ _ _ _ _ ⟨by rw [hll], rfl, rfl, fun q hq => ?_, fun i hi => ?_⟩))))
    · rw [mql]
      by_cases hin : ∃ e ∈ mc_cy c, 6 * e.1 + e.2 = q
      · exact Or.inl ⟨h2 q hin, Or.inr ⟨cc.mp e, hin⟩⟩
      · rw [h3 q hin]
        rcases q4 q hq with ⟨a1, a2⟩ | ⟨a1, a2⟩
        · exact Or.inl ⟨a1, Or.inl a2⟩
        · exact Or.inr ⟨a1, fun h => h.elim a2 (fun h => hin h.2)⟩
    · rw [h1 i hi, q5 i hi, pql]
      exact ⟨fun h => h.imp id (fun h => ⟨cc.mp e, h⟩), fun h => h.imp id (fun h => h.2)⟩
    · rw [mql]
      rcases q4 q hq with ⟨a1, a2⟩ | ⟨a1, a2⟩
      · exact Or.inl ⟨a1, Or.inl a2⟩
      · exact Or.inr ⟨a1, fun h => h.elim a2 (fun h => ne (cc.mpr h.1))⟩
    · rw [q5 i hi, pql]
      exact ⟨Or.inl, fun h => h.elim id (fun h => absurd (cc.mpr h.1) ne)⟩
  refine mc_lk N bz 1 bd th W tm hN ha (by omega) (mc_ci_lt hc) ?_
  exact br_c (fun _ => key un) (fun _ => key 1)
end MC08b
