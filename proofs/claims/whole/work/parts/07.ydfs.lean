section MC07
/-! the reference's search: its way as a list of points -/
def mc_at (wy : Nat → Int32) (p : List Nat) : Prop := ∀ i, i < p.length → wy i = nI (p.getD i 0)
theorem mc_at_app {wy : Nat → Int32} {p : List Nat} {v : Nat} (h : mc_at wy p) : mc_at (upd wy p.length (nI v)) (p ++ [v]) := by
  intro i hi
  rw [List.length_append, List.length_singleton] at hi
  by_cases e : i = p.length
  · subst e
    rw [mc_us]
    simp
  · rw [mc_un e, h i (by omega)]
    congr 1
    simp only [List.getD_eq_getElem?_getD]
    rw [List.getElem?_append_left (by omega)]
theorem mc_at_congr {wy wy' : Nat → Int32} {p : List Nat} (h : mc_at wy p) (e : ∀ i, i < p.length → wy' i = wy i) : mc_at wy' p := fun i hi => (e i hi).trans (h i hi)
theorem mc_hd_getD (p : List Nat) : mc_hd p 0 = p.getD 0 0 := by cases p <;> rfl
theorem mc_getD_mem {p : List Nat} {i : Nat} (h : i < p.length) : p.getD i 0 ∈ p := by
  rw [List.getD_eq_getElem?_getD, List.getElem?_eq_getElem h]
  exact List.getElem_mem h
theorem mc_mem_getD {p : List Nat} {v : Nat} (h : v ∈ p) : ∃ i, i < p.length ∧ p.getD i 0 = v := by
  obtain ⟨i, hi, e⟩ := List.getElem_of_mem h
  exact ⟨i, hi, by rw [List.getD_eq_getElem?_getD, List.getElem?_eq_getElem hi]; exact e⟩
variable (N : Nat) (bz mk bd : Int32) (th W tm : Nat → Int32)
theorem mc_onw {post : Int32 → Prop} {fo tp bo pn un : Int32} {wy nx ma : Nat → Int32} {p : List Nat} {v : Nat} (ha : mc_at wy p) (hl : p.length ≤ 6) (hp : ∀ x ∈ p, x < 100) (hv : v < 100) (h1 : v ∈ p → post 1) (h0 : ¬ v ∈ p → post 0) :
    ∀ m i, i + m = p.length → (∀ j, j < i → p.getD j 0 ≠ v) → wY_isOnWay_2 post (nI v) (nI N) (nI p.length) bz fo tp bo pn mk bd un th W tm wy nx ma (m + 1) (nI i) := by
  intro m
  induction m with
  | zero =>
    intro i hi hq
    have e : i = p.length := by omega
    subst e
    refine br_t (nI_le (Nat.le_refl _) (by omega)) (h0 (fun hm => ?_))
    obtain ⟨j, hj, e⟩ := mc_mem_getD hm
    exact hq j hj e
  | succ m ih =>
    intro i hi hq
    have hc : (nI i).toNatClampNeg = i := nI_clamp (by omega)
    have hx := hp _ (mc_getD_mem (p := p) (i := i) (by omega))
    have ce : wy (nI i).toNatClampNeg = nI v ↔ p.getD i 0 = v := by
      rw [hc, ha i (by omega), nI_eq (by omega) (by omega)]
    refine br_f (nI_ge (by omega) (by omega)) ⟨vp_in_nI (by omega) (by omega), br_c (fun e => h1 ?_) (fun ne => nm_r (nI_1 i) (ih (i + 1) (by omega) (fun j hj => ?_)))⟩
    · rw [← ce.mp e]
      exact mc_getD_mem (by omega)
    · by_cases e : j = i
      · subst e
        exact fun e => ne (ce.mpr e)
      · exact hq j (by omega)
def mc_LK (Q : List (List Nat) → Int32 → Int32 → Int32 → Int32 → Int32 → (Nat → Int32) → Prop) : Prop :=
  ∀ (L : List (List Nat)) (c : List Nat) (fo tp bo pn un : Int32) (ma wy nx : Nat → Int32), mc_ci (mc_A N (mc_E th)) c → mc_at wy c → L.length ≤ 300000 → Q L fo tp bo pn un ma → ∀ post : SY → Prop,
    (∀ (fo' tp' bo' pn' un' : Int32) (ma' : Nat → Int32), Q (L ++ [c]) fo' tp' bo' pn' un' ma' → post (nI N, nI c.length, bz, fo', tp', bo', pn', mk, bd, un', th, W, tm, wy, nx, ma')) →
    wpY_look post (nI N, nI c.length, bz, fo, tp, bo, pn, mk, bd, un, th, W, tm, wy, nx, ma)
theorem mc_go {post : SY → Prop} {fo tp bo pn un : Int32} {wy nx ma : Nat → Int32} {p : List Nat} {f j d : Nat} (hN : N ≤ 6) (hd : p.length = d + 1) (hl : p.length ≤ 6) (hg : mc_gd N (mc_E th) f p) (ha : mc_at wy p) (hn : nx d = nI j) (hj : j ≤ N)
    (hend : j = N → post (nI N, nI d, bz, fo, tp, bo, pn, mk, bd, un, th, W, tm, wy, upd nx d (nI (j + 1)), ma))
    (hskip : j < N → mc_E th (mc_la p) j = false ∨ (j ≠ f ∧ ¬ (f < j ∧ ¬ j ∈ p)) → post (nI N, nI p.length, bz, fo, tp, bo, pn, mk, bd, un, th, W, tm, wy, upd nx d (nI (j + 1)), ma))
    (hlook : j < N → mc_E th (mc_la p) j = true → j = f → ∀ post' : SY → Prop, (∀ (fo' tp' bo' pn' un' : Int32) (ma' : Nat → Int32), post (nI N, nI p.length, bz, fo', tp', bo', pn', mk, bd, un', th, W, tm, wy, upd nx d (nI (j + 1)), ma') → post' (nI N, nI p.length, bz, fo', tp', bo', pn', mk, bd, un', th, W, tm, wy, upd nx d (nI (j + 1)), ma')) → wpY_look post' (nI N, nI p.length, bz, fo, tp, bo, pn, mk, bd, un, th, W, tm, wy, upd nx d (nI (j + 1)), ma))
    (hpush : j < N → mc_E th (mc_la p) j = true → f < j → ¬ j ∈ p → post (nI N, nI (p.length + 1), bz, fo, tp, bo, pn, mk, bd, un, th, W, tm, upd wy p.length (nI j), upd (upd nx d (nI (j + 1))) p.length 0, ma)) :
    wpY_go post (nI N, nI p.length, bz, fo, tp, bo, pn, mk, bd, un, th, W, tm, wy, nx, ma) := by
  obtain ⟨g1, g2, g3, g4, g5⟩ := hg
  have hla : wy d = nI (mc_la p) := by
    rw [ha d (by omega)]
    unfold mc_la
    rw [hd]
    rfl
  have hlm : mc_la p < N := by
    refine g4 _ ?_
    unfold mc_la
    exact mc_getD_mem (by omega)
  have h0 : wy 0 = nI f := by rw [ha 0 (by omega), ← mc_hd_getD, g2]
  have hfN : f < N := by
    refine g4 _ ?_
    rw [← g2, mc_hd_getD]
    exact mc_getD_mem (by omega)
  have ed : nI p.length - 1 = nI d := by rw [hd]; exact nI_pred d
  have hcd : (nI d).toNatClampNeg = d := nI_clamp (by omega)
  have hcl : (nI p.length).toNatClampNeg = p.length := nI_clamp (by omega)
  have hin : vp_in (nI d) 7 := vp_in_nI (by omega) (by omega)
  have hinl : vp_in (nI p.length) 7 := vp_in_nI (by omega) (by omega)
  have ei : 6 * nI (mc_la p) + nI j = nI (6 * mc_la p + j) := by
    rw [show 6 * nI (mc_la p) = nI (6 * mc_la p) from mc_mulN 6 _, nI_add]
  have hci : (nI (6 * mc_la p + j)).toNatClampNeg = 6 * mc_la p + j := nI_clamp (by omega)
  unfold wpY_go
  simp only [ed, hcd]
  refine ⟨hin, nm_r hla ⟨hin, nm_r hn ⟨hin, hin, nm_r (e' := upd nx d (nI (j + 1))) (by rw [hn, nI_1]) ?_⟩⟩⟩
  refine br_c (fun hlt => ?_) (fun hge => nm_e (hend ?_))
  · rw [nI_ltI (by omega) (by omega)] at hlt
    rw [ei, hci, h0]
    refine ⟨vp_in_nI (by omega) (by omega), br_c (fun z => hskip hlt (Or.inl ?_)) (fun nz => ?_)⟩
    · unfold mc_E
      rw [decide_eq_false_iff_not]
      exact fun h => h z
    · have hE : mc_E th (mc_la p) j = true := mc_E_t.mpr nz
      refine br_c (fun e => ?_) (fun ne => br_c (fun le => hskip hlt (Or.inr ?_)) (fun gt => ?_))
      · rw [nI_eq (by omega) (by omega)] at e
        exact hlook hlt hE e _ (fun _ _ _ _ _ _ h => h)
      · rw [nI_eq (by omega) (by omega)] at ne
        rw [nI_leI (by omega) (by omega)] at le
        exact ⟨ne, by omega⟩
      · rw [nI_eq (by omega) (by omega)] at ne
        rw [nI_leI (by omega) (by omega)] at gt
        refine ⟨p.length + 1, mc_onw N bz mk bd th W tm ha hl (fun x hx => by have := g4 x hx; omega) (by omega) (fun hm => br_f (by decide) (hskip hlt (Or.inr ⟨ne, fun h => h.2 hm⟩))) (fun hm => br_t rfl ?_) p.length 0 (by omega) (fun j hj => by omega)⟩
        rw [hcl]
        exact ⟨hinl, nm_e ⟨hinl, nm_e (nm_r (nI_1 p.length) (hpush hlt hE (by omega) hm))⟩⟩
  · rw [nI_ltI (by omega) (by omega)] at hge
    omega
/-! the search from a way on -/
def mc_KK : Nat → Nat
  | 0 => 0
  | k + 1 => 7 + k * mc_KK k
def mc_ct (f : Nat) (p : List Nat) (j r : Nat) : Nat := ((List.range' j r).filter (fun v => decide (f < v ∧ ¬ v ∈ p))).length
theorem mc_ct_s (f : Nat) (p : List Nat) (j r : Nat) : mc_ct f p j (r + 1) = (if f < j ∧ ¬ j ∈ p then 1 else 0) + mc_ct f p (j + 1) r := by
  unfold mc_ct
  rw [List.range'_succ, List.filter_cons]
  by_cases h : f < j ∧ ¬ j ∈ p
  · rw [if_pos (decide_eq_true h), if_pos h, List.length_cons, Nat.add_comm]
  · rw [if_neg (by rw [decide_eq_true_eq]; exact h), if_neg h, Nat.zero_add]
theorem mc_ct_le {f : Nat} {p : List Nat} (hp : p.Nodup) (hx : ∀ x ∈ p, x < N) (hN : N ≤ 6) : p.length + mc_ct f p 0 N ≤ 6 := by
  have h : (p ++ (List.range' 0 N).filter (fun v => decide (f < v ∧ ¬ v ∈ p))).Nodup := by
    rw [List.nodup_append]
    refine ⟨hp, List.Pairwise.filter _ List.nodup_range', ?_⟩
    intro a ha b hb e
    rw [List.mem_filter, decide_eq_true_eq] at hb
    exact hb.2.2 (e ▸ ha)
  have := mc_ph (n := 6) h (fun x hx' => by
    rcases List.mem_append.mp hx' with m | m
    · have := hx x m; omega
    · rw [List.mem_filter, List.mem_range'_1] at m
      omega)
  rw [List.length_append] at this
  exact this
variable (Q : List (List Nat) → Int32 → Int32 → Int32 → Int32 → Int32 → (Nat → Int32) → Prop) (post : SY → Prop) (J : Int32 → Int32 → Int32 → Int32 → Int32 → Int32 → Int32 → Int32 → Int32 → Int32 → Int32 → (Nat → Int32) → (Nat → Int32) → (Nat → Int32) → (Nat → Int32) → (Nat → Int32) → (Nat → Int32) → Prop) (x1 : Int32)
def mc_H (s d : Nat) (L : List (List Nat)) (wy nx : Nat → Int32) : Prop :=
  ∀ (fo tp bo pn un : Int32) (ma : Nat → Int32), Q L fo tp bo pn un ma → ∀ fuel, 14000 < s + fuel → wY_goThrough_36 post J x1 fuel (nI s) (nI N) (nI d) bz fo tp bo pn mk bd un th W tm wy nx ma
def mc_DS (f k : Nat) : Prop := ∀ p, mc_gd N (mc_E th) f p → p.length + k = 6 → ∀ r j s L wy nx, j + r = N → mc_at wy p → nx (p.length - 1) = nI j → s + r + 1 + mc_ct f p j r * mc_KK k ≤ 14000 → L.length + ((List.range' j r).flatMap (mc_br (mc_E th) f (mc_cs N (mc_E th) f k) p)).length ≤ 300000 →
    (∀ s' wy' nx', s' ≤ s + r + 1 + mc_ct f p j r * mc_KK k → (∀ i, i < p.length → wy' i = wy i) → (∀ i, i + 1 < p.length → nx' i = nx i) → mc_H N bz mk bd th W tm Q post J x1 s' (p.length - 1) (L ++ (List.range' j r).flatMap (mc_br (mc_E th) f (mc_cs N (mc_E th) f k) p)) wy' nx') →
    mc_H N bz mk bd th W tm Q post J x1 s p.length L wy nx
theorem mc_ds_s {f k : Nat} (hN : N ≤ 6) (hQ : mc_LK N bz mk bd th W tm Q) (ihk : ∀ k', k = k' + 1 → mc_DS N bz mk bd th W tm Q post J x1 f k') : mc_DS N bz mk bd th W tm Q post J x1 f k := by
  intro p hg hk r
  have hlen : 1 ≤ p.length := by
    rcases Nat.eq_zero_or_pos p.length with h | h
    · exact absurd (List.length_eq_zero_iff.mp h) hg.1
    · exact h
  obtain ⟨d, hd⟩ : ∃ d, p.length = d + 1 := ⟨p.length - 1, by omega⟩
  have hd1 : p.length - 1 = d := by omega
  rw [hd1]
  induction r with
  | zero =>
    intro j s L wy nx hj ha hn hs hL hH fo tp bo pn un ma hq fuel hf
    obtain ⟨fuel, rfl⟩ : ∃ g, fuel = g + 1 := ⟨fuel - 1, by omega⟩
    have e0 : L ++ (List.range' j 0).flatMap (mc_br (mc_E th) f (mc_cs N (mc_E th) f k) p) = L := by simp
    rw [e0] at hH
    refine br_f (nI_ge (b := 14000) (by omega) (by omega)) (br_f (nI_nle (by omega) (by omega)) (mc_go N bz mk bd th W tm hN hd (by omega) hg ha hn (by omega) (fun _ => nm_r (nI_1 s) (hH (s + 1) wy _ (by omega) (fun i _ => rfl) (fun i hi => mc_un (by omega)) fo tp bo pn un ma hq fuel (by omega))) (fun h => by omega) (fun h => by omega) (fun h => by omega)))
  | succ r ihr =>
    intro j s L wy nx hj ha hn hs hL hH fo tp bo pn un ma hq fuel hf
    obtain ⟨fuel, rfl⟩ : ∃ g, fuel = g + 1 := ⟨fuel - 1, by omega⟩
    have ef : (List.range' j (r + 1)).flatMap (mc_br (mc_E th) f (mc_cs N (mc_E th) f k) p) = mc_br (mc_E th) f (mc_cs N (mc_E th) f k) p j ++ (List.range' (j + 1) r).flatMap (mc_br (mc_E th) f (mc_cs N (mc_E th) f k) p) := by
      rw [List.range'_succ, List.flatMap_cons]
    have ec := mc_ct_s f p j r
    rw [ef] at hL hH
    rw [List.length_append] at hL
    have hcK : mc_ct f p (j + 1) r * mc_KK k ≤ mc_ct f p j (r + 1) * mc_KK k := Nat.mul_le_mul_right _ (by rw [ec]; exact Nat.le_add_left _ _)
    refine br_f (nI_ge (b := 14000) (by omega) (by omega)) (br_f (nI_nle (by omega) (by omega)) (mc_go N bz mk bd th W tm hN hd (by omega) hg ha hn (by omega) (fun h => by omega) (fun _ hsk => nm_r (nI_1 s) ?_) (fun _ hE hjf post' hp' => ?_) (fun hjN hE hfj hjp => nm_r (nI_1 s) ?_)))
    · have eb : mc_br (mc_E th) f (mc_cs N (mc_E th) f k) p j = [] := by
        unfold mc_br
        rcases hsk with h | h
        · rw [if_neg (by rw [h]; decide)]
        · split
          · rw [if_neg h.1, if_neg h.2]
          · rfl
      rw [eb, List.nil_append] at hH
      rw [eb, List.length_nil] at hL
      exact ihr (j + 1) (s + 1) L wy (upd nx d (nI (j + 1))) (by omega) ha mc_us (by omega) (by omega) (fun s' wy' nx' h1 h2 h3 => hH s' wy' nx' (by omega) h2 (fun i hi => (h3 i hi).trans (mc_un (by omega)))) fo tp bo pn un ma hq fuel (by omega)
    · have eb : mc_br (mc_E th) f (mc_cs N (mc_E th) f k) p j = [p] := by
        unfold mc_br
        rw [if_pos hE, if_pos hjf]
      rw [eb, ← List.append_assoc] at hH
      rw [eb, List.length_singleton] at hL
      refine hQ L p fo tp bo pn un ma wy _ (mc_gd_ci hg (hjf ▸ hE)) ha (by omega) hq post' (fun fo' tp' bo' pn' un' ma' hq' => hp' fo' tp' bo' pn' un' ma' (nm_r (nI_1 s) ?_))
      exact ihr (j + 1) (s + 1) (L ++ [p]) wy (upd nx d (nI (j + 1))) (by omega) ha mc_us (by omega) (by rw [List.length_append, List.length_singleton]; omega) (fun s' wy' nx' h1 h2 h3 => hH s' wy' nx' (by omega) h2 (fun i hi => (h3 i hi).trans (mc_un (by omega)))) fo' tp' bo' pn' un' ma' hq' fuel (by omega)
    · have hg' := mc_gd_s hg hE hjN hjp
      have hl' : (p ++ [j]).length = p.length + 1 := by simp
      have hph := mc_ph hg'.2.2.1 hg'.2.2.2.1
      rw [hl'] at hph
      obtain ⟨k', rfl⟩ : ∃ k', k = k' + 1 := ⟨k - 1, by omega⟩
      have eb : mc_br (mc_E th) f (mc_cs N (mc_E th) f (k' + 1)) p j = (List.range' 0 N).flatMap (mc_br (mc_E th) f (mc_cs N (mc_E th) f k') (p ++ [j])) := by
        unfold mc_br
        rw [if_pos hE, if_neg (by omega), if_pos ⟨hfj, hjp⟩, ← List.range_eq_range']
        rfl
      rw [eb] at hL hH
      rw [← List.append_assoc] at hH
      have hct := mc_ct_le N (f := f) hg'.2.2.1 hg'.2.2.2.1 hN
      rw [hl'] at hct
      have hK1 : mc_ct f (p ++ [j]) 0 N * mc_KK k' ≤ k' * mc_KK k' := Nat.mul_le_mul_right _ (by omega)
      have hKK : mc_KK (k' + 1) = 7 + k' * mc_KK k' := rfl
      rw [if_pos ⟨hfj, hjp⟩] at ec
      have hcK2 : mc_ct f p j (r + 1) * mc_KK (k' + 1) = mc_KK (k' + 1) + mc_ct f p (j + 1) r * mc_KK (k' + 1) := by
        rw [ec, Nat.add_mul, Nat.one_mul]
      have hm : mc_H N bz mk bd th W tm Q post J x1 (s + 1) (p ++ [j]).length L (upd wy p.length (nI j)) (upd (upd nx d (nI (j + 1))) p.length 0) := by
        refine ihk k' rfl (p ++ [j]) hg' (by omega) N 0 (s + 1) L _ _ (by omega) (mc_at_app ha) ?_ (by omega) (by omega) (fun s' wy' nx' h1 h2 h3 => ?_)
        · rw [hl', Nat.add_sub_cancel]
          exact mc_us
        · rw [hl'] at h2 h3
          rw [hl', Nat.add_sub_cancel]
          exact ihr (j + 1) s' _ wy' nx' (by omega) (mc_at_congr ha (fun i hi => (h2 i (by omega)).trans (mc_un (by omega)))) ((h3 d (by omega)).trans ((mc_un (by omega)).trans mc_us)) (by omega) (by rw [List.length_append]; omega) (fun s'' wy'' nx'' g1 g2 g3 => hH s'' wy'' nx'' (by omega) (fun i hi => (g2 i hi).trans ((h2 i (by omega)).trans (mc_un (by omega)))) (fun i hi => (g3 i hi).trans ((h3 i (by omega)).trans ((mc_un (by omega)).trans (mc_un (by omega))))))
      have hm' := hm fo tp bo pn un ma hq fuel (by omega)
      rw [hl'] at hm'
      exact hm'
theorem mc_dfs {f : Nat} (hN : N ≤ 6) (hQ : mc_LK N bz mk bd th W tm Q) : ∀ k, mc_DS N bz mk bd th W tm Q post J x1 f k := by
  intro k
  induction k with
  | zero => exact mc_ds_s N bz mk bd th W tm Q post J x1 hN hQ (fun k' e => by omega)
  | succ k ih =>
    refine mc_ds_s N bz mk bd th W tm Q post J x1 hN hQ (fun k' e => ?_)
    obtain rfl : k = k' := by omega
    exact ih
theorem mc_KK5 : mc_KK 5 = 455 := by decide
/-- one start point -/
theorem mc_fst {f : Nat} (hN : N ≤ 6) (hQ : mc_LK N bz mk bd th W tm Q) (hf : f < N) {L : List (List Nat)} (hL : L.length + (mc_cs N (mc_E th) f 6 [f]).length ≤ 300000) {wy nx : Nat → Int32} (hw : wy 0 = nI f) (hn : nx 0 = 0)
    (hJ : ∀ (fo tp bo pn un : Int32) (ma wy nx : Nat → Int32), Q (L ++ mc_cs N (mc_E th) f 6 [f]) fo tp bo pn un ma → ∀ y, y = x1 + 1 → J y (nI N) 0 bz fo tp bo pn mk bd un th W tm wy nx ma) :
    ∀ (fo tp bo pn un : Int32) (ma : Nat → Int32), Q L fo tp bo pn un ma → wY_goThrough_36 post J x1 14001 0 (nI N) 1 bz fo tp bo pn mk bd un th W tm wy nx ma := by
  intro fo tp bo pn un ma hq
  have hct := mc_ct_le N (f := f) (p := [f]) (by simp) (fun x hx => by rw [List.mem_singleton.mp hx]; exact hf) hN
  have hK : mc_ct f [f] 0 N * mc_KK 5 ≤ 5 * 455 := by
    rw [mc_KK5]
    refine Nat.mul_le_mul_right _ ?_
    rw [List.length_singleton] at hct
    omega
  have ec : mc_cs N (mc_E th) f 6 [f] = (List.range' 0 N).flatMap (mc_br (mc_E th) f (mc_cs N (mc_E th) f 5) [f]) := by
    rw [← List.range_eq_range']
    rfl
  rw [ec] at hL hJ
  refine mc_dfs N bz mk bd th W tm Q post J x1 hN hQ 5 [f] (mc_gd_1 hf) rfl N 0 0 L wy nx (by omega) ?_ hn (by omega) hL (fun s' wy' nx' h1 h2 h3 => ?_) fo tp bo pn un ma hq 14001 (by omega)
  · intro i hi
    rw [List.length_singleton] at hi
    obtain rfl : i = 0 := by omega
    exact hw
  · intro fo tp bo pn un ma hq fuel hf
    obtain ⟨fuel, rfl⟩ : ∃ g, fuel = g + 1 := ⟨fuel - 1, by omega⟩
    exact br_f (nI_ge (b := 14000) (by omega) (by omega)) (br_t (Int32.le_refl _) (hJ fo tp bo pn un ma wy' nx' hq))
end MC07
section MC07b
variable (N : Nat) (bz mk bd : Int32) (th W tm : Nat → Int32) (Q : List (List Nat) → Int32 → Int32 → Int32 → Int32 → Int32 → (Nat → Int32) → Prop) (post : SY → Prop)
theorem mc_g7 (hN : N ≤ 6) (hQ : mc_LK N bz mk bd th W tm Q) : ∀ m f L, f + m = N → L.length + ((List.range' f m).flatMap (fun f => mc_cs N (mc_E th) f 6 [f])).length ≤ 300000 →
    (∀ (dp fo tp bo pn un : Int32) (ma wy nx : Nat → Int32), Q (L ++ (List.range' f m).flatMap (fun f => mc_cs N (mc_E th) f 6 [f])) fo tp bo pn un ma → post (nI N, dp, bz, fo, tp, bo, pn, mk, bd, un, th, W, tm, wy, nx, ma)) →
    ∀ (dp fo tp bo pn un : Int32) (ma wy nx : Nat → Int32), Q L fo tp bo pn un ma → wY_goThrough_7 post (m + 1) (nI f) (nI N) dp bz fo tp bo pn mk bd un th W tm wy nx ma := by
  intro m
  induction m with
  | zero =>
    intro f L hf hL hp dp fo tp bo pn un ma wy nx hq
    have e : f = N := by omega
    subst e
    refine br_t (nI_le (Nat.le_refl _) (by omega)) (hp dp fo tp bo pn un ma wy nx ?_)
    have e0 : L ++ (List.range' f 0).flatMap (fun g => mc_cs f (mc_E th) g 6 [g]) = L := by simp
    rw [e0]
    exact hq
  | succ m ih =>
    intro f L hf hL hp dp fo tp bo pn un ma wy nx hq
    rw [List.range'_succ, List.flatMap_cons] at hL hp
    rw [List.length_append] at hL
    rw [← List.append_assoc] at hp
    refine br_f (nI_ge (by omega) (by omega)) (nm_e (nm_e ⟨14001, mc_fst N bz mk bd th W tm Q post _ _ hN hQ (by omega) (L := L) (by omega) mc_us mc_us (fun fo tp bo pn un ma wy nx hq' => nm_r (nI_1 f) ?_) fo tp bo pn un ma hq⟩))
    exact ih (f + 1) _ (by omega) (by rw [List.length_append]; omega) hp 0 fo tp bo pn un ma wy nx hq'
theorem mc_gT (hN : N ≤ 6) (hQ : mc_LK N bz mk bd th W tm Q) {dp fo tp bo pn un : Int32} {ma wy nx : Nat → Int32} (hq : Q [] 0 tp bo pn un ma)
    (hp : ∀ (dp fo tp bo pn un : Int32) (ma wy nx : Nat → Int32), Q (mc_al N (mc_E th)) fo tp bo pn un ma → post (nI N, dp, bz, fo, tp, bo, pn, mk, bd, un, th, W, tm, wy, nx, ma)) :
    wpY_goThrough post (nI N, dp, bz, fo, tp, bo, pn, mk, bd, un, th, W, tm, wy, nx, ma) := by
  have hl := mc_al_len (n := N) (E := mc_E th) hN
  have el : mc_al N (mc_E th) = (List.range' 0 N).flatMap (fun f => mc_cs N (mc_E th) f 6 [f]) := by
    rw [← List.range_eq_range']
    rfl
  rw [el] at hl hp
  exact ⟨N + 1, mc_g7 N bz mk bd th W tm Q post hN hQ N 0 [] (by omega) (by rw [List.length_nil]; omega) (by rw [List.nil_append]; exact hp) dp 0 tp bo pn un ma wy nx hq⟩
end MC07b
