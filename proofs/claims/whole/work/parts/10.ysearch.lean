section MC10
/-! the reference's search in two passes, and its answers -/
variable (N : Nat) (bz : Int32) (th W tm : Nat → Int32)
theorem mc_lq_b {t b : Int} {L : List (List Nat)} (hN : N ≤ 6) (ho : mc_oy W th tm) (hL : ∀ c ∈ L, mc_ci (mc_A N (mc_E th)) c) (h : mc_lq bz W tm L t b) : -120 ≤ t ∧ t ≤ 120 ∧ 1 ≤ b ∧ b ≤ 30 := by
  rcases h with ⟨_, h1, h2⟩ | ⟨c, hc, h1, h2, _⟩
  · omega
  · have := mc_cb (bz := bz) hN ho (hL c hc)
    omega
def mc_sp (post : SY → Prop) : Prop := ∀ (dp pn un : Int32) (wy nx ma : Nat → Int32) (t b : Int), mc_lq bz W tm (mc_al N (mc_E th)) t b → (∀ q, q < 36 → (ma q = 1 ∧ mc_mq bz W tm t b (mc_al N (mc_E th)) q) ∨ (ma q = 0 ∧ ¬ mc_mq bz W tm t b (mc_al N (mc_E th)) q)) → (∀ i, i < 32 → (bt pn i = true ↔ mc_pq bz W tm t b (mc_al N (mc_E th)) i)) → post (nI N, dp, bz, nI (mc_al N (mc_E th)).length, mc_I t, mc_I b, pn, 1, -1000, un, th, W, tm, wy, nx, ma)
theorem mc_s43 {post : SY → Prop} {dp fo un : Int32} {wy nx : Nat → Int32} {t b : Int} (hN : N ≤ 6) (ho : mc_oy W th tm) (hl : mc_lq bz W tm (mc_al N (mc_E th)) t b) (hp : mc_sp N bz th W tm post) :
    ∀ m i (ma : Nat → Int32), i + m = 36 → (∀ q, q < i → ma q = 0) → wY_search_43 post (nI N) dp bz fo (mc_I t) (mc_I b) 0 1 (-1000) un (m + 1) (nI i) th W tm wy nx ma := by
  have bl := mc_lq_b N bz th W tm hN ho (fun c hc => mc_al_sound hc) hl
  intro m
  induction m with
  | zero =>
    intro i ma hi hm
    have e : i = 36 := by omega
    subst e
    refine br_t (nI_le (a := 36) (b := 36) (by omega) (by omega)) (mc_gT N bz 1 (-1000) th W tm (mc_Q2 bz W tm t b) _ hN (mc_LK2 N bz th W tm hN ho (by omega) (by omega) (-1000)) ⟨rfl, rfl, rfl, fun q hq => Or.inr ⟨hm q hq, ?_⟩, fun i hi => ?_⟩ (fun dp fo tp bo pn un ma wy nx hq => ?_))
    · rintro ⟨c, hc, _⟩
      exact nomatch hc
    · rw [b_0]
      constructor
      · intro h; exact nomatch h
      · rintro ⟨c, hc, _⟩
        exact nomatch hc
    · obtain ⟨q1, q2, q3, q4, q5⟩ := hq
      subst q1 q2 q3
      exact hp dp pn un wy nx ma t b hl q4 q5
  | succ m ih =>
    intro i ma hi hm
    refine br_f (nI_ge (b := 36) (by omega) (by omega)) ⟨vp_in_nI (by omega) (by omega), nm_r (e' := upd ma i 0) (by rw [nI_clamp (by omega), mc_b0]) (nm_r (nI_1 i) (ih (i + 1) _ (by omega) (fun q hq => ?_)))⟩
    by_cases e : q = i
    · rw [e, mc_us]
    · rw [mc_un e]
      exact hm q (by omega)
theorem mc_m1000 : mc_I (-1000) = -1000 := by decide
theorem mc_sr {post : SY → Prop} {dp b0 fo tp bo pn mk bd un : Int32} {wy nx ma : Nat → Int32} (hN : N ≤ 6) (ho : mc_oy W th tm) (hz : bz = 0 ∨ bz = 1) (hp : mc_sp N bz th W tm post) : wpY_search post (nI N, dp, b0, fo, tp, bo, pn, mk, bd, un, th, W, tm, wy, nx, ma) bz := by
  have hg : wpY_goThrough (fun u => match u with | (f_n, f_depth, f_byTime, f_found, f_top, f_bottom, _f_points, _f_marking, f_bound, f_under, a_there, a_weights, a_times, a_way, a_next, a_marked) => ∃ n43 : Nat, wY_search_43 post f_n f_depth f_byTime f_found f_top f_bottom 0 1 f_bound f_under n43 0 a_there a_weights a_times a_way a_next a_marked) (nI N, dp, bz, fo, 0, 1, pn, 0, -1000, un, th, W, tm, wy, nx, ma) := by
    rw [← mc_m1000]
    refine mc_gT N bz 0 (mc_I (-1000)) th W tm (mc_Q1 N bz th W tm (-1000) un pn ma) _ hN (mc_LK1 N bz th W tm hN ho (by omega)) ⟨rfl, rfl, rfl, (fun c hc => nomatch hc), ⟨0, 1, mc_I_0.symm, mc_I_1.symm, Or.inl ⟨rfl, rfl, rfl⟩⟩, Or.inl ⟨rfl, (fun c hc => nomatch hc)⟩⟩ (fun dp fo tp bo pn' un' ma' wy nx hq => ?_)
    obtain ⟨q1, q2, q3, q4, ⟨t, b, q5, q6, q7⟩, q8⟩ := hq
    subst q5 q6
    dsimp only
    rw [mc_m1000]
    exact ⟨37, mc_s43 N bz th W tm hN ho q7 hp 36 0 ma' (by omega) (fun q hq => by omega)⟩
  rcases hz with e | e
  · subst e; exact ⟨rfl, rfl, hg⟩
  · subst e; exact ⟨rfl, rfl, hg⟩
/-! Euclid -/
theorem mc_c27 {post : Int32 → Prop} {n dp fo tp bo pn mk bd un : Int32} {wy nx ma : Nat → Int32} : ∀ m k a b, k + m = 20 → a < 1000 → b < 1000 → 1 ≤ mc_eu m a b → post (nI (mc_eu m a b)) → wY_common_27 post n dp bz fo tp bo pn mk bd un th W tm wy nx ma (m + 1) (nI a) (nI b) (nI k) := by
  intro m
  induction m with
  | zero =>
    intro k a b hk ha hb h1 hp
    have e : k = 20 := by omega
    subst e
    exact br_t (nI_le (a := 20) (b := 20) (by omega) (by omega)) (br_t (nI_le (a := 1) (b := b) h1 (by omega)) hp)
  | succ m ih =>
    intro k a b hk ha hb h1 hp
    refine br_f (nI_ge (b := 20) (by omega) (by omega)) (br_c (fun z => ?_) (fun nz => br_f nz ⟨nz, nm_r (e' := nI (b % a)) ?_ (nm_r (nI_1 k) ?_)⟩))
    · rw [← nI_0, nI_eq (by omega) (by omega)] at z
      subst z
      exact nm_r (nI_1 k) (ih (k + 1) 0 b (by omega) (by omega) hb h1 hp)
    · rw [← nI_0, nI_eq (by omega) (by omega)] at nz
      exact pk_rem (by omega) (by omega) (by omega)
    · rw [← nI_0, nI_eq (by omega) (by omega)] at nz
      have e : mc_eu (m + 1) a b = mc_eu m (b % a) a := if_neg nz
      rw [e] at h1 hp
      have := Nat.mod_lt b (Nat.pos_of_ne_zero nz)
      exact ih (k + 1) (b % a) a (by omega) (by omega) ha h1 hp
theorem mc_cm {post : Int32 → Prop} {n dp fo pn mk bd un : Int32} {wy nx ma : Nat → Int32} {t : Int} {b : Nat} (ht : -120 ≤ t ∧ t ≤ 120) (hb : 1 ≤ b ∧ b ≤ 30) (hp : post (nI (Nat.gcd t.natAbs b))) : wpY_common post (n, dp, bz, fo, mc_I t, nI b, pn, mk, bd, un, th, W, tm, wy, nx, ma) := by
  have eg := mc_eu_gcd t.natAbs (by omega) b (by omega)
  have g0 := Nat.gcd_pos_of_pos_right t.natAbs hb.1
  have hw := fun (x : Int32) (ex : x = nI t.natAbs) => (show ∃ n27, wY_common_27 post n dp bz fo (mc_I t) (nI b) pn mk bd un th W tm wy nx ma n27 x (nI b) 0 from by
    rw [ex]
    exact ⟨21, mc_c27 bz th W tm 20 0 t.natAbs b (by omega) (by omega) (by omega) (by rw [eg]; exact g0) (by rw [eg]; exact hp)⟩)
  refine br_c (fun h => hw _ ?_) (fun h => nm_r (e' := nI t.natAbs) ?_ (hw _ rfl))
  · rw [← mc_I_0, mc_I_le (by omega) (by omega) (by omega) (by omega)] at h
    rw [← mc_I_nat, Int.natAbs_of_nonneg h]
  · rw [← mc_I_0, mc_I_le (by omega) (by omega) (by omega) (by omega)] at h
    rw [← mc_I_nat, mc_I_neg]
    congr 1
    omega
/-- the answer's value: upper or lower part of the best quotient in lowest terms -/
def mc_av (p1 : Int32) (r : Int32) : Prop := (mc_al N (mc_E th) = [] ∧ r = -1000) ∨ (¬ mc_al N (mc_E th) = [] ∧ ∃ (t : Int) (b : Int) (t' : Int) (b' g : Nat), mc_lq bz W tm (mc_al N (mc_E th)) t b ∧ 1 ≤ g ∧ 1 ≤ b' ∧ t = t' * g ∧ b = b' * g ∧ Nat.gcd t'.natAbs b' = 1 ∧ r = if p1 = 0 then nI b' else mc_I t')
theorem mc_an {post : Int32 → SY → Prop} {dp b0 fo tp bo pn mk bd un p1 : Int32} {wy nx ma : Nat → Int32} (hN : N ≤ 6) (ho : mc_oy W th tm) (hz : bz = 0 ∨ bz = 1) (hp : ∀ (r dp b0 fo tp bo pn mk bd un : Int32) (wy nx ma : Nat → Int32), mc_av N bz th W tm p1 r → post r (nI N, dp, b0, fo, tp, bo, pn, mk, bd, un, th, W, tm, wy, nx, ma)) : wpY_answer post (nI N, dp, b0, fo, tp, bo, pn, mk, bd, un, th, W, tm, wy, nx, ma) bz p1 := by
  unfold wpY_answer
  dsimp only
  refine mc_sr N bz th W tm hN ho hz (fun dp pn un wy nx ma t b hl hm hq => ?_)
  have hlen := mc_al_len (n := N) (E := mc_E th) hN
  have bl := mc_lq_b N bz th W tm hN ho (fun c hc => mc_al_sound hc) hl
  refine br_c (fun f0 => hp _ _ _ _ _ _ _ _ _ _ _ _ _ (Or.inl ⟨?_, rfl⟩)) (fun nf => ?_)
  · rw [← nI_0, nI_eq (by omega) (by omega)] at f0
    exact List.length_eq_zero_iff.mp f0
  · have hne : ¬ mc_al N (mc_E th) = [] := by
      intro e
      rw [e] at nf
      exact nf nI_0
    obtain ⟨bn, rfl⟩ : ∃ bn : Nat, b = (bn : Int) := ⟨b.toNat, by omega⟩
    obtain ⟨t', b', h1, h2, h3, h4⟩ := mc_div_gcd (t := t) (b := bn) (by omega)
    have g0 := Nat.gcd_pos_of_pos_right t.natAbs (n := bn) (by omega)
    have hgl : Nat.gcd t.natAbs bn ≤ bn := Nat.gcd_le_right _ (by omega)
    rw [mc_I_nat]
    refine mc_cm bz th W tm (by omega) (by omega) ?_
    generalize Nat.gcd t.natAbs bn = g at *
    have gne : ¬ nI g = 0 := nI_ne0 g0 (by omega)
    refine br_c (fun e => ⟨gne, hp _ _ _ _ _ _ _ _ _ _ _ _ _ (Or.inr ⟨hne, t, bn, t', b', g, hl, g0, h1, h2, by rw [h3]; exact Int.natCast_mul _ _, h4, ?_⟩)⟩) (fun ne => ⟨gne, hp _ _ _ _ _ _ _ _ _ _ _ _ _ (Or.inr ⟨hne, t, bn, t', b', g, hl, g0, h1, h2, by rw [h3]; exact Int.natCast_mul _ _, h4, ?_⟩)⟩)
    · rw [if_pos e, pk_div (by omega) (by omega) (by omega), h3, Nat.mul_div_cancel _ g0]
    · rw [if_neg ne, ← mc_I_nat g, mc_I_div (by omega) (by omega) (by omega) (by omega), h2, Int.mul_tdiv_cancel _ (by omega)]
end MC10
