section MC04
/-! bits: the family of kit/rows/BITS.to-paste, and one bit set or read -/
def bt (x : Int32) (i : Nat) : Bool := x.toBitVec.getLsbD i
theorem b_ext {x y : Int32} (h : ∀ i, i < 32 → bt x i = bt y i) : x = y := Int32.toBitVec_inj.mp (BitVec.eq_of_getLsbD_eq (fun i hi => h i hi))
theorem b_or (x y : Int32) (i : Nat) : bt (x ||| y) i = (bt x i || bt y i) := by unfold bt; rw [Int32.toBitVec_or, BitVec.getLsbD_or]
theorem b_and (x y : Int32) (i : Nat) : bt (x &&& y) i = (bt x i && bt y i) := by unfold bt; rw [Int32.toBitVec_and, BitVec.getLsbD_and]
theorem b_xor (x y : Int32) (i : Nat) : bt (x ^^^ y) i = (bt x i ^^ bt y i) := by unfold bt; rw [Int32.toBitVec_xor, BitVec.getLsbD_xor]
theorem b_big {x : Int32} {i : Nat} (h : 32 ≤ i) : bt x i = false := BitVec.getLsbD_of_ge _ _ h
theorem b_0 (i : Nat) : bt 0 i = false := BitVec.getLsbD_zero
theorem s_l : ∀ n, n < 32 → ((nI n &&& 31).toBitVec.smod 32).toNat = n := by decide +kernel
theorem b_shl (n : Nat) (hn : n < 32) (x : Int32) {i : Nat} (hi : i < 32) : bt (x <<< (nI n &&& 31)) i = (decide (n ≤ i) && bt x (i - n)) := by
  unfold bt
  rw [Int32.toBitVec_shiftLeft]
  show (x.toBitVec <<< ((nI n &&& 31).toBitVec.smod 32).toNat).getLsbD i = _
  rw [s_l n hn, BitVec.getLsbD_shiftLeft]
  rcases Nat.lt_or_ge i n with h | h
  · simp [h, Nat.not_le.mpr h]
  · simp [hi, h, Nat.not_lt.mpr h]
theorem b_sshr (n : Nat) (hn : n < 32) (x : Int32) {i : Nat} (hi : i < 32) : bt (x >>> (nI n &&& 31)) i = if n + i < 32 then bt x (n + i) else bt x 31 := by
  unfold bt
  rw [Int32.toBitVec_shiftRight]
  show (x.toBitVec.sshiftRight ((nI n &&& 31).toBitVec.smod 32).toNat).getLsbD i = _
  rw [s_l n hn, BitVec.getLsbD_sshiftRight, BitVec.msb_eq_getLsbD_last]
  simp [hi]
theorem mc_bit1 : ∀ i, i < 32 → bt 1 i = decide (i = 0) := by decide +kernel
theorem mc_set (x : Int32) {u i : Nat} (hu : u < 32) (hi : i < 32) : bt (x ||| ((1 : Int32) <<< (nI u &&& 31))) i = true ↔ bt x i = true ∨ i = u := by
  rw [b_or, b_shl u hu 1 hi, Bool.or_eq_true, Bool.and_eq_true, decide_eq_true_eq, mc_bit1 (i - u) (by omega), decide_eq_true_eq]
  have : (u ≤ i ∧ i - u = 0) ↔ i = u := by omega
  rw [this]
theorem mc_and1 (y : Int32) : y &&& 1 = 1 ↔ bt y 0 = true := by
  constructor
  · intro h
    have h0 : bt (y &&& 1) 0 = true := by rw [h]; decide
    rw [b_and, Bool.and_eq_true] at h0
    exact h0.1
  · intro h
    apply b_ext
    intro i hi
    rw [b_and, mc_bit1 i hi]
    by_cases z : i = 0
    · subst z; rw [h]; rfl
    · rw [decide_eq_false z, Bool.and_false]
theorem mc_get (x : Int32) {u : Nat} (hu : u < 32) : (x >>> (nI u &&& 31)) &&& 1 = 1 ↔ bt x u = true := by
  rw [mc_and1, b_sshr u hu x (by omega), if_pos (by omega)]
  exact Iff.rfl
end MC04
section MC04b
/-! the least of a set of weights, as the component keeps it -/
def mc_M (S : Int → Prop) (x : Int32) : Prop := (x = mc_I 1000000 ∧ ∀ z, ¬ S z) ∨ ∃ z, S z ∧ x = mc_I z ∧ ∀ z', S z' → z ≤ z'
theorem mc_M_congr {S S' : Int → Prop} {x : Int32} (h : ∀ z, S z ↔ S' z) (m : mc_M S x) : mc_M S' x := by
  rcases m with ⟨e, m⟩ | ⟨z, hz, e, m⟩
  · exact Or.inl ⟨e, fun z hz => m z ((h z).mpr hz)⟩
  · exact Or.inr ⟨z, (h z).mp hz, e, fun z' hz' => m z' ((h z').mpr hz')⟩
def mc_U (C : Nat → Int → Prop) (i : Nat) (z : Int) : Prop := ∃ y, y < i ∧ C y z
theorem mc_U_s {C : Nat → Int → Prop} {i : Nat} {z : Int} : mc_U C (i + 1) z ↔ mc_U C i z ∨ C i z := by
  constructor
  · rintro ⟨y, hy, h⟩
    by_cases e : y = i
    · subst e; exact Or.inr h
    · exact Or.inl ⟨y, by omega, h⟩
  · rintro (⟨y, hy, h⟩ | h)
    · exact ⟨y, by omega, h⟩
    · exact ⟨i, by omega, h⟩
theorem mc_M_skip {C : Nat → Int → Prop} {i : Nat} {x : Int32} (m : mc_M (mc_U C i) x) (h : ∀ z, ¬ C i z) : mc_M (mc_U C (i + 1)) x :=
  mc_M_congr (fun z => by rw [mc_U_s]; exact ⟨Or.inl, fun o => o.resolve_right (h z)⟩) m
theorem mc_M_keep {C : Nat → Int → Prop} {i : Nat} {x : Int32} {z0 : Int} (hb : ∀ y z, C y z → -1000 ≤ z ∧ z ≤ 1000) (m : mc_M (mc_U C i) x) (h0 : C i z0) (hm : ∀ z, C i z → z0 ≤ z) (hx : x ≤ mc_I z0) : mc_M (mc_U C (i + 1)) x := by
  have b0 := hb _ _ h0
  rcases m with ⟨e, m⟩ | ⟨z, hz, e, m⟩
  · rw [e, mc_I_le (by omega) (by omega) (by omega) (by omega)] at hx
    omega
  · obtain ⟨y, hy, hyz⟩ := hz
    have bz := hb _ _ hyz
    rw [e, mc_I_le (by omega) (by omega) (by omega) (by omega)] at hx
    refine Or.inr ⟨z, mc_U_s.mpr (Or.inl ⟨y, hy, hyz⟩), e, fun z' hz' => ?_⟩
    rcases mc_U_s.mp hz' with h | h
    · exact m z' h
    · exact Int.le_trans hx (hm z' h)
theorem mc_M_new {C : Nat → Int → Prop} {i : Nat} {x : Int32} {z0 : Int} (hb : ∀ y z, C y z → -1000 ≤ z ∧ z ≤ 1000) (m : mc_M (mc_U C i) x) (h0 : C i z0) (hm : ∀ z, C i z → z0 ≤ z) (hx : ¬ x ≤ mc_I z0) : mc_M (mc_U C (i + 1)) (mc_I z0) := by
  have b0 := hb _ _ h0
  refine Or.inr ⟨z0, mc_U_s.mpr (Or.inr h0), rfl, fun z' hz' => ?_⟩
  rcases mc_U_s.mp hz' with h | h
  · rcases m with ⟨e, m⟩ | ⟨z, hz, e, m⟩
    · exact absurd h (m z')
    · obtain ⟨y, hy, hyz⟩ := hz
      have bz := hb _ _ hyz
      rw [e, mc_I_le (by omega) (by omega) (by omega) (by omega)] at hx
      have := m z' h
      omega
  · exact hm z' h
/-- an entry that is not the mark of no walk -/
theorem mc_M_no {S : Int → Prop} {x : Int32} (hb : ∀ z, S z → -1000 ≤ z ∧ z ≤ 1000) (m : mc_M S x) (h : x = 1000000) : ∀ z, ¬ S z := by
  rcases m with ⟨_, m⟩ | ⟨z, hz, e, _⟩
  · exact m
  · have := hb z hz
    rw [← mc_I_mil, e, mc_I_eq (by omega) (by omega) (by omega) (by omega)] at h
    omega
theorem mc_M_some {S : Int → Prop} {x : Int32} (m : mc_M S x) (h : ¬ x = 1000000) : ∃ z, S z ∧ x = mc_I z ∧ ∀ z', S z' → z ≤ z' := by
  rcases m with ⟨e, _⟩ | m
  · exact absurd (e.trans mc_I_mil) h
  · exact m
/-! the component's data -/
def mc_E (a : Nat → Int32) (u v : Nat) : Bool := decide (¬ a (6 * u + v) = 0)
def mc_fw (a : Nat → Int32) (u v : Nat) : Int := (a (6 * u + v)).toInt
theorem mc_E_t {a : Nat → Int32} {u v : Nat} : mc_E a u v = true ↔ ¬ a (6 * u + v) = 0 := by unfold mc_E; rw [decide_eq_true_eq]
theorem mc_pO {post : Int32 → Prop} {u v : Nat} (h : post (nI (6 * u + v))) : wpX_pairOf post (nI u) (nI v) := by
  show post (nI u * 6 + nI v)
  have e : nI u * 6 + nI v = nI (6 * u + v) := by
    rw [show nI u * 6 = nI (u * 6) from mc_mulN u 6, nI_add, Nat.mul_comm]
  rw [e]; exact h
theorem mc_wO {post : Int32 → Prop} {k u v : Nat} (h : post (nI (k * 36 + u * 6 + v))) : wpX_walkOf post (nI k) (nI u) (nI v) := by
  show post (nI k * 36 + nI u * 6 + nI v)
  have e : nI k * 36 + nI u * 6 + nI v = nI (k * 36 + u * 6 + v) := by
    rw [show nI u * 6 = nI (u * 6) from mc_mulN u 6, show nI k * 36 = nI (k * 36) from mc_mulN k 36, nI_add, nI_add]
  rw [e]; exact h
/-- what holds of weights W and spans sa -/
def mc_ok (W sa : Nat → Int32) : Prop := (∀ q, -20 ≤ (W q).toInt ∧ (W q).toInt ≤ 20) ∧ (∀ q, ¬ sa q = 0 → 1 ≤ (sa q).toInt ∧ (sa q).toInt ≤ 5)
theorem mc_ok_p {W sa : Nat → Int32} {N : Nat} (h : mc_ok W sa) : ∀ a b, mc_A N (mc_E sa) a b → 1 ≤ mc_fw sa a b := fun _ _ hA => (h.2 _ (mc_E_t.mp hA.2.2)).1
theorem mc_ok_w {W sa : Nat → Int32} {N : Nat} (h : mc_ok W sa) : ∀ a b, mc_A N (mc_E sa) a b → -20 ≤ mc_fw W a b ∧ mc_fw W a b ≤ 20 := fun _ _ _ => h.1 _
def mc_Sx (N : Nat) (W sa : Nat → Int32) (u v : Nat) (k : Int) (z : Int) : Prop := mc_S (mc_A N (mc_E sa)) (mc_fw W) (mc_fw sa) u v k z
theorem mc_Sx_b {N : Nat} {W sa : Nat → Int32} (h : mc_ok W sa) {u v : Nat} {k z : Int} (s : mc_Sx N W sa u v k z) : 0 ≤ k ∧ -20 * k ≤ z ∧ z ≤ 20 * k := mc_S_bnd (mc_ok_p h) (mc_ok_w h) s
/-- the table of walks is filled up to (k, u, v) -/
def mc_D (N : Nat) (W sa : Nat → Int32) (k u v : Nat) (wk : Nat → Int32) : Prop := ∀ k' u' v', u' < N → v' < N → (k' < k ∨ (k' = k ∧ (u' < u ∨ (u' = u ∧ v' < v)))) → mc_M (mc_Sx N W sa u' v' k') (wk (k' * 36 + u' * 6 + v'))
theorem mc_D_0 {N : Nat} {W sa wk : Nat → Int32} : mc_D N W sa 0 0 0 wk := fun k' u' v' _ _ h => by omega
theorem mc_D_s {N : Nat} {W sa wk : Nat → Int32} {k u v : Nat} {x : Int32} (hN : N ≤ 6) (hu : u < N) (hv : v < N) (d : mc_D N W sa k u v wk) (m : mc_M (mc_Sx N W sa u v k) x) : mc_D N W sa k u (v + 1) (upd wk (k * 36 + u * 6 + v) x) := by
  intro k' u' v' h1 h2 h3
  by_cases e : k' * 36 + u' * 6 + v' = k * 36 + u * 6 + v
  · obtain ⟨rfl, rfl, rfl⟩ : k' = k ∧ u' = u ∧ v' = v := by omega
    rw [mc_us]
    exact m
  · rw [mc_un e]
    exact d k' u' v' h1 h2 (by omega)
theorem mc_D_v {N : Nat} {W sa wk : Nat → Int32} {k u : Nat} (d : mc_D N W sa k u N wk) : mc_D N W sa k (u + 1) 0 wk := fun k' u' v' h1 h2 h3 => d k' u' v' h1 h2 (by omega)
theorem mc_D_u {N : Nat} {W sa wk : Nat → Int32} {k : Nat} (d : mc_D N W sa k N 0 wk) : mc_D N W sa (k + 1) 0 0 wk := fun k' u' v' h1 h2 h3 => d k' u' v' h1 h2 (by omega)
/-- the last arcs of a walk of span k from u to v -/
def mc_C (N : Nat) (W sa : Nat → Int32) (k u v y : Nat) (z : Int) : Prop := mc_A N (mc_E sa) y v ∧ mc_Sx N W sa u y (k - mc_fw sa y v) (z - mc_fw W y v)
theorem mc_C_b {N : Nat} {W sa : Nat → Int32} (h : mc_ok W sa) {k u v : Nat} (hk : k ≤ 30) : ∀ y z, mc_C N W sa k u v y z → -1000 ≤ z ∧ z ≤ 1000 := by
  rintro y z ⟨h1, h2⟩
  have b := mc_Sx_b h h2
  have p := mc_ok_p h _ _ h1
  have w := mc_ok_w h _ _ h1
  omega
theorem mc_C_all {N : Nat} {W sa : Nat → Int32} {k u v : Nat} (hk : 1 ≤ k) (z : Int) : mc_U (mc_C N W sa k u v) N z ↔ mc_Sx N W sa u v k z := by
  unfold mc_Sx
  rw [mc_S_step (by omega)]
  constructor
  · rintro ⟨y, _, h⟩; exact ⟨y, h⟩
  · rintro ⟨y, h⟩; exact ⟨y, h.1.1, h⟩
end MC04b
