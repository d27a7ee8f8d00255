section MC01
/-! numbers: Int32 of an Int, stores -/
theorem mc_us {f : Nat → Int32} {k : Nat} {x : Int32} : upd f k x k = x := if_pos rfl
theorem mc_un {f : Nat → Int32} {k j : Nat} {x : Int32} (h : j ≠ k) : upd f k x j = f j := if_neg h
theorem mc_mulN (a b : Nat) : nI a * nI b = nI (a * b) := (Int32.ofNat_mul a b).symm
theorem mc_sub {a b : Nat} (h : b ≤ a) : nI a - nI b = nI (a - b) := by
  obtain ⟨c, rfl⟩ : ∃ c, a = c + b := ⟨a - b, by omega⟩
  rw [← nI_add, Int32.add_sub_cancel, Nat.add_sub_cancel]
theorem mc_m1 (n : Nat) : nI (n + 1) + (-1) = nI n := by
  rw [← nI_1, Int32.add_assoc, show (1 : Int32) + (-1) = 0 from rfl, Int32.add_zero]
theorem mc_b0 : vp_nar .boolean 0 = 0 := by decide
theorem mc_b1 : vp_nar .boolean 1 = 1 := by decide
def mc_I (z : Int) : Int32 := Int32.ofInt z
theorem mc_I_nat (n : Nat) : mc_I (n : Int) = nI n := Int32.ofInt_eq_ofNat
theorem mc_I_toInt {z : Int} (h1 : -2000000 ≤ z) (h2 : z ≤ 2000000) : (mc_I z).toInt = z := Int32.toInt_ofInt_of_le (by omega) (by omega)
theorem mc_I_of (x : Int32) : mc_I x.toInt = x := Int32.ofInt_toInt x
theorem mc_I_add (a b : Int) : mc_I a + mc_I b = mc_I (a + b) := (Int32.ofInt_add a b).symm
theorem mc_I_sub (a b : Int) : mc_I a - mc_I b = mc_I (a - b) := (Int32.ofInt_sub a b).symm
theorem mc_I_mul (a b : Int) : mc_I a * mc_I b = mc_I (a * b) := (Int32.ofInt_mul a b).symm
theorem mc_I_neg (a : Int) : - mc_I a = mc_I (-a) := (Int32.ofInt_neg a).symm
theorem mc_I_0 : mc_I 0 = 0 := by decide
theorem mc_I_1 : mc_I 1 = 1 := by decide
theorem mc_I_mil : mc_I 1000000 = 1000000 := by decide
theorem mc_I_le {a b : Int} (h1 : -2000000 ≤ a) (h2 : a ≤ 2000000) (h3 : -2000000 ≤ b) (h4 : b ≤ 2000000) : mc_I a ≤ mc_I b ↔ a ≤ b := by
  rw [Int32.le_iff_toInt_le, mc_I_toInt h1 h2, mc_I_toInt h3 h4]
theorem mc_I_lt {a b : Int} (h1 : -2000000 ≤ a) (h2 : a ≤ 2000000) (h3 : -2000000 ≤ b) (h4 : b ≤ 2000000) : mc_I a < mc_I b ↔ a < b := by
  rw [Int32.lt_iff_toInt_lt, mc_I_toInt h1 h2, mc_I_toInt h3 h4]
theorem mc_I_eq {a b : Int} (h1 : -2000000 ≤ a) (h2 : a ≤ 2000000) (h3 : -2000000 ≤ b) (h4 : b ≤ 2000000) : mc_I a = mc_I b ↔ a = b := by
  rw [← Int32.toInt_inj, mc_I_toInt h1 h2, mc_I_toInt h3 h4]
theorem mc_bm {a b : Int} (h1 : -1000 ≤ a) (h2 : a ≤ 1000) (h3 : -1000 ≤ b) (h4 : b ≤ 1000) : -2000000 ≤ a * b ∧ a * b ≤ 2000000 := by
  have h : (a * b).natAbs ≤ 1000 * 1000 := by
    rw [Int.natAbs_mul]
    exact Nat.mul_le_mul (by omega) (by omega)
  generalize a * b = c at h
  omega
theorem mc_cle {a b c d : Int} (h1 : -1000 ≤ a) (h2 : a ≤ 1000) (h3 : -1000 ≤ b) (h4 : b ≤ 1000) (h5 : -1000 ≤ c) (h6 : c ≤ 1000) (h7 : -1000 ≤ d) (h8 : d ≤ 1000) : mc_I a * mc_I b ≤ mc_I c * mc_I d ↔ a * b ≤ c * d := by
  have h := mc_bm h1 h2 h3 h4
  have h' := mc_bm h5 h6 h7 h8
  rw [mc_I_mul, mc_I_mul, mc_I_le h.1 h.2 h'.1 h'.2]
theorem mc_ceq {a b c d : Int} (h1 : -1000 ≤ a) (h2 : a ≤ 1000) (h3 : -1000 ≤ b) (h4 : b ≤ 1000) (h5 : -1000 ≤ c) (h6 : c ≤ 1000) (h7 : -1000 ≤ d) (h8 : d ≤ 1000) : mc_I a * mc_I b = mc_I c * mc_I d ↔ a * b = c * d := by
  have h := mc_bm h1 h2 h3 h4
  have h' := mc_bm h5 h6 h7 h8
  rw [mc_I_mul, mc_I_mul, mc_I_eq h.1 h.2 h'.1 h'.2]
theorem mc_I_div {a d : Int} (h1 : -2000000 ≤ a) (h2 : a ≤ 2000000) (h3 : 0 < d) (h4 : d ≤ 2000000) : mc_I a / mc_I d = mc_I (a.tdiv d) := by
  apply Int32.toInt_inj.mp
  have hd : (mc_I d).toInt = d := mc_I_toInt (by omega) h4
  have hne : mc_I d ≠ -1 := by
    intro e
    rw [e] at hd
    have : (-1 : Int32).toInt = -1 := by decide
    omega
  have hb := Int.natAbs_tdiv_le_natAbs a d
  rw [Int32.toInt_div_of_ne_right _ _ hne, mc_I_toInt h1 h2, hd, mc_I_toInt (by omega) (by omega)]
theorem mc_I_rem {a d : Int} (h1 : -2000000 ≤ a) (h2 : a ≤ 2000000) (h3 : 0 < d) (h4 : d ≤ 2000000) : mc_I a - mc_I a / mc_I d * mc_I d = 0 ↔ d ∣ a := by
  rw [mc_I_div h1 h2 h3 h4, mc_I_mul, mc_I_sub, ← mc_I_0]
  have hr : a - a.tdiv d * d = a.tmod d := by rw [Int.tmod_def, Int.mul_comm]
  have hb : (a.tmod d).natAbs ≤ a.natAbs := by
    rw [Int.natAbs_tmod]
    exact Nat.mod_le _ _
  rw [hr, mc_I_eq (by omega) (by omega) (by omega) (by omega)]
  exact Int.dvd_iff_tmod_eq_zero.symm
/-! lowest terms -/
def mc_cop (t : Int) (b : Nat) : Prop := ∀ e : Nat, 1 < e → ¬ ((e : Int) ∣ t ∧ e ∣ b)
theorem mc_cop_gcd {t : Int} {b : Nat} (hb : 0 < b) (h : mc_cop t b) : Nat.gcd t.natAbs b = 1 := by
  rcases Nat.lt_or_ge 1 (Nat.gcd t.natAbs b) with g | g
  · exact absurd ⟨Int.ofNat_dvd_left.mpr (Nat.gcd_dvd_left _ _), Nat.gcd_dvd_right _ _⟩ (h _ g)
  · have := Nat.gcd_pos_of_pos_right t.natAbs hb
    omega
theorem mc_low {t T : Int} {b B : Nat} (hb : 0 < b) (hB : 0 < B) (h : Nat.gcd t.natAbs b = 1) (H : Nat.gcd T.natAbs B = 1) (e : t * B = T * b) : t = T ∧ b = B := by
  have en : t.natAbs * B = T.natAbs * b := by
    have := congrArg Int.natAbs e
    rw [Int.natAbs_mul, Int.natAbs_mul, Int.natAbs_natCast, Int.natAbs_natCast] at this
    exact this
  have d1 : b ∣ B := by
    have : b ∣ t.natAbs * B := ⟨T.natAbs, by rw [en, Nat.mul_comm]⟩
    exact Nat.Coprime.dvd_of_dvd_mul_left (Nat.Coprime.symm h) this
  have d2 : B ∣ b := by
    have : B ∣ T.natAbs * b := ⟨t.natAbs, by rw [← en, Nat.mul_comm]⟩
    exact Nat.Coprime.dvd_of_dvd_mul_left (Nat.Coprime.symm H) this
  have eb : b = B := Nat.dvd_antisymm d1 d2
  subst eb
  exact ⟨Int.eq_of_mul_eq_mul_right (by omega) e, rfl⟩
theorem mc_div_gcd {t : Int} {b : Nat} (hb : 0 < b) : ∃ (t' : Int) (b' : Nat), 0 < b' ∧ t = t' * (Nat.gcd t.natAbs b : Nat) ∧ b = b' * Nat.gcd t.natAbs b ∧ Nat.gcd t'.natAbs b' = 1 := by
  have g0 := Nat.gcd_pos_of_pos_right t.natAbs hb
  obtain ⟨t', ht⟩ : ((Nat.gcd t.natAbs b : Nat) : Int) ∣ t := Int.ofNat_dvd_left.mpr (Nat.gcd_dvd_left _ _)
  obtain ⟨b', hb'⟩ := Nat.gcd_dvd_right t.natAbs b
  generalize hg : Nat.gcd t.natAbs b = g at *
  refine ⟨t', b', ?_, by rw [ht, Int.mul_comm], by rw [hb', Nat.mul_comm], ?_⟩
  · rcases Nat.eq_zero_or_pos b' with z | z
    · rw [z] at hb'; omega
    · exact z
  · have : Nat.gcd (g * t'.natAbs) (g * b') = g := by
      have e1 : g * t'.natAbs = t.natAbs := by rw [ht, Int.natAbs_mul, Int.natAbs_natCast]
      rw [e1, ← hb', hg]
    rw [Nat.gcd_mul_left] at this
    exact Nat.eq_of_mul_eq_mul_left g0 (by omega)
/-! Euclid, twenty rounds -/
def mc_eu : Nat → Nat → Nat → Nat
  | 0, _, b => b
  | k + 1, a, b => if a = 0 then mc_eu k 0 b else mc_eu k (b % a) a
theorem mc_eu_gcd : ∀ a, a < 121 → ∀ b, b < 31 → mc_eu 20 a b = Nat.gcd a b := by decide +kernel
end MC01
