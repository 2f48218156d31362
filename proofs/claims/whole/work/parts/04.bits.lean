/-! masks as Int32, by their bits -/
theorem gm_bI (m j : Nat) (hj : j < 32) : bt (nI m) j = m.testBit j := by
  show (BitVec.ofNat 32 m).getLsbD j = _
  rw [BitVec.getLsbD_ofNat, decide_eq_true hj, Bool.true_and]
theorem gm_b1 : ∀ i, i < 32 → bt 1 i = decide (i = 0) := by decide +kernel
theorem gm_and1 (x : Int32) : x &&& 1 = if bt x 0 = true then 1 else 0 := by
  apply b_ext
  intro i hi
  rw [b_and, gm_b1 i hi]
  by_cases h0 : i = 0
  · subst h0
    cases bt x 0 <;> decide +kernel
  · rw [decide_eq_false h0, Bool.and_false]
    split
    · rw [gm_b1 i hi, decide_eq_false h0]
    · rw [b_0]
theorem gm_and1_1 (x : Int32) : x &&& 1 = 1 ↔ bt x 0 = true := by
  rw [gm_and1]
  cases bt x 0 <;> decide +kernel
theorem gm_sh0 (x : Int32) {u : Nat} (hu : u < 32) : bt (x >>> (nI u &&& 31)) 0 = bt x u := by
  rw [b_sshr u hu x (by decide), Nat.add_zero, if_pos hu]
theorem gm_has (x : Int32) {u v : Nat} (hu : u < 32) (hv : v < 32) : ((x >>> (nI u &&& 31)) &&& (x >>> (nI v &&& 31))) &&& 1 = 1 ↔ (bt x u && bt x v) = true := by
  rw [gm_and1_1, b_and, gm_sh0 x hu, gm_sh0 x hv]
theorem gm_xor_bne (a b : Bool) : (a ^^ b) = (a != b) := by cases a <;> cases b <;> rfl
theorem gm_sep (x : Int32) {u v : Nat} (hu : u < 32) (hv : v < 32) : ((x >>> (nI u &&& 31)) ^^^ (x >>> (nI v &&& 31))) &&& 1 = 1 ↔ (bt x u != bt x v) = true := by
  rw [gm_and1_1, b_xor, gm_sh0 x hu, gm_sh0 x hv, gm_xor_bne]
theorem gm_if_eq (a b : Bool) : ((if a = true then (1 : Int32) else 0) = (if b = true then (1 : Int32) else 0)) ↔ (a != b) = false := by
  cases a <;> cases b <;> decide +kernel
theorem gm_sepY (x : Int32) {u v : Nat} (hu : u < 32) (hv : v < 32) : (x >>> (nI u &&& 31)) &&& 1 = (x >>> (nI v &&& 31)) &&& 1 ↔ (bt x u != bt x v) = false := by
  rw [gm_and1, gm_and1, gm_sh0 x hu, gm_sh0 x hv]
  exact gm_if_eq _ _
theorem gm_bitY (x : Int32) {u : Nat} (hu : u < 32) : (x >>> (nI u &&& 31)) &&& 1 = nI (if bt x u = true then 1 else 0) := by
  rw [gm_and1, gm_sh0 x hu]
  cases bt x u <;> decide +kernel
theorem gm_pw : ∀ n, n < 10 → (1 : Int32) <<< (nI n &&& 31) = nI (2 ^ n) := by decide +kernel
theorem gm_all : ∀ n, n < 10 → ((1 : Int32) <<< (nI n &&& 31)) - 1 = nI (2 ^ n - 1) := by decide +kernel
theorem gm_rest : ∀ n, n < 10 → ∀ v, v < n → nI (2 ^ n - 1) &&& (((1 : Int32) <<< (nI v &&& 31)) ^^^ (-1)) = nI (2 ^ n - 1 - 2 ^ v) := by decide +kernel
theorem gm_rest_b : ∀ n, n < 10 → ∀ v, v < n → ∀ u, u < n → (2 ^ n - 1 - 2 ^ v).testBit u = decide (¬ u = v) := by decide +kernel
theorem gm_pw_le : ∀ n, n < 10 → 2 ^ n ≤ 512 := by decide +kernel
theorem gm_pw_ev : ∀ n, n < 10 → 1 ≤ n → 2 ^ n = 2 * 2 ^ (n - 1) := by decide +kernel
theorem gm_pw_ge : ∀ n, n < 10 → 2 ≤ n → 4 ≤ 2 ^ n := by decide +kernel
theorem gm_sub {s wn : Nat} (hs : s < 512) : nI s &&& (nI wn ^^^ (-1)) = 0 ↔ ∀ j, s.testBit j = true → wn.testBit j = true := by
  constructor
  · intro e j hj
    have hj' : j < 9 := gm_tb_hi (n := 9) hs hj
    have h : bt (nI s &&& (nI wn ^^^ (-1))) j = bt 0 j := by rw [e]
    rw [b_and, b_xor, b_0, gm_bI _ _ (by omega), gm_bI _ _ (by omega), b_m1 j (by omega), hj] at h
    cases hw : wn.testBit j with
    | true => rfl
    | false =>
      rw [hw] at h
      exact absurd h (by decide)
  · intro h
    apply b_ext
    intro i hi
    rw [b_and, b_xor, b_0, gm_bI _ _ hi, gm_bI _ _ hi, b_m1 i hi]
    cases hs' : s.testBit i with
    | false => rfl
    | true =>
      rw [h i hs']
      rfl
