section
def bt (x : Int32) (i : Nat) : Bool := x.toBitVec.getLsbD i
theorem b_ext {x y : Int32} (h : ∀ i, i < 32 → bt x i = bt y i) : x = y := Int32.toBitVec_inj.mp (BitVec.eq_of_getLsbD_eq (fun i hi => h i hi))
theorem b_or (x y : Int32) (i : Nat) : bt (x ||| y) i = (bt x i || bt y i) := by unfold bt; rw [Int32.toBitVec_or, BitVec.getLsbD_or]
theorem b_and (x y : Int32) (i : Nat) : bt (x &&& y) i = (bt x i && bt y i) := by unfold bt; rw [Int32.toBitVec_and, BitVec.getLsbD_and]
theorem b_xor (x y : Int32) (i : Nat) : bt (x ^^^ y) i = (bt x i ^^ bt y i) := by unfold bt; rw [Int32.toBitVec_xor, BitVec.getLsbD_xor]
theorem b_big {x : Int32} {i : Nat} (h : 32 ≤ i) : bt x i = false := BitVec.getLsbD_of_ge _ _ h
theorem b_255 (i : Nat) : bt 255 i = decide (i < 8) := by
  rcases Nat.lt_or_ge i 32 with h | h
  · exact (by decide +kernel : ∀ i, i < 32 → bt 255 i = decide (i < 8)) i h
  · rw [b_big h, decide_eq_false (by omega)]
theorem b_65535 (i : Nat) : bt 65535 i = decide (i < 16) := by
  rcases Nat.lt_or_ge i 32 with h | h
  · exact (by decide +kernel : ∀ i, i < 32 → bt 65535 i = decide (i < 16)) i h
  · rw [b_big h, decide_eq_false (by omega)]
theorem b_m1 : ∀ i, i < 32 → bt (-1) i = true := by decide +kernel
theorem b_0 (i : Nat) : bt 0 i = false := BitVec.getLsbD_zero
theorem s_l : ∀ n, n < 32 → ((nI n &&& 31).toBitVec.smod 32).toNat = n := by decide +kernel
theorem s_u : ∀ n, n < 32 → (((nI n).toUInt32 &&& Int32.toUInt32 31).toBitVec % 32).toNat = n := by decide +kernel
theorem b_shl (n : Nat) (hn : n < 32) (x : Int32) {i : Nat} (hi : i < 32) : bt (x <<< (nI n &&& 31)) i = (decide (n ≤ i) && bt x (i - n)) := by
  unfold bt
  rw [Int32.toBitVec_shiftLeft]
  show (x.toBitVec <<< ((nI n &&& 31).toBitVec.smod 32).toNat).getLsbD i = _
  rw [s_l n hn, BitVec.getLsbD_shiftLeft]
  rcases Nat.lt_or_ge i n with h | h
  · simp [h, Nat.not_le.mpr h]
  · simp [hi, h, Nat.not_lt.mpr h]
theorem b_ushr (n : Nat) (hn : n < 32) (x : Int32) (i : Nat) : bt ((x.toUInt32 >>> ((nI n).toUInt32 &&& Int32.toUInt32 31)).toInt32) i = bt x (n + i) := by
  show (x.toUInt32 >>> ((nI n).toUInt32 &&& Int32.toUInt32 31)).toBitVec.getLsbD i = x.toUInt32.toBitVec.getLsbD (n + i)
  rw [UInt32.toBitVec_shiftRight]
  show (x.toUInt32.toBitVec >>> (((nI n).toUInt32 &&& Int32.toUInt32 31).toBitVec % 32).toNat).getLsbD i = _
  rw [s_u n hn, BitVec.getLsbD_ushiftRight]
theorem b_sshr (n : Nat) (hn : n < 32) (x : Int32) {i : Nat} (hi : i < 32) : bt (x >>> (nI n &&& 31)) i = if n + i < 32 then bt x (n + i) else bt x 31 := by
  unfold bt
  rw [Int32.toBitVec_shiftRight]
  show (x.toBitVec.sshiftRight ((nI n &&& 31).toBitVec.smod 32).toNat).getLsbD i = _
  rw [s_l n hn, BitVec.getLsbD_sshiftRight, BitVec.msb_eq_getLsbD_last]
  simp [hi]
theorem pk_us {f : Nat → Int32} {k : Nat} {x : Int32} : upd f k x k = x := if_pos rfl
theorem pk_un {f : Nat → Int32} {k j : Nat} {x : Int32} (h : j ≠ k) : upd f k x j = f j := if_neg h
theorem pk_sub {a b : Nat} (h : b ≤ a) : nI a - nI b = nI (a - b) := by
  obtain ⟨c, rfl⟩ : ∃ c, a = c + b := ⟨a - b, by omega⟩
  rw [← nI_add, Int32.add_sub_cancel, Nat.add_sub_cancel]
theorem pk_m1 (n : Nat) : nI (n + 1) + (-1) = nI n := by
  rw [← nI_1, Int32.add_assoc, show (1 : Int32) + (-1) = 0 from rfl, Int32.add_zero]
theorem pk_mul (a b : Nat) : nI a * nI b = nI (a * b) := (Int32.ofNat_mul a b).symm
theorem pk_ix (x : Int32) {n : Nat} (hn : n < 2 ^ 31) : x < 0 ∨ nI n ≤ x ∨ ∃ j : Nat, j < n ∧ x = nI j := by
  by_cases h : x < 0
  · exact Or.inl h
  · obtain ⟨j, hj, rfl⟩ := nI_of h
    by_cases h2 : j < n
    · exact Or.inr (Or.inr ⟨j, h2, rfl⟩)
    · exact Or.inr (Or.inl (nI_le (by omega) hj))
theorem pk_le {x y : Int32} {A B : Prop} (a b : Nat) (f : a ≤ b → A) (g : b < a → B) (hx : x = nI a := by rfl) (hy : y = nI b := by rfl) (ha : a < 2 ^ 31 := by omega) (hb : b < 2 ^ 31 := by omega) : (x ≤ y → A) ∧ (¬ x ≤ y → B) := by
  subst hx hy
  rw [nI_leI ha hb]
  exact ⟨f, fun z => g (by omega)⟩
theorem pk_lt {x y : Int32} {A B : Prop} (a b : Nat) (f : a < b → A) (g : b ≤ a → B) (hx : x = nI a := by rfl) (hy : y = nI b := by rfl) (ha : a < 2 ^ 31 := by omega) (hb : b < 2 ^ 31 := by omega) : (x < y → A) ∧ (¬ x < y → B) := by
  subst hx hy
  rw [nI_ltI ha hb]
  exact ⟨f, fun z => g (by omega)⟩
theorem pk_eq {x y : Int32} {A B : Prop} (a b : Nat) (f : a = b → A) (g : a ≠ b → B) (hx : x = nI a := by rfl) (hy : y = nI b := by rfl) (ha : a < 2 ^ 31 := by omega) (hb : b < 2 ^ 31 := by omega) : (x = y → A) ∧ (¬ x = y → B) := by
  subst hx hy
  rw [nI_eq ha hb]
  exact ⟨f, g⟩
theorem pk_in {x : Int32} (n N : Nat) (h : n < N) (hx : x = nI n := by rfl) (hN : N < 2 ^ 31 := by omega) : vp_in x N := by
  subst hx
  exact vp_in_nI h hN
theorem pk_cl {x : Int32} (n : Nat) (hx : x = nI n := by rfl) (h : n < 2 ^ 31 := by omega) : x.toNatClampNeg = n := by
  subst hx
  exact nI_clamp h
theorem sb_negT {w : Nat} (h : w < 2 ^ 31) : (-nI w).toInt = -(w : Int) := by
  rw [Int32.toInt_neg, nI_toInt h]
  exact Int.bmod_eq_of_le (by omega) (by omega)
theorem pk_lT {n : Nat} (h : n < 2 ^ 63) : (lN n).toInt = (n : Int) := lg_ofNat_toInt h
end
section
/-! sums over 0 .. k - 1, and the two ways round a triangle -/
def gm_S (f : Nat → Nat) : Nat → Nat
  | 0 => 0
  | k + 1 => gm_S f k + f k
theorem gm_S_1 (f : Nat → Nat) (k : Nat) : gm_S f (k + 1) = gm_S f k + f k := rfl
theorem gm_S_congr {f f' : Nat → Nat} {k : Nat} (h : ∀ i, i < k → f i = f' i) : gm_S f k = gm_S f' k := by
  induction k with
  | zero => rfl
  | succ k ih =>
    show gm_S f k + f k = gm_S f' k + f' k
    rw [ih (fun i hi => h i (by omega)), h k (by omega)]
theorem gm_S_add (f f' : Nat → Nat) (k : Nat) : gm_S (fun i => f i + f' i) k = gm_S f k + gm_S f' k := by
  induction k with
  | zero => rfl
  | succ k ih =>
    show gm_S (fun i => f i + f' i) k + (f k + f' k) = (gm_S f k + f k) + (gm_S f' k + f' k)
    omega
theorem gm_S_zero {f : Nat → Nat} {k : Nat} (h : ∀ i, i < k → f i = 0) : gm_S f k = 0 := by
  induction k with
  | zero => rfl
  | succ k ih =>
    show gm_S f k + f k = 0
    rw [ih (fun i hi => h i (by omega)), h k (by omega)]
theorem gm_S_le {f : Nat → Nat} {k c : Nat} (h : ∀ i, i < k → f i ≤ c) : gm_S f k ≤ k * c := by
  induction k with
  | zero => exact Nat.zero_le _
  | succ k ih =>
    have h1 := ih (fun i hi => h i (by omega))
    have h2 := h k (by omega)
    show gm_S f k + f k ≤ (k + 1) * c
    rw [Nat.succ_mul]
    omega
theorem gm_S_mono {f f' : Nat → Nat} {k : Nat} (h : ∀ i, i < k → f i ≤ f' i) : gm_S f k ≤ gm_S f' k := by
  induction k with
  | zero => exact Nat.le_refl _
  | succ k ih =>
    have h1 := ih (fun i hi => h i (by omega))
    have h2 := h k (by omega)
    show gm_S f k + f k ≤ gm_S f' k + f' k
    omega
theorem gm_S_eq {f f' : Nat → Nat} {k : Nat} (h : ∀ i, i < k → f i ≤ f' i) (e : gm_S f k = gm_S f' k) : ∀ i, i < k → f i = f' i := by
  induction k with
  | zero => intro i hi; omega
  | succ k ih =>
    have h1 := gm_S_mono (f := f) (f' := f') (k := k) (fun i hi => h i (by omega))
    have h2 := h k (by omega)
    have e' : gm_S f k + f k = gm_S f' k + f' k := e
    intro i hi
    rcases Nat.lt_or_ge i k with h3 | h3
    · exact ih (fun i hi => h i (by omega)) (by omega) i h3
    · have h4 : i = k := by omega
      subst h4
      omega
theorem gm_tri (f f' : Nat → Nat → Nat) : ∀ n, (∀ u v, u < n → v < n → f u v = f' v u) → gm_S (fun u => gm_S (fun v => if u < v then f u v else 0) n) n = gm_S (fun u => gm_S (f' u) u) n := by
  intro n
  induction n with
  | zero => intro _; rfl
  | succ k ih =>
    intro h
    have e1 : gm_S (fun u => gm_S (fun v => if u < v then f u v else 0) (k + 1)) k = gm_S (fun u => gm_S (fun v => if u < v then f u v else 0) k) k + gm_S (f' k) k := by
      rw [← gm_S_add]
      refine gm_S_congr fun u hu => ?_
      show gm_S (fun v => if u < v then f u v else 0) k + (if u < k then f u k else 0) = gm_S (fun v => if u < v then f u v else 0) k + f' k u
      rw [if_pos hu, h u k (by omega) (by omega)]
    have e2 : gm_S (fun v => if k < v then f k v else 0) (k + 1) = 0 := gm_S_zero fun v hv => if_neg (by omega)
    show gm_S (fun u => gm_S (fun v => if u < v then f u v else 0) (k + 1)) k + gm_S (fun v => if k < v then f k v else 0) (k + 1) = gm_S (fun u => gm_S (f' u) u) k + gm_S (f' k) k
    rw [e1, e2, ih (fun u v hu hv => h u v (by omega) (by omega)), Nat.add_zero]
/-! a pair that is cut, the value, the glue, a cut that has two sides -/
def gm_q (wi b : Nat → Bool) (u v : Nat) : Bool := wi u && wi v && (b u != b v)
theorem gm_q_b (a b c d : Bool) : (a && b && (c != d)) = (b && a && (d != c)) := by cases a <;> cases b <;> cases c <;> cases d <;> rfl
theorem gm_q_s (wi b : Nat → Bool) (u v : Nat) : gm_q wi b u v = gm_q wi b v u := gm_q_b _ _ _ _
theorem gm_q_c {wi wi' b b' : Nat → Bool} {u v : Nat} (h1 : wi u = wi' u) (h2 : wi v = wi' v) (h3 : wi u = true → b u = b' u) (h4 : wi v = true → b v = b' v) : gm_q wi b u v = gm_q wi' b' u v := by
  unfold gm_q
  rw [← h1, ← h2]
  cases hu : wi u with
  | false => rfl
  | true =>
    cases hv : wi v with
    | false => rfl
    | true => rw [h3 hu, h4 hv]
theorem gm_q_nb (a b c d : Bool) : (a && b && ((!c) != (!d))) = (a && b && (c != d)) := by cases a <;> cases b <;> cases c <;> cases d <;> rfl
theorem gm_q_n {wi b b' : Nat → Bool} {u v : Nat} (hu : b' u = !b u) (hv : b' v = !b v) : gm_q wi b' u v = gm_q wi b u v := by
  unfold gm_q
  rw [hu, hv]
  exact gm_q_nb _ _ _ _
theorem gm_q_self (wi b : Nat → Bool) (u : Nat) : gm_q wi b u u = false := by
  unfold gm_q
  cases wi u <;> cases b u <;> rfl
def gm_t (wi b : Nat → Bool) (w : Nat → Nat) (u v : Nat) : Nat := if gm_q wi b u v = true then w (u * 9 + v) else 0
def gm_V (n : Nat) (wi : Nat → Bool) (w : Nat → Nat) (b : Nat → Bool) : Nat := gm_S (fun u => gm_S (gm_t wi b w u) u) n
def gm_R (wi b : Nat → Bool) (w : Nat → Nat) (u v : Nat) : Nat := if u < v then gm_t wi b w u v else 0
def gm_U (n : Nat) (wi : Nat → Bool) (w : Nat → Nat) (b : Nat → Bool) : Nat := gm_S (fun u => gm_S (gm_R wi b w u) n) n
def gm_sy {α : Type} (w : Nat → α) : Prop := ∀ u v, u < 9 → v < 9 → w (u * 9 + v) = w (v * 9 + u)
theorem gm_UV {n : Nat} {wi b : Nat → Bool} {w : Nat → Nat} (hn : n ≤ 9) (hw : gm_sy w) : gm_U n wi w b = gm_V n wi w b := by
  refine gm_tri (gm_t wi b w) (gm_t wi b w) n fun u v hu hv => ?_
  unfold gm_t
  rw [gm_q_s wi b u v, hw u v (by omega) (by omega)]
theorem gm_V_c {n : Nat} {wi wi' : Nat → Bool} {w : Nat → Nat} {b b' : Nat → Bool} (h : ∀ u, u < n → wi u = wi' u) (hb : ∀ u, u < n → wi u = true → b u = b' u) : gm_V n wi w b = gm_V n wi' w b' := by
  unfold gm_V
  refine gm_S_congr fun u hu => gm_S_congr fun v hv => ?_
  have hv' : v < n := by omega
  unfold gm_t
  rw [gm_q_c (h u hu) (h v hv') (hb u hu) (hb v hv')]
theorem gm_V_n {n : Nat} {wi : Nat → Bool} {w : Nat → Nat} {b b' : Nat → Bool} (hb : ∀ u, u < n → b' u = !b u) : gm_V n wi w b' = gm_V n wi w b := by
  unfold gm_V
  refine gm_S_congr fun u hu => gm_S_congr fun v hv => ?_
  have hv' : v < n := by omega
  unfold gm_t
  rw [gm_q_n (hb u hu) (hb v hv')]
theorem gm_V_le {n : Nat} {wi b : Nat → Bool} {w : Nat → Nat} (hn : n ≤ 9) (hw : ∀ c, w c ≤ 50) : gm_V n wi w b < 2 ^ 31 := by
  have h : gm_V n wi w b ≤ n * 450 := by
    refine gm_S_le fun u hu => ?_
    have h1 : gm_S (gm_t wi b w u) u ≤ u * 50 := by
      refine gm_S_le fun v hv => ?_
      unfold gm_t
      split
      · exact hw _
      · exact Nat.zero_le _
    show gm_S (gm_t wi b w u) u ≤ 450
    omega
  omega
def gm_G (n : Nat) (wi : Nat → Bool) (g : Nat → Bool) (b : Nat → Bool) : Prop := ∃ u v, u < n ∧ v < n ∧ gm_q wi b u v = true ∧ g (u * 9 + v) = true
theorem gm_G_c {n : Nat} {wi wi' g b b' : Nat → Bool} (h : ∀ u, u < n → wi u = wi' u) (hb : ∀ u, u < n → wi u = true → b u = b' u) (H : gm_G n wi g b) : gm_G n wi' g b' := by
  obtain ⟨u, v, hu, hv, hq, hg⟩ := H
  refine ⟨u, v, hu, hv, ?_, hg⟩
  rw [← gm_q_c (h u hu) (h v hv) (hb u hu) (hb v hv)]
  exact hq
theorem gm_G_n {n : Nat} {wi g b b' : Nat → Bool} (hb : ∀ u, u < n → b' u = !b u) (H : gm_G n wi g b') : gm_G n wi g b := by
  obtain ⟨u, v, hu, hv, hq, hg⟩ := H
  refine ⟨u, v, hu, hv, ?_, hg⟩
  rw [← gm_q_n (hb u hu) (hb v hv)]
  exact hq
theorem gm_G_up {n : Nat} {wi g b : Nat → Bool} (hn : n ≤ 9) (hg : gm_sy g) (H : gm_G n wi g b) : ∃ u v, u < v ∧ v < n ∧ gm_q wi b u v = true ∧ g (u * 9 + v) = true := by
  obtain ⟨u, v, hu, hv, hq, hg'⟩ := H
  rcases Nat.lt_trichotomy u v with h | h | h
  · exact ⟨u, v, h, hv, hq, hg'⟩
  · subst h
    rw [gm_q_self] at hq
    cases hq
  · refine ⟨v, u, h, hu, ?_, ?_⟩
    · rw [gm_q_s]; exact hq
    · rw [hg v u (by omega) (by omega)]; exact hg'
theorem gm_G_lo {n : Nat} {wi g b : Nat → Bool} (hn : n ≤ 9) (hg : gm_sy g) (H : gm_G n wi g b) : ∃ u v, v < u ∧ u < n ∧ gm_q wi b u v = true ∧ g (u * 9 + v) = true := by
  obtain ⟨u, v, h, hv, hq, hg'⟩ := gm_G_up hn hg H
  refine ⟨v, u, h, hv, ?_, ?_⟩
  · rw [gm_q_s]; exact hq
  · rw [hg v u (by omega) (by omega)]; exact hg'
def gm_N (n : Nat) (wi b : Nat → Bool) : Prop := (∃ u, u < n ∧ wi u = true ∧ b u = true) ∧ (∃ u, u < n ∧ wi u = true ∧ b u = false)
theorem gm_N_c {n : Nat} {wi wi' b b' : Nat → Bool} (h : ∀ u, u < n → wi u = wi' u) (hb : ∀ u, u < n → wi u = true → b u = b' u) (H : gm_N n wi b) : gm_N n wi' b' := by
  obtain ⟨⟨j, hj, hw, hm⟩, ⟨i, hi, hx, hz⟩⟩ := H
  exact ⟨⟨j, hj, (h j hj).symm.trans hw, (hb j hj hw).symm.trans hm⟩, ⟨i, hi, (h i hi).symm.trans hx, (hb i hi hx).symm.trans hz⟩⟩
theorem gm_N_n {n : Nat} {wi b b' : Nat → Bool} (hb : ∀ u, u < n → b' u = !b u) (H : gm_N n wi b) : gm_N n wi b' := by
  obtain ⟨⟨j, hj, hw, hm⟩, ⟨i, hi, hx, hz⟩⟩ := H
  exact ⟨⟨i, hi, hx, by rw [hb i hi, hz]; rfl⟩, ⟨j, hj, hw, by rw [hb j hj, hm]; rfl⟩⟩
/-! the least of a set of values, or -3 -/
theorem gm_n3 {x : Nat} (h : x < 2 ^ 31) : ¬ nI x = -3 := by
  intro e
  have h1 := nI_pos h
  rw [e] at h1
  exact h1 (by decide)
def gm_L (C : Nat → Prop) (r : Int32) : Prop := (r = -3 ∧ ∀ x, ¬ C x) ∨ (∃ x, x < 2 ^ 31 ∧ r = nI x ∧ C x ∧ ∀ y, C y → x ≤ y)
theorem gm_L_0 {C : Nat → Prop} (h : ∀ x, ¬ C x) : gm_L C (-3) := Or.inl ⟨rfl, h⟩
theorem gm_L_c {C C' : Nat → Prop} {r : Int32} (h : ∀ x, C' x ↔ C x) (H : gm_L C r) : gm_L C' r := by
  have e : C' = C := funext fun x => propext (h x)
  rw [e]
  exact H
theorem gm_L_t {C C' : Nat → Prop} {r : Int32} {x : Nat} (hx : x < 2 ^ 31) (h : ∀ y, C' y ↔ C y ∨ y = x) (H : gm_L C r) (hc : r = -3 ∨ nI x < r) : gm_L C' (nI x) := by
  refine Or.inr ⟨x, hx, rfl, (h x).mpr (Or.inr rfl), fun y hy => ?_⟩
  rcases (h y).mp hy with hy | hy
  · rcases H with ⟨e, hn⟩ | ⟨z, hz, e, hC, hm⟩
    · exact absurd hy (hn y)
    · have h1 := hm y hy
      rcases hc with hc | hc
      · exact absurd (e.symm.trans hc) (gm_n3 hz)
      · rw [e, nI_ltI hx hz] at hc
        omega
  · omega
theorem gm_L_f {C C' : Nat → Prop} {r : Int32} {x : Nat} (hx : x < 2 ^ 31) (h : ∀ y, C' y ↔ C y ∨ y = x) (H : gm_L C r) (hc : ¬ r = -3) (hl : ¬ nI x < r) : gm_L C' r := by
  rcases H with ⟨e, hn⟩ | ⟨z, hz, e, hC, hm⟩
  · exact absurd e hc
  · rw [e, nI_ltI hx hz] at hl
    refine Or.inr ⟨z, hz, e, (h z).mpr (Or.inl hC), fun y hy => ?_⟩
    rcases (h y).mp hy with hy | hy
    · exact hm y hy
    · omega
theorem gm_L_u {C : Nat → Prop} {r r' : Int32} (H : gm_L C r) (H' : gm_L C r') : r = r' := by
  rcases H with ⟨e, hn⟩ | ⟨z, hz, e, hC, hm⟩
  · rcases H' with ⟨e', hn'⟩ | ⟨z', hz', e', hC', hm'⟩
    · rw [e, e']
    · exact absurd hC' (hn z')
  · rcases H' with ⟨e', hn'⟩ | ⟨z', hz', e', hC', hm'⟩
    · exact absurd hC (hn' z)
    · have h : z = z' := Nat.le_antisymm (hm z' hC') (hm' z hC)
      rw [e, e', h]
noncomputable def gm_e (C : Nat → Prop) : Int32 := Classical.epsilon (gm_L C)
theorem gm_e_q {C : Nat → Prop} {r : Int32} (H : gm_L C r) : gm_e C = r := gm_L_u (Classical.epsilon_spec ⟨r, H⟩) H
theorem gm_e_c {C C' : Nat → Prop} (h : ∀ x, C x ↔ C' x) : gm_e C = gm_e C' := congrArg gm_e (funext fun x => propext (h x))
end
section
/-! the values of the cuts, as each side meets them -/
def gm_D (a : Nat) (P : Nat → Nat → Prop) (k x : Nat) : Prop := ∃ s, a ≤ s ∧ s < k ∧ P s x
theorem gm_D_0 (a : Nat) (P : Nat → Nat → Prop) : ∀ x, ¬ gm_D a P a x := by
  intro x H
  obtain ⟨s, h1, h2, _⟩ := H
  omega
theorem gm_D_f {a k : Nat} {P : Nat → Nat → Prop} (h : ∀ x, ¬ P k x) (x : Nat) : gm_D a P (k + 1) x ↔ gm_D a P k x := by
  constructor
  · intro H
    obtain ⟨s, h1, h2, h3⟩ := H
    rcases Nat.lt_or_ge s k with h4 | h4
    · exact ⟨s, h1, h4, h3⟩
    · have e : s = k := by omega
      rw [e] at h3
      exact absurd h3 (h x)
  · intro H
    obtain ⟨s, h1, h2, h3⟩ := H
    exact ⟨s, h1, by omega, h3⟩
theorem gm_D_t {a k y : Nat} {P : Nat → Nat → Prop} (ha : a ≤ k) (h : ∀ x, P k x ↔ x = y) (x : Nat) : gm_D a P (k + 1) x ↔ gm_D a P k x ∨ x = y := by
  constructor
  · intro H
    obtain ⟨s, h1, h2, h3⟩ := H
    rcases Nat.lt_or_ge s k with h4 | h4
    · exact Or.inl ⟨s, h1, h4, h3⟩
    · have e : s = k := by omega
      rw [e] at h3
      exact Or.inr ((h x).mp h3)
  · intro H
    rcases H with ⟨s, h1, h2, h3⟩ | e
    · exact ⟨s, h1, by omega, h3⟩
    · exact ⟨k, ha, by omega, (h x).mpr e⟩
def gm_PY (n : Nat) (wi g : Nat → Bool) (w : Nat → Nat) (sel : (Nat → Bool) → Prop) (m x : Nat) : Prop := sel m.testBit ∧ gm_N n wi m.testBit ∧ ¬ gm_G n wi g m.testBit ∧ gm_V n wi w m.testBit = x
def gm_PW (n wn : Nat) (g : Nat → Bool) (w : Nat → Nat) (s x : Nat) : Prop := (∀ j, s.testBit j = true → wn.testBit j = true) ∧ ¬ gm_G n wn.testBit g s.testBit ∧ gm_V n wn.testBit w s.testBit = x
def gm_PS (n wn : Nat) (g : Nat → Bool) (w : Nat → Nat) (u v t x : Nat) : Prop := ((2 * t).testBit u != (2 * t).testBit v) = true ∧ ¬ gm_G n wn.testBit g (2 * t).testBit ∧ gm_V n wn.testBit w (2 * t).testBit = x
def gm_C (n : Nat) (wi g : Nat → Bool) (w : Nat → Nat) (sel : (Nat → Bool) → Prop) : Nat → Prop := gm_D 0 (gm_PY n wi g w sel) (2 ^ n)
def gm_CW (n wn : Nat) (g : Nat → Bool) (w : Nat → Nat) : Nat → Prop := gm_D 1 (gm_PW n wn g w) wn
def gm_CS (n h : Nat) (g : Nat → Bool) (w : Nat → Nat) (u v : Nat) : Nat → Prop := gm_D 1 (gm_PS n (2 ^ n - 1) g w u v) h
theorem gm_tb_hi {x n j : Nat} (h : x < 2 ^ n) (hj : x.testBit j = true) : j < n := by
  rcases Nat.lt_or_ge j n with h1 | h1
  · exact h1
  · have h2 := Nat.testBit_lt_two_pow (x := x) (i := j) (Nat.lt_of_lt_of_le h (Nat.pow_le_pow_right (by decide) h1))
    rw [h2] at hj
    cases hj
theorem gm_CW_C {n wn : Nat} {wi g : Nat → Bool} {w : Nat → Nat} (hwn : wn < 2 ^ n) (hwi : ∀ u, u < n → wn.testBit u = wi u) (x : Nat) : gm_CW n wn g w x ↔ gm_C n wi g w (fun _ => True) x := by
  have hi : ∀ u, u < n → wi u = wn.testBit u := fun u hu => (hwi u hu).symm
  constructor
  · intro H
    obtain ⟨s, h1, h2, h3, h4, h5⟩ := H
    have hN : gm_N n wn.testBit s.testBit := by
      constructor
      · obtain ⟨j, hj⟩ := Nat.exists_testBit_of_ne_zero (x := s) (by omega)
        exact ⟨j, gm_tb_hi hwn (h3 j hj), h3 j hj, hj⟩
      · obtain ⟨j, hj⟩ := Nat.exists_testBit_ne_of_ne (x := s) (y := wn) (by omega)
        cases hs : s.testBit j with
        | true => exact absurd (hs.trans (h3 j hs).symm) hj
        | false =>
          cases hw : wn.testBit j with
          | false => exact absurd (hs.trans hw.symm) hj
          | true => exact ⟨j, gm_tb_hi hwn hw, hw, hs⟩
    exact ⟨s, Nat.zero_le _, by omega, trivial, gm_N_c hwi (fun _ _ _ => rfl) hN, fun z => h4 (gm_G_c hi (fun _ _ _ => rfl) z), (gm_V_c hi (fun _ _ _ => rfl)).trans h5⟩
  · intro H
    obtain ⟨m, _, h1, _, h3, h4, h5⟩ := H
    have hb : ∀ u, u < n → wi u = true → m.testBit u = (m &&& wn).testBit u := fun u hu hw => by
      rw [Nat.testBit_and, hwi u hu, hw, Bool.and_true]
    have hb' : ∀ u, u < n → wn.testBit u = true → (m &&& wn).testBit u = m.testBit u := fun u hu hw => (hb u hu ((hi u hu).trans hw)).symm
    obtain ⟨⟨j, hj, hw, hm⟩, ⟨i, hi', hx, hz⟩⟩ := gm_N_c hi hb h3
    refine ⟨m &&& wn, ?_, ?_, ?_, fun z => h4 (gm_G_c hwi hb' z), (gm_V_c hwi hb').trans h5⟩
    · rcases Nat.eq_zero_or_pos (m &&& wn) with e | e
      · rw [e, Nat.zero_testBit] at hm
        cases hm
      · exact e
    · refine Nat.lt_of_le_of_ne Nat.and_le_right fun e => ?_
      rw [e, hx] at hz
      cases hz
    · intro k hk
      rw [Nat.testBit_and, Bool.and_eq_true] at hk
      exact hk.2
theorem gm_N_even {n m : Nat} {wi : Nat → Bool} (hn : 1 ≤ n) (hwi : ∀ u, u < n → wi u = true) (h0 : m ≠ 0) (hm : m < 2 ^ n) (he : m % 2 = 0) : gm_N n wi m.testBit := by
  obtain ⟨j, hj⟩ := Nat.exists_testBit_of_ne_zero h0
  have hj' := gm_tb_hi hm hj
  refine ⟨⟨j, hj', hwi j hj', hj⟩, ⟨0, hn, hwi 0 hn, ?_⟩⟩
  rw [Nat.testBit_zero, he]
  rfl
theorem gm_CS_mk {n h m u v x : Nat} {g : Nat → Bool} {w : Nat → Nat} (hh : 2 ^ n = 2 * h) (hm : m < 2 ^ n) (he : m.testBit 0 = false) (hs : (m.testBit u != m.testBit v) = true) (hN : gm_N n (2 ^ n - 1).testBit m.testBit) (hG : ¬ gm_G n (2 ^ n - 1).testBit g m.testBit) (hV : gm_V n (2 ^ n - 1).testBit w m.testBit = x) : gm_CS n h g w u v x := by
  have h2 : 2 * (m / 2) = m := by
    rw [Nat.testBit_zero] at he
    have h9 := of_decide_eq_false he
    omega
  obtain ⟨⟨j, hj, hw, hj1⟩, ⟨i, hi, hx, hi1⟩⟩ := hN
  have h0 : m ≠ 0 := fun e => by
    rw [e, Nat.zero_testBit] at hj1
    cases hj1
  have h1 : m ≠ 2 ^ n - 1 := fun e => by
    rw [← e, hi1] at hx
    cases hx
  refine ⟨m / 2, by omega, by omega, ?_, ?_, ?_⟩
  · rw [h2]; exact hs
  · rw [h2]; exact hG
  · rw [h2]; exact hV
theorem gm_nb (a b : Bool) (h : (a != b) = true) : ((!a) != (!b)) = true := by cases a <;> cases b <;> first | exact h | rfl
theorem gm_CS_C {n h u v : Nat} {wi g : Nat → Bool} {w : Nat → Nat} (hh : 2 ^ n = 2 * h) (hn : 1 ≤ n) (hu : u < n) (hv : v < n) (hwi : ∀ u, u < n → wi u = true) (x : Nat) : gm_CS n h g w u v x ↔ gm_C n wi g w (fun b => (b u != b v) = true) x := by
  have hi : ∀ u, u < n → wi u = (2 ^ n - 1).testBit u := fun u hu => by
    rw [Nat.testBit_two_pow_sub_one, hwi u hu, decide_eq_true hu]
  have hi' : ∀ u, u < n → (2 ^ n - 1).testBit u = wi u := fun u hu => (hi u hu).symm
  constructor
  · intro H
    obtain ⟨t, h1, h2, h3, h4, h5⟩ := H
    exact ⟨2 * t, Nat.zero_le _, by omega, h3, gm_N_even hn hwi (by omega) (by omega) (by omega), fun z => h4 (gm_G_c hi (fun _ _ _ => rfl) z), (gm_V_c hi (fun _ _ _ => rfl)).trans h5⟩
  · intro H
    obtain ⟨m, _, h1, h2, h3, h4, h5⟩ := H
    have h3' := gm_N_c hi (fun _ _ _ => rfl) h3
    have h4' : ¬ gm_G n (2 ^ n - 1).testBit g m.testBit := fun z => h4 (gm_G_c hi' (fun _ _ _ => rfl) z)
    have h5' := (gm_V_c (w := w) (b := m.testBit) hi' (fun _ _ _ => rfl)).trans h5
    cases h0 : m.testBit 0 with
    | false => exact gm_CS_mk hh h1 h0 h2 h3' h4' h5'
    | true =>
      have hb : ∀ j, j < n → (2 ^ n - (m + 1)).testBit j = !m.testBit j := fun j hj => by
        rw [Nat.testBit_two_pow_sub_succ h1, decide_eq_true hj, Bool.true_and]
      refine gm_CS_mk hh (m := 2 ^ n - (m + 1)) (by omega) ?_ ?_ (gm_N_n hb h3') (fun z => h4' (gm_G_n hb z)) ((gm_V_n hb).trans h5')
      · rw [hb 0 hn, h0]
        rfl
      · rw [hb u hu, hb v hv]
        exact gm_nb _ _ h2
theorem gm_C_s {n u v : Nat} {wi g : Nat → Bool} {w : Nat → Nat} (x : Nat) : gm_C n wi g w (fun b => (b u != b v) = true) x ↔ gm_C n wi g w (fun b => (b v != b u) = true) x := by
  constructor
  · intro H
    obtain ⟨m, h0, h1, h2, h3⟩ := H
    exact ⟨m, h0, h1, (bne_comm (a := m.testBit v) (b := m.testBit u)).trans h2, h3⟩
  · intro H
    obtain ⟨m, h0, h1, h2, h3⟩ := H
    exact ⟨m, h0, h1, (bne_comm (a := m.testBit u) (b := m.testBit v)).trans h2, h3⟩
/-! the first even mask that does -/
def gm_F (Q : Nat → Prop) (h : Nat) (r : Int32) : Prop := (r = -3 ∧ ∀ t, 1 ≤ t → t < h → ¬ Q t) ∨ (∃ t, 1 ≤ t ∧ t < h ∧ r = nI (2 * t) ∧ Q t ∧ ∀ s, 1 ≤ s → s < t → ¬ Q s)
theorem gm_F_u {Q : Nat → Prop} {h : Nat} {r r' : Int32} (H : gm_F Q h r) (H' : gm_F Q h r') : r = r' := by
  rcases H with ⟨e, hn⟩ | ⟨z, hz, hh, e, hC, hm⟩
  · rcases H' with ⟨e', hn'⟩ | ⟨z', hz', hh', e', hC', hm'⟩
    · rw [e, e']
    · exact absurd hC' (hn z' hz' hh')
  · rcases H' with ⟨e', hn'⟩ | ⟨z', hz', hh', e', hC', hm'⟩
    · exact absurd hC (hn' z hz hh)
    · have h : z = z' := by
        rcases Nat.lt_trichotomy z z' with h | h | h
        · exact absurd hC (hm' z hz h)
        · exact h
        · exact absurd hC' (hm z' hz' h)
      rw [e, e', h]
end
section
/-! masks as Int32, by their bits -/
theorem gm_bI (m j : Nat) (hj : j < 32) : bt (nI m) j = m.testBit j := by
  show (BitVec.ofNat 32 m).getLsbD j = _
  rw [BitVec.getLsbD_ofNat, decide_eq_true hj, Bool.true_and]
theorem gm_b1 : ∀ i, i < 32 → bt 1 i = decide (i = 0) := by decide +kernel
theorem gm_and1 (x : Int32) : x &&& 1 = if bt x 0 = true then 1 else 0 := by
  apply b_ext
  intro i hi
  rw [b_and, gm_b1 i hi]
  by_cases h0 : i = 0
  · subst h0
    cases bt x 0 <;> decide +kernel
  · rw [decide_eq_false h0, Bool.and_false]
    split
    · rw [gm_b1 i hi, decide_eq_false h0]
    · rw [b_0]
theorem gm_and1_1 (x : Int32) : x &&& 1 = 1 ↔ bt x 0 = true := by
  rw [gm_and1]
  cases bt x 0 <;> decide +kernel
theorem gm_sh0 (x : Int32) {u : Nat} (hu : u < 32) : bt (x >>> (nI u &&& 31)) 0 = bt x u := by
  rw [b_sshr u hu x (by decide), Nat.add_zero, if_pos hu]
theorem gm_has (x : Int32) {u v : Nat} (hu : u < 32) (hv : v < 32) : ((x >>> (nI u &&& 31)) &&& (x >>> (nI v &&& 31))) &&& 1 = 1 ↔ (bt x u && bt x v) = true := by
  rw [gm_and1_1, b_and, gm_sh0 x hu, gm_sh0 x hv]
theorem gm_xor_bne (a b : Bool) : (a ^^ b) = (a != b) := by cases a <;> cases b <;> rfl
theorem gm_sep (x : Int32) {u v : Nat} (hu : u < 32) (hv : v < 32) : ((x >>> (nI u &&& 31)) ^^^ (x >>> (nI v &&& 31))) &&& 1 = 1 ↔ (bt x u != bt x v) = true := by
  rw [gm_and1_1, b_xor, gm_sh0 x hu, gm_sh0 x hv, gm_xor_bne]
theorem gm_if_eq (a b : Bool) : ((if a = true then (1 : Int32) else 0) = (if b = true then (1 : Int32) else 0)) ↔ (a != b) = false := by
  cases a <;> cases b <;> decide +kernel
theorem gm_sepY (x : Int32) {u v : Nat} (hu : u < 32) (hv : v < 32) : (x >>> (nI u &&& 31)) &&& 1 = (x >>> (nI v &&& 31)) &&& 1 ↔ (bt x u != bt x v) = false := by
  rw [gm_and1, gm_and1, gm_sh0 x hu, gm_sh0 x hv]
  exact gm_if_eq _ _
theorem gm_bitY (x : Int32) {u : Nat} (hu : u < 32) : (x >>> (nI u &&& 31)) &&& 1 = nI (if bt x u = true then 1 else 0) := by
  rw [gm_and1, gm_sh0 x hu]
  cases bt x u <;> decide +kernel
theorem gm_pw : ∀ n, n < 10 → (1 : Int32) <<< (nI n &&& 31) = nI (2 ^ n) := by decide +kernel
theorem gm_all : ∀ n, n < 10 → ((1 : Int32) <<< (nI n &&& 31)) - 1 = nI (2 ^ n - 1) := by decide +kernel
theorem gm_rest : ∀ n, n < 10 → ∀ v, v < n → nI (2 ^ n - 1) &&& (((1 : Int32) <<< (nI v &&& 31)) ^^^ (-1)) = nI (2 ^ n - 1 - 2 ^ v) := by decide +kernel
theorem gm_rest_b : ∀ n, n < 10 → ∀ v, v < n → ∀ u, u < n → (2 ^ n - 1 - 2 ^ v).testBit u = decide (¬ u = v) := by decide +kernel
theorem gm_pw_le : ∀ n, n < 10 → 2 ^ n ≤ 512 := by decide +kernel
theorem gm_pw_ev : ∀ n, n < 10 → 1 ≤ n → 2 ^ n = 2 * 2 ^ (n - 1) := by decide +kernel
theorem gm_pw_ge : ∀ n, n < 10 → 2 ≤ n → 4 ≤ 2 ^ n := by decide +kernel
theorem gm_sub {s wn : Nat} (hs : s < 512) : nI s &&& (nI wn ^^^ (-1)) = 0 ↔ ∀ j, s.testBit j = true → wn.testBit j = true := by
  constructor
  · intro e j hj
    have hj' : j < 9 := gm_tb_hi (n := 9) hs hj
    have h : bt (nI s &&& (nI wn ^^^ (-1))) j = bt 0 j := by rw [e]
    rw [b_and, b_xor, b_0, gm_bI _ _ (by omega), gm_bI _ _ (by omega), b_m1 j (by omega), hj] at h
    cases hw : wn.testBit j with
    | true => rfl
    | false =>
      rw [hw] at h
      exact absurd h (by decide)
  · intro h
    apply b_ext
    intro i hi
    rw [b_and, b_xor, b_0, gm_bI _ _ hi, gm_bI _ _ hi, b_m1 i hi]
    cases hs' : s.testBit i with
    | false => rfl
    | true =>
      rw [h i hs']
      rfl
end
section
/-! the clamped sum -/
theorem gm_cl1 {w : Nat} {m : Int32} (hw : w ≤ 50) : m ≤ 50 - nI w ↔ m.toInt ≤ 50 - (w : Int) := by
  have e : (50 : Int32) - nI w = nI (50 - w) := pk_sub (a := 50) hw
  rw [e, Int32.le_iff_toInt_le, nI_toInt (by omega)]
  omega
theorem gm_cl2 {w : Nat} {m : Int32} (hw : w ≤ 50) : -nI w ≤ m ↔ -(w : Int) ≤ m.toInt := by
  rw [Int32.le_iff_toInt_le, sb_negT (by omega)]
theorem gm_clS {w : Nat} (m : Int32) (hw : w ≤ 50) : ((nI w).toInt64 + m.toInt64).toInt = (w : Int) + m.toInt := by
  have h1 := Int32.toInt_lt m
  have h2 := Int32.le_toInt m
  rw [Int64.toInt_add, Int32.toInt_toInt64, Int32.toInt_toInt64, nI_toInt (by omega)]
  exact Int.bmod_eq_of_le (by omega) (by omega)
theorem gm_clZ {w : Nat} {m : Int32} (hw : w ≤ 50) (h1 : m.toInt ≤ 50 - (w : Int)) (h2 : -(w : Int) ≤ m.toInt) : ∃ z : Nat, z ≤ 50 ∧ nI w + m = nI z ∧ ((nI w).toInt64 + m.toInt64).toInt32 = nI z := by
  refine ⟨((w : Int) + m.toInt).toNat, by omega, ?_, ?_⟩
  · apply Int32.toInt_inj.mp
    rw [Int32.toInt_add, nI_toInt (by omega), nI_toInt (by omega), Int.bmod_eq_of_le (by omega) (by omega)]
    omega
  · have e : (nI w).toInt64 + m.toInt64 = lN ((w : Int) + m.toInt).toNat := by
      apply Int64.toInt_inj.mp
      rw [gm_clS m hw, pk_lT (by omega)]
      omega
    rw [e, lN_i]
end
section
/-! cells, pairs, one pair cut -/
def gm_A (g : Nat → Bool) : Nat → Int32 := fun c => if g c = true then 1 else 0
def gm_W (w : Nat → Nat) : Nat → Int32 := fun c => nI (w c)
theorem gm_A_0 {g : Nat → Bool} {c : Nat} (h : g c = false) : gm_A g c = 0 := by
  unfold gm_A
  rw [if_neg (by rw [h]; decide)]
theorem gm_A_1 {g : Nat → Bool} {c : Nat} (h : g c = true) : ¬ gm_A g c = 0 := by
  unfold gm_A
  rw [if_pos h]
  decide
theorem gm_cell (u v : Nat) : nI u * 9 + nI v = nI (u * 9 + v) := by
  show nI u * nI 9 + nI v = _
  rw [pk_mul, nI_add]
theorem gm_ix {u v : Nat} (hu : u < 9) (hv : v < 9) : (nI u * 9 + nI v).toNatClampNeg = u * 9 + v := by
  rw [gm_cell]
  exact nI_clamp (by omega)
theorem gm_in {u v : Nat} (hu : u < 9) (hv : v < 9) : vp_in (nI u * 9 + nI v) 81 := by
  rw [gm_cell]
  exact vp_in_nI (by omega) (by decide)
theorem gm_Az {g : Nat → Bool} {u v : Nat} (hu : u < 9) (hv : v < 9) (h : g (u * 9 + v) = false) : gm_A g (nI u * 9 + nI v).toNatClampNeg = 0 := by
  rw [gm_ix hu hv]
  exact gm_A_0 h
theorem gm_An {g : Nat → Bool} {u v : Nat} (hu : u < 9) (hv : v < 9) (h : g (u * 9 + v) = true) : ¬ gm_A g (nI u * 9 + nI v).toNatClampNeg = 0 := by
  rw [gm_ix hu hv]
  exact gm_A_1 h
theorem gm_Wz {w : Nat → Nat} {u v : Nat} (hu : u < 9) (hv : v < 9) : gm_W w (nI u * 9 + nI v).toNatClampNeg = nI (w (u * 9 + v)) := by
  rw [gm_ix hu hv]
  rfl
def gm_P (n : Nat) (p q : Int32) : Prop := ∃ i j, i < n ∧ j < n ∧ i ≠ j ∧ p = nI i ∧ q = nI j
theorem gm_Xv_t {post : Int32 → Prop} {n j : Nat} {a b : Nat → Int32} (hn : n ≤ 9) (hj : j < n) (hp : post 1) : wpX_isVertex post (nI n, a, b) (nI j) :=
  br_f (nI_pos (by omega)) (br_f (nI_ge hj (by omega)) hp)
theorem gm_Xv_f {post : Int32 → Prop} {n : Nat} {a b : Nat → Int32} {p : Int32} (h : p < 0 ∨ nI n ≤ p) (hp : post 0) : wpX_isVertex post (nI n, a, b) p := by
  by_cases h0 : p < 0
  · exact br_t h0 hp
  · exact br_f h0 (br_t (h.resolve_left h0) hp)
theorem gm_Xpair_t {post : Int32 → Prop} {n i j : Nat} {a b : Nat → Int32} (hn : n ≤ 9) (hi : i < n) (hj : j < n) (hij : i ≠ j) (hp : post 1) : wpX_isPair post (nI n, a, b) (nI i) (nI j) := by
  unfold wpX_isPair
  dsimp only
  refine gm_Xv_t hn hi (br_f (by decide) ?_)
  refine gm_Xv_t hn hj (br_f (by decide) ?_)
  exact br_f (fun e => hij ((nI_eq (by omega) (by omega)).mp e)) hp
theorem gm_Xpair_f {post : Int32 → Prop} {n : Nat} {a b : Nat → Int32} {p q : Int32} (hn : n ≤ 9) (h : ¬ gm_P n p q) (hp : post 0) : wpX_isPair post (nI n, a, b) p q := by
  unfold wpX_isPair
  dsimp only
  rcases pk_ix p (n := n) (by omega) with h1 | h1 | ⟨i, hi, e1⟩
  · exact gm_Xv_f (Or.inl h1) (br_t rfl hp)
  · exact gm_Xv_f (Or.inr h1) (br_t rfl hp)
  · subst e1
    refine gm_Xv_t hn hi (br_f (by decide) ?_)
    rcases pk_ix q (n := n) (by omega) with h1 | h1 | ⟨j, hj, e2⟩
    · exact gm_Xv_f (Or.inl h1) (br_t rfl hp)
    · exact gm_Xv_f (Or.inr h1) (br_t rfl hp)
    · subst e2
      refine gm_Xv_t hn hj (br_f (by decide) ?_)
      have e : i = j := Decidable.byContradiction fun c => h ⟨i, j, hi, hj, c, rfl, rfl⟩
      subst e
      exact br_t rfl hp
theorem gm_b2 {a c : Bool} (h1 : a = true) (h2 : c = true) : (a && c) = true := by
  subst h1; subst h2; rfl
theorem gm_b3 {a c : Bool} (h2 : c = false) : (a && c) = false := by
  subst h2; cases a <;> rfl
theorem gm_b4 {a c : Bool} (h1 : a = false) : (a && c) = false := by
  subst h1; rfl
theorem gm_nt {a : Bool} (h : ¬ a = true) : a = false := by
  cases a
  · rfl
  · exact absurd rfl h
theorem gm_Xcut {post : Int32 → Prop} {s wn : Int32} {u v : Nat} (hu : u < 9) (hv : v < 9) (ht : gm_q (bt wn) (bt s) u v = true → post 1) (hf : gm_q (bt wn) (bt s) u v = false → post 0) : wpX_isCut post s wn (nI u) (nI v) := by
  unfold wpX_isCut wpX_hasBoth wpX_separates
  by_cases h1 : (bt wn u && bt wn v) = true
  · refine br_t ((gm_has wn (by omega) (by omega)).mpr h1) (br_f (by decide) ?_)
    by_cases h2 : (bt s u != bt s v) = true
    · exact br_t ((gm_sep s (by omega) (by omega)).mpr h2) (br_f (by decide) (ht (gm_b2 h1 h2)))
    · exact br_f (fun z => h2 ((gm_sep s (by omega) (by omega)).mp z)) (br_t rfl (hf (gm_b3 (gm_nt h2))))
  · exact br_f (fun z => h1 ((gm_has wn (by omega) (by omega)).mp z)) (br_t rfl (hf (gm_b4 (gm_nt h1))))
/-! isAllowed -/
theorem gm_XA15 {post : Int32 → Prop} {J : Int32 → Prop} {s wn : Int32} {n u : Nat} {aw : Nat → Int32} {g : Nat → Bool} (hn : n ≤ 9) (hu : u < n) (h0 : (∃ v, u < v ∧ v < n ∧ gm_q (bt wn) (bt s) u v = true ∧ g (u * 9 + v) = true) → post 0) (hJ : (∀ v, u < v → v < n → gm_q (bt wn) (bt s) u v = true → g (u * 9 + v) = true → False) → J (nI (u + 1))) : ∀ d j f, j + d = n → u < j → d < f → (∀ v, u < v → v < j → gm_q (bt wn) (bt s) u v = true → g (u * 9 + v) = true → False) → wX_isAllowed_15 post J s wn (nI u) (nI n) aw (gm_A g) f (nI j) := by
  intro d
  induction d with
  | zero =>
    intro j f hj huj hf hI
    obtain ⟨f, rfl⟩ : ∃ k, f = k + 1 := ⟨f - 1, by omega⟩
    exact br_t (nI_le (by omega) (by omega)) (nm_r (nI_1 u) (hJ (fun v h1 h2 => hI v h1 (by omega))))
  | succ d ih =>
    intro j f hj huj hf hI
    obtain ⟨f, rfl⟩ : ∃ k, f = k + 1 := ⟨f - 1, by omega⟩
    have hj9 : j < 9 := by omega
    have hu9 : u < 9 := by omega
    have next : (gm_q (bt wn) (bt s) u j = true → g (u * 9 + j) = true → False) → wX_isAllowed_15 post J s wn (nI u) (nI n) aw (gm_A g) f (nI (j + 1)) := by
      intro hh
      refine ih (j + 1) f (by omega) (by omega) (by omega) fun v h1 h2 hq hg => ?_
      rcases Nat.lt_or_ge v j with h3 | h3
      · exact hI v h1 h3 hq hg
      · have e : v = j := by omega
        subst e
        exact hh hq hg
    refine br_f (nI_ge (by omega) (by omega)) ⟨gm_in hu9 hj9, ?_⟩
    by_cases hg : g (u * 9 + j) = true
    · refine br_f (gm_An hu9 hj9 hg) (gm_Xcut hu9 hj9 (fun hq => br_f (by decide) (h0 ⟨j, huj, by omega, hq, hg⟩)) (fun hq => br_t rfl (nm_r (nI_1 j) (next fun hq' _ => ?_))))
      rw [hq] at hq'
      cases hq'
    · exact br_t (gm_Az hu9 hj9 (gm_nt hg)) (nm_r (nI_1 j) (next fun _ hg' => hg hg'))
theorem gm_XA2 {post : Int32 → Prop} {s wn : Int32} {n : Nat} {aw : Nat → Int32} {g : Nat → Bool} (hn : n ≤ 9) (h0 : (∃ u v, u < v ∧ v < n ∧ gm_q (bt wn) (bt s) u v = true ∧ g (u * 9 + v) = true) → post 0) (h1 : (∀ u v, u < v → v < n → gm_q (bt wn) (bt s) u v = true → g (u * 9 + v) = true → False) → post 1) : ∀ d u f, u + d = n → d < f → (∀ a v, a < u → a < v → v < n → gm_q (bt wn) (bt s) a v = true → g (a * 9 + v) = true → False) → wX_isAllowed_2 post s wn (nI n) aw (gm_A g) f (nI u) := by
  intro d
  induction d with
  | zero =>
    intro u f hu hf hI
    obtain ⟨f, rfl⟩ : ∃ k, f = k + 1 := ⟨f - 1, by omega⟩
    exact br_t (nI_le (by omega) (by omega)) (h1 (fun a v h2 h3 => hI a v (by omega) h2 h3))
  | succ d ih =>
    intro u f hu hf hI
    obtain ⟨f, rfl⟩ : ∃ k, f = k + 1 := ⟨f - 1, by omega⟩
    refine br_f (nI_ge (by omega) (by omega)) (nm_r (nI_1 u) ⟨d + 1, ?_⟩)
    refine gm_XA15 hn (by omega) (fun H => ?_) (fun H => ?_) d (u + 1) (d + 1) (by omega) (by omega) (by omega) (fun v h2 h3 => by omega)
    · obtain ⟨v, h2, h3, h4, h5⟩ := H
      exact h0 ⟨u, v, h2, h3, h4, h5⟩
    · refine ih (u + 1) f (by omega) (by omega) fun a v h2 h3 h4 h5 h6 => ?_
      rcases Nat.lt_or_ge a u with h7 | h7
      · exact hI a v h7 h3 h4 h5 h6
      · have e : a = u := by omega
        subst e
        exact H v h3 h4 h5 h6
theorem gm_XA {post : Int32 → Prop} {s wn : Int32} {n : Nat} {aw : Nat → Int32} {g : Nat → Bool} (hn : n ≤ 9) (hg : gm_sy g) (h0 : gm_G n (bt wn) g (bt s) → post 0) (h1 : ¬ gm_G n (bt wn) g (bt s) → post 1) : wpX_isAllowed post (nI n, aw, gm_A g) s wn := by
  refine ⟨n + 1, gm_XA2 hn (fun H => ?_) (fun H => ?_) n 0 (n + 1) (by omega) (by omega) (fun a v h2 => by omega)⟩
  · obtain ⟨u, v, h2, h3, h4, h5⟩ := H
    exact h0 ⟨u, v, by omega, h3, h4, h5⟩
  · refine h1 fun G => ?_
    obtain ⟨u, v, h2, h3, h4, h5⟩ := gm_G_up hn hg G
    exact H u v h2 h3 h4 h5
theorem gm_bn {m n : Nat} (hn : n ≤ 9) : ∀ u, u < n → bt (nI m) u = m.testBit u := fun u hu => gm_bI m u (by omega)
theorem gm_bn' {m n : Nat} (hn : n ≤ 9) : ∀ u, u < n → m.testBit u = bt (nI m) u := fun u hu => (gm_bI m u (by omega)).symm
theorem gm_XAn {post : Int32 → Prop} {s wn n : Nat} {aw : Nat → Int32} {g : Nat → Bool} (hn : n ≤ 9) (hg : gm_sy g) (h0 : gm_G n wn.testBit g s.testBit → post 0) (h1 : ¬ gm_G n wn.testBit g s.testBit → post 1) : wpX_isAllowed post (nI n, aw, gm_A g) (nI s) (nI wn) :=
  gm_XA hn hg (fun G => h0 (gm_G_c (gm_bn hn) (fun u hu _ => gm_bn hn u hu) G)) (fun G => h1 (fun z => G (gm_G_c (gm_bn' hn) (fun u hu _ => gm_bn' hn u hu) z)))
end
section
/-! cutValue -/
theorem gm_XC20 {post : Int32 → Prop} {J : Int32 → Int32 → Prop} {s wn : Int32} {n u A : Nat} {w : Nat → Nat} {ag : Nat → Int32} (hn : n ≤ 9) (hu : u < n) (hJ : J (nI (A + gm_S (gm_R (bt wn) (bt s) w u) n)) (nI (u + 1))) : ∀ d j f, j + d = n → u < j → d < f → wX_cutValue_20 post J s wn (nI u) (nI n) (gm_W w) ag f (nI (A + gm_S (gm_R (bt wn) (bt s) w u) j)) (nI j) := by
  intro d
  induction d with
  | zero =>
    intro j f hj huj hf
    obtain ⟨f, rfl⟩ : ∃ k, f = k + 1 := ⟨f - 1, by omega⟩
    have e : j = n := by omega
    rw [e]
    exact br_t (nI_le (Nat.le_refl n) (by omega)) (nm_r (nI_1 u) hJ)
  | succ d ih =>
    intro j f hj huj hf
    obtain ⟨f, rfl⟩ : ∃ k, f = k + 1 := ⟨f - 1, by omega⟩
    have hj9 : j < 9 := by omega
    have hu9 : u < 9 := by omega
    have next := ih (j + 1) f (by omega) (by omega) (by omega)
    rw [gm_S_1] at next
    have eR : gm_R (bt wn) (bt s) w u j = gm_t (bt wn) (bt s) w u j := if_pos huj
    refine br_f (nI_ge (by omega) (by omega)) (gm_Xcut hu9 hj9 (fun hq => br_f (by decide) ⟨gm_in hu9 hj9, nm_r ?_ (nm_r (nI_1 j) next)⟩) (fun hq => br_t rfl (nm_r (nI_1 j) ?_)))
    · have et : gm_t (bt wn) (bt s) w u j = w (u * 9 + j) := if_pos hq
      rw [gm_Wz hu9 hj9, nI_add, eR, et, Nat.add_assoc]
    · have et : gm_t (bt wn) (bt s) w u j = 0 := if_neg (by rw [hq]; decide)
      rw [eR, et, Nat.add_zero] at next
      exact next
theorem gm_XC5 {post : Int32 → Prop} {s wn : Int32} {n : Nat} {w : Nat → Nat} {ag : Nat → Int32} (hn : n ≤ 9) (hp : post (nI (gm_U n (bt wn) w (bt s)))) : ∀ d u f, u + d = n → d < f → wX_cutValue_5 post s wn (nI n) (gm_W w) ag f (nI (gm_S (fun u => gm_S (gm_R (bt wn) (bt s) w u) n) u)) (nI u) := by
  intro d
  induction d with
  | zero =>
    intro u f hu hf
    obtain ⟨f, rfl⟩ : ∃ k, f = k + 1 := ⟨f - 1, by omega⟩
    have e : u = n := by omega
    rw [e]
    exact br_t (nI_le (Nat.le_refl n) (by omega)) hp
  | succ d ih =>
    intro u f hu hf
    obtain ⟨f, rfl⟩ : ∃ k, f = k + 1 := ⟨f - 1, by omega⟩
    refine br_f (nI_ge (by omega) (by omega)) (nm_r (nI_1 u) ⟨d + 1, ?_⟩)
    have h := gm_XC20 (post := post) (J := wX_cutValue_5 post s wn (nI n) (gm_W w) ag f) (s := s) (wn := wn) (n := n) (u := u) (A := gm_S (fun u => gm_S (gm_R (bt wn) (bt s) w u) n) u) (w := w) (ag := ag) hn (by omega) (ih (u + 1) f (by omega) (by omega)) d (u + 1) (d + 1) (by omega) (by omega) (by omega)
    have e0 : gm_S (gm_R (bt wn) (bt s) w u) (u + 1) = 0 := gm_S_zero fun v hv => if_neg (by omega)
    rw [e0, Nat.add_zero] at h
    exact h
theorem gm_XC {post : Int32 → Prop} {s wn : Int32} {n : Nat} {w : Nat → Nat} {ag : Nat → Int32} (hn : n ≤ 9) (hw : gm_sy w) (hp : post (nI (gm_V n (bt wn) w (bt s)))) : wpX_cutValue post (nI n, gm_W w, ag) s wn := by
  rw [← gm_UV hn hw] at hp
  exact ⟨n + 1, gm_XC5 hn hp n 0 (n + 1) (by omega) (by omega)⟩
theorem gm_XCn {post : Int32 → Prop} {s wn n : Nat} {w : Nat → Nat} {ag : Nat → Int32} (hn : n ≤ 9) (hw : gm_sy w) (hp : post (nI (gm_V n wn.testBit w s.testBit))) : wpX_cutValue post (nI n, gm_W w, ag) (nI s) (nI wn) := by
  refine gm_XC hn hw ?_
  rw [gm_V_c (gm_bn hn) (fun u hu _ => gm_bn hn u hu)]
  exact hp
theorem gm_Xle {post : Int32 → Prop} {C C' : Nat → Prop} {r : Int32} {x : Nat} (hx : x < 2 ^ 31) (h : ∀ y, C' y ↔ C y ∨ y = x) (H : gm_L C r) (hp : ∀ r', gm_L C' r' → post r') : wpX_lesser post r (nI x) :=
  br_c (fun e => hp _ (gm_L_t hx h H (Or.inl e))) (fun e => br_c (fun l => hp _ (gm_L_f hx h H e (Int32.not_lt.mpr l))) (fun l => hp _ (gm_L_t hx h H (Or.inr (Int32.not_le.mp l)))))
/-! leastWithin -/
theorem gm_XL5 {post : Int32 → Prop} {n wn : Nat} {w : Nat → Nat} {g : Nat → Bool} (hn : n ≤ 9) (hw : gm_sy w) (h5 : ∀ c, w c ≤ 50) (hg : gm_sy g) (hwn : wn < 512) (hp : ∀ r, gm_L (gm_CW n wn g w) r → post r) : ∀ d s f r, s + d = wn → 1 ≤ s → d < f → gm_L (gm_D 1 (gm_PW n wn g w) s) r → wX_leastWithin_5 post (nI wn) (nI n) (gm_W w) (gm_A g) f r (nI s) := by
  intro d
  induction d with
  | zero =>
    intro s f r hs h1 hf H
    obtain ⟨f, rfl⟩ : ∃ k, f = k + 1 := ⟨f - 1, by omega⟩
    have e : s = wn := by omega
    rw [e] at H ⊢
    exact br_t (nI_le (Nat.le_refl wn) (by omega)) (hp r H)
  | succ d ih =>
    intro s f r hs h1 hf H
    obtain ⟨f, rfl⟩ : ∃ k, f = k + 1 := ⟨f - 1, by omega⟩
    have hb := gm_sub (s := s) (wn := wn) (by omega)
    have skip : (∀ x, ¬ gm_PW n wn g w s x) → wX_leastWithin_5 post (nI wn) (nI n) (gm_W w) (gm_A g) f r (nI (s + 1)) := fun hx => ih (s + 1) f r (by omega) (by omega) (by omega) (gm_L_c (gm_D_f hx) H)
    refine br_f (nI_ge (by omega) (by omega)) ?_
    by_cases hS : ∀ j, s.testBit j = true → wn.testBit j = true
    · refine br_t (hb.mpr hS) (gm_XAn hn hg (fun G => br_t rfl (nm_r (nI_1 s) (skip fun x hx => hx.2.1 G))) (fun G => br_f (by decide) (gm_XCn hn hw ?_)))
      exact gm_Xle (gm_V_le hn h5) (gm_D_t (y := gm_V n wn.testBit w s.testBit) h1 fun x => ⟨fun hx => hx.2.2.symm, fun e => ⟨hS, G, e.symm⟩⟩) H (fun r' H' => nm_r (nI_1 s) (ih (s + 1) f r' (by omega) (by omega) (by omega) H'))
    · exact br_f (fun z => hS (hb.mp z)) (nm_r (nI_1 s) (skip fun x hx => hS hx.1))
theorem gm_XL {post : Int32 → Prop} {n wn : Nat} {w : Nat → Nat} {g : Nat → Bool} (hn : n ≤ 9) (hw : gm_sy w) (h5 : ∀ c, w c ≤ 50) (hg : gm_sy g) (hwn : wn < 512) (hw1 : 1 ≤ wn) (hp : ∀ r, gm_L (gm_CW n wn g w) r → post r) : wpX_leastWithin post (nI n, gm_W w, gm_A g) (nI wn) :=
  ⟨wn + 1, gm_XL5 hn hw h5 hg hwn hp (wn - 1) 1 (wn + 1) (-3) (by omega) (by omega) (by omega) (gm_L_0 (gm_D_0 1 _))⟩
/-! leastSeparating -/
theorem gm_p2 (t : Nat) : nI (2 * t) + 2 = nI (2 * (t + 1)) := nI_add (2 * t) 2
theorem gm_Xsep {post : Int32 → Prop} {s u v : Nat} (hu : u < 9) (hv : v < 9) (ht : (s.testBit u != s.testBit v) = true → post 1) (hf : (s.testBit u != s.testBit v) = false → post 0) : wpX_separates post (nI s) (nI u) (nI v) := by
  have h := gm_sep (nI s) (u := u) (v := v) (by omega) (by omega)
  rw [gm_bI s u (by omega), gm_bI s v (by omega)] at h
  by_cases h2 : (s.testBit u != s.testBit v) = true
  · exact br_t (h.mpr h2) (ht h2)
  · exact br_f (fun z => h2 (h.mp z)) (hf (gm_nt h2))
theorem gm_XS12 {post : Int32 → Prop} {n wn h u v : Nat} {w : Nat → Nat} {g : Nat → Bool} (hn : n ≤ 9) (hu : u < n) (hv : v < n) (hw : gm_sy w) (h5 : ∀ c, w c ≤ 50) (hg : gm_sy g) (hwn : wn < 512) (hh : wn + 1 = 2 * h) (hp : ∀ r, gm_L (gm_D 1 (gm_PS n wn g w u v) h) r → post r) : ∀ d t f r, t + d = h → 1 ≤ t → d < f → gm_L (gm_D 1 (gm_PS n wn g w u v) t) r → wX_leastSeparating_12 post (nI u) (nI v) (nI wn) (nI n) (gm_W w) (gm_A g) f r (nI (2 * t)) := by
  intro d
  induction d with
  | zero =>
    intro t f r hs h1 hf H
    obtain ⟨f, rfl⟩ : ∃ k, f = k + 1 := ⟨f - 1, by omega⟩
    have e : t = h := by omega
    rw [e] at H
    exact br_t (nI_le (by omega) (by omega)) (hp r H)
  | succ d ih =>
    intro t f r hs h1 hf H
    obtain ⟨f, rfl⟩ : ∃ k, f = k + 1 := ⟨f - 1, by omega⟩
    have skip : (∀ x, ¬ gm_PS n wn g w u v t x) → wX_leastSeparating_12 post (nI u) (nI v) (nI wn) (nI n) (gm_W w) (gm_A g) f r (nI (2 * (t + 1))) := fun hx => ih (t + 1) f r (by omega) (by omega) (by omega) (gm_L_c (gm_D_f hx) H)
    refine br_f (nI_ge (by omega) (by omega)) (gm_Xsep (by omega) (by omega) (fun hS => br_f (by decide) ?_) (fun hS => br_t rfl (nm_r (gm_p2 t) (skip fun x hx => ?_))))
    · refine gm_XAn hn hg (fun G => br_t rfl (nm_r (gm_p2 t) (skip fun x hx => hx.2.1 G))) (fun G => br_f (by decide) (gm_XCn hn hw ?_))
      exact gm_Xle (gm_V_le hn h5) (gm_D_t (y := gm_V n wn.testBit w (2 * t).testBit) h1 fun x => ⟨fun hx => hx.2.2.symm, fun e => ⟨hS, G, e.symm⟩⟩) H (fun r' H' => nm_r (gm_p2 t) (ih (t + 1) f r' (by omega) (by omega) (by omega) H'))
    · have h9 := hx.1
      rw [hS] at h9
      cases h9
theorem gm_XS {post : Int32 → Prop} {n h u v : Nat} {w : Nat → Nat} {g : Nat → Bool} (hn : n ≤ 9) (hn2 : 2 ≤ n) (hu : u < n) (hv : v < n) (hw : gm_sy w) (h5 : ∀ c, w c ≤ 50) (hg : gm_sy g) (hh : 2 ^ n = 2 * h) (hp : ∀ r, gm_L (gm_CS n h g w u v) r → post r) : wpX_leastSeparating post (nI n, gm_W w, gm_A g) (nI u) (nI v) := by
  have h4 := gm_pw_ge n (by omega) hn2
  have h12 := gm_pw_le n (by omega)
  unfold wpX_leastSeparating wpX_allVertices
  dsimp only
  rw [gm_all n (by omega)]
  exact ⟨h + 1, gm_XS12 hn hu hv hw h5 hg (by omega) (by omega) hp (h - 1) 1 (h + 1) (-3) (by omega) (by omega) (by omega) (gm_L_0 (gm_D_0 1 _))⟩
/-! smallest -/
def gm_Q (n wn : Nat) (g : Nat → Bool) (w : Nat → Nat) (l : Int32) (t : Nat) : Prop := ¬ gm_G n wn.testBit g (2 * t).testBit ∧ nI (gm_V n wn.testBit w (2 * t).testBit) = l
theorem gm_XM13 {post : Int32 → Prop} {n wn h : Nat} {w : Nat → Nat} {g : Nat → Bool} {l : Int32} (hn : n ≤ 9) (hw : gm_sy w) (hg : gm_sy g) (hwn : wn < 512) (hh : wn + 1 = 2 * h) (hp : ∀ r, gm_F (gm_Q n wn g w l) h r → post r) : ∀ d t f, t + d = h → 1 ≤ t → d < f → (∀ s, 1 ≤ s → s < t → ¬ gm_Q n wn g w l s) → wX_smallest_13 post (nI wn) l (nI n) (gm_W w) (gm_A g) f (nI (2 * t)) := by
  intro d
  induction d with
  | zero =>
    intro t f hs h1 hf H
    obtain ⟨f, rfl⟩ : ∃ k, f = k + 1 := ⟨f - 1, by omega⟩
    exact br_t (nI_le (by omega) (by omega)) (hp _ (Or.inl ⟨rfl, fun s h2 h3 => H s h2 (by omega)⟩))
  | succ d ih =>
    intro t f hs h1 hf H
    obtain ⟨f, rfl⟩ : ∃ k, f = k + 1 := ⟨f - 1, by omega⟩
    have skip : ¬ gm_Q n wn g w l t → wX_smallest_13 post (nI wn) l (nI n) (gm_W w) (gm_A g) f (nI (2 * (t + 1))) := by
      intro hx
      refine ih (t + 1) f (by omega) (by omega) (by omega) fun s h2 h3 => ?_
      rcases Nat.lt_or_ge s t with h4 | h4
      · exact H s h2 h4
      · have e : s = t := by omega
        rw [e]
        exact hx
    refine br_f (nI_ge (by omega) (by omega)) (gm_XAn hn hg (fun G => br_t rfl (nm_r (gm_p2 t) (skip fun hx => hx.1 G))) (fun G => br_f (by decide) (gm_XCn hn hw ?_)))
    exact br_c (fun e => hp _ (Or.inr ⟨t, h1, by omega, rfl, ⟨G, e⟩, H⟩)) (fun e => nm_r (gm_p2 t) (skip fun hx => e hx.2))
end
section
/-! Y: pairs, separates -/
theorem gm_Ypair_t {post : Int32 → Prop} {n i j : Nat} {a b : Nat → Int32} (hn : n ≤ 9) (hi : i < n) (hj : j < n) (hij : i ≠ j) (hp : post 0) : wpY_badPair post (nI n, a, b) (nI i) (nI j) :=
  br_f (nI_pos (by omega)) (br_f (nI_ge hi (by omega)) (br_f (nI_pos (by omega)) (br_f (nI_ge hj (by omega)) (br_f (fun e => hij ((nI_eq (by omega) (by omega)).mp e)) hp))))
theorem gm_Ypair_f {post : Int32 → Prop} {n : Nat} {a b : Nat → Int32} {p q : Int32} (hn : n ≤ 9) (h : ¬ gm_P n p q) (hp : post 1) : wpY_badPair post (nI n, a, b) p q := by
  refine br_c (fun _ => hp) (fun h1 => br_c (fun _ => hp) (fun h2 => br_c (fun _ => hp) (fun h3 => br_c (fun _ => hp) (fun h4 => br_c (fun _ => hp) (fun h5 => ?_)))))
  rcases pk_ix p (n := n) (by omega) with h6 | h6 | ⟨i, hi, e1⟩
  · exact absurd h6 h1
  · exact absurd h6 h2
  · rcases pk_ix q (n := n) (by omega) with h7 | h7 | ⟨j, hj, e2⟩
    · exact absurd h7 h3
    · exact absurd h7 h4
    · exact absurd ⟨i, j, hi, hj, fun e => h5 (by rw [e1, e2, e]), e1, e2⟩ h
theorem gm_Ysep {post : Int32 → Prop} {st : SY} {s : Int32} {u v : Nat} (hu : u < 9) (hv : v < 9) (ht : (bt s u != bt s v) = true → post 1) (hf : (bt s u != bt s v) = false → post 0) : wpY_separates post st s (nI u) (nI v) := by
  have h := gm_sepY s (u := u) (v := v) (by omega) (by omega)
  by_cases h2 : (bt s u != bt s v) = true
  · exact br_f (fun z => absurd (h2.symm.trans (h.mp z)) (by decide)) (ht h2)
  · exact br_t (h.mpr (gm_nt h2)) (hf (gm_nt h2))
/-! allowed -/
def gm_o (o : Int32) (u : Nat) : Bool := decide (¬ nI u = o)
theorem gm_o_f {o : Int32} {u : Nat} (h : nI u = o) : gm_o o u = false := decide_eq_false (fun z => z h)
theorem gm_o_t {o : Int32} {u : Nat} (h : ¬ nI u = o) : gm_o o u = true := decide_eq_true h
theorem gm_YA43 {post : Int32 → Prop} {J : Int32 → Int32 → Int32 → Int32 → Prop} {s o i4 i5 : Int32} {n u A : Nat} {w : Nat → Nat} {g : Nat → Bool} (hn : n ≤ 9) (hu : u < n) (h0 : (∃ v, v < u ∧ gm_q (gm_o o) (bt s) u v = true ∧ g (u * 9 + v) = true) → post (-3)) (hJ : (∀ v, v < u → gm_q (gm_o o) (bt s) u v = true → g (u * 9 + v) = true → False) → J (nI (A + gm_S (gm_t (gm_o o) (bt s) w u) u)) i4 i5 (nI (u + 1))) : ∀ d j f, j + d = u → d < f → (∀ v, v < j → gm_q (gm_o o) (bt s) u v = true → g (u * 9 + v) = true → False) → wY_allowed_43 post J s o i4 i5 (nI u) (nI n) (gm_W w) (gm_A g) f (nI (A + gm_S (gm_t (gm_o o) (bt s) w u) j)) (nI j) := by
  intro d
  induction d with
  | zero =>
    intro j f hj hf hI
    obtain ⟨f, rfl⟩ : ∃ k, f = k + 1 := ⟨f - 1, by omega⟩
    have e : j = u := by omega
    rw [e] at hI ⊢
    exact br_t (nI_le (Nat.le_refl u) (by omega)) (nm_r (nI_1 u) (hJ hI))
  | succ d ih =>
    intro j f hj hf hI
    obtain ⟨f, rfl⟩ : ∃ k, f = k + 1 := ⟨f - 1, by omega⟩
    have hj9 : j < 9 := by omega
    have hu9 : u < 9 := by omega
    have hI' : (gm_q (gm_o o) (bt s) u j = true → g (u * 9 + j) = true → False) → ∀ v, v < j + 1 → gm_q (gm_o o) (bt s) u v = true → g (u * 9 + v) = true → False := by
      intro hh v hv hq hg
      rcases Nat.lt_or_ge v j with h3 | h3
      · exact hI v h3 hq hg
      · have e : v = j := by omega
        subst e
        exact hh hq hg
    have skip : gm_q (gm_o o) (bt s) u j = false → wY_allowed_43 post J s o i4 i5 (nI u) (nI n) (gm_W w) (gm_A g) f (nI (A + gm_S (gm_t (gm_o o) (bt s) w u) j)) (nI (j + 1)) := by
      intro hq
      have next := ih (j + 1) f (by omega) (by omega) (hI' fun hq' _ => by rw [hq] at hq'; cases hq')
      have et : gm_t (gm_o o) (bt s) w u j = 0 := if_neg (by rw [hq]; decide)
      rw [gm_S_1, et, Nat.add_zero] at next
      exact next
    refine br_f (nI_ge (by omega) (by omega)) ?_
    by_cases c1 : nI u = o
    · exact br_t c1 (nm_r (nI_1 j) (skip (gm_b4 (gm_b4 (gm_o_f c1)))))
    · refine br_f c1 ?_
      by_cases c2 : nI j = o
      · exact br_t c2 (nm_r (nI_1 j) (skip (gm_b4 (gm_b3 (gm_o_f c2)))))
      · refine br_f c2 (gm_Ysep hu9 hj9 (fun hs => br_f (by decide) ⟨gm_in hu9 hj9, ?_⟩) (fun hs => br_t rfl (nm_r (nI_1 j) (skip (gm_b3 hs)))))
        have hq : gm_q (gm_o o) (bt s) u j = true := gm_b2 (gm_b2 (gm_o_t c1) (gm_o_t c2)) hs
        by_cases hg : g (u * 9 + j) = true
        · exact br_f (gm_An hu9 hj9 hg) (h0 ⟨j, by omega, hq, hg⟩)
        · have next := ih (j + 1) f (by omega) (by omega) (hI' fun _ hg' => hg hg')
          have et : gm_t (gm_o o) (bt s) w u j = w (u * 9 + j) := if_pos hq
          rw [gm_S_1, et] at next
          refine br_t (gm_Az hu9 hj9 (gm_nt hg)) ⟨gm_in hu9 hj9, nm_r ?_ (nm_r (nI_1 j) next)⟩
          rw [gm_Wz hu9 hj9, nI_add, Nat.add_assoc]
def gm_ci (o : Int32) (b : Nat → Bool) (u : Nat) : Nat := if (gm_o o u && b u) = true then 1 else 0
def gm_ca (o : Int32) (u : Nat) : Nat := if gm_o o u = true then 1 else 0
theorem gm_ci_le (o : Int32) (b : Nat → Bool) (u : Nat) : gm_ci o b u ≤ gm_ca o u := by
  unfold gm_ci gm_ca
  cases gm_o o u <;> cases b u <;> decide
theorem gm_ca_le (o : Int32) (u : Nat) : gm_ca o u ≤ 1 := by
  unfold gm_ca
  cases gm_o o u <;> decide
theorem gm_cN {n : Nat} {o : Int32} {b : Nat → Bool} (h0 : gm_S (gm_ci o b) n ≠ 0) (h1 : gm_S (gm_ci o b) n ≠ gm_S (gm_ca o) n) : gm_N n (gm_o o) b := by
  constructor
  · refine Classical.byContradiction fun c => h0 (gm_S_zero fun u hu => if_neg fun z => c ⟨u, hu, ?_⟩)
    rw [Bool.and_eq_true] at z
    exact z
  · refine Classical.byContradiction fun c => h1 (gm_S_congr fun u hu => ?_)
    unfold gm_ci gm_ca
    cases ho : gm_o o u with
    | false => rfl
    | true =>
      cases hb : b u with
      | true => rfl
      | false => exact absurd ⟨u, hu, ho, hb⟩ c
theorem gm_cN' {n : Nat} {o : Int32} {b : Nat → Bool} (H : gm_N n (gm_o o) b) : gm_S (gm_ci o b) n ≠ 0 ∧ gm_S (gm_ci o b) n ≠ gm_S (gm_ca o) n := by
  obtain ⟨⟨j, hj, hw, hm⟩, ⟨i, hi, hx, hz⟩⟩ := H
  constructor
  · intro e
    have e0 : gm_S (fun _ => 0) n = 0 := gm_S_zero fun _ _ => rfl
    have h := gm_S_eq (f := fun _ => 0) (f' := gm_ci o b) (fun u _ => Nat.zero_le _) (e0.trans e.symm) j hj
    have h' : gm_ci o b j = 1 := if_pos (gm_b2 hw hm)
    rw [h'] at h
    cases h
  · intro e
    have h := gm_S_eq (fun u _ => gm_ci_le o b u) e i hi
    have h' : gm_ci o b i = 0 := if_neg (by rw [gm_b3 hz]; decide)
    have h'' : gm_ca o i = 1 := if_pos hx
    rw [h', h''] at h
    cases h
theorem gm_YA11 {post : Int32 → Prop} {s o : Int32} {n : Nat} {w : Nat → Nat} {g : Nat → Bool} (hn : n ≤ 9) (h3 : (¬ gm_N n (gm_o o) (bt s) ∨ ∃ u v, v < u ∧ u < n ∧ gm_q (gm_o o) (bt s) u v = true ∧ g (u * 9 + v) = true) → post (-3)) (hv : gm_N n (gm_o o) (bt s) → (∀ u v, v < u → u < n → gm_q (gm_o o) (bt s) u v = true → g (u * 9 + v) = true → False) → post (nI (gm_V n (gm_o o) w (bt s)))) : ∀ d u f, u + d = n → d < f → (∀ a v, a < u → v < a → gm_q (gm_o o) (bt s) a v = true → g (a * 9 + v) = true → False) → wY_allowed_11 post s o (nI n) (gm_W w) (gm_A g) f (nI (gm_S (fun u => gm_S (gm_t (gm_o o) (bt s) w u) u) u)) (nI (gm_S (gm_ci o (bt s)) u)) (nI (gm_S (gm_ca o) u)) (nI u) := by
  intro d
  induction d with
  | zero =>
    intro u f hu hf hI
    obtain ⟨f, rfl⟩ : ∃ k, f = k + 1 := ⟨f - 1, by omega⟩
    have e : u = n := by omega
    rw [e] at hI ⊢
    have b1 : gm_S (gm_ca o) n ≤ n * 1 := gm_S_le fun u _ => gm_ca_le o u
    have b2 : gm_S (gm_ci o (bt s)) n ≤ gm_S (gm_ca o) n := gm_S_mono fun u _ => gm_ci_le o (bt s) u
    refine br_t (nI_le (Nat.le_refl n) (by omega)) ?_
    by_cases H : gm_N n (gm_o o) (bt s)
    · have c := gm_cN' H
      refine br_f (nI_ne0 (by omega) (by omega)) (br_f (fun z => c.2 ((nI_eq (by omega) (by omega)).mp z)) (hv H fun u v h1 h2 => hI u v h2 h1))
    · refine br_c (fun _ => h3 (Or.inl H)) (fun z1 => br_c (fun _ => h3 (Or.inl H)) (fun z2 => absurd (gm_cN ?_ ?_) H))
      · intro z
        rw [z] at z1
        exact z1 nI_0
      · intro z
        rw [z] at z2
        exact z2 rfl
  | succ d ih =>
    intro u f hu hf hI
    obtain ⟨f, rfl⟩ : ∃ k, f = k + 1 := ⟨f - 1, by omega⟩
    have inner : ∀ i4 i5 : Nat, i4 = gm_S (gm_ci o (bt s)) (u + 1) → i5 = gm_S (gm_ca o) (u + 1) → ∃ n43, wY_allowed_43 post (wY_allowed_11 post s o (nI n) (gm_W w) (gm_A g) f) s o (nI i4) (nI i5) (nI u) (nI n) (gm_W w) (gm_A g) n43 (nI (gm_S (fun u => gm_S (gm_t (gm_o o) (bt s) w u) u) u)) 0 := by
      intro i4 i5 e4 e5
      refine ⟨u + 1, gm_YA43 (A := gm_S (fun u => gm_S (gm_t (gm_o o) (bt s) w u) u) u) hn (by omega) (fun H => ?_) (fun H => ?_) u 0 (u + 1) (by omega) (by omega) (fun v h1 => by omega)⟩
      · obtain ⟨v, h1, h2, h4⟩ := H
        exact h3 (Or.inr ⟨u, v, h1, by omega, h2, h4⟩)
      · rw [e4, e5]
        refine ih (u + 1) f (by omega) (by omega) fun a v h1 h2 h4 h5 => ?_
        rcases Nat.lt_or_ge a u with h7 | h7
        · exact hI a v h7 h2 h4 h5
        · have e : a = u := by omega
          subst e
          exact H v h2 h4 h5
    refine br_f (nI_ge (by omega) (by omega)) ?_
    by_cases c1 : nI u = o
    · have z1 : gm_ci o (bt s) u = 0 := if_neg (by rw [gm_b4 (gm_o_f c1)]; decide)
      have z2 : gm_ca o u = 0 := if_neg (by rw [gm_o_f c1]; decide)
      exact br_t c1 (inner _ _ (by rw [gm_S_1, z1]; rfl) (by rw [gm_S_1, z2]; rfl))
    · have z1 : gm_ci o (bt s) u = if bt s u = true then 1 else 0 := by
        unfold gm_ci
        rw [gm_o_t c1, Bool.true_and]
      have z2 : gm_ca o u = 1 := if_pos (gm_o_t c1)
      refine br_f c1 (nm_r ?_ (nm_r (nI_1 _) (inner (gm_S (gm_ci o (bt s)) u + if bt s u = true then 1 else 0) _ (by rw [gm_S_1, z1]) (by rw [gm_S_1, z2]))))
      rw [gm_bitY s (by omega), nI_add]
theorem gm_YA {post : Int32 → Prop} {s o : Int32} {n : Nat} {w : Nat → Nat} {g : Nat → Bool} (hn : n ≤ 9) (hg : gm_sy g) (h3 : ¬ (gm_N n (gm_o o) (bt s) ∧ ¬ gm_G n (gm_o o) g (bt s)) → post (-3)) (hv : gm_N n (gm_o o) (bt s) → ¬ gm_G n (gm_o o) g (bt s) → post (nI (gm_V n (gm_o o) w (bt s)))) : wpY_allowed post (nI n, gm_W w, gm_A g) s o := by
  refine ⟨n + 1, gm_YA11 hn (fun H => h3 fun c => ?_) (fun hN H => hv hN fun G => ?_) n 0 (n + 1) (by omega) (by omega) (fun a v h1 => by omega)⟩
  · rcases H with H | ⟨u, v, h1, h2, h4, h5⟩
    · exact H c.1
    · exact c.2 ⟨u, v, h2, by omega, h4, h5⟩
  · obtain ⟨u, v, h1, h2, h4, h5⟩ := gm_G_lo hn hg G
    exact H u v h1 h2 h4 h5
theorem gm_YAn {post : Int32 → Prop} {o : Int32} {s n : Nat} {w : Nat → Nat} {g : Nat → Bool} (hn : n ≤ 9) (hg : gm_sy g) (h3 : ¬ (gm_N n (gm_o o) s.testBit ∧ ¬ gm_G n (gm_o o) g s.testBit) → post (-3)) (hv : gm_N n (gm_o o) s.testBit → ¬ gm_G n (gm_o o) g s.testBit → post (nI (gm_V n (gm_o o) w s.testBit))) : wpY_allowed post (nI n, gm_W w, gm_A g) (nI s) o := by
  have eV : gm_V n (gm_o o) w (bt (nI s)) = gm_V n (gm_o o) w s.testBit := gm_V_c (fun _ _ => rfl) (fun u hu _ => gm_bn hn u hu)
  have hG : gm_G n (gm_o o) g (bt (nI s)) → gm_G n (gm_o o) g s.testBit := gm_G_c (fun _ _ => rfl) (fun u hu _ => gm_bn hn u hu)
  have hG' : gm_G n (gm_o o) g s.testBit → gm_G n (gm_o o) g (bt (nI s)) := gm_G_c (fun _ _ => rfl) (fun u hu _ => gm_bn' hn u hu)
  have hN : gm_N n (gm_o o) (bt (nI s)) → gm_N n (gm_o o) s.testBit := gm_N_c (fun _ _ => rfl) (fun u hu _ => gm_bn hn u hu)
  have hN' : gm_N n (gm_o o) s.testBit → gm_N n (gm_o o) (bt (nI s)) := gm_N_c (fun _ _ => rfl) (fun u hu _ => gm_bn' hn u hu)
  refine gm_YA hn hg (fun H => h3 fun c => H ⟨hN' c.1, fun z => c.2 (hG z)⟩) (fun a b => ?_)
  rw [eV]
  exact hv (hN a) (fun z => b (hG' z))
end
section
/-! leastOf -/
theorem gm_Y33 {post : Int32 → Prop} {J : Int32 → Int32 → Prop} {C C' : Nat → Prop} {o a2 a3 r : Int32} {m n : Nat} {w : Nat → Nat} {g : Nat → Bool} (hn : n ≤ 9) (h5 : ∀ c, w c ≤ 50) (hg : gm_sy g) (H : gm_L C r) (hs : ¬ (gm_N n (gm_o o) m.testBit ∧ ¬ gm_G n (gm_o o) g m.testBit) → J r (nI (m + 1))) (hc : gm_N n (gm_o o) m.testBit → ¬ gm_G n (gm_o o) g m.testBit → (∀ y, C' y ↔ C y ∨ y = gm_V n (gm_o o) w m.testBit)) (hj : ∀ r', gm_L C' r' → J r' (nI (m + 1))) : wY_leastOf_33 post J o a2 a3 r (nI m) (nI n) (gm_W w) (gm_A g) := by
  unfold wY_leastOf_33
  refine gm_YAn hn hg (fun h => br_t rfl (nm_r (nI_1 m) (hs h))) (fun hN hG => br_f (gm_n3 (gm_V_le hn h5)) ?_)
  have h := hc hN hG
  have hx : gm_V n (gm_o o) w m.testBit < 2 ^ 31 := gm_V_le hn h5
  exact br_c (fun e => nm_r (nI_1 m) (hj _ (gm_L_t hx h H (Or.inl e)))) (fun e => br_c (fun l => nm_r (nI_1 m) (hj _ (gm_L_f hx h H e (Int32.not_lt.mpr l)))) (fun l => nm_r (nI_1 m) (hj _ (gm_L_t hx h H (Or.inr (Int32.not_le.mp l))))))
theorem gm_YL7a {post : Int32 → Prop} {o : Int32} {n : Nat} {w : Nat → Nat} {g : Nat → Bool} (hn : n ≤ 9) (h5 : ∀ c, w c ≤ 50) (hg : gm_sy g) (hp : ∀ r, gm_L (gm_C n (gm_o o) g w (fun _ => True)) r → post r) : ∀ d m f r, m + d = 2 ^ n → d < f → gm_L (gm_D 0 (gm_PY n (gm_o o) g w (fun _ => True)) m) r → wY_leastOf_7 post o (-1) (-1) (nI n) (gm_W w) (gm_A g) f r (nI m) := by
  have h12 := gm_pw_le n (by omega)
  have ep := gm_pw n (by omega)
  intro d
  induction d with
  | zero =>
    intro m f r hm hf H
    obtain ⟨f, rfl⟩ : ∃ k, f = k + 1 := ⟨f - 1, by omega⟩
    have e : m = 2 ^ n := by omega
    rw [e] at H
    exact br_t (by rw [ep]; exact nI_le (by omega) (by omega)) (hp r H)
  | succ d ih =>
    intro m f r hm hf H
    obtain ⟨f, rfl⟩ : ∃ k, f = k + 1 := ⟨f - 1, by omega⟩
    refine br_f (by rw [ep]; exact nI_ge (by omega) (by omega)) (br_t (by decide) ?_)
    refine gm_Y33 (C' := gm_D 0 (gm_PY n (gm_o o) g w (fun _ => True)) (m + 1)) hn h5 hg H (fun h => ih (m + 1) f r (by omega) (by omega) (gm_L_c (gm_D_f fun x hx => h ⟨hx.2.1, hx.2.2.1⟩) H)) (fun hN hG => gm_D_t (Nat.zero_le _) fun x => ⟨fun hx => hx.2.2.2.symm, fun e => ⟨trivial, hN, hG, e.symm⟩⟩) (fun r' H' => ih (m + 1) f r' (by omega) (by omega) H')
theorem gm_YLa {post : Int32 → Prop} {o : Int32} {n : Nat} {w : Nat → Nat} {g : Nat → Bool} (hn : n ≤ 9) (h5 : ∀ c, w c ≤ 50) (hg : gm_sy g) (hp : ∀ r, gm_L (gm_C n (gm_o o) g w (fun _ => True)) r → post r) : wpY_leastOf post (nI n, gm_W w, gm_A g) o (-1) (-1) :=
  ⟨2 ^ n + 1, gm_YL7a hn h5 hg hp (2 ^ n) 0 (2 ^ n + 1) (-3) (by omega) (by omega) (gm_L_0 (gm_D_0 0 _))⟩
theorem gm_YL7b {post : Int32 → Prop} {o : Int32} {n u v : Nat} {w : Nat → Nat} {g : Nat → Bool} (hn : n ≤ 9) (hu : u < n) (hv : v < n) (h5 : ∀ c, w c ≤ 50) (hg : gm_sy g) (hp : ∀ r, gm_L (gm_C n (gm_o o) g w (fun b => (b u != b v) = true)) r → post r) : ∀ d m f r, m + d = 2 ^ n → d < f → gm_L (gm_D 0 (gm_PY n (gm_o o) g w (fun b => (b u != b v) = true)) m) r → wY_leastOf_7 post o (nI u) (nI v) (nI n) (gm_W w) (gm_A g) f r (nI m) := by
  have h12 := gm_pw_le n (by omega)
  have ep := gm_pw n (by omega)
  intro d
  induction d with
  | zero =>
    intro m f r hm hf H
    obtain ⟨f, rfl⟩ : ∃ k, f = k + 1 := ⟨f - 1, by omega⟩
    have e : m = 2 ^ n := by omega
    rw [e] at H
    exact br_t (by rw [ep]; exact nI_le (by omega) (by omega)) (hp r H)
  | succ d ih =>
    intro m f r hm hf H
    obtain ⟨f, rfl⟩ : ∃ k, f = k + 1 := ⟨f - 1, by omega⟩
    refine br_f (by rw [ep]; exact nI_ge (by omega) (by omega)) (br_f (nI_pos (by omega)) (gm_Ysep (by omega) (by omega) (fun hS => br_f (by decide) ?_) (fun hS => br_t rfl (nm_r (nI_1 m) ?_))))
    · rw [gm_bI m u (by omega), gm_bI m v (by omega)] at hS
      exact gm_Y33 (C' := gm_D 0 (gm_PY n (gm_o o) g w (fun b => (b u != b v) = true)) (m + 1)) hn h5 hg H (fun h => ih (m + 1) f r (by omega) (by omega) (gm_L_c (gm_D_f fun x hx => h ⟨hx.2.1, hx.2.2.1⟩) H)) (fun hN hG => gm_D_t (Nat.zero_le _) fun x => ⟨fun hx => hx.2.2.2.symm, fun e => ⟨hS, hN, hG, e.symm⟩⟩) (fun r' H' => ih (m + 1) f r' (by omega) (by omega) H')
    · rw [gm_bI m u (by omega), gm_bI m v (by omega)] at hS
      refine ih (m + 1) f r (by omega) (by omega) (gm_L_c (gm_D_f fun x hx => ?_) H)
      have h9 : (m.testBit u != m.testBit v) = true := hx.1
      rw [hS] at h9
      cases h9
theorem gm_YLb {post : Int32 → Prop} {o : Int32} {n u v : Nat} {w : Nat → Nat} {g : Nat → Bool} (hn : n ≤ 9) (hu : u < n) (hv : v < n) (h5 : ∀ c, w c ≤ 50) (hg : gm_sy g) (hp : ∀ r, gm_L (gm_C n (gm_o o) g w (fun b => (b u != b v) = true)) r → post r) : wpY_leastOf post (nI n, gm_W w, gm_A g) o (nI u) (nI v) :=
  ⟨2 ^ n + 1, gm_YL7b hn hu hv h5 hg hp (2 ^ n) 0 (2 ^ n + 1) (-3) (by omega) (by omega) (gm_L_0 (gm_D_0 0 _))⟩
theorem gm_om {n : Nat} (hn : n ≤ 9) : ∀ u, u < n → gm_o (-1) u = true := fun u hu => gm_o_t (fun e => by
  have h := nI_pos (n := u) (by omega)
  rw [e] at h
  exact h (by decide))
theorem gm_all_b {n : Nat} (hn : n ≤ 9) : ∀ u, u < n → (2 ^ n - 1).testBit u = gm_o (-1) u := fun u hu => by
  rw [Nat.testBit_two_pow_sub_one, gm_om hn u hu, decide_eq_true hu]
theorem gm_all_b' {n : Nat} (hn : n ≤ 9) : ∀ u, u < n → gm_o (-1) u = (2 ^ n - 1).testBit u := fun u hu => (gm_all_b hn u hu).symm
/-! smallest -/
theorem gm_YM7 {post : Int32 → Prop} {n h : Nat} {w : Nat → Nat} {g : Nat → Bool} {l : Int32} (hn : n ≤ 9) (hn2 : 2 ≤ n) (h5 : ∀ c, w c ≤ 50) (hg : gm_sy g) (hh : 2 ^ n = 2 * h) (hp : ∀ r, gm_F (gm_Q n (2 ^ n - 1) g w l) h r → post r) : ∀ d t f, t + d = h → 1 ≤ t → d < f → (∀ s, 1 ≤ s → s < t → ¬ gm_Q n (2 ^ n - 1) g w l s) → wY_smallest_7 post l (nI n) (gm_W w) (gm_A g) f (nI (2 * t)) := by
  have h12 := gm_pw_le n (by omega)
  have ep := gm_pw n (by omega)
  intro d
  induction d with
  | zero =>
    intro t f hs h1 hf H
    obtain ⟨f, rfl⟩ : ∃ k, f = k + 1 := ⟨f - 1, by omega⟩
    exact br_t (by rw [ep]; exact nI_le (by omega) (by omega)) (hp _ (Or.inl ⟨rfl, fun s h2 h3 => H s h2 (by omega)⟩))
  | succ d ih =>
    intro t f hs h1 hf H
    obtain ⟨f, rfl⟩ : ∃ k, f = k + 1 := ⟨f - 1, by omega⟩
    have skip : ¬ gm_Q n (2 ^ n - 1) g w l t → wY_smallest_7 post l (nI n) (gm_W w) (gm_A g) f (nI (2 * (t + 1))) := by
      intro hx
      refine ih (t + 1) f (by omega) (by omega) (by omega) fun s h2 h3 => ?_
      rcases Nat.lt_or_ge s t with h4 | h4
      · exact H s h2 h4
      · have e : s = t := by omega
        rw [e]
        exact hx
    have hN : gm_N n (gm_o (-1)) (2 * t).testBit := gm_N_even (by omega) (gm_om hn) (by omega) (by omega) (by omega)
    have eV : gm_V n (2 ^ n - 1).testBit w (2 * t).testBit = gm_V n (gm_o (-1)) w (2 * t).testBit := gm_V_c (gm_all_b hn) (fun _ _ _ => rfl)
    refine br_f (by rw [ep]; exact nI_ge (by omega) (by omega)) (gm_YAn hn hg (fun c => br_t rfl (nm_r (gm_p2 t) (skip fun hx => c ⟨hN, fun z => hx.1 (gm_G_c (gm_all_b' hn) (fun _ _ _ => rfl) z)⟩))) (fun _ G => br_f (gm_n3 (gm_V_le hn h5)) ?_))
    exact br_c (fun e => hp _ (Or.inr ⟨t, h1, by omega, rfl, ⟨fun z => G (gm_G_c (gm_all_b hn) (fun _ _ _ => rfl) z), by rw [eV]; exact e⟩, H⟩)) (fun e => nm_r (gm_p2 t) (skip fun hx => e (by rw [← eV]; exact hx.2)))
/-! value -/
def gm_1 (_ : Nat) : Bool := true
theorem gm_YV15 {post : Int32 → Prop} {J : Int32 → Int32 → Prop} {s : Int32} {n u A : Nat} {w : Nat → Nat} {ag : Nat → Int32} (hn : n ≤ 9) (hu : u < n) (hJ : J (nI (A + gm_S (gm_t gm_1 (bt s) w u) u)) (nI (u + 1))) : ∀ d j f, j + d = u → d < f → wY_value_15 post J s (nI u) (nI n) (gm_W w) ag f (nI (A + gm_S (gm_t gm_1 (bt s) w u) j)) (nI j) := by
  intro d
  induction d with
  | zero =>
    intro j f hj hf
    obtain ⟨f, rfl⟩ : ∃ k, f = k + 1 := ⟨f - 1, by omega⟩
    have e : j = u := by omega
    rw [e]
    exact br_t (nI_le (Nat.le_refl u) (by omega)) (nm_r (nI_1 u) hJ)
  | succ d ih =>
    intro j f hj hf
    obtain ⟨f, rfl⟩ : ∃ k, f = k + 1 := ⟨f - 1, by omega⟩
    have hj9 : j < 9 := by omega
    have hu9 : u < 9 := by omega
    have next := ih (j + 1) f (by omega) (by omega)
    rw [gm_S_1] at next
    refine br_f (nI_ge (by omega) (by omega)) (gm_Ysep hu9 hj9 (fun hq => br_f (by decide) ⟨gm_in hu9 hj9, nm_r ?_ (nm_r (nI_1 j) next)⟩) (fun hq => br_t rfl (nm_r (nI_1 j) ?_)))
    · have et : gm_t gm_1 (bt s) w u j = w (u * 9 + j) := if_pos (gm_b2 rfl hq)
      rw [gm_Wz hu9 hj9, nI_add, et, Nat.add_assoc]
    · have hq' : gm_q gm_1 (bt s) u j = false := gm_b3 hq
      have et : gm_t gm_1 (bt s) w u j = 0 := if_neg (by rw [hq']; decide)
      rw [et, Nat.add_zero] at next
      exact next
theorem gm_YV4 {post : Int32 → Prop} {s : Int32} {n : Nat} {w : Nat → Nat} {ag : Nat → Int32} (hn : n ≤ 9) (hp : post (nI (gm_V n gm_1 w (bt s)))) : ∀ d u f, u + d = n → d < f → wY_value_4 post s (nI n) (gm_W w) ag f (nI (gm_S (fun u => gm_S (gm_t gm_1 (bt s) w u) u) u)) (nI u) := by
  intro d
  induction d with
  | zero =>
    intro u f hu hf
    obtain ⟨f, rfl⟩ : ∃ k, f = k + 1 := ⟨f - 1, by omega⟩
    have e : u = n := by omega
    rw [e]
    exact br_t (nI_le (Nat.le_refl n) (by omega)) hp
  | succ d ih =>
    intro u f hu hf
    obtain ⟨f, rfl⟩ : ∃ k, f = k + 1 := ⟨f - 1, by omega⟩
    exact br_f (nI_ge (by omega) (by omega)) ⟨u + 1, gm_YV15 (A := gm_S (fun u => gm_S (gm_t gm_1 (bt s) w u) u) u) hn (by omega) (ih (u + 1) f (by omega) (by omega)) u 0 (u + 1) (by omega) (by omega)⟩
theorem gm_YV {post : Int32 → Prop} {s : Int32} {n : Nat} {w : Nat → Nat} {ag : Nat → Int32} (hn : n ≤ 9) (hp : post (nI (gm_V n gm_1 w (bt s)))) : wpY_value post (nI n, gm_W w, ag) s :=
  ⟨n + 1, gm_YV4 hn hp n 0 (n + 1) (by omega) (by omega)⟩
end
section
/-! separated -/
noncomputable def gm_dX (n h : Nat) (g : Nat → Bool) (w : Nat → Nat) (l : Int32) (u v : Nat) : Nat := if gm_e (gm_CS n h g w u v) = l then 1 else 0
noncomputable def gm_rX (n h : Nat) (g : Nat → Bool) (w : Nat → Nat) (l : Int32) (u v : Nat) : Nat := if u < v then gm_dX n h g w l u v else 0
noncomputable def gm_dY (n : Nat) (g : Nat → Bool) (w : Nat → Nat) (l : Int32) (u v : Nat) : Nat := if ¬ l = -3 ∧ gm_e (gm_C n (gm_o (-1)) g w (fun b => (b u != b v) = true)) = l then 1 else 0
theorem gm_XP39 {post : Int32 → Prop} {J : Int32 → Int32 → Prop} {l : Int32} {n h u A : Nat} {w : Nat → Nat} {g : Nat → Bool} (hn : n ≤ 9) (hn2 : 2 ≤ n) (hw : gm_sy w) (h5 : ∀ c, w c ≤ 50) (hg : gm_sy g) (hh : 2 ^ n = 2 * h) (hu : u < n) (hJ : J (nI (A + gm_S (gm_rX n h g w l u) n)) (nI (u + 1))) : ∀ d j f, j + d = n → u < j → d < f → wX_separated_39 post J l (nI u) (nI n) (gm_W w) (gm_A g) f (nI (A + gm_S (gm_rX n h g w l u) j)) (nI j) := by
  intro d
  induction d with
  | zero =>
    intro j f hj huj hf
    obtain ⟨f, rfl⟩ : ∃ k, f = k + 1 := ⟨f - 1, by omega⟩
    have e : j = n := by omega
    rw [e]
    exact br_t (nI_le (Nat.le_refl n) (by omega)) (nm_r (nI_1 u) hJ)
  | succ d ih =>
    intro j f hj huj hf
    obtain ⟨f, rfl⟩ : ∃ k, f = k + 1 := ⟨f - 1, by omega⟩
    have next := ih (j + 1) f (by omega) (by omega) (by omega)
    have eR : gm_rX n h g w l u j = gm_dX n h g w l u j := if_pos huj
    rw [gm_S_1, eR, ← Nat.add_assoc] at next
    refine br_f (nI_ge (by omega) (by omega)) (gm_XS hn hn2 hu (by omega) hw h5 hg hh (fun r H => br_c (fun e => nm_r (nI_1 _) (nm_r (nI_1 j) ?_)) (fun e => nm_r (nI_1 j) ?_)))
    · have ed : gm_dX n h g w l u j = 1 := if_pos ((gm_e_q H).trans e)
      rw [ed] at next
      exact next
    · have ed : gm_dX n h g w l u j = 0 := if_neg (fun z => e ((gm_e_q H).symm.trans z))
      rw [ed] at next
      exact next
theorem gm_XP24 {post : Int32 → Prop} {l : Int32} {n h : Nat} {w : Nat → Nat} {g : Nat → Bool} (hn : n ≤ 9) (hn2 : 2 ≤ n) (hw : gm_sy w) (h5 : ∀ c, w c ≤ 50) (hg : gm_sy g) (hh : 2 ^ n = 2 * h) (hp : post (nI (gm_S (fun u => gm_S (gm_rX n h g w l u) n) n))) : ∀ d u f, u + d = n → d < f → wX_separated_24 post l (nI n) (gm_W w) (gm_A g) f (nI (gm_S (fun u => gm_S (gm_rX n h g w l u) n) u)) (nI u) := by
  intro d
  induction d with
  | zero =>
    intro u f hu hf
    obtain ⟨f, rfl⟩ : ∃ k, f = k + 1 := ⟨f - 1, by omega⟩
    have e : u = n := by omega
    rw [e]
    exact br_t (nI_le (Nat.le_refl n) (by omega)) hp
  | succ d ih =>
    intro u f hu hf
    obtain ⟨f, rfl⟩ : ∃ k, f = k + 1 := ⟨f - 1, by omega⟩
    refine br_f (nI_ge (by omega) (by omega)) (nm_r (nI_1 u) ⟨d + 1, ?_⟩)
    have h9 := gm_XP39 (post := post) (J := wX_separated_24 post l (nI n) (gm_W w) (gm_A g) f) (l := l) (A := gm_S (fun u => gm_S (gm_rX n h g w l u) n) u) hn hn2 hw h5 hg hh (u := u) (by omega) (ih (u + 1) f (by omega) (by omega)) d (u + 1) (d + 1) (by omega) (by omega) (by omega)
    have e0 : gm_S (gm_rX n h g w l u) (u + 1) = 0 := gm_S_zero fun v hv => if_neg (by omega)
    rw [e0, Nat.add_zero] at h9
    exact h9
theorem gm_YP20 {post : Int32 → Prop} {J : Int32 → Int32 → Prop} {l : Int32} {n u A : Nat} {w : Nat → Nat} {g : Nat → Bool} (hn : n ≤ 9) (h5 : ∀ c, w c ≤ 50) (hg : gm_sy g) (hu : u < n) (hJ : J (nI (A + gm_S (gm_dY n g w l u) u)) (nI (u + 1))) : ∀ d j f, j + d = u → d < f → wY_separated_20 post J l (nI u) (nI n) (gm_W w) (gm_A g) f (nI (A + gm_S (gm_dY n g w l u) j)) (nI j) := by
  intro d
  induction d with
  | zero =>
    intro j f hj hf
    obtain ⟨f, rfl⟩ : ∃ k, f = k + 1 := ⟨f - 1, by omega⟩
    have e : j = u := by omega
    rw [e]
    exact br_t (nI_le (Nat.le_refl u) (by omega)) (nm_r (nI_1 u) hJ)
  | succ d ih =>
    intro j f hj hf
    obtain ⟨f, rfl⟩ : ∃ k, f = k + 1 := ⟨f - 1, by omega⟩
    have next := ih (j + 1) f (by omega) (by omega)
    rw [gm_S_1, ← Nat.add_assoc] at next
    refine br_f (nI_ge (by omega) (by omega)) (br_c (fun e => nm_r (nI_1 j) ?_) (fun hl => gm_YLb hn hu (by omega) h5 hg (fun r H => br_c (fun e => nm_r (nI_1 _) (nm_r (nI_1 j) ?_)) (fun e => nm_r (nI_1 j) ?_))))
    · have ed : gm_dY n g w l u j = 0 := if_neg (fun z => z.1 e)
      rw [ed] at next
      exact next
    · have ed : gm_dY n g w l u j = 1 := if_pos ⟨hl, (gm_e_q H).trans e⟩
      rw [ed] at next
      exact next
    · have ed : gm_dY n g w l u j = 0 := if_neg (fun z => e ((gm_e_q H).symm.trans z.2))
      rw [ed] at next
      exact next
theorem gm_YP9 {post : Int32 → Prop} {l : Int32} {n : Nat} {w : Nat → Nat} {g : Nat → Bool} (hn : n ≤ 9) (h5 : ∀ c, w c ≤ 50) (hg : gm_sy g) (hp : post (nI (gm_S (fun u => gm_S (gm_dY n g w l u) u) n))) : ∀ d u f, u + d = n → d < f → wY_separated_9 post l (nI n) (gm_W w) (gm_A g) f (nI (gm_S (fun u => gm_S (gm_dY n g w l u) u) u)) (nI u) := by
  intro d
  induction d with
  | zero =>
    intro u f hu hf
    obtain ⟨f, rfl⟩ : ∃ k, f = k + 1 := ⟨f - 1, by omega⟩
    have e : u = n := by omega
    rw [e]
    exact br_t (nI_le (Nat.le_refl n) (by omega)) hp
  | succ d ih =>
    intro u f hu hf
    obtain ⟨f, rfl⟩ : ∃ k, f = k + 1 := ⟨f - 1, by omega⟩
    exact br_f (nI_ge (by omega) (by omega)) ⟨u + 1, gm_YP20 (A := gm_S (fun u => gm_S (gm_dY n g w l u) u) u) hn h5 hg (by omega) (ih (u + 1) f (by omega) (by omega)) u 0 (u + 1) (by omega) (by omega)⟩
theorem gm_sepEq {n h : Nat} {g : Nat → Bool} {w : Nat → Nat} {l : Int32} (hn : n ≤ 9) (hn1 : 1 ≤ n) (hh : 2 ^ n = 2 * h) (hl : ¬ l = -3) : gm_S (fun u => gm_S (gm_rX n h g w l u) n) n = gm_S (fun u => gm_S (gm_dY n g w l u) u) n := by
  refine gm_tri (gm_dX n h g w l) (gm_dY n g w l) n fun u v hu hv => ?_
  have e : gm_e (gm_CS n h g w u v) = gm_e (gm_C n (gm_o (-1)) g w (fun b => (b v != b u) = true)) := gm_e_c fun x => (gm_CS_C hh hn1 hu hv (gm_om hn) x).trans (gm_C_s x)
  unfold gm_dX gm_dY
  rw [e]
  by_cases c : gm_e (gm_C n (gm_o (-1)) g w (fun b => (b v != b u) = true)) = l
  · rw [if_pos c, if_pos ⟨hl, c⟩]
  · rw [if_neg c, if_neg (fun z => c z.2)]
theorem gm_sepZ {n : Nat} {g : Nat → Bool} {w : Nat → Nat} {l : Int32} (hl : l = -3) : gm_S (fun u => gm_S (gm_dY n g w l u) u) n = 0 :=
  gm_S_zero fun u _ => gm_S_zero fun v _ => if_neg (fun z => z.1 hl)
end
section
/-! the writes -/
def gm_put {α : Type} (w : Nat → α) (i j : Nat) (z : α) : Nat → α := fun c => if c = j * 9 + i then z else if c = i * 9 + j then z else w c
theorem gm_put_sy {α : Type} {w : Nat → α} {i j : Nat} {z : α} (hw : gm_sy w) (hi : i < 9) (hj : j < 9) : gm_sy (gm_put w i j z) := by
  intro u v hu hv
  have k1 : (u * 9 + v = j * 9 + i) ↔ (v * 9 + u = i * 9 + j) := by omega
  have k2 : (u * 9 + v = i * 9 + j) ↔ (v * 9 + u = j * 9 + i) := by omega
  unfold gm_put
  by_cases a1 : u * 9 + v = j * 9 + i
  · rw [if_pos a1]
    by_cases b1 : v * 9 + u = j * 9 + i
    · rw [if_pos b1]
    · rw [if_neg b1, if_pos (k1.mp a1)]
  · rw [if_neg a1]
    by_cases a2 : u * 9 + v = i * 9 + j
    · rw [if_pos a2, if_pos (k2.mp a2)]
    · rw [if_neg a2, if_neg (fun z => a2 (k2.mpr z)), if_neg (fun z => a1 (k1.mpr z))]
      exact hw u v hu hv
theorem gm_put_le {w : Nat → Nat} {i j z : Nat} (hw : ∀ c, w c ≤ 50) (hz : z ≤ 50) : ∀ c, gm_put w i j z c ≤ 50 := by
  intro c
  unfold gm_put
  split
  · exact hz
  · split
    · exact hz
    · exact hw c
theorem gm_putW {w : Nat → Nat} {i j z : Nat} (hi : i < 9) (hj : j < 9) : upd (upd (gm_W w) (nI i * 9 + nI j).toNatClampNeg (nI z)) (nI j * 9 + nI i).toNatClampNeg (nI z) = gm_W (gm_put w i j z) := by
  rw [gm_ix hi hj, gm_ix hj hi]
  funext c
  unfold upd gm_W gm_put
  by_cases a : c = j * 9 + i
  · rw [if_pos a, if_pos a]
  · rw [if_neg a, if_neg a]
    by_cases b : c = i * 9 + j
    · rw [if_pos b, if_pos b]
    · rw [if_neg b, if_neg b]
def gm_on (x : Int32) : Bool := decide (¬ x = 0)
theorem gm_nar (x : Int32) : vp_nar .boolean (lw_bz x) = if gm_on x = true then 1 else 0 := by
  show lw_bz x &&& 1 = _
  unfold lw_bz gm_on
  by_cases h : x = 0
  · rw [if_pos h, if_neg (by rw [decide_eq_false (fun z => z h)]; decide)]
    decide
  · rw [if_neg h, if_pos (decide_eq_true h)]
    decide
theorem gm_putA {g : Nat → Bool} {i j : Nat} {x : Int32} (hi : i < 9) (hj : j < 9) : upd (upd (gm_A g) (nI i * 9 + nI j).toNatClampNeg (vp_nar .boolean (lw_bz x))) (nI j * 9 + nI i).toNatClampNeg (vp_nar .boolean (lw_bz x)) = gm_A (gm_put g i j (gm_on x)) := by
  rw [gm_ix hi hj, gm_ix hj hi, gm_nar]
  funext c
  unfold upd gm_A gm_put
  by_cases a : c = j * 9 + i
  · rw [if_pos a, if_pos a]
  · rw [if_neg a, if_neg a]
    by_cases b : c = i * 9 + j
    · rw [if_pos b, if_pos b]
    · rw [if_neg b, if_neg b]
theorem gm_Xset {post : SX → Prop} {n i j z : Nat} {w : Nat → Nat} {ag : Nat → Int32} (hi : i < 9) (hj : j < 9) (hp : post (nI n, gm_W (gm_put w i j z), ag)) : wpX_setWeight post (nI n, gm_W w, ag) (nI i) (nI j) (nI z) := by
  refine ⟨gm_in hi hj, nm_e ⟨gm_in hj hi, nm_r (gm_putW hi hj) hp⟩⟩
theorem gm_clamp {w : Nat} (m : Int32) (hw : w ≤ 50) : ∃ z : Nat, z ≤ 50 ∧ (∀ post : Int32 → Prop, post (nI z) → wpX_clampedSum post (nI w) m) ∧ (∀ (Q : Int32 → Prop), Q (nI z) → (0 ≤ (nI w).toInt64 + m.toInt64 → (((nI w).toInt64 + m.toInt64 ≤ 50 → Q ((nI w).toInt64 + m.toInt64).toInt32) ∧ (¬ (nI w).toInt64 + m.toInt64 ≤ 50 → Q 50))) ∧ (¬ 0 ≤ (nI w).toInt64 + m.toInt64 → Q 0)) := by
  have e0 : (0 : Int64) ≤ (nI w).toInt64 + m.toInt64 ↔ -(w : Int) ≤ m.toInt := by
    rw [Int64.le_iff_toInt_le, gm_clS m hw, show (0 : Int64).toInt = 0 from by decide]
    omega
  have e5 : (nI w).toInt64 + m.toInt64 ≤ 50 ↔ m.toInt ≤ 50 - (w : Int) := by
    rw [Int64.le_iff_toInt_le, gm_clS m hw, show (50 : Int64).toInt = 50 from by decide]
    omega
  by_cases h1 : m.toInt ≤ 50 - (w : Int)
  · by_cases h2 : -(w : Int) ≤ m.toInt
    · obtain ⟨z, hz, ez, ey⟩ := gm_clZ hw h1 h2
      refine ⟨z, hz, fun post hp => br_t ((gm_cl1 hw).mpr h1) (br_t ((gm_cl2 hw).mpr h2) ?_), fun Q hq => br_t (e0.mpr h2) (br_t (e5.mpr h1) ?_)⟩
      · rw [ez]; exact hp
      · rw [ey]; exact hq
    · exact ⟨0, by omega, fun post hp => br_t ((gm_cl1 hw).mpr h1) (br_f (fun z => h2 ((gm_cl2 hw).mp z)) hp), fun Q hq => br_f (fun z => h2 (e0.mp z)) hq⟩
  · have h2 : -(w : Int) ≤ m.toInt := by omega
    exact ⟨50, by omega, fun post hp => br_f (fun z => h1 ((gm_cl1 hw).mp z)) hp, fun Q hq => br_t (e0.mpr h2) (br_f (fun z => h1 (e5.mp z)) hq)⟩
theorem gm_Y56 {post : Int32 → SY → Prop} {n i j z : Nat} {w : Nat → Nat} {ag : Nat → Int32} (hi : i < 9) (hj : j < 9) (hp : post (nI z) (nI n, gm_W (gm_put w i j z), ag)) : wY_change_56 post (nI i) (nI j) (nI z) (nI n) (gm_W w) ag :=
  ⟨gm_in hi hj, nm_e ⟨gm_in hj hi, nm_r (gm_putW hi hj) hp⟩⟩
theorem gm_X29 {post : Int32 → SX → Prop} {n i j : Nat} {aw : Nat → Int32} {g : Nat → Bool} {x z0 : Int32} (hi : i < 9) (hj : j < 9) (hp : post z0 (nI n, aw, gm_A (gm_put g i j (gm_on x)))) : wX_glue_29 post (nI i) (nI j) (lw_bz x) z0 (nI n) aw (gm_A g) :=
  ⟨gm_in hi hj, nm_e ⟨gm_in hj hi, nm_r (gm_putA hi hj) hp⟩⟩
theorem gm_Y30 {post : Int32 → SY → Prop} {n i j : Nat} {aw : Nat → Int32} {g : Nat → Bool} {x z0 : Int32} (hi : i < 9) (hj : j < 9) (hp : post z0 (nI n, aw, gm_A (gm_put g i j (gm_on x)))) : wY_glue_30 post (nI i) (nI j) (lw_bz x) z0 (nI n) aw (gm_A g) :=
  ⟨gm_in hi hj, nm_e ⟨gm_in hj hi, nm_r (gm_putA hi hj) hp⟩⟩
end
section
/-! the relation: the same count, the same weights, the same glue, both halves alike -/
def i_Rel (_ : Nat) (u : SX) (v : SY) : Prop := ∃ (n : Nat) (w : Nat → Nat) (g : Nat → Bool), 2 ≤ n ∧ n ≤ 9 ∧ (∀ c, w c ≤ 50) ∧ gm_sy w ∧ gm_sy g ∧ u = (nI n, gm_W w, gm_A g) ∧ v = (nI n, gm_W w, gm_A g)
theorem gm_mk {k n : Nat} {w : Nat → Nat} {g : Nat → Bool} (h2 : 2 ≤ n) (h9 : n ≤ 9) (h5 : ∀ c, w c ≤ 50) (hw : gm_sy w) (hg : gm_sy g) : i_Rel k (nI n, gm_W w, gm_A g) (nI n, gm_W w, gm_A g) := ⟨n, w, g, h2, h9, h5, hw, hg, rfl, rfl⟩
theorem i_up {k : Nat} {u : SX} {v : SY} (h : i_Rel k u v) : i_Rel (k + 4) u v := h
theorem gm_new {k n : Nat} (h2 : 2 ≤ n) (h9 : n ≤ 9) : i_Rel k (nI n, (fun _ => 0), (fun _ => 0)) (nI n, (fun _ => 0), (fun _ => 0)) := by
  have e1 : (fun _ => 0 : Nat → Int32) = gm_W (fun _ => 0) := rfl
  have e2 : (fun _ => 0 : Nat → Int32) = gm_A (fun _ => false) := rfl
  refine ⟨n, fun _ => 0, fun _ => false, h2, h9, fun _ => Nat.zero_le _, fun _ _ _ _ => rfl, fun _ _ _ _ => rfl, ?_, ?_⟩
  · rw [← e1, ← e2]
  · rw [← e1, ← e2]
theorem i_vc0 (k0 : Int32) : wpX_init (fun u => wpY_init (fun v => i_Rel 1 u v) k0) k0 := by
  by_cases h2 : 2 ≤ k0
  · refine br_t h2 ?_
    by_cases h9 : k0 ≤ 9
    · have h0 : ¬ k0 < 0 := fun z => absurd (Int32.lt_of_le_of_lt h2 z) (by decide)
      obtain ⟨j, hj, e⟩ := nI_of h0
      subst e
      have h2' : 2 ≤ j := (nI_leI (a := 2) (by decide) hj).mp h2
      have h9' : j ≤ 9 := (nI_leI (b := 9) hj (by decide)).mp h9
      exact br_t h9 (br_t h2 (br_t h9 (gm_new h2' h9')))
    · exact br_f h9 (br_t h2 (br_f h9 (gm_new (n := 9) (by decide) (by decide))))
  · exact br_f h2 (br_f h2 (br_t (by decide) (gm_new (n := 2) (by decide) (by decide))))
theorem i_vc_weight {k : Nat} {u : SX} {v : SY} (I : i_Rel k u v) (hk : k + 4 ≤ 2049) (v1 : Int32) (v2 : Int32) (v3 : Int32) : wpX_weight (fun r u' => wpY_weight (fun r' v' => r' = r ∧ i_Rel (k + 4) u' v') v v1 v2 v3) u v1 v2 v3 := by
  obtain ⟨n, w, g, h2, h9, h5, hw, hg, rfl, rfl⟩ := I
  unfold wpX_weight wpY_weight
  dsimp only
  by_cases H : gm_P n v1 v2
  · obtain ⟨i, j, hi, hj, hij, rfl, rfl⟩ := H
    have hi9 : i < 9 := by omega
    have hj9 : j < 9 := by omega
    refine gm_Xpair_t h9 hi hj hij (br_f (by decide) ?_)
    by_cases c0 : v3 < 0
    · exact br_t c0 (gm_Ypair_t h9 hi hj hij (br_t rfl (br_t c0 ⟨rfl, gm_mk h2 h9 h5 hw hg⟩)))
    · refine br_f c0 ?_
      by_cases c5 : v3 ≤ 50
      · obtain ⟨z, hz, e⟩ := nI_of c0
        subst e
        have hz5 : z ≤ 50 := (nI_leI (b := 50) hz (by decide)).mp c5
        refine br_t c5 ⟨gm_in hi9 hj9, nm_r (gm_Wz hi9 hj9) (gm_Xset hi9 hj9 ?_)⟩
        exact gm_Ypair_t h9 hi hj hij (br_t rfl (br_f c0 (br_t c5 ⟨gm_in hi9 hj9, nm_r (gm_Wz hi9 hj9) ⟨gm_in hi9 hj9, nm_e ⟨gm_in hj9 hi9, nm_r (gm_putW hi9 hj9) ⟨rfl, gm_mk h2 h9 (gm_put_le h5 hz5) (gm_put_sy hw hi9 hj9) hg⟩⟩⟩⟩)))
      · exact br_f c5 (gm_Ypair_t h9 hi hj hij (br_t rfl (br_f c0 (br_f c5 ⟨rfl, gm_mk h2 h9 h5 hw hg⟩))))
  · exact gm_Xpair_f h9 H (br_t rfl (gm_Ypair_f h9 H (br_f (by decide) ⟨rfl, gm_mk h2 h9 h5 hw hg⟩)))
theorem i_vc_change {k : Nat} {u : SX} {v : SY} (I : i_Rel k u v) (hk : k + 4 ≤ 2049) (v1 : Int32) (v2 : Int32) (v3 : Int32) : wpX_change (fun r u' => wpY_change (fun r' v' => r' = r ∧ i_Rel (k + 4) u' v') v v1 v2 v3) u v1 v2 v3 := by
  obtain ⟨n, w, g, h2, h9, h5, hw, hg, rfl, rfl⟩ := I
  unfold wpX_change wpY_change
  dsimp only
  by_cases H : gm_P n v1 v2
  · obtain ⟨i, j, hi, hj, hij, rfl, rfl⟩ := H
    have hi9 : i < 9 := by omega
    have hj9 : j < 9 := by omega
    obtain ⟨z, hz, hX, hY⟩ := gm_clamp v3 (h5 (i * 9 + j))
    refine gm_Xpair_t h9 hi hj hij (br_f (by decide) ⟨gm_in hi9 hj9, nm_r (gm_Wz hi9 hj9) (hX _ (gm_Xset hi9 hj9 ?_))⟩)
    refine gm_Ypair_t h9 hi hj hij (br_t rfl ⟨gm_in hi9 hj9, nm_r (by rw [gm_Wz hi9 hj9]) (hY (fun r => wY_change_56 _ (nI i) (nI j) r (nI n) (gm_W w) (gm_A g)) (gm_Y56 hi9 hj9 ?_))⟩)
    exact ⟨rfl, gm_mk h2 h9 (gm_put_le h5 hz) (gm_put_sy hw hi9 hj9) hg⟩
  · exact gm_Xpair_f h9 H (br_t rfl (gm_Ypair_f h9 H (br_f (by decide) ⟨rfl, gm_mk h2 h9 h5 hw hg⟩)))
theorem i_vc_glue {k : Nat} {u : SX} {v : SY} (I : i_Rel k u v) (hk : k + 4 ≤ 2049) (v1 : Int32) (v2 : Int32) (v3 : Int32) : wpX_glue (fun r u' => wpY_glue (fun r' v' => r' = r ∧ i_Rel (k + 4) u' v') v v1 v2 (lw_bz v3)) u v1 v2 (lw_bz v3) := by
  obtain ⟨n, w, g, h2, h9, h5, hw, hg, rfl, rfl⟩ := I
  unfold wpX_glue wpY_glue
  dsimp only
  by_cases H : gm_P n v1 v2
  · obtain ⟨i, j, hi, hj, hij, rfl, rfl⟩ := H
    have hi9 : i < 9 := by omega
    have hj9 : j < 9 := by omega
    refine gm_Xpair_t h9 hi hj hij (br_f (by decide) ⟨gm_in hi9 hj9, ?_⟩)
    by_cases c : g (i * 9 + j) = true
    · refine br_f (gm_An hi9 hj9 c) (gm_X29 hi9 hj9 ?_)
      exact gm_Ypair_t h9 hi hj hij (br_t rfl ⟨gm_in hi9 hj9, br_f (gm_An hi9 hj9 c) (gm_Y30 hi9 hj9 ⟨rfl, gm_mk h2 h9 h5 hw (gm_put_sy hg hi9 hj9)⟩)⟩)
    · refine br_t (gm_Az hi9 hj9 (gm_nt c)) (gm_X29 hi9 hj9 ?_)
      exact gm_Ypair_t h9 hi hj hij (br_t rfl ⟨gm_in hi9 hj9, br_t (gm_Az hi9 hj9 (gm_nt c)) (gm_Y30 hi9 hj9 ⟨rfl, gm_mk h2 h9 h5 hw (gm_put_sy hg hi9 hj9)⟩)⟩)
  · exact gm_Xpair_f h9 H (br_t rfl (gm_Ypair_f h9 H (br_f (by decide) ⟨rfl, gm_mk h2 h9 h5 hw hg⟩)))
theorem gm_LA {n : Nat} {w : Nat → Nat} {g : Nat → Bool} {r r' : Int32} (h9 : n ≤ 9) (H : gm_L (gm_CW n (2 ^ n - 1) g w) r) (H' : gm_L (gm_C n (gm_o (-1)) g w (fun _ => True)) r') : r' = r := by
  have hp := Nat.two_pow_pos n
  exact gm_L_u H' (gm_L_c (fun x => (gm_CW_C (by omega) (gm_all_b h9) x).symm) H)
theorem gm_YLl {post : Int32 → Prop} {n : Nat} {w : Nat → Nat} {g : Nat → Bool} (hn : n ≤ 9) (h5 : ∀ c, w c ≤ 50) (hg : gm_sy g) (hp : ∀ r, gm_L (gm_C n (gm_o (-1)) g w (fun _ => True)) r → post r) : wpY_least post (nI n, gm_W w, gm_A g) := by
  unfold wpY_least
  dsimp only
  exact gm_YLa hn h5 hg hp
theorem i_vc_least {k : Nat} {u : SX} {v : SY} (I : i_Rel k u v) (hk : k + 4 ≤ 2049) : wpX_least (fun r => wpY_least (fun r' => r' = r ∧ i_Rel (k + 4) u v) v) u := by
  obtain ⟨n, w, g, h2, h9, h5, hw, hg, rfl, rfl⟩ := I
  have hp := gm_pw_ge n (by omega) h2
  have hq := gm_pw_le n (by omega)
  unfold wpX_least wpX_allVertices
  dsimp only
  rw [gm_all n (by omega)]
  exact gm_XL h9 hw h5 hg (by omega) (by omega) (fun r H => gm_YLl h9 h5 hg (fun r' H' => ⟨gm_LA h9 H H', gm_mk h2 h9 h5 hw hg⟩))
theorem i_vc_smallest {k : Nat} {u : SX} {v : SY} (I : i_Rel k u v) (hk : k + 4 ≤ 2049) : wpX_smallest (fun r => wpY_smallest (fun r' => r' = r ∧ i_Rel (k + 4) u v) v) u := by
  obtain ⟨n, w, g, h2, h9, h5, hw, hg, rfl, rfl⟩ := I
  have hp := gm_pw_ge n (by omega) h2
  have hq := gm_pw_le n (by omega)
  obtain ⟨h, hh⟩ : ∃ h, 2 ^ n = 2 * h := ⟨_, gm_pw_ev n (by omega) (by omega)⟩
  unfold wpX_smallest wpX_allVertices wpY_smallest
  dsimp only
  rw [gm_all n (by omega)]
  refine gm_XL h9 hw h5 hg (by omega) (by omega) (fun l H => ⟨h + 1, gm_XM13 h9 hw hg (by omega) (h := h) (by omega) (fun r F => ?_) (h - 1) 1 (h + 1) (by omega) (by omega) (by omega) (fun s h3 h4 => by omega)⟩)
  refine gm_YLl h9 h5 hg (fun l' H' => ?_)
  have e := gm_LA h9 H H'
  subst e
  exact ⟨h + 1, gm_YM7 h9 h2 h5 hg hh (fun r' F' => ⟨gm_F_u F' F, gm_mk h2 h9 h5 hw hg⟩) (h - 1) 1 (h + 1) (by omega) (by omega) (by omega) (fun s h3 h4 => by omega)⟩
theorem i_vc_between {k : Nat} {u : SX} {v : SY} (I : i_Rel k u v) (hk : k + 4 ≤ 2049) (v1 : Int32) (v2 : Int32) : wpX_between (fun r => wpY_between (fun r' => r' = r ∧ i_Rel (k + 4) u v) v v1 v2) u v1 v2 := by
  obtain ⟨n, w, g, h2, h9, h5, hw, hg, rfl, rfl⟩ := I
  obtain ⟨h, hh⟩ : ∃ h, 2 ^ n = 2 * h := ⟨_, gm_pw_ev n (by omega) (by omega)⟩
  unfold wpX_between wpY_between
  dsimp only
  by_cases H : gm_P n v1 v2
  · obtain ⟨i, j, hi, hj, hij, rfl, rfl⟩ := H
    refine gm_Xpair_t h9 hi hj hij (br_f (by decide) (gm_XS h9 h2 hi hj hw h5 hg hh (fun r H => ?_)))
    refine gm_Ypair_t h9 hi hj hij (br_t rfl (gm_YLb h9 hi hj h5 hg (fun r' H' => ⟨?_, gm_mk h2 h9 h5 hw hg⟩)))
    exact gm_L_u H' (gm_L_c (fun x => (gm_CS_C hh (by omega) hi hj (gm_om h9) x).symm) H)
  · exact gm_Xpair_f h9 H (br_t rfl (gm_Ypair_f h9 H (br_f (by decide) ⟨rfl, gm_mk h2 h9 h5 hw hg⟩)))
theorem i_vc_value {k : Nat} {u : SX} {v : SY} (I : i_Rel k u v) (hk : k + 4 ≤ 2049) (v1 : Int32) : wpX_value (fun r => wpY_value (fun r' => r' = r ∧ i_Rel (k + 4) u v) v v1) u v1 := by
  obtain ⟨n, w, g, h2, h9, h5, hw, hg, rfl, rfl⟩ := I
  unfold wpX_value wpX_allVertices
  dsimp only
  rw [gm_all n (by omega)]
  refine gm_XC h9 hw (gm_YV h9 ⟨congrArg nI (gm_V_c (fun u hu => ?_) (fun _ _ _ => rfl)), gm_mk h2 h9 h5 hw hg⟩)
  rw [gm_bI _ u (by omega), Nat.testBit_two_pow_sub_one, decide_eq_true hu]
  rfl
theorem i_vc_separated {k : Nat} {u : SX} {v : SY} (I : i_Rel k u v) (hk : k + 4 ≤ 2049) : wpX_separated (fun r => wpY_separated (fun r' => r' = r ∧ i_Rel (k + 4) u v) v) u := by
  obtain ⟨n, w, g, h2, h9, h5, hw, hg, rfl, rfl⟩ := I
  have hp := gm_pw_ge n (by omega) h2
  have hq := gm_pw_le n (by omega)
  obtain ⟨h, hh⟩ : ∃ h, 2 ^ n = 2 * h := ⟨_, gm_pw_ev n (by omega) (by omega)⟩
  unfold wpX_separated wpX_allVertices wpY_separated
  dsimp only
  rw [gm_all n (by omega)]
  refine gm_XL h9 hw h5 hg (by omega) (by omega) (fun l H => br_c (fun e => ?_) (fun e => ⟨n + 1, gm_XP24 h9 h2 hw h5 hg hh ?_ n 0 (n + 1) (by omega) (by omega)⟩))
  · refine gm_YLl h9 h5 hg (fun l' H' => ⟨n + 1, gm_YP9 h9 h5 hg ⟨?_, gm_mk h2 h9 h5 hw hg⟩ n 0 (n + 1) (by omega) (by omega)⟩)
    rw [gm_sepZ ((gm_LA h9 H H').trans e)]
    rfl
  · refine gm_YLl h9 h5 hg (fun l' H' => ⟨n + 1, gm_YP9 h9 h5 hg ⟨?_, gm_mk h2 h9 h5 hw hg⟩ n 0 (n + 1) (by omega) (by omega)⟩)
    rw [gm_LA h9 H H', gm_sepEq h9 (by omega) hh e]
theorem gm_rest_1 : ∀ n, n < 10 → 2 ≤ n → ∀ v, v < n → 1 ≤ 2 ^ n - 1 - 2 ^ v := by decide +kernel
theorem i_vc_without {k : Nat} {u : SX} {v : SY} (I : i_Rel k u v) (hk : k + 4 ≤ 2049) (v1 : Int32) : wpX_without (fun r => wpY_without (fun r' => r' = r ∧ i_Rel (k + 4) u v) v v1) u v1 := by
  obtain ⟨n, w, g, h2, h9, h5, hw, hg, rfl, rfl⟩ := I
  have hp := gm_pw_ge n (by omega) h2
  have hq := gm_pw_le n (by omega)
  unfold wpX_without wpX_allVertices wpY_without
  dsimp only
  rw [gm_all n (by omega)]
  rcases pk_ix v1 (n := n) (by omega) with h1 | h1 | ⟨j, hj, e1⟩
  · exact gm_Xv_f (Or.inl h1) (br_t rfl (br_t h1 ⟨rfl, gm_mk h2 h9 h5 hw hg⟩))
  · refine gm_Xv_f (Or.inr h1) (br_t rfl ?_)
    exact br_c (fun _ => ⟨rfl, gm_mk h2 h9 h5 hw hg⟩) (fun _ => br_f (Int32.not_lt.mpr h1) ⟨rfl, gm_mk h2 h9 h5 hw hg⟩)
  · subst e1
    have hr : 2 ^ n - 1 - 2 ^ j < 2 ^ n := Nat.lt_of_le_of_lt (Nat.sub_le _ _) (by omega)
    refine gm_Xv_t h9 hj (br_f (by decide) (nm_r (gm_rest n (by omega) j hj) ?_))
    refine gm_XL h9 hw h5 hg (Nat.lt_of_lt_of_le hr hq) (gm_rest_1 n (by omega) h2 j hj) (fun r H => ?_)
    refine br_f (nI_pos (by omega)) (br_t (nI_lt hj (by omega)) (gm_YLa h9 h5 hg (fun r' H' => ⟨?_, gm_mk h2 h9 h5 hw hg⟩)))
    refine gm_L_u H' (gm_L_c (fun x => (gm_CW_C hr (fun u hu => ?_) x).symm) H)
    rw [gm_rest_b n (by omega) j hj u hu]
    unfold gm_o
    exact decide_eq_decide.mpr (not_congr (nI_eq (by omega) (by omega)).symm)
end
