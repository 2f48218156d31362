/-! the values of the cuts, as each side meets them -/
def gm_D (a : Nat) (P : Nat → Nat → Prop) (k x : Nat) : Prop := ∃ s, a ≤ s ∧ s < k ∧ P s x
theorem gm_D_0 (a : Nat) (P : Nat → Nat → Prop) : ∀ x, ¬ gm_D a P a x := by
  intro x H
  obtain ⟨s, h1, h2, _⟩ := H
  omega
theorem gm_D_f {a k : Nat} {P : Nat → Nat → Prop} (h : ∀ x, ¬ P k x) (x : Nat) : gm_D a P (k + 1) x ↔ gm_D a P k x := by
  constructor
  · intro H
    obtain ⟨s, h1, h2, h3⟩ := H
    rcases Nat.lt_or_ge s k with h4 | h4
    · exact ⟨s, h1, h4, h3⟩
    · have e : s = k := by omega
      rw [e] at h3
      exact absurd h3 (h x)
  · intro H
    obtain ⟨s, h1, h2, h3⟩ := H
    exact ⟨s, h1, by omega, h3⟩
theorem gm_D_t {a k y : Nat} {P : Nat → Nat → Prop} (ha : a ≤ k) (h : ∀ x, P k x ↔ x = y) (x : Nat) : gm_D a P (k + 1) x ↔ gm_D a P k x ∨ x = y := by
  constructor
  · intro H
    obtain ⟨s, h1, h2, h3⟩ := H
    rcases Nat.lt_or_ge s k with h4 | h4
    · exact Or.inl ⟨s, h1, h4, h3⟩
    · have e : s = k := by omega
      rw [e] at h3
      exact Or.inr ((h x).mp h3)
  · intro H
    rcases H with ⟨s, h1, h2, h3⟩ | e
    · exact ⟨s, h1, by omega, h3⟩
    · exact ⟨k, ha, by omega, (h x).mpr e⟩
def gm_PY (n : Nat) (wi g : Nat → Bool) (w : Nat → Nat) (sel : (Nat → Bool) → Prop) (m x : Nat) : Prop := sel m.testBit ∧ gm_N n wi m.testBit ∧ ¬ gm_G n wi g m.testBit ∧ gm_V n wi w m.testBit = x
def gm_PW (n wn : Nat) (g : Nat → Bool) (w : Nat → Nat) (s x : Nat) : Prop := (∀ j, s.testBit j = true → wn.testBit j = true) ∧ ¬ gm_G n wn.testBit g s.testBit ∧ gm_V n wn.testBit w s.testBit = x
def gm_PS (n wn : Nat) (g : Nat → Bool) (w : Nat → Nat) (u v t x : Nat) : Prop := ((2 * t).testBit u != (2 * t).testBit v) = true ∧ ¬ gm_G n wn.testBit g (2 * t).testBit ∧ gm_V n wn.testBit w (2 * t).testBit = x
def gm_C (n : Nat) (wi g : Nat → Bool) (w : Nat → Nat) (sel : (Nat → Bool) → Prop) : Nat → Prop := gm_D 0 (gm_PY n wi g w sel) (2 ^ n)
def gm_CW (n wn : Nat) (g : Nat → Bool) (w : Nat → Nat) : Nat → Prop := gm_D 1 (gm_PW n wn g w) wn
def gm_CS (n h : Nat) (g : Nat → Bool) (w : Nat → Nat) (u v : Nat) : Nat → Prop := gm_D 1 (gm_PS n (2 ^ n - 1) g w u v) h
theorem gm_tb_hi {x n j : Nat} (h : x < 2 ^ n) (hj : x.testBit j = true) : j < n := by
  rcases Nat.lt_or_ge j n with h1 | h1
  · exact h1
  · have h2 := Nat.testBit_lt_two_pow (x := x) (i := j) (Nat.lt_of_lt_of_le h (Nat.pow_le_pow_right (by decide) h1))
    rw [h2] at hj
    cases hj
theorem gm_CW_C {n wn : Nat} {wi g : Nat → Bool} {w : Nat → Nat} (hwn : wn < 2 ^ n) (hwi : ∀ u, u < n → wn.testBit u = wi u) (x : Nat) : gm_CW n wn g w x ↔ gm_C n wi g w (fun _ => True) x := by
  have hi : ∀ u, u < n → wi u = wn.testBit u := fun u hu => (hwi u hu).symm
  constructor
  · intro H
    obtain ⟨s, h1, h2, h3, h4, h5⟩ := H
    have hN : gm_N n wn.testBit s.testBit := by
      constructor
      · obtain ⟨j, hj⟩ := Nat.exists_testBit_of_ne_zero (x := s) (by omega)
        exact ⟨j, gm_tb_hi hwn (h3 j hj), h3 j hj, hj⟩
      · obtain ⟨j, hj⟩ := Nat.exists_testBit_ne_of_ne (x := s) (y := wn) (by omega)
        cases hs : s.testBit j with
        | true => exact absurd (hs.trans (h3 j hs).symm) hj
        | false =>
          cases hw : wn.testBit j with
          | false => exact absurd (hs.trans hw.symm) hj
          | true => exact ⟨j, gm_tb_hi hwn hw, hw, hs⟩
    exact ⟨s, Nat.zero_le _, by omega, trivial, gm_N_c hwi (fun _ _ _ => rfl) hN, fun z => h4 (gm_G_c hi (fun _ _ _ => rfl) z), (gm_V_c hi (fun _ _ _ => rfl)).trans h5⟩
  · intro H
    obtain ⟨m, _, h1, _, h3, h4, h5⟩ := H
    have hb : ∀ u, u < n → wi u = true → m.testBit u = (m &&& wn).testBit u := fun u hu hw => by
      rw [Nat.testBit_and, hwi u hu, hw, Bool.and_true]
    have hb' : ∀ u, u < n → wn.testBit u = true → (m &&& wn).testBit u = m.testBit u := fun u hu hw => (hb u hu ((hi u hu).trans hw)).symm
    obtain ⟨⟨j, hj, hw, hm⟩, ⟨i, hi', hx, hz⟩⟩ := gm_N_c hi hb h3
    refine ⟨m &&& wn, ?_, ?_, ?_, fun z => h4 (gm_G_c hwi hb' z), (gm_V_c hwi hb').trans h5⟩
    · rcases Nat.eq_zero_or_pos (m &&& wn) with e | e
      · rw [e, Nat.zero_testBit] at hm
        cases hm
      · exact e
    · refine Nat.lt_of_le_of_ne Nat.and_le_right fun e => ?_
      rw [e, hx] at hz
      cases hz
    · intro k hk
      rw [Nat.testBit_and, Bool.and_eq_true] at hk
      exact hk.2
theorem gm_N_even {n m : Nat} {wi : Nat → Bool} (hn : 1 ≤ n) (hwi : ∀ u, u < n → wi u = true) (h0 : m ≠ 0) (hm : m < 2 ^ n) (he : m % 2 = 0) : gm_N n wi m.testBit := by
  obtain ⟨j, hj⟩ := Nat.exists_testBit_of_ne_zero h0
  have hj' := gm_tb_hi hm hj
  refine ⟨⟨j, hj', hwi j hj', hj⟩, ⟨0, hn, hwi 0 hn, ?_⟩⟩
  rw [Nat.testBit_zero, he]
  rfl
theorem gm_CS_mk {n h m u v x : Nat} {g : Nat → Bool} {w : Nat → Nat} (hh : 2 ^ n = 2 * h) (hm : m < 2 ^ n) (he : m.testBit 0 = false) (hs : (m.testBit u != m.testBit v) = true) (hN : gm_N n (2 ^ n - 1).testBit m.testBit) (hG : ¬ gm_G n (2 ^ n - 1).testBit g m.testBit) (hV : gm_V n (2 ^ n - 1).testBit w m.testBit = x) : gm_CS n h g w u v x := by
  have h2 : 2 * (m / 2) = m := by
    rw [Nat.testBit_zero] at he
    have h9 := of_decide_eq_false he
    omega
  obtain ⟨⟨j, hj, hw, hj1⟩, ⟨i, hi, hx, hi1⟩⟩ := hN
  have h0 : m ≠ 0 := fun e => by
    rw [e, Nat.zero_testBit] at hj1
    cases hj1
  have h1 : m ≠ 2 ^ n - 1 := fun e => by
    rw [← e, hi1] at hx
    cases hx
  refine ⟨m / 2, by omega, by omega, ?_, ?_, ?_⟩
  · rw [h2]; exact hs
  · rw [h2]; exact hG
  · rw [h2]; exact hV
theorem gm_nb (a b : Bool) (h : (a != b) = true) : ((!a) != (!b)) = true := by cases a <;> cases b <;> first | exact h | rfl
theorem gm_CS_C {n h u v : Nat} {wi g : Nat → Bool} {w : Nat → Nat} (hh : 2 ^ n = 2 * h) (hn : 1 ≤ n) (hu : u < n) (hv : v < n) (hwi : ∀ u, u < n → wi u = true) (x : Nat) : gm_CS n h g w u v x ↔ gm_C n wi g w (fun b => (b u != b v) = true) x := by
  have hi : ∀ u, u < n → wi u = (2 ^ n - 1).testBit u := fun u hu => by
    rw [Nat.testBit_two_pow_sub_one, hwi u hu, decide_eq_true hu]
  have hi' : ∀ u, u < n → (2 ^ n - 1).testBit u = wi u := fun u hu => (hi u hu).symm
  constructor
  · intro H
    obtain ⟨t, h1, h2, h3, h4, h5⟩ := H
    exact ⟨2 * t, Nat.zero_le _, by omega, h3, gm_N_even hn hwi (by omega) (by omega) (by omega), fun z => h4 (gm_G_c hi (fun _ _ _ => rfl) z), (gm_V_c hi (fun _ _ _ => rfl)).trans h5⟩
  · intro H
    obtain ⟨m, _, h1, h2, h3, h4, h5⟩ := H
    have h3' := gm_N_c hi (fun _ _ _ => rfl) h3
    have h4' : ¬ gm_G n (2 ^ n - 1).testBit g m.testBit := fun z => h4 (gm_G_c hi' (fun _ _ _ => rfl) z)
    have h5' := (gm_V_c (w := w) (b := m.testBit) hi' (fun _ _ _ => rfl)).trans h5
    cases h0 : m.testBit 0 with
    | false => exact gm_CS_mk hh h1 h0 h2 h3' h4' h5'
    | true =>
      have hb : ∀ j, j < n → (2 ^ n - (m + 1)).testBit j = !m.testBit j := fun j hj => by
        rw [Nat.testBit_two_pow_sub_succ h1, decide_eq_true hj, Bool.true_and]
      refine gm_CS_mk hh (m := 2 ^ n - (m + 1)) (by omega) ?_ ?_ (gm_N_n hb h3') (fun z => h4' (gm_G_n hb z)) ((gm_V_n hb).trans h5')
      · rw [hb 0 hn, h0]
        rfl
      · rw [hb u hu, hb v hv]
        exact gm_nb _ _ h2
theorem gm_C_s {n u v : Nat} {wi g : Nat → Bool} {w : Nat → Nat} (x : Nat) : gm_C n wi g w (fun b => (b u != b v) = true) x ↔ gm_C n wi g w (fun b => (b v != b u) = true) x := by
  constructor
  · intro H
    obtain ⟨m, h0, h1, h2, h3⟩ := H
    exact ⟨m, h0, h1, (bne_comm (a := m.testBit v) (b := m.testBit u)).trans h2, h3⟩
  · intro H
    obtain ⟨m, h0, h1, h2, h3⟩ := H
    exact ⟨m, h0, h1, (bne_comm (a := m.testBit u) (b := m.testBit v)).trans h2, h3⟩
/-! the first even mask that does -/
def gm_F (Q : Nat → Prop) (h : Nat) (r : Int32) : Prop := (r = -3 ∧ ∀ t, 1 ≤ t → t < h → ¬ Q t) ∨ (∃ t, 1 ≤ t ∧ t < h ∧ r = nI (2 * t) ∧ Q t ∧ ∀ s, 1 ≤ s → s < t → ¬ Q s)
theorem gm_F_u {Q : Nat → Prop} {h : Nat} {r r' : Int32} (H : gm_F Q h r) (H' : gm_F Q h r') : r = r' := by
  rcases H with ⟨e, hn⟩ | ⟨z, hz, hh, e, hC, hm⟩
  · rcases H' with ⟨e', hn'⟩ | ⟨z', hz', hh', e', hC', hm'⟩
    · rw [e, e']
    · exact absurd hC' (hn z' hz' hh')
  · rcases H' with ⟨e', hn'⟩ | ⟨z', hz', hh', e', hC', hm'⟩
    · exact absurd hC (hn' z hz hh)
    · have h : z = z' := by
        rcases Nat.lt_trichotomy z z' with h | h | h
        · exact absurd hC (hm' z hz h)
        · exact h
        · exact absurd hC' (hm z' hz' h)
      rw [e, e', h]
