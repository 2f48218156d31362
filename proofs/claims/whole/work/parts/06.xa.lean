/-! cells, pairs, one pair cut -/
def gm_A (g : Nat → Bool) : Nat → Int32 := fun c => if g c = true then 1 else 0
def gm_W (w : Nat → Nat) : Nat → Int32 := fun c => nI (w c)
theorem gm_A_0 {g : Nat → Bool} {c : Nat} (h : g c = false) : gm_A g c = 0 := by
  unfold gm_A
  rw [if_neg (by rw [h]; decide)]
theorem gm_A_1 {g : Nat → Bool} {c : Nat} (h : g c = true) : ¬ gm_A g c = 0 := by
  unfold gm_A
  rw [if_pos h]
  decide
theorem gm_cell (u v : Nat) : nI u * 9 + nI v = nI (u * 9 + v) := by
  show nI u * nI 9 + nI v = _
  rw [pk_mul, nI_add]
theorem gm_ix {u v : Nat} (hu : u < 9) (hv : v < 9) : (nI u * 9 + nI v).toNatClampNeg = u * 9 + v := by
  rw [gm_cell]
  exact nI_clamp (by omega)
theorem gm_in {u v : Nat} (hu : u < 9) (hv : v < 9) : vp_in (nI u * 9 + nI v) 81 := by
  rw [gm_cell]
  exact vp_in_nI (by omega) (by decide)
theorem gm_Az {g : Nat → Bool} {u v : Nat} (hu : u < 9) (hv : v < 9) (h : g (u * 9 + v) = false) : gm_A g (nI u * 9 + nI v).toNatClampNeg = 0 := by
  rw [gm_ix hu hv]
  exact gm_A_0 h
theorem gm_An {g : Nat → Bool} {u v : Nat} (hu : u < 9) (hv : v < 9) (h : g (u * 9 + v) = true) : ¬ gm_A g (nI u * 9 + nI v).toNatClampNeg = 0 := by
  rw [gm_ix hu hv]
  exact gm_A_1 h
theorem gm_Wz {w : Nat → Nat} {u v : Nat} (hu : u < 9) (hv : v < 9) : gm_W w (nI u * 9 + nI v).toNatClampNeg = nI (w (u * 9 + v)) := by
  rw [gm_ix hu hv]
  rfl
def gm_P (n : Nat) (p q : Int32) : Prop := ∃ i j, i < n ∧ j < n ∧ i ≠ j ∧ p = nI i ∧ q = nI j
theorem gm_Xv_t {post : Int32 → Prop} {n j : Nat} {a b : Nat → Int32} (hn : n ≤ 9) (hj : j < n) (hp : post 1) : wpX_isVertex post (nI n, a, b) (nI j) :=
  br_f (nI_pos (by omega)) (br_f (nI_ge hj (by omega)) hp)
theorem gm_Xv_f {post : Int32 → Prop} {n : Nat} {a b : Nat → Int32} {p : Int32} (h : p < 0 ∨ nI n ≤ p) (hp : post 0) : wpX_isVertex post (nI n, a, b) p := by
  by_cases h0 : p < 0
  · exact br_t h0 hp
  · exact br_f h0 (br_t (h.resolve_left h0) hp)
theorem gm_Xpair_t {post : Int32 → Prop} {n i j : Nat} {a b : Nat → Int32} (hn : n ≤ 9) (hi : i < n) (hj : j < n) (hij : i ≠ j) (hp : post 1) : wpX_isPair post (nI n, a, b) (nI i) (nI j) := by
  unfold wpX_isPair
  dsimp only
  refine gm_Xv_t hn hi (br_f (by decide) ?_)
  refine gm_Xv_t hn hj (br_f (by decide) ?_)
  exact br_f (fun e => hij ((nI_eq (by omega) (by omega)).mp e)) hp
theorem gm_Xpair_f {post : Int32 → Prop} {n : Nat} {a b : Nat → Int32} {p q : Int32} (hn : n ≤ 9) (h : ¬ gm_P n p q) (hp : post 0) : wpX_isPair post (nI n, a, b) p q := by
  unfold wpX_isPair
  dsimp only
  rcases pk_ix p (n := n) (by omega) with h1 | h1 | ⟨i, hi, e1⟩
  · exact gm_Xv_f (Or.inl h1) (br_t rfl hp)
  · exact gm_Xv_f (Or.inr h1) (br_t rfl hp)
  · subst e1
    refine gm_Xv_t hn hi (br_f (by decide) ?_)
    rcases pk_ix q (n := n) (by omega) with h1 | h1 | ⟨j, hj, e2⟩
    · exact gm_Xv_f (Or.inl h1) (br_t rfl hp)
    · exact gm_Xv_f (Or.inr h1) (br_t rfl hp)
    · subst e2
      refine gm_Xv_t hn hj (br_f (by decide) ?_)
      have e : i = j := Decidable.byContradiction fun c => h ⟨i, j, hi, hj, c, rfl, rfl⟩
      subst e
      exact br_t rfl hp
theorem gm_b2 {a c : Bool} (h1 : a = true) (h2 : c = true) : (a && c) = true := by
  subst h1; subst h2; rfl
theorem gm_b3 {a c : Bool} (h2 : c = false) : (a && c) = false := by
  subst h2; cases a <;> rfl
theorem gm_b4 {a c : Bool} (h1 : a = false) : (a && c) = false := by
  subst h1; rfl
theorem gm_nt {a : Bool} (h : ¬ a = true) : a = false := by
  cases a
  · rfl
  · exact absurd rfl h
theorem gm_Xcut {post : Int32 → Prop} {s wn : Int32} {u v : Nat} (hu : u < 9) (hv : v < 9) (ht : gm_q (bt wn) (bt s) u v = true → post 1) (hf : gm_q (bt wn) (bt s) u v = false → post 0) : wpX_isCut post s wn (nI u) (nI v) := by
  unfold wpX_isCut wpX_hasBoth wpX_separates
  by_cases h1 : (bt wn u && bt wn v) = true
  · refine br_t ((gm_has wn (by omega) (by omega)).mpr h1) (br_f (by decide) ?_)
    by_cases h2 : (bt s u != bt s v) = true
    · exact br_t ((gm_sep s (by omega) (by omega)).mpr h2) (br_f (by decide) (ht (gm_b2 h1 h2)))
    · exact br_f (fun z => h2 ((gm_sep s (by omega) (by omega)).mp z)) (br_t rfl (hf (gm_b3 (gm_nt h2))))
  · exact br_f (fun z => h1 ((gm_has wn (by omega) (by omega)).mp z)) (br_t rfl (hf (gm_b4 (gm_nt h1))))
/-! isAllowed -/
theorem gm_XA15 {post : Int32 → Prop} {J : Int32 → Prop} {s wn : Int32} {n u : Nat} {aw : Nat → Int32} {g : Nat → Bool} (hn : n ≤ 9) (hu : u < n) (h0 : (∃ v, u < v ∧ v < n ∧ gm_q (bt wn) (bt s) u v = true ∧ g (u * 9 + v) = true) → post 0) (hJ : (∀ v, u < v → v < n → gm_q (bt wn) (bt s) u v = true → g (u * 9 + v) = true → False) → J (nI (u + 1))) : ∀ d j f, j + d = n → u < j → d < f → (∀ v, u < v → v < j → gm_q (bt wn) (bt s) u v = true → g (u * 9 + v) = true → False) → wX_isAllowed_15 post J s wn (nI u) (nI n) aw (gm_A g) f (nI j) := by
  intro d
  induction d with
  | zero =>
    intro j f hj huj hf hI
    obtain ⟨f, rfl⟩ : ∃ k, f = k + 1 := ⟨f - 1, by omega⟩
    exact br_t (nI_le (by omega) (by omega)) (nm_r (nI_1 u) (hJ (fun v h1 h2 => hI v h1 (by omega))))
  | succ d ih =>
    intro j f hj huj hf hI
    obtain ⟨f, rfl⟩ : ∃ k, f = k + 1 := ⟨f - 1, by omega⟩
    have hj9 : j < 9 := by omega
    have hu9 : u < 9 := by omega
    have next : (gm_q (bt wn) (bt s) u j = true → g (u * 9 + j) = true → False) → wX_isAllowed_15 post J s wn (nI u) (nI n) aw (gm_A g) f (nI (j + 1)) := by
      intro hh
      refine ih (j + 1) f (by omega) (by omega) (by omega) fun v h1 h2 hq hg => ?_
      rcases Nat.lt_or_ge v j with h3 | h3
      · exact hI v h1 h3 hq hg
      · have e : v = j := by omega
        subst e
        exact hh hq hg
    refine br_f (nI_ge (by omega) (by omega)) ⟨gm_in hu9 hj9, ?_⟩
    by_cases hg : g (u * 9 + j) = true
    · refine br_f (gm_An hu9 hj9 hg) (gm_Xcut hu9 hj9 (fun hq => br_f (by decide) (h0 ⟨j, huj, by omega, hq, hg⟩)) (fun hq => br_t rfl (nm_r (nI_1 j) (next fun hq' _ => ?_))))
      rw [hq] at hq'
      cases hq'
    · exact br_t (gm_Az hu9 hj9 (gm_nt hg)) (nm_r (nI_1 j) (next fun _ hg' => hg hg'))
theorem gm_XA2 {post : Int32 → Prop} {s wn : Int32} {n : Nat} {aw : Nat → Int32} {g : Nat → Bool} (hn : n ≤ 9) (h0 : (∃ u v, u < v ∧ v < n ∧ gm_q (bt wn) (bt s) u v = true ∧ g (u * 9 + v) = true) → post 0) (h1 : (∀ u v, u < v → v < n → gm_q (bt wn) (bt s) u v = true → g (u * 9 + v) = true → False) → post 1) : ∀ d u f, u + d = n → d < f → (∀ a v, a < u → a < v → v < n → gm_q (bt wn) (bt s) a v = true → g (a * 9 + v) = true → False) → wX_isAllowed_2 post s wn (nI n) aw (gm_A g) f (nI u) := by
  intro d
  induction d with
  | zero =>
    intro u f hu hf hI
    obtain ⟨f, rfl⟩ : ∃ k, f = k + 1 := ⟨f - 1, by omega⟩
    exact br_t (nI_le (by omega) (by omega)) (h1 (fun a v h2 h3 => hI a v (by omega) h2 h3))
  | succ d ih =>
    intro u f hu hf hI
    obtain ⟨f, rfl⟩ : ∃ k, f = k + 1 := ⟨f - 1, by omega⟩
    refine br_f (nI_ge (by omega) (by omega)) (nm_r (nI_1 u) ⟨d + 1, ?_⟩)
    refine gm_XA15 hn (by omega) (fun H => ?_) (fun H => ?_) d (u + 1) (d + 1) (by omega) (by omega) (by omega) (fun v h2 h3 => by omega)
    · obtain ⟨v, h2, h3, h4, h5⟩ := H
      exact h0 ⟨u, v, h2, h3, h4, h5⟩
    · refine ih (u + 1) f (by omega) (by omega) fun a v h2 h3 h4 h5 h6 => ?_
      rcases Nat.lt_or_ge a u with h7 | h7
      · exact hI a v h7 h3 h4 h5 h6
      · have e : a = u := by omega
        subst e
        exact H v h3 h4 h5 h6
theorem gm_XA {post : Int32 → Prop} {s wn : Int32} {n : Nat} {aw : Nat → Int32} {g : Nat → Bool} (hn : n ≤ 9) (hg : gm_sy g) (h0 : gm_G n (bt wn) g (bt s) → post 0) (h1 : ¬ gm_G n (bt wn) g (bt s) → post 1) : wpX_isAllowed post (nI n, aw, gm_A g) s wn := by
  refine ⟨n + 1, gm_XA2 hn (fun H => ?_) (fun H => ?_) n 0 (n + 1) (by omega) (by omega) (fun a v h2 => by omega)⟩
  · obtain ⟨u, v, h2, h3, h4, h5⟩ := H
    exact h0 ⟨u, v, by omega, h3, h4, h5⟩
  · refine h1 fun G => ?_
    obtain ⟨u, v, h2, h3, h4, h5⟩ := gm_G_up hn hg G
    exact H u v h2 h3 h4 h5
theorem gm_bn {m n : Nat} (hn : n ≤ 9) : ∀ u, u < n → bt (nI m) u = m.testBit u := fun u hu => gm_bI m u (by omega)
theorem gm_bn' {m n : Nat} (hn : n ≤ 9) : ∀ u, u < n → m.testBit u = bt (nI m) u := fun u hu => (gm_bI m u (by omega)).symm
theorem gm_XAn {post : Int32 → Prop} {s wn n : Nat} {aw : Nat → Int32} {g : Nat → Bool} (hn : n ≤ 9) (hg : gm_sy g) (h0 : gm_G n wn.testBit g s.testBit → post 0) (h1 : ¬ gm_G n wn.testBit g s.testBit → post 1) : wpX_isAllowed post (nI n, aw, gm_A g) (nI s) (nI wn) :=
  gm_XA hn hg (fun G => h0 (gm_G_c (gm_bn hn) (fun u hu _ => gm_bn hn u hu) G)) (fun G => h1 (fun z => G (gm_G_c (gm_bn' hn) (fun u hu _ => gm_bn' hn u hu) z)))
