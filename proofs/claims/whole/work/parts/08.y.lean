/-! Y: pairs, separates -/
theorem gm_Ypair_t {post : Int32 → Prop} {n i j : Nat} {a b : Nat → Int32} (hn : n ≤ 9) (hi : i < n) (hj : j < n) (hij : i ≠ j) (hp : post 0) : wpY_badPair post (nI n, a, b) (nI i) (nI j) :=
  br_f (nI_pos (by omega)) (br_f (nI_ge hi (by omega)) (br_f (nI_pos (by omega)) (br_f (nI_ge hj (by omega)) (br_f (fun e => hij ((nI_eq (by omega) (by omega)).mp e)) hp))))
theorem gm_Ypair_f {post : Int32 → Prop} {n : Nat} {a b : Nat → Int32} {p q : Int32} (hn : n ≤ 9) (h : ¬ gm_P n p q) (hp : post 1) : wpY_badPair post (nI n, a, b) p q := by
  refine br_c (fun _ => hp) (fun h1 => br_c (fun _ => hp) (fun h2 => br_c (fun _ => hp) (fun h3 => br_c (fun _ => hp) (fun h4 => br_c (fun _ => hp) (fun h5 => ?_)))))
  rcases pk_ix p (n := n) (by omega) with h6 | h6 | ⟨i, hi, e1⟩
  · exact absurd h6 h1
  · exact absurd h6 h2
  · rcases pk_ix q (n := n) (by omega) with h7 | h7 | ⟨j, hj, e2⟩
    · exact absurd h7 h3
    · exact absurd h7 h4
    · exact absurd ⟨i, j, hi, hj, fun e => h5 (by rw [e1, e2, e]), e1, e2⟩ h
theorem gm_Ysep {post : Int32 → Prop} {st : SY} {s : Int32} {u v : Nat} (hu : u < 9) (hv : v < 9) (ht : (bt s u != bt s v) = true → post 1) (hf : (bt s u != bt s v) = false → post 0) : wpY_separates post st s (nI u) (nI v) := by
  have h := gm_sepY s (u := u) (v := v) (by omega) (by omega)
  by_cases h2 : (bt s u != bt s v) = true
  · exact br_f (fun z => absurd (h2.symm.trans (h.mp z)) (by decide)) (ht h2)
  · exact br_t (h.mpr (gm_nt h2)) (hf (gm_nt h2))
/-! allowed -/
def gm_o (o : Int32) (u : Nat) : Bool := decide (¬ nI u = o)
theorem gm_o_f {o : Int32} {u : Nat} (h : nI u = o) : gm_o o u = false := decide_eq_false (fun z => z h)
theorem gm_o_t {o : Int32} {u : Nat} (h : ¬ nI u = o) : gm_o o u = true := decide_eq_true h
theorem gm_YA43 {post : Int32 → Prop} {J : Int32 → Int32 → Int32 → Int32 → Prop} {s o i4 i5 : Int32} {n u A : Nat} {w : Nat → Nat} {g : Nat → Bool} (hn : n ≤ 9) (hu : u < n) (h0 : (∃ v, v < u ∧ gm_q (gm_o o) (bt s) u v = true ∧ g (u * 9 + v) = true) → post (-3)) (hJ : (∀ v, v < u → gm_q (gm_o o) (bt s) u v = true → g (u * 9 + v) = true → False) → J (nI (A + gm_S (gm_t (gm_o o) (bt s) w u) u)) i4 i5 (nI (u + 1))) : ∀ d j f, j + d = u → d < f → (∀ v, v < j → gm_q (gm_o o) (bt s) u v = true → g (u * 9 + v) = true → False) → wY_allowed_43 post J s o i4 i5 (nI u) (nI n) (gm_W w) (gm_A g) f (nI (A + gm_S (gm_t (gm_o o) (bt s) w u) j)) (nI j) := by
  intro d
  induction d with
  | zero =>
    intro j f hj hf hI
    obtain ⟨f, rfl⟩ : ∃ k, f = k + 1 := ⟨f - 1, by omega⟩
    have e : j = u := by omega
    rw [e] at hI ⊢
    exact br_t (nI_le (Nat.le_refl u) (by omega)) (nm_r (nI_1 u) (hJ hI))
  | succ d ih =>
    intro j f hj hf hI
    obtain ⟨f, rfl⟩ : ∃ k, f = k + 1 := ⟨f - 1, by omega⟩
    have hj9 : j < 9 := by omega
    have hu9 : u < 9 := by omega
    have hI' : (gm_q (gm_o o) (bt s) u j = true → g (u * 9 + j) = true → False) → ∀ v, v < j + 1 → gm_q (gm_o o) (bt s) u v = true → g (u * 9 + v) = true → False := by
      intro hh v hv hq hg
      rcases Nat.lt_or_ge v j with h3 | h3
      · exact hI v h3 hq hg
      · have e : v = j := by omega
        subst e
        exact hh hq hg
    have skip : gm_q (gm_o o) (bt s) u j = false → wY_allowed_43 post J s o i4 i5 (nI u) (nI n) (gm_W w) (gm_A g) f (nI (A + gm_S (gm_t (gm_o o) (bt s) w u) j)) (nI (j + 1)) := by
      intro hq
      have next := ih (j + 1) f (by omega) (by omega) (hI' fun hq' _ => by rw [hq] at hq'; cases hq')
      have et : gm_t (gm_o o) (bt s) w u j = 0 := if_neg (by rw [hq]; decide)
      rw [gm_S_1, et, Nat.add_zero] at next
      exact next
    refine br_f (nI_ge (by omega) (by omega)) ?_
    by_cases c1 : nI u = o
    · exact br_t c1 (nm_r (nI_1 j) (skip (gm_b4 (gm_b4 (gm_o_f c1)))))
    · refine br_f c1 ?_
      by_cases c2 : nI j = o
      · exact br_t c2 (nm_r (nI_1 j) (skip (gm_b4 (gm_b3 (gm_o_f c2)))))
      · refine br_f c2 (gm_Ysep hu9 hj9 (fun hs => br_f (by decide) ⟨gm_in hu9 hj9, ?_⟩) (fun hs => br_t rfl (nm_r (nI_1 j) (skip (gm_b3 hs)))))
        have hq : gm_q (gm_o o) (bt s) u j = true := gm_b2 (gm_b2 (gm_o_t c1) (gm_o_t c2)) hs
        by_cases hg : g (u * 9 + j) = true
        · exact br_f (gm_An hu9 hj9 hg) (h0 ⟨j, by omega, hq, hg⟩)
        · have next := ih (j + 1) f (by omega) (by omega) (hI' fun _ hg' => hg hg')
          have et : gm_t (gm_o o) (bt s) w u j = w (u * 9 + j) := if_pos hq
          rw [gm_S_1, et] at next
          refine br_t (gm_Az hu9 hj9 (gm_nt hg)) ⟨gm_in hu9 hj9, nm_r ?_ (nm_r (nI_1 j) next)⟩
          rw [gm_Wz hu9 hj9, nI_add, Nat.add_assoc]
def gm_ci (o : Int32) (b : Nat → Bool) (u : Nat) : Nat := if (gm_o o u && b u) = true then 1 else 0
def gm_ca (o : Int32) (u : Nat) : Nat := if gm_o o u = true then 1 else 0
theorem gm_ci_le (o : Int32) (b : Nat → Bool) (u : Nat) : gm_ci o b u ≤ gm_ca o u := by
  unfold gm_ci gm_ca
  cases gm_o o u <;> cases b u <;> decide
theorem gm_ca_le (o : Int32) (u : Nat) : gm_ca o u ≤ 1 := by
  unfold gm_ca
  cases gm_o o u <;> decide
theorem gm_cN {n : Nat} {o : Int32} {b : Nat → Bool} (h0 : gm_S (gm_ci o b) n ≠ 0) (h1 : gm_S (gm_ci o b) n ≠ gm_S (gm_ca o) n) : gm_N n (gm_o o) b := by
  constructor
  · refine Classical.byContradiction fun c => h0 (gm_S_zero fun u hu => if_neg fun z => c ⟨u, hu, ?_⟩)
    rw [Bool.and_eq_true] at z
    exact z
  · refine Classical.byContradiction fun c => h1 (gm_S_congr fun u hu => ?_)
    unfold gm_ci gm_ca
    cases ho : gm_o o u with
    | false => rfl
    | true =>
      cases hb : b u with
      | true => rfl
      | false => exact absurd ⟨u, hu, ho, hb⟩ c
theorem gm_cN' {n : Nat} {o : Int32} {b : Nat → Bool} (H : gm_N n (gm_o o) b) : gm_S (gm_ci o b) n ≠ 0 ∧ gm_S (gm_ci o b) n ≠ gm_S (gm_ca o) n := by
  obtain ⟨⟨j, hj, hw, hm⟩, ⟨i, hi, hx, hz⟩⟩ := H
  constructor
  · intro e
    have e0 : gm_S (fun _ => 0) n = 0 := gm_S_zero fun _ _ => rfl
    have h := gm_S_eq (f := fun _ => 0) (f' := gm_ci o b) (fun u _ => Nat.zero_le _) (e0.trans e.symm) j hj
    have h' : gm_ci o b j = 1 := if_pos (gm_b2 hw hm)
    rw [h'] at h
    cases h
  · intro e
    have h := gm_S_eq (fun u _ => gm_ci_le o b u) e i hi
    have h' : gm_ci o b i = 0 := if_neg (by rw [gm_b3 hz]; decide)
    have h'' : gm_ca o i = 1 := if_pos hx
    rw [h', h''] at h
    cases h
theorem gm_YA11 {post : Int32 → Prop} {s o : Int32} {n : Nat} {w : Nat → Nat} {g : Nat → Bool} (hn : n ≤ 9) (h3 : (¬ gm_N n (gm_o o) (bt s) ∨ ∃ u v, v < u ∧ u < n ∧ gm_q (gm_o o) (bt s) u v = true ∧ g (u * 9 + v) = true) → post (-3)) (hv : gm_N n (gm_o o) (bt s) → (∀ u v, v < u → u < n → gm_q (gm_o o) (bt s) u v = true → g (u * 9 + v) = true → False) → post (nI (gm_V n (gm_o o) w (bt s)))) : ∀ d u f, u + d = n → d < f → (∀ a v, a < u → v < a → gm_q (gm_o o) (bt s) a v = true → g (a * 9 + v) = true → False) → wY_allowed_11 post s o (nI n) (gm_W w) (gm_A g) f (nI (gm_S (fun u => gm_S (gm_t (gm_o o) (bt s) w u) u) u)) (nI (gm_S (gm_ci o (bt s)) u)) (nI (gm_S (gm_ca o) u)) (nI u) := by
  intro d
  induction d with
  | zero =>
    intro u f hu hf hI
    obtain ⟨f, rfl⟩ : ∃ k, f = k + 1 := ⟨f - 1, by omega⟩
    have e : u = n := by omega
    rw [e] at hI ⊢
    have b1 : gm_S (gm_ca o) n ≤ n * 1 := gm_S_le fun u _ => gm_ca_le o u
    have b2 : gm_S (gm_ci o (bt s)) n ≤ gm_S (gm_ca o) n := gm_S_mono fun u _ => gm_ci_le o (bt s) u
    refine br_t (nI_le (Nat.le_refl n) (by omega)) ?_
    by_cases H : gm_N n (gm_o o) (bt s)
    · have c := gm_cN' H
      refine br_f (nI_ne0 (by omega) (by omega)) (br_f (fun z => c.2 ((nI_eq (by omega) (by omega)).mp z)) (hv H fun u v h1 h2 => hI u v h2 h1))
    · refine br_c (fun _ => h3 (Or.inl H)) (fun z1 => br_c (fun _ => h3 (Or.inl H)) (fun z2 => absurd (gm_cN ?_ ?_) H))
      · intro z
        rw [z] at z1
        exact z1 nI_0
      · intro z
        rw [z] at z2
        exact z2 rfl
  | succ d ih =>
    intro u f hu hf hI
    obtain ⟨f, rfl⟩ : ∃ k, f = k + 1 := ⟨f - 1, by omega⟩
    have inner : ∀ i4 i5 : Nat, i4 = gm_S (gm_ci o (bt s)) (u + 1) → i5 = gm_S (gm_ca o) (u + 1) → ∃ n43, wY_allowed_43 post (wY_allowed_11 post s o (nI n) (gm_W w) (gm_A g) f) s o (nI i4) (nI i5) (nI u) (nI n) (gm_W w) (gm_A g) n43 (nI (gm_S (fun u => gm_S (gm_t (gm_o o) (bt s) w u) u) u)) 0 := by
      intro i4 i5 e4 e5
      refine ⟨u + 1, gm_YA43 (A := gm_S (fun u => gm_S (gm_t (gm_o o) (bt s) w u) u) u) hn (by omega) (fun H => ?_) (fun H => ?_) u 0 (u + 1) (by omega) (by omega) (fun v h1 => by omega)⟩
      · obtain ⟨v, h1, h2, h4⟩ := H
        exact h3 (Or.inr ⟨u, v, h1, by omega, h2, h4⟩)
      · rw [e4, e5]
        refine ih (u + 1) f (by omega) (by omega) fun a v h1 h2 h4 h5 => ?_
        rcases Nat.lt_or_ge a u with h7 | h7
        · exact hI a v h7 h2 h4 h5
        · have e : a = u := by omega
          subst e
          exact H v h2 h4 h5
    refine br_f (nI_ge (by omega) (by omega)) ?_
    by_cases c1 : nI u = o
    · have z1 : gm_ci o (bt s) u = 0 := if_neg (by rw [gm_b4 (gm_o_f c1)]; decide)
      have z2 : gm_ca o u = 0 := if_neg (by rw [gm_o_f c1]; decide)
      exact br_t c1 (inner _ _ (by rw [gm_S_1, z1]; rfl) (by rw [gm_S_1, z2]; rfl))
    · have z1 : gm_ci o (bt s) u = if bt s u = true then 1 else 0 := by
        unfold gm_ci
        rw [gm_o_t c1, Bool.true_and]
      have z2 : gm_ca o u = 1 := if_pos (gm_o_t c1)
      refine br_f c1 (nm_r ?_ (nm_r (nI_1 _) (inner (gm_S (gm_ci o (bt s)) u + if bt s u = true then 1 else 0) _ (by rw [gm_S_1, z1]) (by rw [gm_S_1, z2]))))
      rw [gm_bitY s (by omega), nI_add]
theorem gm_YA {post : Int32 → Prop} {s o : Int32} {n : Nat} {w : Nat → Nat} {g : Nat → Bool} (hn : n ≤ 9) (hg : gm_sy g) (h3 : ¬ (gm_N n (gm_o o) (bt s) ∧ ¬ gm_G n (gm_o o) g (bt s)) → post (-3)) (hv : gm_N n (gm_o o) (bt s) → ¬ gm_G n (gm_o o) g (bt s) → post (nI (gm_V n (gm_o o) w (bt s)))) : wpY_allowed post (nI n, gm_W w, gm_A g) s o := by
  refine ⟨n + 1, gm_YA11 hn (fun H => h3 fun c => ?_) (fun hN H => hv hN fun G => ?_) n 0 (n + 1) (by omega) (by omega) (fun a v h1 => by omega)⟩
  · rcases H with H | ⟨u, v, h1, h2, h4, h5⟩
    · exact H c.1
    · exact c.2 ⟨u, v, h2, by omega, h4, h5⟩
  · obtain ⟨u, v, h1, h2, h4, h5⟩ := gm_G_lo hn hg G
    exact H u v h1 h2 h4 h5
theorem gm_YAn {post : Int32 → Prop} {o : Int32} {s n : Nat} {w : Nat → Nat} {g : Nat → Bool} (hn : n ≤ 9) (hg : gm_sy g) (h3 : ¬ (gm_N n (gm_o o) s.testBit ∧ ¬ gm_G n (gm_o o) g s.testBit) → post (-3)) (hv : gm_N n (gm_o o) s.testBit → ¬ gm_G n (gm_o o) g s.testBit → post (nI (gm_V n (gm_o o) w s.testBit))) : wpY_allowed post (nI n, gm_W w, gm_A g) (nI s) o := by
  have eV : gm_V n (gm_o o) w (bt (nI s)) = gm_V n (gm_o o) w s.testBit := gm_V_c (fun _ _ => rfl) (fun u hu _ => gm_bn hn u hu)
  have hG : gm_G n (gm_o o) g (bt (nI s)) → gm_G n (gm_o o) g s.testBit := gm_G_c (fun _ _ => rfl) (fun u hu _ => gm_bn hn u hu)
  have hG' : gm_G n (gm_o o) g s.testBit → gm_G n (gm_o o) g (bt (nI s)) := gm_G_c (fun _ _ => rfl) (fun u hu _ => gm_bn' hn u hu)
  have hN : gm_N n (gm_o o) (bt (nI s)) → gm_N n (gm_o o) s.testBit := gm_N_c (fun _ _ => rfl) (fun u hu _ => gm_bn hn u hu)
  have hN' : gm_N n (gm_o o) s.testBit → gm_N n (gm_o o) (bt (nI s)) := gm_N_c (fun _ _ => rfl) (fun u hu _ => gm_bn' hn u hu)
  refine gm_YA hn hg (fun H => h3 fun c => H ⟨hN' c.1, fun z => c.2 (hG z)⟩) (fun a b => ?_)
  rw [eV]
  exact hv (hN a) (fun z => b (hG' z))
