/-! cutValue -/
theorem gm_XC20 {post : Int32 → Prop} {J : Int32 → Int32 → Prop} {s wn : Int32} {n u A : Nat} {w : Nat → Nat} {ag : Nat → Int32} (hn : n ≤ 9) (hu : u < n) (hJ : J (nI (A + gm_S (gm_R (bt wn) (bt s) w u) n)) (nI (u + 1))) : ∀ d j f, j + d = n → u < j → d < f → wX_cutValue_20 post J s wn (nI u) (nI n) (gm_W w) ag f (nI (A + gm_S (gm_R (bt wn) (bt s) w u) j)) (nI j) := by
  intro d
  induction d with
  | zero =>
    intro j f hj huj hf
    obtain ⟨f, rfl⟩ : ∃ k, f = k + 1 := ⟨f - 1, by omega⟩
    have e : j = n := by omega
    rw [e]
    exact br_t (nI_le (Nat.le_refl n) (by omega)) (nm_r (nI_1 u) hJ)
  | succ d ih =>
    intro j f hj huj hf
    obtain ⟨f, rfl⟩ : ∃ k, f = k + 1 := ⟨f - 1, by omega⟩
    have hj9 : j < 9 := by omega
    have hu9 : u < 9 := by omega
    have next := ih (j + 1) f (by omega) (by omega) (by omega)
    rw [gm_S_1] at next
    have eR : gm_R (bt wn) (bt s) w u j = gm_t (bt wn) (bt s) w u j := if_pos huj
    refine br_f (nI_ge (by omega) (by omega)) (gm_Xcut hu9 hj9 (fun hq => br_f (by decide) ⟨gm_in hu9 hj9, nm_r ?_ (nm_r (nI_1 j) next)⟩) (fun hq => br_t rfl (nm_r (nI_1 j) ?_)))
    · have et : gm_t (bt wn) (bt s) w u j = w (u * 9 + j) := if_pos hq
      rw [gm_Wz hu9 hj9, nI_add, eR, et, Nat.add_assoc]
    · have et : gm_t (bt wn) (bt s) w u j = 0 := if_neg (by rw [hq]; decide)
      rw [eR, et, Nat.add_zero] at next
      exact next
theorem gm_XC5 {post : Int32 → Prop} {s wn : Int32} {n : Nat} {w : Nat → Nat} {ag : Nat → Int32} (hn : n ≤ 9) (hp : post (nI (gm_U n (bt wn) w (bt s)))) : ∀ d u f, u + d = n → d < f → wX_cutValue_5 post s wn (nI n) (gm_W w) ag f (nI (gm_S (fun u => gm_S (gm_R (bt wn) (bt s) w u) n) u)) (nI u) := by
  intro d
  induction d with
  | zero =>
    intro u f hu hf
    obtain ⟨f, rfl⟩ : ∃ k, f = k + 1 := ⟨f - 1, by omega⟩
    have e : u = n := by omega
    rw [e]
    exact br_t (nI_le (Nat.le_refl n) (by omega)) hp
  | succ d ih =>
    intro u f hu hf
    obtain ⟨f, rfl⟩ : ∃ k, f = k + 1 := ⟨f - 1, by omega⟩
    refine br_f (nI_ge (by omega) (by omega)) (nm_r (nI_1 u) ⟨d + 1, ?_⟩)
    have h := gm_XC20 (post := post) (J := wX_cutValue_5 post s wn (nI n) (gm_W w) ag f) (s := s) (wn := wn) (n := n) (u := u) (A := gm_S (fun u => gm_S (gm_R (bt wn) (bt s) w u) n) u) (w := w) (ag := ag) hn (by omega) (ih (u + 1) f (by omega) (by omega)) d (u + 1) (d + 1) (by omega) (by omega) (by omega)
    have e0 : gm_S (gm_R (bt wn) (bt s) w u) (u + 1) = 0 := gm_S_zero fun v hv => if_neg (by omega)
    rw [e0, Nat.add_zero] at h
    exact h
theorem gm_XC {post : Int32 → Prop} {s wn : Int32} {n : Nat} {w : Nat → Nat} {ag : Nat → Int32} (hn : n ≤ 9) (hw : gm_sy w) (hp : post (nI (gm_V n (bt wn) w (bt s)))) : wpX_cutValue post (nI n, gm_W w, ag) s wn := by
  rw [← gm_UV hn hw] at hp
  exact ⟨n + 1, gm_XC5 hn hp n 0 (n + 1) (by omega) (by omega)⟩
theorem gm_XCn {post : Int32 → Prop} {s wn n : Nat} {w : Nat → Nat} {ag : Nat → Int32} (hn : n ≤ 9) (hw : gm_sy w) (hp : post (nI (gm_V n wn.testBit w s.testBit))) : wpX_cutValue post (nI n, gm_W w, ag) (nI s) (nI wn) := by
  refine gm_XC hn hw ?_
  rw [gm_V_c (gm_bn hn) (fun u hu _ => gm_bn hn u hu)]
  exact hp
theorem gm_Xle {post : Int32 → Prop} {C C' : Nat → Prop} {r : Int32} {x : Nat} (hx : x < 2 ^ 31) (h : ∀ y, C' y ↔ C y ∨ y = x) (H : gm_L C r) (hp : ∀ r', gm_L C' r' → post r') : wpX_lesser post r (nI x) :=
  br_c (fun e => hp _ (gm_L_t hx h H (Or.inl e))) (fun e => br_c (fun l => hp _ (gm_L_f hx h H e (Int32.not_lt.mpr l))) (fun l => hp _ (gm_L_t hx h H (Or.inr (Int32.not_le.mp l)))))
/-! leastWithin -/
theorem gm_XL5 {post : Int32 → Prop} {n wn : Nat} {w : Nat → Nat} {g : Nat → Bool} (hn : n ≤ 9) (hw : gm_sy w) (h5 : ∀ c, w c ≤ 50) (hg : gm_sy g) (hwn : wn < 512) (hp : ∀ r, gm_L (gm_CW n wn g w) r → post r) : ∀ d s f r, s + d = wn → 1 ≤ s → d < f → gm_L (gm_D 1 (gm_PW n wn g w) s) r → wX_leastWithin_5 post (nI wn) (nI n) (gm_W w) (gm_A g) f r (nI s) := by
  intro d
  induction d with
  | zero =>
    intro s f r hs h1 hf H
    obtain ⟨f, rfl⟩ : ∃ k, f = k + 1 := ⟨f - 1, by omega⟩
    have e : s = wn := by omega
    rw [e] at H ⊢
    exact br_t (nI_le (Nat.le_refl wn) (by omega)) (hp r H)
  | succ d ih =>
    intro s f r hs h1 hf H
    obtain ⟨f, rfl⟩ : ∃ k, f = k + 1 := ⟨f - 1, by omega⟩
    have hb := gm_sub (s := s) (wn := wn) (by omega)
    have skip : (∀ x, ¬ gm_PW n wn g w s x) → wX_leastWithin_5 post (nI wn) (nI n) (gm_W w) (gm_A g) f r (nI (s + 1)) := fun hx => ih (s + 1) f r (by omega) (by omega) (by omega) (gm_L_c (gm_D_f hx) H)
    refine br_f (nI_ge (by omega) (by omega)) ?_
    by_cases hS : ∀ j, s.testBit j = true → wn.testBit j = true
    · refine br_t (hb.mpr hS) (gm_XAn hn hg (fun G => br_t rfl (nm_r (nI_1 s) (skip fun x hx => hx.2.1 G))) (fun G => br_f (by decide) (gm_XCn hn hw ?_)))
      exact gm_Xle (gm_V_le hn h5) (gm_D_t (y := gm_V n wn.testBit w s.testBit) h1 fun x => ⟨fun hx => hx.2.2.symm, fun e => ⟨hS, G, e.symm⟩⟩) H (fun r' H' => nm_r (nI_1 s) (ih (s + 1) f r' (by omega) (by omega) (by omega) H'))
    · exact br_f (fun z => hS (hb.mp z)) (nm_r (nI_1 s) (skip fun x hx => hS hx.1))
theorem gm_XL {post : Int32 → Prop} {n wn : Nat} {w : Nat → Nat} {g : Nat → Bool} (hn : n ≤ 9) (hw : gm_sy w) (h5 : ∀ c, w c ≤ 50) (hg : gm_sy g) (hwn : wn < 512) (hw1 : 1 ≤ wn) (hp : ∀ r, gm_L (gm_CW n wn g w) r → post r) : wpX_leastWithin post (nI n, gm_W w, gm_A g) (nI wn) :=
  ⟨wn + 1, gm_XL5 hn hw h5 hg hwn hp (wn - 1) 1 (wn + 1) (-3) (by omega) (by omega) (by omega) (gm_L_0 (gm_D_0 1 _))⟩
/-! leastSeparating -/
theorem gm_p2 (t : Nat) : nI (2 * t) + 2 = nI (2 * (t + 1)) := nI_add (2 * t) 2
theorem gm_Xsep {post : Int32 → Prop} {s u v : Nat} (hu : u < 9) (hv : v < 9) (ht : (s.testBit u != s.testBit v) = true → post 1) (hf : (s.testBit u != s.testBit v) = false → post 0) : wpX_separates post (nI s) (nI u) (nI v) := by
  have h := gm_sep (nI s) (u := u) (v := v) (by omega) (by omega)
  rw [gm_bI s u (by omega), gm_bI s v (by omega)] at h
  by_cases h2 : (s.testBit u != s.testBit v) = true
  · exact br_t (h.mpr h2) (ht h2)
  · exact br_f (fun z => h2 (h.mp z)) (hf (gm_nt h2))
theorem gm_XS12 {post : Int32 → Prop} {n wn h u v : Nat} {w : Nat → Nat} {g : Nat → Bool} (hn : n ≤ 9) (hu : u < n) (hv : v < n) (hw : gm_sy w) (h5 : ∀ c, w c ≤ 50) (hg : gm_sy g) (hwn : wn < 512) (hh : wn + 1 = 2 * h) (hp : ∀ r, gm_L (gm_D 1 (gm_PS n wn g w u v) h) r → post r) : ∀ d t f r, t + d = h → 1 ≤ t → d < f → gm_L (gm_D 1 (gm_PS n wn g w u v) t) r → wX_leastSeparating_12 post (nI u) (nI v) (nI wn) (nI n) (gm_W w) (gm_A g) f r (nI (2 * t)) := by
  intro d
  induction d with
  | zero =>
    intro t f r hs h1 hf H
    obtain ⟨f, rfl⟩ : ∃ k, f = k + 1 := ⟨f - 1, by omega⟩
    have e : t = h := by omega
    rw [e] at H
    exact br_t (nI_le (by omega) (by omega)) (hp r H)
  | succ d ih =>
    intro t f r hs h1 hf H
    obtain ⟨f, rfl⟩ : ∃ k, f = k + 1 := ⟨f - 1, by omega⟩
    have skip : (∀ x, ¬ gm_PS n wn g w u v t x) → wX_leastSeparating_12 post (nI u) (nI v) (nI wn) (nI n) (gm_W w) (gm_A g) f r (nI (2 * (t + 1))) := fun hx => ih (t + 1) f r (by omega) (by omega) (by omega) (gm_L_c (gm_D_f hx) H)
    refine br_f (nI_ge (by omega) (by omega)) (gm_Xsep (by omega) (by omega) (fun hS => br_f (by decide) ?_) (fun hS => br_t rfl (nm_r (gm_p2 t) (skip fun x hx => ?_))))
    · refine gm_XAn hn hg (fun G => br_t rfl (nm_r (gm_p2 t) (skip fun x hx => hx.2.1 G))) (fun G => br_f (by decide) (gm_XCn hn hw ?_))
      exact gm_Xle (gm_V_le hn h5) (gm_D_t (y := gm_V n wn.testBit w (2 * t).testBit) h1 fun x => ⟨fun hx => hx.2.2.symm, fun e => ⟨hS, G, e.symm⟩⟩) H (fun r' H' => nm_r (gm_p2 t) (ih (t + 1) f r' (by omega) (by omega) (by omega) H'))
    · have h9 := hx.1
      rw [hS] at h9
      cases h9
theorem gm_XS {post : Int32 → Prop} {n h u v : Nat} {w : Nat → Nat} {g : Nat → Bool} (hn : n ≤ 9) (hn2 : 2 ≤ n) (hu : u < n) (hv : v < n) (hw : gm_sy w) (h5 : ∀ c, w c ≤ 50) (hg : gm_sy g) (hh : 2 ^ n = 2 * h) (hp : ∀ r, gm_L (gm_CS n h g w u v) r → post r) : wpX_leastSeparating post (nI n, gm_W w, gm_A g) (nI u) (nI v) := by
  have h4 := gm_pw_ge n (by omega) hn2
  have h12 := gm_pw_le n (by omega)
  unfold wpX_leastSeparating wpX_allVertices
  dsimp only
  rw [gm_all n (by omega)]
  exact ⟨h + 1, gm_XS12 hn hu hv hw h5 hg (by omega) (by omega) hp (h - 1) 1 (h + 1) (-3) (by omega) (by omega) (by omega) (gm_L_0 (gm_D_0 1 _))⟩
/-! smallest -/
def gm_Q (n wn : Nat) (g : Nat → Bool) (w : Nat → Nat) (l : Int32) (t : Nat) : Prop := ¬ gm_G n wn.testBit g (2 * t).testBit ∧ nI (gm_V n wn.testBit w (2 * t).testBit) = l
theorem gm_XM13 {post : Int32 → Prop} {n wn h : Nat} {w : Nat → Nat} {g : Nat → Bool} {l : Int32} (hn : n ≤ 9) (hw : gm_sy w) (hg : gm_sy g) (hwn : wn < 512) (hh : wn + 1 = 2 * h) (hp : ∀ r, gm_F (gm_Q n wn g w l) h r → post r) : ∀ d t f, t + d = h → 1 ≤ t → d < f → (∀ s, 1 ≤ s → s < t → ¬ gm_Q n wn g w l s) → wX_smallest_13 post (nI wn) l (nI n) (gm_W w) (gm_A g) f (nI (2 * t)) := by
  intro d
  induction d with
  | zero =>
    intro t f hs h1 hf H
    obtain ⟨f, rfl⟩ : ∃ k, f = k + 1 := ⟨f - 1, by omega⟩
    exact br_t (nI_le (by omega) (by omega)) (hp _ (Or.inl ⟨rfl, fun s h2 h3 => H s h2 (by omega)⟩))
  | succ d ih =>
    intro t f hs h1 hf H
    obtain ⟨f, rfl⟩ : ∃ k, f = k + 1 := ⟨f - 1, by omega⟩
    have skip : ¬ gm_Q n wn g w l t → wX_smallest_13 post (nI wn) l (nI n) (gm_W w) (gm_A g) f (nI (2 * (t + 1))) := by
      intro hx
      refine ih (t + 1) f (by omega) (by omega) (by omega) fun s h2 h3 => ?_
      rcases Nat.lt_or_ge s t with h4 | h4
      · exact H s h2 h4
      · have e : s = t := by omega
        rw [e]
        exact hx
    refine br_f (nI_ge (by omega) (by omega)) (gm_XAn hn hg (fun G => br_t rfl (nm_r (gm_p2 t) (skip fun hx => hx.1 G))) (fun G => br_f (by decide) (gm_XCn hn hw ?_)))
    exact br_c (fun e => hp _ (Or.inr ⟨t, h1, by omega, rfl, ⟨G, e⟩, H⟩)) (fun e => nm_r (gm_p2 t) (skip fun hx => e hx.2))
