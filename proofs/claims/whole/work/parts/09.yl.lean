/-! leastOf -/
theorem gm_Y33 {post : Int32 → Prop} {J : Int32 → Int32 → Prop} {C C' : Nat → Prop} {o a2 a3 r : Int32} {m n : Nat} {w : Nat → Nat} {g : Nat → Bool} (hn : n ≤ 9) (h5 : ∀ c, w c ≤ 50) (hg : gm_sy g) (H : gm_L C r) (hs : ¬ (gm_N n (gm_o o) m.testBit ∧ ¬ gm_G n (gm_o o) g m.testBit) → J r (nI (m + 1))) (hc : gm_N n (gm_o o) m.testBit → ¬ gm_G n (gm_o o) g m.testBit → (∀ y, C' y ↔ C y ∨ y = gm_V n (gm_o o) w m.testBit)) (hj : ∀ r', gm_L C' r' → J r' (nI (m + 1))) : wY_leastOf_33 post J o a2 a3 r (nI m) (nI n) (gm_W w) (gm_A g) := by
  unfold wY_leastOf_33
  refine gm_YAn hn hg (fun h => br_t rfl (nm_r (nI_1 m) (hs h))) (fun hN hG => br_f (gm_n3 (gm_V_le hn h5)) ?_)
  have h := hc hN hG
  have hx : gm_V n (gm_o o) w m.testBit < 2 ^ 31 := gm_V_le hn h5
  exact br_c (fun e => nm_r (nI_1 m) (hj _ (gm_L_t hx h H (Or.inl e)))) (fun e => br_c (fun l => nm_r (nI_1 m) (hj _ (gm_L_f hx h H e (Int32.not_lt.mpr l)))) (fun l => nm_r (nI_1 m) (hj _ (gm_L_t hx h H (Or.inr (Int32.not_le.mp l))))))
theorem gm_YL7a {post : Int32 → Prop} {o : Int32} {n : Nat} {w : Nat → Nat} {g : Nat → Bool} (hn : n ≤ 9) (h5 : ∀ c, w c ≤ 50) (hg : gm_sy g) (hp : ∀ r, gm_L (gm_C n (gm_o o) g w (fun _ => True)) r → post r) : ∀ d m f r, m + d = 2 ^ n → d < f → gm_L (gm_D 0 (gm_PY n (gm_o o) g w (fun _ => True)) m) r → wY_leastOf_7 post o (-1) (-1) (nI n) (gm_W w) (gm_A g) f r (nI m) := by
  have h12 := gm_pw_le n (by omega)
  have ep := gm_pw n (by omega)
  intro d
  induction d with
  | zero =>
    intro m f r hm hf H
    obtain ⟨f, rfl⟩ : ∃ k, f = k + 1 := ⟨f - 1, by omega⟩
    have e : m = 2 ^ n := by omega
    rw [e] at H
    exact br_t (by rw [ep]; exact nI_le (by omega) (by omega)) (hp r H)
  | succ d ih =>
    intro m f r hm hf H
    obtain ⟨f, rfl⟩ : ∃ k, f = k + 1 := ⟨f - 1, by omega⟩
    refine br_f (by rw [ep]; exact nI_ge (by omega) (by omega)) (br_t (by decide) ?_)
    refine gm_Y33 (C' := gm_D 0 (gm_PY n (gm_o o) g w (fun _ => True)) (m + 1)) hn h5 hg H (fun h => ih (m + 1) f r (by omega) (by omega) (gm_L_c (gm_D_f fun x hx => h ⟨hx.2.1, hx.2.2.1⟩) H)) (fun hN hG => gm_D_t (Nat.zero_le _) fun x => ⟨fun hx => hx.2.2.2.symm, fun e => ⟨trivial, hN, hG, e.symm⟩⟩) (fun r' H' => ih (m + 1) f r' (by omega) (by omega) H')
theorem gm_YLa {post : Int32 → Prop} {o : Int32} {n : Nat} {w : Nat → Nat} {g : Nat → Bool} (hn : n ≤ 9) (h5 : ∀ c, w c ≤ 50) (hg : gm_sy g) (hp : ∀ r, gm_L (gm_C n (gm_o o) g w (fun _ => True)) r → post r) : wpY_leastOf post (nI n, gm_W w, gm_A g) o (-1) (-1) :=
  ⟨2 ^ n + 1, gm_YL7a hn h5 hg hp (2 ^ n) 0 (2 ^ n + 1) (-3) (by omega) (by omega) (gm_L_0 (gm_D_0 0 _))⟩
theorem gm_YL7b {post : Int32 → Prop} {o : Int32} {n u v : Nat} {w : Nat → Nat} {g : Nat → Bool} (hn : n ≤ 9) (hu : u < n) (hv : v < n) (h5 : ∀ c, w c ≤ 50) (hg : gm_sy g) (hp : ∀ r, gm_L (gm_C n (gm_o o) g w (fun b => (b u != b v) = true)) r → post r) : ∀ d m f r, m + d = 2 ^ n → d < f → gm_L (gm_D 0 (gm_PY n (gm_o o) g w (fun b => (b u != b v) = true)) m) r → wY_leastOf_7 post o (nI u) (nI v) (nI n) (gm_W w) (gm_A g) f r (nI m) := by
  have h12 := gm_pw_le n (by omega)
  have ep := gm_pw n (by omega)
  intro d
  induction d with
  | zero =>
    intro m f r hm hf H
    obtain ⟨f, rfl⟩ : ∃ k, f = k + 1 := ⟨f - 1, by omega⟩
    have e : m = 2 ^ n := by omega
    rw [e] at H
    exact br_t (by rw [ep]; exact nI_le (by omega) (by omega)) (hp r H)
  | succ d ih =>
    intro m f r hm hf H
    obtain ⟨f, rfl⟩ : ∃ k, f = k + 1 := ⟨f - 1, by omega⟩
    refine br_f (by rw [ep]; exact nI_ge (by omega) (by omega)) (br_f (nI_pos (by omega)) (gm_Ysep (by omega) (by omega) (fun hS => br_f (by decide) ?_) (fun hS => br_t rfl (nm_r (nI_1 m) ?_))))
    · rw [gm_bI m u (by omega), gm_bI m v (by omega)] at hS
      exact gm_Y33 (C' := gm_D 0 (gm_PY n (gm_o o) g w (fun b => (b u != b v) = true)) (m + 1)) hn h5 hg H (fun h => ih (m + 1) f r (by omega) (by omega) (gm_L_c (gm_D_f fun x hx => h ⟨hx.2.1, hx.2.2.1⟩) H)) (fun hN hG => gm_D_t (Nat.zero_le _) fun x => ⟨fun hx => hx.2.2.2.symm, fun e => ⟨hS, hN, hG, e.symm⟩⟩) (fun r' H' => ih (m + 1) f r' (by omega) (by omega) H')
    · rw [gm_bI m u (by omega), gm_bI m v (by omega)] at hS
      refine ih (m + 1) f r (by omega) (by omega) (gm_L_c (gm_D_f fun x hx => ?_) H)
      have h9 : (m.testBit u != m.testBit v) = true := hx.1
      rw [hS] at h9
      cases h9
theorem gm_YLb {post : Int32 → Prop} {o : Int32} {n u v : Nat} {w : Nat → Nat} {g : Nat → Bool} (hn : n ≤ 9) (hu : u < n) (hv : v < n) (h5 : ∀ c, w c ≤ 50) (hg : gm_sy g) (hp : ∀ r, gm_L (gm_C n (gm_o o) g w (fun b => (b u != b v) = true)) r → post r) : wpY_leastOf post (nI n, gm_W w, gm_A g) o (nI u) (nI v) :=
  ⟨2 ^ n + 1, gm_YL7b hn hu hv h5 hg hp (2 ^ n) 0 (2 ^ n + 1) (-3) (by omega) (by omega) (gm_L_0 (gm_D_0 0 _))⟩
theorem gm_om {n : Nat} (hn : n ≤ 9) : ∀ u, u < n → gm_o (-1) u = true := fun u hu => gm_o_t (fun e => by
  have h := nI_pos (n := u) (by omega)
  rw [e] at h
  exact h (by decide))
theorem gm_all_b {n : Nat} (hn : n ≤ 9) : ∀ u, u < n → (2 ^ n - 1).testBit u = gm_o (-1) u := fun u hu => by
  rw [Nat.testBit_two_pow_sub_one, gm_om hn u hu, decide_eq_true hu]
theorem gm_all_b' {n : Nat} (hn : n ≤ 9) : ∀ u, u < n → gm_o (-1) u = (2 ^ n - 1).testBit u := fun u hu => (gm_all_b hn u hu).symm
/-! smallest -/
theorem gm_YM7 {post : Int32 → Prop} {n h : Nat} {w : Nat → Nat} {g : Nat → Bool} {l : Int32} (hn : n ≤ 9) (hn2 : 2 ≤ n) (h5 : ∀ c, w c ≤ 50) (hg : gm_sy g) (hh : 2 ^ n = 2 * h) (hp : ∀ r, gm_F (gm_Q n (2 ^ n - 1) g w l) h r → post r) : ∀ d t f, t + d = h → 1 ≤ t → d < f → (∀ s, 1 ≤ s → s < t → ¬ gm_Q n (2 ^ n - 1) g w l s) → wY_smallest_7 post l (nI n) (gm_W w) (gm_A g) f (nI (2 * t)) := by
  have h12 := gm_pw_le n (by omega)
  have ep := gm_pw n (by omega)
  intro d
  induction d with
  | zero =>
    intro t f hs h1 hf H
    obtain ⟨f, rfl⟩ : ∃ k, f = k + 1 := ⟨f - 1, by omega⟩
    exact br_t (by rw [ep]; exact nI_le (by omega) (by omega)) (hp _ (Or.inl ⟨rfl, fun s h2 h3 => H s h2 (by omega)⟩))
  | succ d ih =>
    intro t f hs h1 hf H
    obtain ⟨f, rfl⟩ : ∃ k, f = k + 1 := ⟨f - 1, by omega⟩
    have skip : ¬ gm_Q n (2 ^ n - 1) g w l t → wY_smallest_7 post l (nI n) (gm_W w) (gm_A g) f (nI (2 * (t + 1))) := by
      intro hx
      refine ih (t + 1) f (by omega) (by omega) (by omega) fun s h2 h3 => ?_
      rcases Nat.lt_or_ge s t with h4 | h4
      · exact H s h2 h4
      · have e : s = t := by omega
        rw [e]
        exact hx
    have hN : gm_N n (gm_o (-1)) (2 * t).testBit := gm_N_even (by omega) (gm_om hn) (by omega) (by omega) (by omega)
    have eV : gm_V n (2 ^ n - 1).testBit w (2 * t).testBit = gm_V n (gm_o (-1)) w (2 * t).testBit := gm_V_c (gm_all_b hn) (fun _ _ _ => rfl)
    refine br_f (by rw [ep]; exact nI_ge (by omega) (by omega)) (gm_YAn hn hg (fun c => br_t rfl (nm_r (gm_p2 t) (skip fun hx => c ⟨hN, fun z => hx.1 (gm_G_c (gm_all_b' hn) (fun _ _ _ => rfl) z)⟩))) (fun _ G => br_f (gm_n3 (gm_V_le hn h5)) ?_))
    exact br_c (fun e => hp _ (Or.inr ⟨t, h1, by omega, rfl, ⟨fun z => G (gm_G_c (gm_all_b hn) (fun _ _ _ => rfl) z), by rw [eV]; exact e⟩, H⟩)) (fun e => nm_r (gm_p2 t) (skip fun hx => e (by rw [← eV]; exact hx.2)))
/-! value -/
def gm_1 (_ : Nat) : Bool := true
theorem gm_YV15 {post : Int32 → Prop} {J : Int32 → Int32 → Prop} {s : Int32} {n u A : Nat} {w : Nat → Nat} {ag : Nat → Int32} (hn : n ≤ 9) (hu : u < n) (hJ : J (nI (A + gm_S (gm_t gm_1 (bt s) w u) u)) (nI (u + 1))) : ∀ d j f, j + d = u → d < f → wY_value_15 post J s (nI u) (nI n) (gm_W w) ag f (nI (A + gm_S (gm_t gm_1 (bt s) w u) j)) (nI j) := by
  intro d
  induction d with
  | zero =>
    intro j f hj hf
    obtain ⟨f, rfl⟩ : ∃ k, f = k + 1 := ⟨f - 1, by omega⟩
    have e : j = u := by omega
    rw [e]
    exact br_t (nI_le (Nat.le_refl u) (by omega)) (nm_r (nI_1 u) hJ)
  | succ d ih =>
    intro j f hj hf
    obtain ⟨f, rfl⟩ : ∃ k, f = k + 1 := ⟨f - 1, by omega⟩
    have hj9 : j < 9 := by omega
    have hu9 : u < 9 := by omega
    have next := ih (j + 1) f (by omega) (by omega)
    rw [gm_S_1] at next
    refine br_f (nI_ge (by omega) (by omega)) (gm_Ysep hu9 hj9 (fun hq => br_f (by decide) ⟨gm_in hu9 hj9, nm_r ?_ (nm_r (nI_1 j) next)⟩) (fun hq => br_t rfl (nm_r (nI_1 j) ?_)))
    · have et : gm_t gm_1 (bt s) w u j = w (u * 9 + j) := if_pos (gm_b2 rfl hq)
      rw [gm_Wz hu9 hj9, nI_add, et, Nat.add_assoc]
    · have hq' : gm_q gm_1 (bt s) u j = false := gm_b3 hq
      have et : gm_t gm_1 (bt s) w u j = 0 := if_neg (by rw [hq']; decide)
      rw [et, Nat.add_zero] at next
      exact next
theorem gm_YV4 {post : Int32 → Prop} {s : Int32} {n : Nat} {w : Nat → Nat} {ag : Nat → Int32} (hn : n ≤ 9) (hp : post (nI (gm_V n gm_1 w (bt s)))) : ∀ d u f, u + d = n → d < f → wY_value_4 post s (nI n) (gm_W w) ag f (nI (gm_S (fun u => gm_S (gm_t gm_1 (bt s) w u) u) u)) (nI u) := by
  intro d
  induction d with
  | zero =>
    intro u f hu hf
    obtain ⟨f, rfl⟩ : ∃ k, f = k + 1 := ⟨f - 1, by omega⟩
    have e : u = n := by omega
    rw [e]
    exact br_t (nI_le (Nat.le_refl n) (by omega)) hp
  | succ d ih =>
    intro u f hu hf
    obtain ⟨f, rfl⟩ : ∃ k, f = k + 1 := ⟨f - 1, by omega⟩
    exact br_f (nI_ge (by omega) (by omega)) ⟨u + 1, gm_YV15 (A := gm_S (fun u => gm_S (gm_t gm_1 (bt s) w u) u) u) hn (by omega) (ih (u + 1) f (by omega) (by omega)) u 0 (u + 1) (by omega) (by omega)⟩
theorem gm_YV {post : Int32 → Prop} {s : Int32} {n : Nat} {w : Nat → Nat} {ag : Nat → Int32} (hn : n ≤ 9) (hp : post (nI (gm_V n gm_1 w (bt s)))) : wpY_value post (nI n, gm_W w, ag) s :=
  ⟨n + 1, gm_YV4 hn hp n 0 (n + 1) (by omega) (by omega)⟩
