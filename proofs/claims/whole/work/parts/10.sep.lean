/-! separated -/
noncomputable def gm_dX (n h : Nat) (g : Nat → Bool) (w : Nat → Nat) (l : Int32) (u v : Nat) : Nat := if gm_e (gm_CS n h g w u v) = l then 1 else 0
noncomputable def gm_rX (n h : Nat) (g : Nat → Bool) (w : Nat → Nat) (l : Int32) (u v : Nat) : Nat := if u < v then gm_dX n h g w l u v else 0
noncomputable def gm_dY (n : Nat) (g : Nat → Bool) (w : Nat → Nat) (l : Int32) (u v : Nat) : Nat := if ¬ l = -3 ∧ gm_e (gm_C n (gm_o (-1)) g w (fun b => (b u != b v) = true)) = l then 1 else 0
theorem gm_XP39 {post : Int32 → Prop} {J : Int32 → Int32 → Prop} {l : Int32} {n h u A : Nat} {w : Nat → Nat} {g : Nat → Bool} (hn : n ≤ 9) (hn2 : 2 ≤ n) (hw : gm_sy w) (h5 : ∀ c, w c ≤ 50) (hg : gm_sy g) (hh : 2 ^ n = 2 * h) (hu : u < n) (hJ : J (nI (A + gm_S (gm_rX n h g w l u) n)) (nI (u + 1))) : ∀ d j f, j + d = n → u < j → d < f → wX_separated_39 post J l (nI u) (nI n) (gm_W w) (gm_A g) f (nI (A + gm_S (gm_rX n h g w l u) j)) (nI j) := by
  intro d
  induction d with
  | zero =>
    intro j f hj huj hf
    obtain ⟨f, rfl⟩ : ∃ k, f = k + 1 := ⟨f - 1, by omega⟩
    have e : j = n := by omega
    rw [e]
    exact br_t (nI_le (Nat.le_refl n) (by omega)) (nm_r (nI_1 u) hJ)
  | succ d ih =>
    intro j f hj huj hf
    obtain ⟨f, rfl⟩ : ∃ k, f = k + 1 := ⟨f - 1, by omega⟩
    have next := ih (j + 1) f (by omega) (by omega) (by omega)
    have eR : gm_rX n h g w l u j = gm_dX n h g w l u j := if_pos huj
    rw [gm_S_1, eR, ← Nat.add_assoc] at next
    refine br_f (nI_ge (by omega) (by omega)) (gm_XS hn hn2 hu (by omega) hw h5 hg hh (fun r H => br_c (fun e => nm_r (nI_1 _) (nm_r (nI_1 j) ?_)) (fun e => nm_r (nI_1 j) ?_)))
    · have ed : gm_dX n h g w l u j = 1 := if_pos ((gm_e_q H).trans e)
      rw [ed] at next
      exact next
    · have ed : gm_dX n h g w l u j = 0 := if_neg (fun z => e ((gm_e_q H).symm.trans z))
      rw [ed] at next
      exact next
theorem gm_XP24 {post : Int32 → Prop} {l : Int32} {n h : Nat} {w : Nat → Nat} {g : Nat → Bool} (hn : n ≤ 9) (hn2 : 2 ≤ n) (hw : gm_sy w) (h5 : ∀ c, w c ≤ 50) (hg : gm_sy g) (hh : 2 ^ n = 2 * h) (hp : post (nI (gm_S (fun u => gm_S (gm_rX n h g w l u) n) n))) : ∀ d u f, u + d = n → d < f → wX_separated_24 post l (nI n) (gm_W w) (gm_A g) f (nI (gm_S (fun u => gm_S (gm_rX n h g w l u) n) u)) (nI u) := by
  intro d
  induction d with
  | zero =>
    intro u f hu hf
    obtain ⟨f, rfl⟩ : ∃ k, f = k + 1 := ⟨f - 1, by omega⟩
    have e : u = n := by omega
    rw [e]
    exact br_t (nI_le (Nat.le_refl n) (by omega)) hp
  | succ d ih =>
    intro u f hu hf
    obtain ⟨f, rfl⟩ : ∃ k, f = k + 1 := ⟨f - 1, by omega⟩
    refine br_f (nI_ge (by omega) (by omega)) (nm_r (nI_1 u) ⟨d + 1, ?_⟩)
    have h9 := gm_XP39 (post := post) (J := wX_separated_24 post l (nI n) (gm_W w) (gm_A g) f) (l := l) (A := gm_S (fun u => gm_S (gm_rX n h g w l u) n) u) hn hn2 hw h5 hg hh (u := u) (by omega) (ih (u + 1) f (by omega) (by omega)) d (u + 1) (d + 1) (by omega) (by omega) (by omega)
    have e0 : gm_S (gm_rX n h g w l u) (u + 1) = 0 := gm_S_zero fun v hv => if_neg (by omega)
    rw [e0, Nat.add_zero] at h9
    exact h9
theorem gm_YP20 {post : Int32 → Prop} {J : Int32 → Int32 → Prop} {l : Int32} {n u A : Nat} {w : Nat → Nat} {g : Nat → Bool} (hn : n ≤ 9) (h5 : ∀ c, w c ≤ 50) (hg : gm_sy g) (hu : u < n) (hJ : J (nI (A + gm_S (gm_dY n g w l u) u)) (nI (u + 1))) : ∀ d j f, j + d = u → d < f → wY_separated_20 post J l (nI u) (nI n) (gm_W w) (gm_A g) f (nI (A + gm_S (gm_dY n g w l u) j)) (nI j) := by
  intro d
  induction d with
  | zero =>
    intro j f hj hf
    obtain ⟨f, rfl⟩ : ∃ k, f = k + 1 := ⟨f - 1, by omega⟩
    have e : j = u := by omega
    rw [e]
    exact br_t (nI_le (Nat.le_refl u) (by omega)) (nm_r (nI_1 u) hJ)
  | succ d ih =>
    intro j f hj hf
    obtain ⟨f, rfl⟩ : ∃ k, f = k + 1 := ⟨f - 1, by omega⟩
    have next := ih (j + 1) f (by omega) (by omega)
    rw [gm_S_1, ← Nat.add_assoc] at next
    refine br_f (nI_ge (by omega) (by omega)) (br_c (fun e => nm_r (nI_1 j) ?_) (fun hl => gm_YLb hn hu (by omega) h5 hg (fun r H => br_c (fun e => nm_r (nI_1 _) (nm_r (nI_1 j) ?_)) (fun e => nm_r (nI_1 j) ?_))))
    · have ed : gm_dY n g w l u j = 0 := if_neg (fun z => z.1 e)
      rw [ed] at next
      exact next
    · have ed : gm_dY n g w l u j = 1 := if_pos ⟨hl, (gm_e_q H).trans e⟩
      rw [ed] at next
      exact next
    · have ed : gm_dY n g w l u j = 0 := if_neg (fun z => e ((gm_e_q H).symm.trans z.2))
      rw [ed] at next
      exact next
theorem gm_YP9 {post : Int32 → Prop} {l : Int32} {n : Nat} {w : Nat → Nat} {g : Nat → Bool} (hn : n ≤ 9) (h5 : ∀ c, w c ≤ 50) (hg : gm_sy g) (hp : post (nI (gm_S (fun u => gm_S (gm_dY n g w l u) u) n))) : ∀ d u f, u + d = n → d < f → wY_separated_9 post l (nI n) (gm_W w) (gm_A g) f (nI (gm_S (fun u => gm_S (gm_dY n g w l u) u) u)) (nI u) := by
  intro d
  induction d with
  | zero =>
    intro u f hu hf
    obtain ⟨f, rfl⟩ : ∃ k, f = k + 1 := ⟨f - 1, by omega⟩
    have e : u = n := by omega
    rw [e]
    exact br_t (nI_le (Nat.le_refl n) (by omega)) hp
  | succ d ih =>
    intro u f hu hf
    obtain ⟨f, rfl⟩ : ∃ k, f = k + 1 := ⟨f - 1, by omega⟩
    exact br_f (nI_ge (by omega) (by omega)) ⟨u + 1, gm_YP20 (A := gm_S (fun u => gm_S (gm_dY n g w l u) u) u) hn h5 hg (by omega) (ih (u + 1) f (by omega) (by omega)) u 0 (u + 1) (by omega) (by omega)⟩
theorem gm_sepEq {n h : Nat} {g : Nat → Bool} {w : Nat → Nat} {l : Int32} (hn : n ≤ 9) (hn1 : 1 ≤ n) (hh : 2 ^ n = 2 * h) (hl : ¬ l = -3) : gm_S (fun u => gm_S (gm_rX n h g w l u) n) n = gm_S (fun u => gm_S (gm_dY n g w l u) u) n := by
  refine gm_tri (gm_dX n h g w l) (gm_dY n g w l) n fun u v hu hv => ?_
  have e : gm_e (gm_CS n h g w u v) = gm_e (gm_C n (gm_o (-1)) g w (fun b => (b v != b u) = true)) := gm_e_c fun x => (gm_CS_C hh hn1 hu hv (gm_om hn) x).trans (gm_C_s x)
  unfold gm_dX gm_dY
  rw [e]
  by_cases c : gm_e (gm_C n (gm_o (-1)) g w (fun b => (b v != b u) = true)) = l
  · rw [if_pos c, if_pos ⟨hl, c⟩]
  · rw [if_neg c, if_neg (fun z => c z.2)]
theorem gm_sepZ {n : Nat} {g : Nat → Bool} {w : Nat → Nat} {l : Int32} (hl : l = -3) : gm_S (fun u => gm_S (gm_dY n g w l u) u) n = 0 :=
  gm_S_zero fun u _ => gm_S_zero fun v _ => if_neg (fun z => z.1 hl)
