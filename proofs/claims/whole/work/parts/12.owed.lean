/-! the relation: the same count, the same weights, the same glue, both halves alike -/
def i_Rel (_ : Nat) (u : SX) (v : SY) : Prop := ∃ (n : Nat) (w : Nat → Nat) (g : Nat → Bool), 2 ≤ n ∧ n ≤ 9 ∧ (∀ c, w c ≤ 50) ∧ gm_sy w ∧ gm_sy g ∧ u = (nI n, gm_W w, gm_A g) ∧ v = (nI n, gm_W w, gm_A g)
theorem gm_mk {k n : Nat} {w : Nat → Nat} {g : Nat → Bool} (h2 : 2 ≤ n) (h9 : n ≤ 9) (h5 : ∀ c, w c ≤ 50) (hw : gm_sy w) (hg : gm_sy g) : i_Rel k (nI n, gm_W w, gm_A g) (nI n, gm_W w, gm_A g) := ⟨n, w, g, h2, h9, h5, hw, hg, rfl, rfl⟩
theorem i_up {k : Nat} {u : SX} {v : SY} (h : i_Rel k u v) : i_Rel (k + 4) u v := h
theorem gm_new {k n : Nat} (h2 : 2 ≤ n) (h9 : n ≤ 9) : i_Rel k (nI n, (fun _ => 0), (fun _ => 0)) (nI n, (fun _ => 0), (fun _ => 0)) := by
  have e1 : (fun _ => 0 : Nat → Int32) = gm_W (fun _ => 0) := rfl
  have e2 : (fun _ => 0 : Nat → Int32) = gm_A (fun _ => false) := rfl
  refine ⟨n, fun _ => 0, fun _ => false, h2, h9, fun _ => Nat.zero_le _, fun _ _ _ _ => rfl, fun _ _ _ _ => rfl, ?_, ?_⟩
  · rw [← e1, ← e2]
  · rw [← e1, ← e2]
theorem i_vc0 (k0 : Int32) : wpX_init (fun u => wpY_init (fun v => i_Rel 1 u v) k0) k0 := by
  by_cases h2 : 2 ≤ k0
  · refine br_t h2 ?_
    by_cases h9 : k0 ≤ 9
    · have h0 : ¬ k0 < 0 := fun z => absurd (Int32.lt_of_le_of_lt h2 z) (by decide)
      obtain ⟨j, hj, e⟩ := nI_of h0
      subst e
      have h2' : 2 ≤ j := (nI_leI (a := 2) (by decide) hj).mp h2
      have h9' : j ≤ 9 := (nI_leI (b := 9) hj (by decide)).mp h9
      exact br_t h9 (br_t h2 (br_t h9 (gm_new h2' h9')))
    · exact br_f h9 (br_t h2 (br_f h9 (gm_new (n := 9) (by decide) (by decide))))
  · exact br_f h2 (br_f h2 (br_t (by decide) (gm_new (n := 2) (by decide) (by decide))))
theorem i_vc_weight {k : Nat} {u : SX} {v : SY} (I : i_Rel k u v) (hk : k + 4 ≤ 2049) (v1 : Int32) (v2 : Int32) (v3 : Int32) : wpX_weight (fun r u' => wpY_weight (fun r' v' => r' = r ∧ i_Rel (k + 4) u' v') v v1 v2 v3) u v1 v2 v3 := by
  obtain ⟨n, w, g, h2, h9, h5, hw, hg, rfl, rfl⟩ := I
  unfold wpX_weight wpY_weight
  dsimp only
  by_cases H : gm_P n v1 v2
  · obtain ⟨i, j, hi, hj, hij, rfl, rfl⟩ := H
    have hi9 : i < 9 := by omega
    have hj9 : j < 9 := by omega
    refine gm_Xpair_t h9 hi hj hij (br_f (by decide) ?_)
    by_cases c0 : v3 < 0
    · exact br_t c0 (gm_Ypair_t h9 hi hj hij (br_t rfl (br_t c0 ⟨rfl, gm_mk h2 h9 h5 hw hg⟩)))
    · refine br_f c0 ?_
      by_cases c5 : v3 ≤ 50
      · obtain ⟨z, hz, e⟩ := nI_of c0
        subst e
        have hz5 : z ≤ 50 := (nI_leI (b := 50) hz (by decide)).mp c5
        refine br_t c5 ⟨gm_in hi9 hj9, nm_r (gm_Wz hi9 hj9) (gm_Xset hi9 hj9 ?_)⟩
        exact gm_Ypair_t h9 hi hj hij (br_t rfl (br_f c0 (br_t c5 ⟨gm_in hi9 hj9, nm_r (gm_Wz hi9 hj9) ⟨gm_in hi9 hj9, nm_e ⟨gm_in hj9 hi9, nm_r (gm_putW hi9 hj9) ⟨rfl, gm_mk h2 h9 (gm_put_le h5 hz5) (gm_put_sy hw hi9 hj9) hg⟩⟩⟩⟩)))
      · exact br_f c5 (gm_Ypair_t h9 hi hj hij (br_t rfl (br_f c0 (br_f c5 ⟨rfl, gm_mk h2 h9 h5 hw hg⟩))))
  · exact gm_Xpair_f h9 H (br_t rfl (gm_Ypair_f h9 H (br_f (by decide) ⟨rfl, gm_mk h2 h9 h5 hw hg⟩)))
theorem i_vc_change {k : Nat} {u : SX} {v : SY} (I : i_Rel k u v) (hk : k + 4 ≤ 2049) (v1 : Int32) (v2 : Int32) (v3 : Int32) : wpX_change (fun r u' => wpY_change (fun r' v' => r' = r ∧ i_Rel (k + 4) u' v') v v1 v2 v3) u v1 v2 v3 := by
  obtain ⟨n, w, g, h2, h9, h5, hw, hg, rfl, rfl⟩ := I
  unfold wpX_change wpY_change
  dsimp only
  by_cases H : gm_P n v1 v2
  · obtain ⟨i, j, hi, hj, hij, rfl, rfl⟩ := H
    have hi9 : i < 9 := by omega
    have hj9 : j < 9 := by omega
    obtain ⟨z, hz, hX, hY⟩ := gm_clamp v3 (h5 (i * 9 + j))
    refine gm_Xpair_t h9 hi hj hij (br_f (by decide) ⟨gm_in hi9 hj9, nm_r (gm_Wz hi9 hj9) (hX _ (gm_Xset hi9 hj9 ?_))⟩)
    refine gm_Ypair_t h9 hi hj hij (br_t rfl ⟨gm_in hi9 hj9, nm_r (by rw [gm_Wz hi9 hj9]) (hY (fun r => wY_change_56 _ (nI i) (nI j) r (nI n) (gm_W w) (gm_A g)) (gm_Y56 hi9 hj9 ?_))⟩)
    exact ⟨rfl, gm_mk h2 h9 (gm_put_le h5 hz) (gm_put_sy hw hi9 hj9) hg⟩
  · exact gm_Xpair_f h9 H (br_t rfl (gm_Ypair_f h9 H (br_f (by decide) ⟨rfl, gm_mk h2 h9 h5 hw hg⟩)))
theorem i_vc_glue {k : Nat} {u : SX} {v : SY} (I : i_Rel k u v) (hk : k + 4 ≤ 2049) (v1 : Int32) (v2 : Int32) (v3 : Int32) : wpX_glue (fun r u' => wpY_glue (fun r' v' => r' = r ∧ i_Rel (k + 4) u' v') v v1 v2 (lw_bz v3)) u v1 v2 (lw_bz v3) := by
  obtain ⟨n, w, g, h2, h9, h5, hw, hg, rfl, rfl⟩ := I
  unfold wpX_glue wpY_glue
  dsimp only
  by_cases H : gm_P n v1 v2
  · obtain ⟨i, j, hi, hj, hij, rfl, rfl⟩ := H
    have hi9 : i < 9 := by omega
    have hj9 : j < 9 := by omega
    refine gm_Xpair_t h9 hi hj hij (br_f (by decide) ⟨gm_in hi9 hj9, ?_⟩)
    by_cases c : g (i * 9 + j) = true
    · refine br_f (gm_An hi9 hj9 c) (gm_X29 hi9 hj9 ?_)
      exact gm_Ypair_t h9 hi hj hij (br_t rfl ⟨gm_in hi9 hj9, br_f (gm_An hi9 hj9 c) (gm_Y30 hi9 hj9 ⟨rfl, gm_mk h2 h9 h5 hw (gm_put_sy hg hi9 hj9)⟩)⟩)
    · refine br_t (gm_Az hi9 hj9 (gm_nt c)) (gm_X29 hi9 hj9 ?_)
      exact gm_Ypair_t h9 hi hj hij (br_t rfl ⟨gm_in hi9 hj9, br_t (gm_Az hi9 hj9 (gm_nt c)) (gm_Y30 hi9 hj9 ⟨rfl, gm_mk h2 h9 h5 hw (gm_put_sy hg hi9 hj9)⟩)⟩)
  · exact gm_Xpair_f h9 H (br_t rfl (gm_Ypair_f h9 H (br_f (by decide) ⟨rfl, gm_mk h2 h9 h5 hw hg⟩)))
theorem gm_LA {n : Nat} {w : Nat → Nat} {g : Nat → Bool} {r r' : Int32} (h9 : n ≤ 9) (H : gm_L (gm_CW n (2 ^ n - 1) g w) r) (H' : gm_L (gm_C n (gm_o (-1)) g w (fun _ => True)) r') : r' = r := by
  have hp := Nat.two_pow_pos n
  exact gm_L_u H' (gm_L_c (fun x => (gm_CW_C (by omega) (gm_all_b h9) x).symm) H)
theorem gm_YLl {post : Int32 → Prop} {n : Nat} {w : Nat → Nat} {g : Nat → Bool} (hn : n ≤ 9) (h5 : ∀ c, w c ≤ 50) (hg : gm_sy g) (hp : ∀ r, gm_L (gm_C n (gm_o (-1)) g w (fun _ => True)) r → post r) : wpY_least post (nI n, gm_W w, gm_A g) := by
  unfold wpY_least
  dsimp only
  exact gm_YLa hn h5 hg hp
theorem i_vc_least {k : Nat} {u : SX} {v : SY} (I : i_Rel k u v) (hk : k + 4 ≤ 2049) : wpX_least (fun r => wpY_least (fun r' => r' = r ∧ i_Rel (k + 4) u v) v) u := by
  obtain ⟨n, w, g, h2, h9, h5, hw, hg, rfl, rfl⟩ := I
  have hp := gm_pw_ge n (by omega) h2
  have hq := gm_pw_le n (by omega)
  unfold wpX_least wpX_allVertices
  dsimp only
  rw [gm_all n (by omega)]
  exact gm_XL h9 hw h5 hg (by omega) (by omega) (fun r H => gm_YLl h9 h5 hg (fun r' H' => ⟨gm_LA h9 H H', gm_mk h2 h9 h5 hw hg⟩))
theorem i_vc_smallest {k : Nat} {u : SX} {v : SY} (I : i_Rel k u v) (hk : k + 4 ≤ 2049) : wpX_smallest (fun r => wpY_smallest (fun r' => r' = r ∧ i_Rel (k + 4) u v) v) u := by
  obtain ⟨n, w, g, h2, h9, h5, hw, hg, rfl, rfl⟩ := I
  have hp := gm_pw_ge n (by omega) h2
  have hq := gm_pw_le n (by omega)
  obtain ⟨h, hh⟩ : ∃ h, 2 ^ n = 2 * h := ⟨_, gm_pw_ev n (by omega) (by omega)⟩
  unfold wpX_smallest wpX_allVertices wpY_smallest
  dsimp only
  rw [gm_all n (by omega)]
  refine gm_XL h9 hw h5 hg (by omega) (by omega) (fun l H => ⟨h + 1, gm_XM13 h9 hw hg (by omega) (h := h) (by omega) (fun r F => ?_) (h - 1) 1 (h + 1) (by omega) (by omega) (by omega) (fun s h3 h4 => by omega)⟩)
  refine gm_YLl h9 h5 hg (fun l' H' => ?_)
  have e := gm_LA h9 H H'
  subst e
  exact ⟨h + 1, gm_YM7 h9 h2 h5 hg hh (fun r' F' => ⟨gm_F_u F' F, gm_mk h2 h9 h5 hw hg⟩) (h - 1) 1 (h + 1) (by omega) (by omega) (by omega) (fun s h3 h4 => by omega)⟩
theorem i_vc_between {k : Nat} {u : SX} {v : SY} (I : i_Rel k u v) (hk : k + 4 ≤ 2049) (v1 : Int32) (v2 : Int32) : wpX_between (fun r => wpY_between (fun r' => r' = r ∧ i_Rel (k + 4) u v) v v1 v2) u v1 v2 := by
  obtain ⟨n, w, g, h2, h9, h5, hw, hg, rfl, rfl⟩ := I
  obtain ⟨h, hh⟩ : ∃ h, 2 ^ n = 2 * h := ⟨_, gm_pw_ev n (by omega) (by omega)⟩
  unfold wpX_between wpY_between
  dsimp only
  by_cases H : gm_P n v1 v2
  · obtain ⟨i, j, hi, hj, hij, rfl, rfl⟩ := H
    refine gm_Xpair_t h9 hi hj hij (br_f (by decide) (gm_XS h9 h2 hi hj hw h5 hg hh (fun r H => ?_)))
    refine gm_Ypair_t h9 hi hj hij (br_t rfl (gm_YLb h9 hi hj h5 hg (fun r' H' => ⟨?_, gm_mk h2 h9 h5 hw hg⟩)))
    exact gm_L_u H' (gm_L_c (fun x => (gm_CS_C hh (by omega) hi hj (gm_om h9) x).symm) H)
  · exact gm_Xpair_f h9 H (br_t rfl (gm_Ypair_f h9 H (br_f (by decide) ⟨rfl, gm_mk h2 h9 h5 hw hg⟩)))
theorem i_vc_value {k : Nat} {u : SX} {v : SY} (I : i_Rel k u v) (hk : k + 4 ≤ 2049) (v1 : Int32) : wpX_value (fun r => wpY_value (fun r' => r' = r ∧ i_Rel (k + 4) u v) v v1) u v1 := by
  obtain ⟨n, w, g, h2, h9, h5, hw, hg, rfl, rfl⟩ := I
  unfold wpX_value wpX_allVertices
  dsimp only
  rw [gm_all n (by omega)]
  refine gm_XC h9 hw (gm_YV h9 ⟨congrArg nI (gm_V_c (fun u hu => ?_) (fun _ _ _ => rfl)), gm_mk h2 h9 h5 hw hg⟩)
  rw [gm_bI _ u (by omega), Nat.testBit_two_pow_sub_one, decide_eq_true hu]
  rfl
theorem i_vc_separated {k : Nat} {u : SX} {v : SY} (I : i_Rel k u v) (hk : k + 4 ≤ 2049) : wpX_separated (fun r => wpY_separated (fun r' => r' = r ∧ i_Rel (k + 4) u v) v) u := by
  obtain ⟨n, w, g, h2, h9, h5, hw, hg, rfl, rfl⟩ := I
  have hp := gm_pw_ge n (by omega) h2
  have hq := gm_pw_le n (by omega)
  obtain ⟨h, hh⟩ : ∃ h, 2 ^ n = 2 * h := ⟨_, gm_pw_ev n (by omega) (by omega)⟩
  unfold wpX_separated wpX_allVertices wpY_separated
  dsimp only
  rw [gm_all n (by omega)]
  refine gm_XL h9 hw h5 hg (by omega) (by omega) (fun l H => br_c (fun e => ?_) (fun e => ⟨n + 1, gm_XP24 h9 h2 hw h5 hg hh ?_ n 0 (n + 1) (by omega) (by omega)⟩))
  · refine gm_YLl h9 h5 hg (fun l' H' => ⟨n + 1, gm_YP9 h9 h5 hg ⟨?_, gm_mk h2 h9 h5 hw hg⟩ n 0 (n + 1) (by omega) (by omega)⟩)
    rw [gm_sepZ ((gm_LA h9 H H').trans e)]
    rfl
  · refine gm_YLl h9 h5 hg (fun l' H' => ⟨n + 1, gm_YP9 h9 h5 hg ⟨?_, gm_mk h2 h9 h5 hw hg⟩ n 0 (n + 1) (by omega) (by omega)⟩)
    rw [gm_LA h9 H H', gm_sepEq h9 (by omega) hh e]
theorem gm_rest_1 : ∀ n, n < 10 → 2 ≤ n → ∀ v, v < n → 1 ≤ 2 ^ n - 1 - 2 ^ v := by decide +kernel
theorem i_vc_without {k : Nat} {u : SX} {v : SY} (I : i_Rel k u v) (hk : k + 4 ≤ 2049) (v1 : Int32) : wpX_without (fun r => wpY_without (fun r' => r' = r ∧ i_Rel (k + 4) u v) v v1) u v1 := by
  obtain ⟨n, w, g, h2, h9, h5, hw, hg, rfl, rfl⟩ := I
  have hp := gm_pw_ge n (by omega) h2
  have hq := gm_pw_le n (by omega)
  unfold wpX_without wpX_allVertices wpY_without
  dsimp only
  rw [gm_all n (by omega)]
  rcases pk_ix v1 (n := n) (by omega) with h1 | h1 | ⟨j, hj, e1⟩
  · exact gm_Xv_f (Or.inl h1) (br_t rfl (br_t h1 ⟨rfl, gm_mk h2 h9 h5 hw hg⟩))
  · refine gm_Xv_f (Or.inr h1) (br_t rfl ?_)
    exact br_c (fun _ => ⟨rfl, gm_mk h2 h9 h5 hw hg⟩) (fun _ => br_f (Int32.not_lt.mpr h1) ⟨rfl, gm_mk h2 h9 h5 hw hg⟩)
  · subst e1
    have hr : 2 ^ n - 1 - 2 ^ j < 2 ^ n := Nat.lt_of_le_of_lt (Nat.sub_le _ _) (by omega)
    refine gm_Xv_t h9 hj (br_f (by decide) (nm_r (gm_rest n (by omega) j hj) ?_))
    refine gm_XL h9 hw h5 hg (Nat.lt_of_lt_of_le hr hq) (gm_rest_1 n (by omega) h2 j hj) (fun r H => ?_)
    refine br_f (nI_pos (by omega)) (br_t (nI_lt hj (by omega)) (gm_YLa h9 h5 hg (fun r' H' => ⟨?_, gm_mk h2 h9 h5 hw hg⟩)))
    refine gm_L_u H' (gm_L_c (fun x => (gm_CW_C hr (fun u hu => ?_) x).symm) H)
    rw [gm_rest_b n (by omega) j hj u hu]
    unfold gm_o
    exact decide_eq_decide.mpr (not_congr (nI_eq (by omega) (by omega)).symm)
