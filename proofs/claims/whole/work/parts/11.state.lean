/-! the writes -/
def gm_put {α : Type} (w : Nat → α) (i j : Nat) (z : α) : Nat → α := fun c => if c = j * 9 + i then z else if c = i * 9 + j then z else w c
theorem gm_put_sy {α : Type} {w : Nat → α} {i j : Nat} {z : α} (hw : gm_sy w) (hi : i < 9) (hj : j < 9) : gm_sy (gm_put w i j z) := by
  intro u v hu hv
  have k1 : (u * 9 + v = j * 9 + i) ↔ (v * 9 + u = i * 9 + j) := by omega
  have k2 : (u * 9 + v = i * 9 + j) ↔ (v * 9 + u = j * 9 + i) := by omega
  unfold gm_put
  by_cases a1 : u * 9 + v = j * 9 + i
  · rw [if_pos a1]
    by_cases b1 : v * 9 + u = j * 9 + i
    · rw [if_pos b1]
    · rw [if_neg b1, if_pos (k1.mp a1)]
  · rw [if_neg a1]
    by_cases a2 : u * 9 + v = i * 9 + j
    · rw [if_pos a2, if_pos (k2.mp a2)]
    · rw [if_neg a2, if_neg (fun z => a2 (k2.mpr z)), if_neg (fun z => a1 (k1.mpr z))]
      exact hw u v hu hv
theorem gm_put_le {w : Nat → Nat} {i j z : Nat} (hw : ∀ c, w c ≤ 50) (hz : z ≤ 50) : ∀ c, gm_put w i j z c ≤ 50 := by
  intro c
  unfold gm_put
  split
  · exact hz
  · split
    · exact hz
    · exact hw c
theorem gm_putW {w : Nat → Nat} {i j z : Nat} (hi : i < 9) (hj : j < 9) : upd (upd (gm_W w) (nI i * 9 + nI j).toNatClampNeg (nI z)) (nI j * 9 + nI i).toNatClampNeg (nI z) = gm_W (gm_put w i j z) := by
  rw [gm_ix hi hj, gm_ix hj hi]
  funext c
  unfold upd gm_W gm_put
  by_cases a : c = j * 9 + i
  · rw [if_pos a, if_pos a]
  · rw [if_neg a, if_neg a]
    by_cases b : c = i * 9 + j
    · rw [if_pos b, if_pos b]
    · rw [if_neg b, if_neg b]
def gm_on (x : Int32) : Bool := decide (¬ x = 0)
theorem gm_nar (x : Int32) : vp_nar .boolean (lw_bz x) = if gm_on x = true then 1 else 0 := by
  show lw_bz x &&& 1 = _
  unfold lw_bz gm_on
  by_cases h : x = 0
  · rw [if_pos h, if_neg (by rw [decide_eq_false (fun z => z h)]; decide)]
    decide
  · rw [if_neg h, if_pos (decide_eq_true h)]
    decide
theorem gm_putA {g : Nat → Bool} {i j : Nat} {x : Int32} (hi : i < 9) (hj : j < 9) : upd (upd (gm_A g) (nI i * 9 + nI j).toNatClampNeg (vp_nar .boolean (lw_bz x))) (nI j * 9 + nI i).toNatClampNeg (vp_nar .boolean (lw_bz x)) = gm_A (gm_put g i j (gm_on x)) := by
  rw [gm_ix hi hj, gm_ix hj hi, gm_nar]
  funext c
  unfold upd gm_A gm_put
  by_cases a : c = j * 9 + i
  · rw [if_pos a, if_pos a]
  · rw [if_neg a, if_neg a]
    by_cases b : c = i * 9 + j
    · rw [if_pos b, if_pos b]
    · rw [if_neg b, if_neg b]
theorem gm_Xset {post : SX → Prop} {n i j z : Nat} {w : Nat → Nat} {ag : Nat → Int32} (hi : i < 9) (hj : j < 9) (hp : post (nI n, gm_W (gm_put w i j z), ag)) : wpX_setWeight post (nI n, gm_W w, ag) (nI i) (nI j) (nI z) := by
  refine ⟨gm_in hi hj, nm_e ⟨gm_in hj hi, nm_r (gm_putW hi hj) hp⟩⟩
theorem gm_clamp {w : Nat} (m : Int32) (hw : w ≤ 50) : ∃ z : Nat, z ≤ 50 ∧ (∀ post : Int32 → Prop, post (nI z) → wpX_clampedSum post (nI w) m) ∧ (∀ (Q : Int32 → Prop), Q (nI z) → (0 ≤ (nI w).toInt64 + m.toInt64 → (((nI w).toInt64 + m.toInt64 ≤ 50 → Q ((nI w).toInt64 + m.toInt64).toInt32) ∧ (¬ (nI w).toInt64 + m.toInt64 ≤ 50 → Q 50))) ∧ (¬ 0 ≤ (nI w).toInt64 + m.toInt64 → Q 0)) := by
  have e0 : (0 : Int64) ≤ (nI w).toInt64 + m.toInt64 ↔ -(w : Int) ≤ m.toInt := by
    rw [Int64.le_iff_toInt_le, gm_clS m hw, show (0 : Int64).toInt = 0 from by decide]
    omega
  have e5 : (nI w).toInt64 + m.toInt64 ≤ 50 ↔ m.toInt ≤ 50 - (w : Int) := by
    rw [Int64.le_iff_toInt_le, gm_clS m hw, show (50 : Int64).toInt = 50 from by decide]
    omega
  by_cases h1 : m.toInt ≤ 50 - (w : Int)
  · by_cases h2 : -(w : Int) ≤ m.toInt
    · obtain ⟨z, hz, ez, ey⟩ := gm_clZ hw h1 h2
      refine ⟨z, hz, fun post hp => br_t ((gm_cl1 hw).mpr h1) (br_t ((gm_cl2 hw).mpr h2) ?_), fun Q hq => br_t (e0.mpr h2) (br_t (e5.mpr h1) ?_)⟩
      · rw [ez]; exact hp
      · rw [ey]; exact hq
    · exact ⟨0, by omega, fun post hp => br_t ((gm_cl1 hw).mpr h1) (br_f (fun z => h2 ((gm_cl2 hw).mp z)) hp), fun Q hq => br_f (fun z => h2 (e0.mp z)) hq⟩
  · have h2 : -(w : Int) ≤ m.toInt := by omega
    exact ⟨50, by omega, fun post hp => br_f (fun z => h1 ((gm_cl1 hw).mp z)) hp, fun Q hq => br_t (e0.mpr h2) (br_f (fun z => h1 (e5.mp z)) hq)⟩
theorem gm_Y56 {post : Int32 → SY → Prop} {n i j z : Nat} {w : Nat → Nat} {ag : Nat → Int32} (hi : i < 9) (hj : j < 9) (hp : post (nI z) (nI n, gm_W (gm_put w i j z), ag)) : wY_change_56 post (nI i) (nI j) (nI z) (nI n) (gm_W w) ag :=
  ⟨gm_in hi hj, nm_e ⟨gm_in hj hi, nm_r (gm_putW hi hj) hp⟩⟩
theorem gm_X29 {post : Int32 → SX → Prop} {n i j : Nat} {aw : Nat → Int32} {g : Nat → Bool} {x z0 : Int32} (hi : i < 9) (hj : j < 9) (hp : post z0 (nI n, aw, gm_A (gm_put g i j (gm_on x)))) : wX_glue_29 post (nI i) (nI j) (lw_bz x) z0 (nI n) aw (gm_A g) :=
  ⟨gm_in hi hj, nm_e ⟨gm_in hj hi, nm_r (gm_putA hi hj) hp⟩⟩
theorem gm_Y30 {post : Int32 → SY → Prop} {n i j : Nat} {aw : Nat → Int32} {g : Nat → Bool} {x z0 : Int32} (hi : i < 9) (hj : j < 9) (hp : post z0 (nI n, aw, gm_A (gm_put g i j (gm_on x)))) : wY_glue_30 post (nI i) (nI j) (lw_bz x) z0 (nI n) aw (gm_A g) :=
  ⟨gm_in hi hj, nm_e ⟨gm_in hj hi, nm_r (gm_putA hi hj) hp⟩⟩
