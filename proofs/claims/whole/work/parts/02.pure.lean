/-! sums over 0 .. k - 1, and the two ways round a triangle -/
def gm_S (f : Nat → Nat) : Nat → Nat
  | 0 => 0
  | k + 1 => gm_S f k + f k
theorem gm_S_1 (f : Nat → Nat) (k : Nat) : gm_S f (k + 1) = gm_S f k + f k := rfl
theorem gm_S_congr {f f' : Nat → Nat} {k : Nat} (h : ∀ i, i < k → f i = f' i) : gm_S f k = gm_S f' k := by
  induction k with
  | zero => rfl
  | succ k ih =>
    show gm_S f k + f k = gm_S f' k + f' k
    rw [ih (fun i hi => h i (by omega)), h k (by omega)]
theorem gm_S_add (f f' : Nat → Nat) (k : Nat) : gm_S (fun i => f i + f' i) k = gm_S f k + gm_S f' k := by
  induction k with
  | zero => rfl
  | succ k ih =>
    show gm_S (fun i => f i + f' i) k + (f k + f' k) = (gm_S f k + f k) + (gm_S f' k + f' k)
    omega
theorem gm_S_zero {f : Nat → Nat} {k : Nat} (h : ∀ i, i < k → f i = 0) : gm_S f k = 0 := by
  induction k with
  | zero => rfl
  | succ k ih =>
    show gm_S f k + f k = 0
    rw [ih (fun i hi => h i (by omega)), h k (by omega)]
theorem gm_S_le {f : Nat → Nat} {k c : Nat} (h : ∀ i, i < k → f i ≤ c) : gm_S f k ≤ k * c := by
  induction k with
  | zero => exact Nat.zero_le _
  | succ k ih =>
    have h1 := ih (fun i hi => h i (by omega))
    have h2 := h k (by omega)
    show gm_S f k + f k ≤ (k + 1) * c
    rw [Nat.succ_mul]
    omega
theorem gm_S_mono {f f' : Nat → Nat} {k : Nat} (h : ∀ i, i < k → f i ≤ f' i) : gm_S f k ≤ gm_S f' k := by
  induction k with
  | zero => exact Nat.le_refl _
  | succ k ih =>
    have h1 := ih (fun i hi => h i (by omega))
    have h2 := h k (by omega)
    show gm_S f k + f k ≤ gm_S f' k + f' k
    omega
theorem gm_S_eq {f f' : Nat → Nat} {k : Nat} (h : ∀ i, i < k → f i ≤ f' i) (e : gm_S f k = gm_S f' k) : ∀ i, i < k → f i = f' i := by
  induction k with
  | zero => intro i hi; omega
  | succ k ih =>
    have h1 := gm_S_mono (f := f) (f' := f') (k := k) (fun i hi => h i (by omega))
    have h2 := h k (by omega)
    have e' : gm_S f k + f k = gm_S f' k + f' k := e
    intro i hi
    rcases Nat.lt_or_ge i k with h3 | h3
    · exact ih (fun i hi => h i (by omega)) (by omega) i h3
    · have h4 : i = k := by omega
      subst h4
      omega
theorem gm_tri (f f' : Nat → Nat → Nat) : ∀ n, (∀ u v, u < n → v < n → f u v = f' v u) → gm_S (fun u => gm_S (fun v => if u < v then f u v else 0) n) n = gm_S (fun u => gm_S (f' u) u) n := by
  intro n
  induction n with
  | zero => intro _; rfl
  | succ k ih =>
    intro h
    have e1 : gm_S (fun u => gm_S (fun v => if u < v then f u v else 0) (k + 1)) k = gm_S (fun u => gm_S (fun v => if u < v then f u v else 0) k) k + gm_S (f' k) k := by
      rw [← gm_S_add]
      refine gm_S_congr fun u hu => ?_
      show gm_S (fun v => if u < v then f u v else 0) k + (if u < k then f u k else 0) = gm_S (fun v => if u < v then f u v else 0) k + f' k u
      rw [if_pos hu, h u k (by omega) (by omega)]
    have e2 : gm_S (fun v => if k < v then f k v else 0) (k + 1) = 0 := gm_S_zero fun v hv => if_neg (by omega)
    show gm_S (fun u => gm_S (fun v => if u < v then f u v else 0) (k + 1)) k + gm_S (fun v => if k < v then f k v else 0) (k + 1) = gm_S (fun u => gm_S (f' u) u) k + gm_S (f' k) k
    rw [e1, e2, ih (fun u v hu hv => h u v (by omega) (by omega)), Nat.add_zero]
/-! a pair that is cut, the value, the glue, a cut that has two sides -/
def gm_q (wi b : Nat → Bool) (u v : Nat) : Bool := wi u && wi v && (b u != b v)
theorem gm_q_b (a b c d : Bool) : (a && b && (c != d)) = (b && a && (d != c)) := by cases a <;> cases b <;> cases c <;> cases d <;> rfl
theorem gm_q_s (wi b : Nat → Bool) (u v : Nat) : gm_q wi b u v = gm_q wi b v u := gm_q_b _ _ _ _
theorem gm_q_c {wi wi' b b' : Nat → Bool} {u v : Nat} (h1 : wi u = wi' u) (h2 : wi v = wi' v) (h3 : wi u = true → b u = b' u) (h4 : wi v = true → b v = b' v) : gm_q wi b u v = gm_q wi' b' u v := by
  unfold gm_q
  rw [← h1, ← h2]
  cases hu : wi u with
  | false => rfl
  | true =>
    cases hv : wi v with
    | false => rfl
    | true => rw [h3 hu, h4 hv]
theorem gm_q_nb (a b c d : Bool) : (a && b && ((!c) != (!d))) = (a && b && (c != d)) := by cases a <;> cases b <;> cases c <;> cases d <;> rfl
theorem gm_q_n {wi b b' : Nat → Bool} {u v : Nat} (hu : b' u = !b u) (hv : b' v = !b v) : gm_q wi b' u v = gm_q wi b u v := by
  unfold gm_q
  rw [hu, hv]
  exact gm_q_nb _ _ _ _
theorem gm_q_self (wi b : Nat → Bool) (u : Nat) : gm_q wi b u u = false := by
  unfold gm_q
  cases wi u <;> cases b u <;> rfl
def gm_t (wi b : Nat → Bool) (w : Nat → Nat) (u v : Nat) : Nat := if gm_q wi b u v = true then w (u * 9 + v) else 0
def gm_V (n : Nat) (wi : Nat → Bool) (w : Nat → Nat) (b : Nat → Bool) : Nat := gm_S (fun u => gm_S (gm_t wi b w u) u) n
def gm_R (wi b : Nat → Bool) (w : Nat → Nat) (u v : Nat) : Nat := if u < v then gm_t wi b w u v else 0
def gm_U (n : Nat) (wi : Nat → Bool) (w : Nat → Nat) (b : Nat → Bool) : Nat := gm_S (fun u => gm_S (gm_R wi b w u) n) n
def gm_sy {α : Type} (w : Nat → α) : Prop := ∀ u v, u < 9 → v < 9 → w (u * 9 + v) = w (v * 9 + u)
theorem gm_UV {n : Nat} {wi b : Nat → Bool} {w : Nat → Nat} (hn : n ≤ 9) (hw : gm_sy w) : gm_U n wi w b = gm_V n wi w b := by
  refine gm_tri (gm_t wi b w) (gm_t wi b w) n fun u v hu hv => ?_
  unfold gm_t
  rw [gm_q_s wi b u v, hw u v (by omega) (by omega)]
theorem gm_V_c {n : Nat} {wi wi' : Nat → Bool} {w : Nat → Nat} {b b' : Nat → Bool} (h : ∀ u, u < n → wi u = wi' u) (hb : ∀ u, u < n → wi u = true → b u = b' u) : gm_V n wi w b = gm_V n wi' w b' := by
  unfold gm_V
  refine gm_S_congr fun u hu => gm_S_congr fun v hv => ?_
  have hv' : v < n := by omega
  unfold gm_t
  rw [gm_q_c (h u hu) (h v hv') (hb u hu) (hb v hv')]
theorem gm_V_n {n : Nat} {wi : Nat → Bool} {w : Nat → Nat} {b b' : Nat → Bool} (hb : ∀ u, u < n → b' u = !b u) : gm_V n wi w b' = gm_V n wi w b := by
  unfold gm_V
  refine gm_S_congr fun u hu => gm_S_congr fun v hv => ?_
  have hv' : v < n := by omega
  unfold gm_t
  rw [gm_q_n (hb u hu) (hb v hv')]
theorem gm_V_le {n : Nat} {wi b : Nat → Bool} {w : Nat → Nat} (hn : n ≤ 9) (hw : ∀ c, w c ≤ 50) : gm_V n wi w b < 2 ^ 31 := by
  have h : gm_V n wi w b ≤ n * 450 := by
    refine gm_S_le fun u hu => ?_
    have h1 : gm_S (gm_t wi b w u) u ≤ u * 50 := by
      refine gm_S_le fun v hv => ?_
      unfold gm_t
      split
      · exact hw _
      · exact Nat.zero_le _
    show gm_S (gm_t wi b w u) u ≤ 450
    omega
  omega
def gm_G (n : Nat) (wi : Nat → Bool) (g : Nat → Bool) (b : Nat → Bool) : Prop := ∃ u v, u < n ∧ v < n ∧ gm_q wi b u v = true ∧ g (u * 9 + v) = true
theorem gm_G_c {n : Nat} {wi wi' g b b' : Nat → Bool} (h : ∀ u, u < n → wi u = wi' u) (hb : ∀ u, u < n → wi u = true → b u = b' u) (H : gm_G n wi g b) : gm_G n wi' g b' := by
  obtain ⟨u, v, hu, hv, hq, hg⟩ := H
  refine ⟨u, v, hu, hv, ?_, hg⟩
  rw [← gm_q_c (h u hu) (h v hv) (hb u hu) (hb v hv)]
  exact hq
theorem gm_G_n {n : Nat} {wi g b b' : Nat → Bool} (hb : ∀ u, u < n → b' u = !b u) (H : gm_G n wi g b') : gm_G n wi g b := by
  obtain ⟨u, v, hu, hv, hq, hg⟩ := H
  refine ⟨u, v, hu, hv, ?_, hg⟩
  rw [← gm_q_n (hb u hu) (hb v hv)]
  exact hq
theorem gm_G_up {n : Nat} {wi g b : Nat → Bool} (hn : n ≤ 9) (hg : gm_sy g) (H : gm_G n wi g b) : ∃ u v, u < v ∧ v < n ∧ gm_q wi b u v = true ∧ g (u * 9 + v) = true := by
  obtain ⟨u, v, hu, hv, hq, hg'⟩ := H
  rcases Nat.lt_trichotomy u v with h | h | h
  · exact ⟨u, v, h, hv, hq, hg'⟩
  · subst h
    rw [gm_q_self] at hq
    cases hq
  · refine ⟨v, u, h, hu, ?_, ?_⟩
    · rw [gm_q_s]; exact hq
    · rw [hg v u (by omega) (by omega)]; exact hg'
theorem gm_G_lo {n : Nat} {wi g b : Nat → Bool} (hn : n ≤ 9) (hg : gm_sy g) (H : gm_G n wi g b) : ∃ u v, v < u ∧ u < n ∧ gm_q wi b u v = true ∧ g (u * 9 + v) = true := by
  obtain ⟨u, v, h, hv, hq, hg'⟩ := gm_G_up hn hg H
  refine ⟨v, u, h, hv, ?_, ?_⟩
  · rw [gm_q_s]; exact hq
  · rw [hg v u (by omega) (by omega)]; exact hg'
def gm_N (n : Nat) (wi b : Nat → Bool) : Prop := (∃ u, u < n ∧ wi u = true ∧ b u = true) ∧ (∃ u, u < n ∧ wi u = true ∧ b u = false)
theorem gm_N_c {n : Nat} {wi wi' b b' : Nat → Bool} (h : ∀ u, u < n → wi u = wi' u) (hb : ∀ u, u < n → wi u = true → b u = b' u) (H : gm_N n wi b) : gm_N n wi' b' := by
  obtain ⟨⟨j, hj, hw, hm⟩, ⟨i, hi, hx, hz⟩⟩ := H
  exact ⟨⟨j, hj, (h j hj).symm.trans hw, (hb j hj hw).symm.trans hm⟩, ⟨i, hi, (h i hi).symm.trans hx, (hb i hi hx).symm.trans hz⟩⟩
theorem gm_N_n {n : Nat} {wi b b' : Nat → Bool} (hb : ∀ u, u < n → b' u = !b u) (H : gm_N n wi b) : gm_N n wi b' := by
  obtain ⟨⟨j, hj, hw, hm⟩, ⟨i, hi, hx, hz⟩⟩ := H
  exact ⟨⟨i, hi, hx, by rw [hb i hi, hz]; rfl⟩, ⟨j, hj, hw, by rw [hb j hj, hm]; rfl⟩⟩
/-! the least of a set of values, or -3 -/
theorem gm_n3 {x : Nat} (h : x < 2 ^ 31) : ¬ nI x = -3 := by
  intro e
  have h1 := nI_pos h
  rw [e] at h1
  exact h1 (by decide)
def gm_L (C : Nat → Prop) (r : Int32) : Prop := (r = -3 ∧ ∀ x, ¬ C x) ∨ (∃ x, x < 2 ^ 31 ∧ r = nI x ∧ C x ∧ ∀ y, C y → x ≤ y)
theorem gm_L_0 {C : Nat → Prop} (h : ∀ x, ¬ C x) : gm_L C (-3) := Or.inl ⟨rfl, h⟩
theorem gm_L_c {C C' : Nat → Prop} {r : Int32} (h : ∀ x, C' x ↔ C x) (H : gm_L C r) : gm_L C' r := by
  have e : C' = C := funext fun x => propext (h x)
  rw [e]
  exact H
theorem gm_L_t {C C' : Nat → Prop} {r : Int32} {x : Nat} (hx : x < 2 ^ 31) (h : ∀ y, C' y ↔ C y ∨ y = x) (H : gm_L C r) (hc : r = -3 ∨ nI x < r) : gm_L C' (nI x) := by
  refine Or.inr ⟨x, hx, rfl, (h x).mpr (Or.inr rfl), fun y hy => ?_⟩
  rcases (h y).mp hy with hy | hy
  · rcases H with ⟨e, hn⟩ | ⟨z, hz, e, hC, hm⟩
    · exact absurd hy (hn y)
    · have h1 := hm y hy
      rcases hc with hc | hc
      · exact absurd (e.symm.trans hc) (gm_n3 hz)
      · rw [e, nI_ltI hx hz] at hc
        omega
  · omega
theorem gm_L_f {C C' : Nat → Prop} {r : Int32} {x : Nat} (hx : x < 2 ^ 31) (h : ∀ y, C' y ↔ C y ∨ y = x) (H : gm_L C r) (hc : ¬ r = -3) (hl : ¬ nI x < r) : gm_L C' r := by
  rcases H with ⟨e, hn⟩ | ⟨z, hz, e, hC, hm⟩
  · exact absurd e hc
  · rw [e, nI_ltI hx hz] at hl
    refine Or.inr ⟨z, hz, e, (h z).mpr (Or.inl hC), fun y hy => ?_⟩
    rcases (h y).mp hy with hy | hy
    · exact hm y hy
    · omega
theorem gm_L_u {C : Nat → Prop} {r r' : Int32} (H : gm_L C r) (H' : gm_L C r') : r = r' := by
  rcases H with ⟨e, hn⟩ | ⟨z, hz, e, hC, hm⟩
  · rcases H' with ⟨e', hn'⟩ | ⟨z', hz', e', hC', hm'⟩
    · rw [e, e']
    · exact absurd hC' (hn z')
  · rcases H' with ⟨e', hn'⟩ | ⟨z', hz', e', hC', hm'⟩
    · exact absurd hC (hn' z)
    · have h : z = z' := Nat.le_antisymm (hm z' hC') (hm' z hC)
      rw [e, e', h]
noncomputable def gm_e (C : Nat → Prop) : Int32 := Classical.epsilon (gm_L C)
theorem gm_e_q {C : Nat → Prop} {r : Int32} (H : gm_L C r) : gm_e C = r := gm_L_u (Classical.epsilon_spec ⟨r, H⟩) H
theorem gm_e_c {C C' : Nat → Prop} (h : ∀ x, C x ↔ C' x) : gm_e C = gm_e C' := congrArg gm_e (funext fun x => propext (h x))
