/-! ===== rows ===== -/
/-- a call of both sides answers alike and keeps what they have in common -/
def Both (σ : Mem) (c : Mem → Option (Int32 × Mem)) (r : Mem → Option (Int32 × Mem)) : Prop := ∃ y σ1 σ2, c σ = some (y, σ1) ∧ r σ1 = some (y, σ2) ∧ Inv σ2
theorem Both.same {σ : Mem} {c r : Mem → Option (Int32 × Mem)} (h : Inv σ) (y : Int32) (hc : c σ = some (y, σ)) (hr : r σ = some (y, σ)) : Both σ c r := ⟨y, σ, σ, hc, hr, h⟩
theorem in_no {σ : Mem} {x a b : Int32} (h : x < a ∨ b < x) : f_X8_in σ x a b = some 0 := by
  rw [r_in]
  by_cases h1 : x < a
  · simp [h1, b2i]
  · by_cases h2 : b < x
    · simp [h2, b2i]
    · exact absurd h (by simp [h1, h2])
theorem in_yes {σ : Mem} {x a b : Int32} (h1 : ¬ x < a) (h2 : ¬ b < x) : f_X8_in σ x a b = some 1 := by
  rw [r_in]
  simp [h1, h2, b2i]
theorem lt_le (x : Int32) {k : Nat} (hk : k < 2 ^ 30) : nI k < x ↔ nI (k + 1) ≤ x := by
  rw [i32_lt, i32_le, nI_toInt (by omega), nI_toInt (by omega)]
  omega
theorem nrow (σ τ : Mem) (x : Int32) : (f_X2_isNumber σ x = some 0 ∧ f_X8_isRow τ x = some 0) ∨ ∃ r, r < 8 ∧ x = nI r ∧ f_X2_isNumber σ x = some 1 ∧ f_X8_isRow τ x = some 1 := by
  unfold f_X2_isNumber f_X8_isRow
  rcases ix_cases x (n := 8) (by decide) with h | ⟨h0, h⟩ | ⟨r, hr, rfl⟩
  · left
    rw [in_no (Or.inl h)]
    exact ⟨by rw [if_pos h], rfl⟩
  · left
    rw [in_no (b := 7) (Or.inr ((lt_le x (k := 7) (by decide)).mpr h))]
    exact ⟨by rw [if_neg h0, if_pos (show (8 : Int32) ≤ x from h)], rfl⟩
  · right
    have h0 : ¬ nI r < 0 := nI_nn (by omega)
    have h1 : ¬ nI 8 ≤ nI r := fun q => by have := (nI_le_lit (by omega) (by omega)).mp q; omega
    rw [in_yes (b := 7) h0 (fun q => h1 ((lt_le (nI r) (k := 7) (by decide)).mp q))]
    exact ⟨r, hr, rfl, by rw [if_neg h0, if_neg (show ¬ (8 : Int32) ≤ nI r from h1)], rfl⟩
/-- Arrays.fill -/
def fillm (σ : Mem) (a k : Nat) (v : Int32) : Mem := fun c j => if c = a ∧ j < k then v else σ c j
theorem fillm_ne {σ : Mem} {a k : Nat} {v : Int32} {c : Nat} (h : c ≠ a) : fillm σ a k v c = σ c := by
  funext j; unfold fillm; rw [if_neg (fun q => h q.1)]
theorem c_fill_l {σ : Mem} {a n : Nat} {v : Int32} (ha : isIA a = true) (hl : alen a < 2 ^ 20) : ∀ (k i f : Nat), i + k = alen a → k < f → f_J7_fill_53178_l5 n f a v (nI i) (nI (alen a)) (fillm σ a i v) = some (fillm σ a (alen a) v) := by
  intro k
  induction k with
  | zero =>
    intro i f hi hf
    obtain ⟨f, rfl⟩ : ∃ f', f = f' + 1 := ⟨f - 1, by omega⟩
    show f_J7_fill_53178_b5 n _ a v (nI i) _ _ = _
    unfold f_J7_fill_53178_b5
    rw [if_pos ((nI_le_lit (by omega) (by omega)).mpr (by omega)), show i = alen a by omega]
  | succ k ih =>
    intro i f hi hf
    obtain ⟨f, rfl⟩ : ∃ f', f = f' + 1 := ⟨f - 1, by omega⟩
    show f_J7_fill_53178_b5 n (f_J7_fill_53178_l5 n f) a v (nI i) _ _ = _
    unfold f_J7_fill_53178_b5
    have e : mset (fillm σ a i v) a i v = fillm σ a (i + 1) v := by
      funext c j
      unfold fillm
      rw [ms_if]
      by_cases h1 : c = a ∧ j = i
      · rw [if_pos h1, if_pos ⟨h1.1, by omega⟩]
      · rw [if_neg h1]
        by_cases h2 : c = a ∧ j < i
        · rw [if_pos h2, if_pos ⟨h2.1, by omega⟩]
        · rw [if_neg h2, if_neg (fun q => by
            rcases Nat.lt_or_ge j i with w | w
            · exact h2 ⟨q.1, w⟩
            · exact h1 ⟨q.1, by omega⟩)]
    rw [if_neg (fun q => by have := (nI_le_lit (by omega) (by omega)).mp q; omega), if_pos ha, if_pos (inB_nI (by omega) (by omega)), tn_nI (by omega), Option.bind_some, e, nI_1]
    exact ih (i + 1) f (by omega) (by omega)
theorem c_fill {σ : Mem} {a n : Nat} {v : Int32} (ha : isIA a = true) (hl : alen a < 2 ^ 10) (hn : 2000 ≤ n) : f_J7_fill_53178 n a v σ = some (fillm σ a (alen a) v) := by
  unfold f_J7_fill_53178
  rw [if_pos ha, Option.bind_some]
  have h0 : fillm σ a 0 v = σ := by funext c j; unfold fillm; rw [if_neg (by omega)]
  have := c_fill_l (σ := σ) (a := a) (n := n) (v := v) ha (by omega) (alen a) 0 n (by omega) (by omega)
  rw [h0] at this
  exact this
theorem ia_row {r : Nat} (hr : r < 8) : isIA (5 + r) = true ∧ alen (5 + r) = 40 := by
  unfold isIA alen
  rw [shp_rows hr]; exact ⟨rfl, rfl⟩
/-- the reference's row of 40 items, cleared -/
def clrm (σ : Mem) (b k : Nat) : Mem := fun c j => if c = 80 ∧ b ≤ j ∧ j < b + k then 0 else σ c j
theorem nI40 (r : Nat) : (40 : Int32) * nI r = nI (40 * r) := pk_mul 40 r
theorem r_row_l {σ : Mem} {r n : Nat} {x : Int32} (hr : r < 8) : ∀ (k i f : Nat), i + k = 40 → k < f → f_X8_row_l52 n f (nI r) x (nI i) (clrm σ (40 * r) i) = some (x, mset (clrm σ (40 * r) 40) 77 3 0) := by
  intro k
  induction k with
  | zero =>
    intro i f hi hf
    obtain ⟨f, rfl⟩ : ∃ f', f = f' + 1 := ⟨f - 1, by omega⟩
    show f_X8_row_b52 n _ (nI r) x (nI i) _ = _
    unfold f_X8_row_b52
    have e : i = 40 := by omega
    subst e
    rw [if_pos (by decide)]
    rfl
  | succ k ih =>
    intro i f hi hf
    obtain ⟨f, rfl⟩ : ∃ f', f = f' + 1 := ⟨f - 1, by omega⟩
    show f_X8_row_b52 n (f_X8_row_l52 n f) (nI r) x (nI i) _ = _
    unfold f_X8_row_b52
    have e : mset (clrm σ (40 * r) i) 80 (40 * r + i) 0 = clrm σ (40 * r) (i + 1) := by
      funext c j
      unfold clrm
      rw [ms_if]
      by_cases h1 : c = 80 ∧ j = 40 * r + i
      · rw [if_pos h1, if_pos ⟨h1.1, by omega, by omega⟩]
      · rw [if_neg h1]
        by_cases h2 : c = 80 ∧ 40 * r ≤ j ∧ j < 40 * r + i
        · rw [if_pos h2, if_pos ⟨h2.1, h2.2.1, by omega⟩]
        · rw [if_neg h2, if_neg (fun q => by
            rcases Nat.lt_or_ge j (40 * r + i) with w | w
            · exact h2 ⟨q.1, q.2.1, w⟩
            · exact h1 ⟨q.1, by omega⟩)]
    rw [if_neg (fun q => by have := (nI_le_lit (n := 40) (by omega) (by omega)).mp q; omega), nI40, nIa, if_pos (inB_nI (by omega) (by decide)), tn_nI (by omega), Option.bind_some, e, nI_1]
    exact ih (i + 1) f (by omega) (by omega)
theorem okI {x : Int32} {k : Nat} (h0 : ¬ x < 0) (h1 : x ≤ nI k) (hk : k < 2 ^ 30) : ∃ j, j ≤ k ∧ x = nI j := by
  obtain ⟨j, hj, rfl⟩ := ix_of (n := k + 1) (x := x) (by omega) h0 (fun q => by
    rw [i32_le, nI_toInt (by omega)] at q h1; omega)
  exact ⟨j, by omega, rfl⟩
theorem lane_of {x : Int32} (h0 : ¬ x < 0) (h1 : ¬ nI 3 ≤ x) : Lane x := by
  obtain ⟨j, hj, rfl⟩ := ix_of (n := 3) (by decide) h0 h1
  unfold Lane
  rcases (show j = 0 ∨ j = 1 ∨ j = 2 by omega) with rfl | rfl | rfl
  · exact Or.inr (Or.inl rfl)
  · exact Or.inr (Or.inr (Or.inl rfl))
  · exact Or.inr (Or.inr (Or.inr rfl))
/-- the memories behind a call that told a finding -/
theorem fnd_inv {σ : Mem} (h : Inv σ) (v : Int32) : Inv (mset (mset σ 0 10 v) 77 3 v) :=
  h.keep ((Same.ms rfl).tr (Same.ms rfl)) (by unfold Slots; exact ⟨rfl, rfl, rfl, rfl, rfl, rfl, rfl⟩) rfl
theorem c_found (σ : Mem) (v : Int32) : f_X7_found v σ = some ((-1000010) - v, mset σ 0 10 v) := rfl
theorem c_nothing (σ : Mem) (v : Int32) : f_X7_foundNothing v σ = some (v, mset σ 0 10 0) := rfl
theorem r_finds (σ : Mem) (v : Int32) : f_X8_finds v σ = some ((-1000010) - v, mset σ 77 3 v) := rfl
theorem r_done (σ : Mem) (v : Int32) : f_X8_done v σ = some (v, mset σ 77 3 0) := rfl
theorem s_row {σ : Mem} {n : Nat} (h : Inv σ) (hn : 2000 ≤ n) (x1 x2 x3 : Int32) : Both σ (f_X7_row n x1 x2 x3) (f_X8_row n x1 x2 x3) := by
  rcases nrow σ σ x1 with ⟨e1, e2⟩ | ⟨r, hr, rfl, e1, e2⟩
  · exact Both.same h (-1000001) (by simp [f_X7_row, e1]) (by simp [f_X8_row, e2])
  have e3 : ∀ τ, f_X8_isRow τ (nI r) = some 1 := fun τ => by
    rcases nrow σ τ (nI r) with ⟨e3, -⟩ | ⟨-, -, -, -, e3⟩
    · exact absurd (e1.symm.trans e3) (by decide)
    · exact e3
  by_cases h20 : x2 < 0
  · exact Both.same h (-1000001) (by simp [f_X7_row, e1, h20]) (by simp [f_X8_row, e2, in_no (σ := σ) (a := 0) (b := 2) (Or.inl h20)])
  by_cases h23 : (3 : Int32) ≤ x2
  · exact Both.same h (-1000001) (by simp [f_X7_row, e1, h20, h23]) (by simp [f_X8_row, e2, in_no (σ := σ) (a := 0) (Or.inr ((lt_le x2 (k := 2) (by decide)).mpr h23) : x2 < 0 ∨ (2 : Int32) < x2)])
  have h22 : ¬ (2 : Int32) < x2 := fun q => h23 ((lt_le x2 (k := 2) (by decide)).mp q)
  have i2 : ∀ τ, f_X8_in τ x2 0 2 = some 1 := fun τ => in_yes h20 h22
  by_cases h3 : x3 ≤ 40
  rotate_left
  · exact Both.same h (-1000001) (by simp [f_X7_row, e1, h20, h23, h3]) (by simp [f_X8_row, e2, i2, h3])
  by_cases h30 : 0 ≤ x3
  rotate_left
  · exact ⟨_, _, _, by simp [f_X7_row, e1, h20, h23, h3, h30, c_found]; exact ⟨rfl, rfl⟩, by simp [f_X8_row, e3, i2, h3, h30, r_finds], fnd_inv h 4⟩
  obtain ⟨k, hk, rfl⟩ := okI (k := 40) (fun q => by rw [i32_lt] at q; rw [i32_le] at h30; omega) h3 (by decide)
  obtain ⟨ia, il⟩ := ia_row hr
  refine ⟨nI k, mset (fillm (mset (mset σ 2 r x2) 3 r (nI k)) (5 + r) 40 0) 0 10 0, mset (clrm (mset (mset (mset (fillm (mset (mset σ 2 r x2) 3 r (nI k)) (5 + r) 40 0) 0 10 0) 78 r x2) 79 r (nI k)) (40 * r) 40) 77 3 0, ?_, ?_, ?_⟩
  · simp [f_X7_row, e1, h20, h23, h3, h30, f_X2_lay, inL (inB_nI hr (show 8 < 2 ^ 31 by decide)), tn_nI (show r < 2 ^ 31 by omega), c_fill ia (by rw [il]; decide) hn, il, c_nothing]
  · have := r_row_l (σ := mset (mset (mset (fillm (mset (mset σ 2 r x2) 3 r (nI k)) (5 + r) 40 0) 0 10 0) 78 r x2) 79 r (nI k)) (n := n) (x := nI k) hr 40 0 n (by omega) (by omega)
    have h0 : ∀ ρ : Mem, clrm ρ (40 * r) 0 = ρ := fun ρ => by funext c j; unfold clrm; rw [if_neg (by omega)]
    rw [h0] at this
    simp [f_X8_row, e3, i2, h3, h30, inL (inB_nI hr (show 8 < 2 ^ 31 by decide)), tn_nI (show r < 2 ^ 31 by omega)]
    exact this
  · obtain ⟨hR, hS, hT, hW, hI, hA, hC⟩ := h
    have ev : ∀ c j, mset (clrm (mset (mset (mset (fillm (mset (mset σ 2 r x2) 3 r (nI k)) (5 + r) 40 0) 0 10 0) 78 r x2) 79 r (nI k)) (40 * r) 40) 77 3 0 c j = if c = 77 ∧ j = 3 then 0 else if c = 80 ∧ 40 * r ≤ j ∧ j < 40 * r + 40 then 0 else if c = 79 ∧ j = r then nI k else if c = 78 ∧ j = r then x2 else if c = 0 ∧ j = 10 then 0 else if c = 5 + r ∧ j < 40 then 0 else if c = 3 ∧ j = r then nI k else if c = 2 ∧ j = r then x2 else σ c j := fun _ _ => rfl
    generalize mset (clrm (mset (mset (mset (fillm (mset (mset σ 2 r x2) 3 r (nI k)) (5 + r) 40 0) 0 10 0) 78 r x2) 79 r (nI k)) (40 * r) 40) 77 3 0 = τ at ev
    have oth : ∀ c, c ≠ 77 → c ≠ 80 → c ≠ 79 → c ≠ 78 → c ≠ 0 → c ≠ 5 + r → c ≠ 3 → c ≠ 2 → τ c = σ c := by
      intro c a1 a2 a3 a4 a5 a6 a7 a8
      funext j
      rw [ev]; simp [a1, a2, a3, a4, a5, a6, a7, a8]
    have sl : ∀ j, j ≠ 3 → τ 77 j = σ 77 j := by
      intro j hj
      rw [ev]; simp [hj]; omega
    refine ⟨⟨fun q hq => ?_, fun q i hq hi => ?_⟩, ?_, ?_, ?_, ?_, ?_, ?_⟩
    · rw [ev, ev, ev, ev]
      obtain ⟨b1, b2, b3, b4⟩ := hR.1 q hq
      have n2 : ¬ (2 = 5 + r) := by omega
      have n3 : ¬ (3 = 5 + r) := by omega
      have n78 : ¬ (78 = 5 + r) := by omega
      have n79 : ¬ (79 = 5 + r) := by omega
      by_cases hqr : q = r
      · subst hqr
        simp [n2, n3, n78, n79]
        exact ⟨lane_of h20 h23, k, hk, rfl⟩
      · simp [hqr, n2, n3, n78, n79]
        exact ⟨b1, b2, b3, b4⟩
    · rw [ev, ev]
      have b := hR.2 q i hq hi
      by_cases hqr : q = r
      · subst hqr
        simp [show ¬ (5 + q = 77) by omega, show ¬ (5 + q = 80) by omega, show ¬ (5 + q = 79) by omega, show ¬ (5 + q = 78) by omega, hi]
      · simp [show ¬ (5 + q = 77) by omega, show ¬ (5 + q = 80) by omega, show ¬ (5 + q = 79) by omega, show ¬ (5 + q = 78) by omega, show ¬ (5 + q = 3) by omega, show ¬ (5 + q = 2) by omega, hqr, show ¬ (40 * r ≤ 40 * q + i ∧ 40 * q + i < 40 * r + 40) by omega]
        rw [if_neg (by omega)]
        exact b
    · show τ 0 10 = τ 77 3
      rw [ev, ev]; simp
    · exact hT.congr (fun a ha => by simp [pTap] at ha; exact oth a (by omega) (by omega) (by omega) (by omega) (by omega) (by omega) (by omega) (by omega)) (by rw [oth 13 (by omega) (by omega) (by omega) (by omega) (by omega) (by omega) (by omega) (by omega)]) (by rw [oth 13 (by omega) (by omega) (by omega) (by omega) (by omega) (by omega) (by omega) (by omega)]) (sl 4 (by decide)) (sl 11 (by decide))
    · exact hW.congr (fun a ha => by simp [pTow] at ha; exact oth a (by omega) (by omega) (by omega) (by omega) (by omega) (by omega) (by omega) (by omega))
    · exact hI.congr (fun a ha => by simp [pImg] at ha; exact oth a (by omega) (by omega) (by omega) (by omega) (by omega) (by omega) (by omega) (by omega))
    · exact hA.congr (fun a ha => by simp [pAct] at ha; exact oth a (by omega) (by omega) (by omega) (by omega) (by omega) (by omega) (by omega) (by omega)) (by rw [oth 35 (by omega) (by omega) (by omega) (by omega) (by omega) (by omega) (by omega) (by omega)]) (by rw [oth 35 (by omega) (by omega) (by omega) (by omega) (by omega) (by omega) (by omega) (by omega)]) (sl 18 (by decide))
    · exact hC.congr (fun a ha => by simp [pTrc] at ha; exact oth a (by omega) (by omega) (by omega) (by omega) (by omega) (by omega) (by omega) (by omega)) (by rw [oth 75 (by omega) (by omega) (by omega) (by omega) (by omega) (by omega) (by omega) (by omega)]) (sl 20 (by decide))
