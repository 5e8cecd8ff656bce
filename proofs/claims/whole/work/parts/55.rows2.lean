/-! ===== set, drop, copy ===== -/
theorem Inv.rows {σ τ : Mem} (h : Inv σ) (hR : IRow τ) (hS : ISta τ) (ho : ∀ c, pRow c = false → c ≠ 0 → c ≠ 77 → τ c = σ c) (hj : ∀ j, j ≠ 3 → τ 77 j = σ 77 j) : Inv τ := by
  obtain ⟨-, -, h3, h4, h5, h6, h7⟩ := h
  refine ⟨hR, hS, h3.congr ?_ ?_ ?_ (hj 4 (by decide)) (hj 11 (by decide)), h4.congr ?_, h5.congr ?_, h6.congr ?_ ?_ ?_ (hj 18 (by decide)), h7.congr ?_ ?_ (hj 20 (by decide))⟩
  · intro a ha; simp [pTap] at ha; exact ho a (by rcases ha with rfl | rfl <;> rfl) (by omega) (by omega)
  · rw [ho 13 rfl (by decide) (by decide)]
  · rw [ho 13 rfl (by decide) (by decide)]
  · intro a ha; simp [pTow] at ha; exact ho a (by simp [pRow]; omega) (by omega) (by omega)
  · intro a ha; simp [pImg] at ha; exact ho a (by simp [pRow]; omega) (by omega) (by omega)
  · intro a ha; simp [pAct] at ha; exact ho a (by simp [pRow]; omega) (by omega) (by omega)
  · rw [ho 35 rfl (by decide) (by decide)]
  · rw [ho 35 rfl (by decide) (by decide)]
  · intro a ha; simp [pTrc] at ha; exact ho a (by rcases ha with rfl | rfl <;> rfl) (by omega) (by omega)
  · rw [ho 75 rfl (by decide) (by decide)]
theorem isRow1 {r : Nat} (hr : r < 8) (τ : Mem) : f_X8_isRow τ (nI r) = some 1 := by
  rcases nrow τ τ (nI r) with ⟨e1, e2⟩ | ⟨-, -, -, -, e3⟩
  · unfold f_X8_isRow at e2
    rw [in_yes (b := 7) (nI_nn (by omega)) (fun q => by have := (nI_le_lit (n := 8) (k := r) (by omega) (by omega)).mp ((lt_le (nI r) (k := 7) (by decide)).mp q); omega)] at e2
    exact absurd e2 (by decide)
  · exact e3
theorem num1 {r : Nat} (hr : r < 8) (τ : Mem) : f_X2_isNumber τ (nI r) = some 1 := by
  rcases nrow τ τ (nI r) with ⟨e1, e2⟩ | ⟨-, -, -, e3, -⟩
  · exact absurd (e2.symm.trans (isRow1 hr τ)) (by decide)
  · exact e3
theorem lane_cases {x : Int32} (h : Lane x) : (x = -1) ∨ (x ≠ -1 ∧ ¬ x < 0 ∧ 0 ≤ x) := by
  rcases h with rfl | rfl | rfl | rfl
  · exact Or.inl rfl
  all_goals exact Or.inr ⟨by decide, by decide, by decide⟩
theorem c_missing {σ : Mem} {r : Nat} (hr : r < 8) : f_X2_isMissing σ (nI r) = some (if σ 2 r = -1 then 1 else 0) := by
  unfold f_X2_isMissing
  rw [if_pos (inB_nI hr (by decide)), tn_nI (by omega)]
  by_cases h : σ 2 r = -1
  · rw [if_pos h, if_pos h]
  · rw [if_neg h, if_neg h]
theorem c_hasSpan {σ : Mem} {r : Nat} (hr : r < 8) (i n : Int32) : f_X2_hasSpan σ (nI r) i n = some (if i < 0 then 0 else if n < 0 then 0 else if σ 3 r - n < i then 0 else 1) := by
  unfold f_X2_hasSpan
  rw [if_pos (inB_nI hr (by decide)), tn_nI (by omega)]
  by_cases h1 : i < 0
  · simp [h1]
  by_cases h2 : n < 0
  · simp [h1, h2]
  by_cases h3 : σ 3 r - n < i <;> simp [h1, h2, h3]
theorem c_findingOf {σ : Mem} {r : Nat} (hr : r < 8) (i n : Int32) : f_X2_findingOf σ (nI r) i n = some (if σ 2 r = -1 then 1 else if i < 0 then 2 else if n < 0 then 2 else if σ 3 r - n < i then 2 else 0) := by
  unfold f_X2_findingOf
  rw [c_missing hr, c_hasSpan hr]
  by_cases h : σ 2 r = -1
  · simp [h]
  by_cases h1 : i < 0
  · simp [h, h1]
  by_cases h2 : n < 0
  · simp [h, h1, h2]
  by_cases h3 : σ 3 r - n < i <;> simp [h, h1, h2, h3]
def cutv (l v : Int32) : Int32 := if l = 0 then v.toInt8.toInt32 else if l = 1 then v.toInt16.toInt32 else v
/-- one item is another, on both sides -/
theorem IRow.item {σ τ : Mem} {r i : Nat} {v : Int32} (h : IRow σ) (hr : r < 8) (hi : i < 40) (e : ∀ c j, τ c j = if c = 77 ∧ j = 3 then 0 else if c = 80 ∧ j = 40 * r + i then v else if c = 0 ∧ j = 10 then 0 else if c = 5 + r ∧ j = i then v else σ c j) : IRow τ := by
  refine ⟨fun q hq => ?_, fun q k hq hk => ?_⟩
  · rw [e, e, e, e]
    simp [show ¬ (2 = 5 + r) by omega, show ¬ (3 = 5 + r) by omega, show ¬ (78 = 5 + r) by omega, show ¬ (79 = 5 + r) by omega]
    exact h.1 q hq
  · have b := h.2 q k hq hk
    rw [e, e]
    simp [show ¬ (5 + q = 77) by omega, show ¬ (5 + q = 80) by omega, show ¬ (5 + r = 80) by omega, show ¬ (80 = 5 + r) by omega]
    by_cases hqr : q = r
    · subst hqr
      by_cases hk2 : k = i
      · simp [hk2]
      · simp [hk2, b]
    · simp [hqr, show ¬ (40 * q + k = 40 * r + i) by omega, b]
theorem s_set {σ : Mem} {n : Nat} (h : Inv σ) (hn : 2000 ≤ n) (x1 x2 x3 : Int32) : Both σ (f_X7_set x1 x2 x3) (f_X8_set x1 x2 x3) := by
  rcases nrow σ σ x1 with ⟨e1, e2⟩ | ⟨r, hr, rfl, e1, e2⟩
  · exact Both.same h (-1000001) (by simp [f_X7_set, e1]) (by simp [f_X8_set, e2])
  obtain ⟨b1, b2, b3, k, hk, b4⟩ := h.1.1 r hr
  have hb := inL (inB_nI hr (show 8 < 2 ^ 31 by decide))
  have ht := tn_nI (show r < 2 ^ 31 by omega)
  rcases lane_cases b3 with hl | ⟨hl1, hl2, hl3⟩
  · refine ⟨_, _, _, by simp [f_X7_set, e1, c_findingOf hr, b1, hl, c_found]; exact ⟨rfl, rfl⟩, ?_, fnd_inv h 1⟩
    simp [f_X8_set, isRow1 hr, hb, ht, ms_if, hl, r_finds]
  have hfind : (if x2 < 0 then (2 : Int32) else if σ 79 r - 1 < x2 then 2 else 0) = 2 → ∃ y σ1 σ2, f_X7_set (nI r) x2 x3 σ = some (y, σ1) ∧ f_X8_set (nI r) x2 x3 σ1 = some (y, σ2) ∧ Inv σ2 := by
    intro hf
    have e3 : (if x2 < 0 then (2 : Int32) else if (1 : Int32) < 0 then 2 else if σ 79 r - 1 < x2 then 2 else 0) = 2 := by
      rw [if_neg (show ¬ (1 : Int32) < 0 by decide)]; exact hf
    refine ⟨_, _, _, by simp only [f_X7_set, e1, c_findingOf hr, b1, b2, hl1, if_false, e3, Option.bind_some]; simp [c_found]; exact ⟨rfl, rfl⟩, ?_, fnd_inv h 2⟩
    have e4 : f_X8_in (mset σ 0 10 2) x2 0 (σ 79 r - 1) = some 0 := by
      apply in_no
      by_cases q : x2 < 0
      · exact Or.inl q
      · rw [if_neg q] at hf
        by_cases q2 : σ 79 r - 1 < x2
        · exact Or.inr q2
        · rw [if_neg q2] at hf; exact absurd hf (by decide)
    simp [f_X8_set, isRow1 hr, hb, ht, ms_if, hl3, e4, r_finds]
  by_cases q1 : x2 < 0
  · exact hfind (by rw [if_pos q1])
  by_cases q2 : σ 79 r - 1 < x2
  · exact hfind (by rw [if_neg q1, if_pos q2])
  obtain ⟨i, hi, rfl⟩ : ∃ i, i < k ∧ x2 = nI i := by
    apply ix_of (by omega) q1
    intro q3
    apply q2
    rw [b4, i32_lt]
    rw [i32_le, nI_toInt (by omega)] at q3
    have q4 : ¬ x2.toInt < 0 := by rw [i32_lt] at q1; exact q1
    have e9 : (1 : Int32).toInt = 1 := rfl
    rw [i32_sub (by rw [nI_toInt (by omega), e9]; omega) (by rw [nI_toInt (by omega), e9]; omega), nI_toInt (by omega), e9]
    omega
  have hbi := inL (inB_nI (show i < 40 by omega) (show 40 < 2 ^ 31 by decide))
  have hti := tn_nI (show i < 2 ^ 31 by omega)
  have hb80 := inL (inB_nI (show 40 * r + i < 320 by omega) (show 320 < 2 ^ 31 by decide))
  have ht80 := tn_nI (show 40 * r + i < 2 ^ 31 by omega)
  refine ⟨cutv (σ 78 r) x3, mset (mset σ (5 + r) i (cutv (σ 78 r) x3)) 0 10 0, mset (mset (mset (mset σ (5 + r) i (cutv (σ 78 r) x3)) 0 10 0) 80 (40 * r + i) (cutv (σ 78 r) x3)) 77 3 0, ?_, ?_, ?_⟩
  · have e3 : (if nI i < 0 then (2 : Int32) else if (1 : Int32) < 0 then 2 else if σ 79 r - 1 < nI i then 2 else 0) = 0 := by
      rw [if_neg q1, if_neg (by decide), if_neg q2]
    simp only [f_X7_set, e1, c_findingOf hr, b1, b2, hl1, if_false, e3, Option.bind_some]
    unfold f_X2_put f_X2_put_b30 cutv
    simp only [hb, ht, hbi, hti, b1, if_true, Option.bind_some]
    by_cases l0 : σ 78 r = 0
    · simp [l0, c_nothing]
    · by_cases l1 : σ 78 r = 1 <;> simp [l0, l1, c_nothing]
  · have e4 : ∀ τ, f_X8_in τ (nI i) 0 (σ 79 r - 1) = some 1 := fun τ => in_yes q1 q2
    have c78 : mset (mset σ (5 + r) i (cutv (σ 78 r) x3)) 0 10 0 78 r = σ 78 r := by simp [ms_if]; omega
    have c79 : mset (mset σ (5 + r) i (cutv (σ 78 r) x3)) 0 10 0 79 r = σ 79 r := by simp [ms_if]; omega
    generalize mset (mset σ (5 + r) i (cutv (σ 78 r) x3)) 0 10 0 = ρ at c78 c79
    simp only [f_X8_set, f_X8_set_b87, isRow1 hr, hb, ht, c78, c79, hl3, e4, if_true, Option.bind_some, nI40, nIa, hb80, ht80, ms_at, r_done]
    unfold cutv
    by_cases l0 : σ 78 r = 0
    · simp [l0]
    · by_cases l1 : σ 78 r = 1 <;> simp [l0, l1]
  · have ev : ∀ c j, mset (mset (mset (mset σ (5 + r) i (cutv (σ 78 r) x3)) 0 10 0) 80 (40 * r + i) (cutv (σ 78 r) x3)) 77 3 0 c j = if c = 77 ∧ j = 3 then 0 else if c = 80 ∧ j = 40 * r + i then cutv (σ 78 r) x3 else if c = 0 ∧ j = 10 then 0 else if c = 5 + r ∧ j = i then cutv (σ 78 r) x3 else σ c j := fun _ _ => rfl
    generalize mset (mset (mset (mset σ (5 + r) i (cutv (σ 78 r) x3)) 0 10 0) 80 (40 * r + i) (cutv (σ 78 r) x3)) 77 3 0 = τ at ev
    refine h.rows (h.1.item hr (by omega) ev) ?_ (fun c a1 a2 a3 => ?_) (fun j hj => ?_)
    · show τ 0 10 = τ 77 3
      rw [ev, ev]; simp
    · funext j
      simp [pRow] at a1
      rw [ev]; simp [a2, a3, show ¬ c = 80 by omega, show ¬ c = 5 + r by omega]
    · rw [ev]; simp [hj]; omega
theorem s_drop {σ : Mem} (h : Inv σ) (x1 : Int32) : Both σ (f_X7_drop x1) (f_X8_drop x1) := by
  rcases nrow σ σ x1 with ⟨e1, e2⟩ | ⟨r, hr, rfl, e1, e2⟩
  · exact Both.same h (-1000001) (by simp [f_X7_drop, e1]) (by simp [f_X8_drop, e2])
  obtain ⟨b1, b2, b3, k, hk, b4⟩ := h.1.1 r hr
  have hb := inL (inB_nI hr (show 8 < 2 ^ 31 by decide))
  have ht := tn_nI (show r < 2 ^ 31 by omega)
  rcases lane_cases b3 with hl | ⟨hl1, hl2, hl3⟩
  · refine ⟨_, _, _, by simp [f_X7_drop, e1, c_missing hr, b1, hl, c_found]; exact ⟨rfl, rfl⟩, ?_, fnd_inv h 1⟩
    simp [f_X8_drop, isRow1 hr, hb, ht, ms_if, hl, r_finds]
  refine ⟨σ 79 r, mset (mset σ 2 r (-1)) 0 10 0, mset (mset (mset (mset σ 2 r (-1)) 0 10 0) 78 r (-1)) 77 3 0, ?_, ?_, ?_⟩
  · simp [f_X7_drop, e1, c_missing hr, b1, hl1, f_X2_takeAway, hb, ht, c_nothing, ms_if, b2]
  · simp [f_X8_drop, isRow1 hr, hb, ht, ms_if, hl3, r_done]
  · refine h.rows ⟨fun q hq => ?_, fun q i hq hi => ?_⟩ rfl (fun c a1 a2 a3 => ?_) (fun j hj => ?_)
    · obtain ⟨c1, c2, c3, c4⟩ := h.1.1 q hq
      simp [ms_if]
      by_cases hqr : q = r
      · simp [hqr, b2, Lane]
        exact ⟨k, hk, b4⟩
      · simp [hqr]
        exact ⟨c1, c2, c3, c4⟩
    · have := h.1.2 q i hq hi
      simp [ms_if, show ¬ (5 + q = 77) by omega, show ¬ (5 + q = 78) by omega, show ¬ (5 + q = 2) by omega]
      exact this
    · funext j
      simp [pRow] at a1
      simp [ms_if, a2, a3, show ¬ c = 78 by omega, show ¬ c = 2 by omega]
    · simp [ms_if, hj]

theorem r_isPart (τ : Mem) (i n : Int32) {k : Nat} (hk : k ≤ 40) : f_X8_isPart τ i n (nI k) = some (if i < 0 then 0 else if n < 0 then 0 else if nI k - n < i then 0 else 1) := by
  unfold f_X8_isPart
  by_cases h1 : i < 0
  · simp [h1]
  by_cases h2 : n < 0
  · simp [h1, h2]
  by_cases h3 : nI k < n
  · have : nI k - n < i := by
      rw [i32_lt] at h1 h2 h3 ⊢
      rw [nI_toInt (by omega)] at h3
      have := i32_range n
      have z : (0 : Int32).toInt = 0 := rfl
      rw [i32_sub (by rw [nI_toInt (by omega)]; omega) (by rw [nI_toInt (by omega)]; omega), nI_toInt (by omega)]
      omega
    simp [h1, h2, h3, this]
  · by_cases h4 : nI k - n < i <;> simp [h1, h2, h3, h4]
/-- a span within: its numbers -/
theorem span_of {i n : Int32} {k : Nat} (hk : k ≤ 40) (h : (if i < 0 then (0 : Int32) else if n < 0 then 0 else if nI k - n < i then 0 else 1) = 1) : ∃ a b : Nat, i = nI a ∧ n = nI b ∧ a + b ≤ k := by
  by_cases h1 : i < 0
  · rw [if_pos h1] at h; exact absurd h (by decide)
  by_cases h2 : n < 0
  · rw [if_neg h1, if_pos h2] at h; exact absurd h (by decide)
  by_cases h3 : nI k - n < i
  · rw [if_neg h1, if_neg h2, if_pos h3] at h; exact absurd h (by decide)
  rw [i32_lt] at h1 h2 h3
  have z : (0 : Int32).toInt = 0 := rfl
  have r1 := i32_range n
  have r2 := i32_range i
  rw [i32_sub (by rw [nI_toInt (by omega)]; omega) (by rw [nI_toInt (by omega)]; omega), nI_toInt (by omega)] at h3
  obtain ⟨a, ha, rfl⟩ := nI_of (x := i) (by rw [i32_lt]; exact h1)
  obtain ⟨b, hb, rfl⟩ := nI_of (x := n) (by rw [i32_lt]; exact h2)
  rw [nI_toInt ha, nI_toInt hb] at h3
  exact ⟨a, b, rfl, rfl, by omega⟩
theorem cp_fwd {σ : Mem} {S d k : Nat} (h : ¬ (d ≤ S + k ∧ S + k < d + k)) : mset (mcpy σ 80 S 80 d k) 80 (d + k) (mcpy σ 80 S 80 d k 80 (S + k)) = mcpy σ 80 S 80 d (k + 1) := by
  funext c x
  have e : mcpy σ 80 S 80 d k 80 (S + k) = σ 80 (S + k) := by rw [mc_if, if_neg (fun q => h q.2)]
  rw [ms_if, e]
  unfold mcpy
  by_cases h1 : c = 80 ∧ x = d + k
  · rw [if_pos h1, if_pos ⟨h1.1, by omega, by omega⟩, h1.2]
    congr 1; omega
  · rw [if_neg h1]
    by_cases h2 : c = 80 ∧ d ≤ x ∧ x < d + k
    · rw [if_pos h2, if_pos ⟨h2.1, h2.2.1, by omega⟩]
    · rw [if_neg h2, if_neg (fun q => by
        rcases Nat.lt_or_ge x (d + k) with w | w
        · exact h2 ⟨q.1, q.2.1, w⟩
        · exact h1 ⟨q.1, by omega⟩)]
/-- copied from behind: the last k of N -/
def bcpy (σ : Mem) (S d N k : Nat) : Mem := fun c x => if c = 80 ∧ d + N - k ≤ x ∧ x < d + N then σ 80 (S + (x - d)) else σ c x
theorem cp_bwd {σ : Mem} {S d N k : Nat} (hS : S < d) (hk : k < N) : mset (bcpy σ S d N k) 80 (d + (N - 1 - k)) (bcpy σ S d N k 80 (S + (N - 1 - k))) = bcpy σ S d N (k + 1) := by
  funext c x
  have e : bcpy σ S d N k 80 (S + (N - 1 - k)) = σ 80 (S + (N - 1 - k)) := by unfold bcpy; rw [if_neg (by omega)]
  rw [ms_if, e]
  unfold bcpy
  by_cases h1 : c = 80 ∧ x = d + (N - 1 - k)
  · rw [if_pos h1, if_pos ⟨h1.1, by omega, by omega⟩, h1.2]
    congr 1; omega
  · rw [if_neg h1]
    by_cases h2 : c = 80 ∧ d + N - k ≤ x ∧ x < d + N
    · rw [if_pos h2, if_pos ⟨h2.1, by omega, h2.2.2⟩]
    · rw [if_neg h2, if_neg (fun q => by
        rcases Nat.lt_or_ge x (d + N - k) with w | w
        · exact h1 ⟨q.1, by omega⟩
        · exact h2 ⟨q.1, w, q.2.2⟩)]
theorem r_copy_f {σ : Mem} {a b i j N n : Nat} (hi : i + N ≤ 40) (hj : j + N ≤ 40) (ha : a < 8) (hb : b < 8) (hd : a ≠ b ∨ j ≤ i) : ∀ (k x f : Nat), x + k = N → k < f → f_X8_copy_l120 n f (nI a) (nI i) (nI b) (nI j) (nI N) 0 (nI x) (mcpy σ 80 (40 * a + i) 80 (40 * b + j) x) = some (nI N, mset (mcpy σ 80 (40 * a + i) 80 (40 * b + j) N) 77 3 0) := by
  intro k
  induction k with
  | zero =>
    intro x f hx hf
    obtain ⟨f, rfl⟩ : ∃ f', f = f' + 1 := ⟨f - 1, by omega⟩
    show f_X8_copy_b120 n _ _ _ _ _ _ _ _ _ = _
    unfold f_X8_copy_b120
    have e : x = N := by omega
    subst e
    rw [if_pos ((nI_le_lit (by omega) (by omega)).mpr (Nat.le_refl _))]
    rfl
  | succ k ih =>
    intro x f hx hf
    obtain ⟨f, rfl⟩ : ∃ f', f = f' + 1 := ⟨f - 1, by omega⟩
    show f_X8_copy_b120 n (f_X8_copy_l120 n f) _ _ _ _ _ _ _ _ = _
    unfold f_X8_copy_b120 f_X8_copy_b144
    rw [if_neg (fun q => by have := (nI_le_lit (by omega) (by omega)).mp q; omega), if_pos rfl]
    simp only [nI40, nIa, inL (inB_nI (show 40 * a + i + x < 320 by omega) (by decide)), inL (inB_nI (show 40 * b + j + x < 320 by omega) (by decide)), if_true, tn_nI (show 40 * a + i + x < 2 ^ 31 by omega), tn_nI (show 40 * b + j + x < 2 ^ 31 by omega), Option.bind_some]
    rw [cp_fwd (by omega), nI_1]
    exact ih (x + 1) f (by omega) (by omega)
theorem r_copy_b {σ : Mem} {a i j N n : Nat} (hi : i + N ≤ 40) (hj : j + N ≤ 40) (ha : a < 8) (hd : i < j) : ∀ (k x f : Nat), x + k = N → k < f → f_X8_copy_l120 n f (nI a) (nI i) (nI a) (nI j) (nI N) 1 (nI x) (bcpy σ (40 * a + i) (40 * a + j) N x) = some (nI N, mset (bcpy σ (40 * a + i) (40 * a + j) N N) 77 3 0) := by
  intro k
  induction k with
  | zero =>
    intro x f hx hf
    obtain ⟨f, rfl⟩ : ∃ f', f = f' + 1 := ⟨f - 1, by omega⟩
    show f_X8_copy_b120 n _ _ _ _ _ _ _ _ _ = _
    unfold f_X8_copy_b120
    have e : x = N := by omega
    subst e
    rw [if_pos ((nI_le_lit (by omega) (by omega)).mpr (Nat.le_refl _))]
    rfl
  | succ k ih =>
    intro x f hx hf
    obtain ⟨f, rfl⟩ : ∃ f', f = f' + 1 := ⟨f - 1, by omega⟩
    show f_X8_copy_b120 n (f_X8_copy_l120 n f) _ _ _ _ _ _ _ _ = _
    unfold f_X8_copy_b120 f_X8_copy_b144
    have e1 : nI N - 1 - nI x = nI (N - 1 - x) := by
      rw [show (1 : Int32) = nI 1 from rfl, pk_sub (by omega), pk_sub (by omega)]
    rw [if_neg (fun q => by have := (nI_le_lit (by omega) (by omega)).mp q; omega), if_neg (by decide), e1]
    simp only [nI40, nIa, inL (inB_nI (show 40 * a + i + (N - 1 - x) < 320 by omega) (by decide)), inL (inB_nI (show 40 * a + j + (N - 1 - x) < 320 by omega) (by decide)), if_true, tn_nI (show 40 * a + i + (N - 1 - x) < 2 ^ 31 by omega), tn_nI (show 40 * a + j + (N - 1 - x) < 2 ^ 31 by omega), Option.bind_some]
    rw [cp_bwd (by omega) (by omega), nI_1]
    exact ih (x + 1) f (by omega) (by omega)
theorem bcpy_all {σ : Mem} {S d N : Nat} : bcpy σ S d N N = mcpy σ 80 S 80 d N := by
  funext c x
  unfold bcpy mcpy
  rw [show d + N - N = d by omega]
theorem s_copy {σ : Mem} {n : Nat} (h : Inv σ) (hn : 2000 ≤ n) (x1 x2 x3 x4 x5 : Int32) : Both σ (f_X7_copy x1 x2 x3 x4 x5) (f_X8_copy n x1 x2 x3 x4 x5) := by
  rcases nrow σ σ x1 with ⟨e1, e2⟩ | ⟨a, ha, rfl, e1, -⟩
  · exact Both.same h (-1000001) (by simp [f_X7_copy, e1]) (by simp [f_X8_copy, e2])
  rcases nrow σ σ x3 with ⟨e3, e4⟩ | ⟨b, hb, rfl, e3, -⟩
  · exact Both.same h (-1000001) (by simp [f_X7_copy, e1, e3]) (by simp [f_X8_copy, isRow1 ha, e4])
  obtain ⟨a1, a2, a3, k, hk, a4⟩ := h.1.1 a ha
  obtain ⟨b1, b2, b3, l, hl, b4⟩ := h.1.1 b hb
  have hba := inL (inB_nI ha (show 8 < 2 ^ 31 by decide))
  have hta := tn_nI (show a < 2 ^ 31 by omega)
  have hbb := inL (inB_nI hb (show 8 < 2 ^ 31 by decide))
  have htb := tn_nI (show b < 2 ^ 31 by omega)
  rcases lane_cases a3 with la | ⟨la1, la2, la3⟩
  · exact ⟨_, _, _, by simp [f_X7_copy, f_X7_copy_b39, e1, e3, c_missing ha, a1, la, c_found]; exact ⟨rfl, rfl⟩, by simp [f_X8_copy, f_X8_copy_b35, isRow1 ha, isRow1 hb, hba, hta, ms_if, la, r_finds], fnd_inv h 1⟩
  rcases lane_cases b3 with lb | ⟨lb1, lb2, lb3⟩
  · exact ⟨_, _, _, by simp [f_X7_copy, f_X7_copy_b39, e1, e3, c_missing ha, c_missing hb, a1, b1, la1, lb, c_found]; exact ⟨rfl, rfl⟩, by simp [f_X8_copy, f_X8_copy_b35, isRow1 ha, isRow1 hb, hba, hta, hbb, htb, ms_if, la2, lb, r_finds], fnd_inv h 1⟩
  by_cases hab : σ 78 a = σ 78 b
  rotate_left
  · exact ⟨_, _, _, by simp [f_X7_copy, e1, e3, c_missing ha, c_missing hb, a1, b1, la1, lb1, hba, hbb, hta, htb, hab, c_found]; exact ⟨rfl, rfl⟩, by simp [f_X8_copy, isRow1 ha, isRow1 hb, hba, hta, hbb, htb, ms_if, la2, lb3, hab, r_finds], fnd_inv h 5⟩
  have bit : ∀ z : Int32, (if x2 < 0 then (0 : Int32) else if x5 < 0 then 0 else if z - x5 < x2 then 0 else 1) = 0 ∨ (if x2 < 0 then (0 : Int32) else if x5 < 0 then 0 else if z - x5 < x2 then 0 else 1) = 1 := by
    intro z
    split
    · exact Or.inl rfl
    split
    · exact Or.inl rfl
    split
    · exact Or.inl rfl
    · exact Or.inr rfl
  have bit2 : ∀ z : Int32, (if x4 < 0 then (0 : Int32) else if x5 < 0 then 0 else if z - x5 < x4 then 0 else 1) = 0 ∨ (if x4 < 0 then (0 : Int32) else if x5 < 0 then 0 else if z - x5 < x4 then 0 else 1) = 1 := by
    intro z
    split
    · exact Or.inl rfl
    split
    · exact Or.inl rfl
    split
    · exact Or.inl rfl
    · exact Or.inr rfl
  have ca : f_X2_hasSpan σ (nI a) x2 x5 = some (if x2 < 0 then 0 else if x5 < 0 then 0 else if nI k - x5 < x2 then 0 else 1) := by rw [c_hasSpan ha, a2, a4]
  have cb : f_X2_hasSpan σ (nI b) x4 x5 = some (if x4 < 0 then 0 else if x5 < 0 then 0 else if nI l - x5 < x4 then 0 else 1) := by rw [c_hasSpan hb, b2, b4]
  rcases bit (nI k) with sa | sa
  · exact ⟨_, _, _, by simp only [f_X7_copy, e1, e3, c_missing ha, c_missing hb, a1, b1, la1, lb1, hba, hbb, hta, htb, hab, ca, sa]; simp [f_X7_copy_b101, c_found, lb1]; exact ⟨rfl, rfl⟩, by simp only [f_X8_copy, isRow1 ha, isRow1 hb, hba, hta, hbb, htb, ms_if, r_isPart _ x2 x5 hk]; simp [la2, lb3, hab, a4, r_isPart _ x2 x5 hk, sa, f_X8_copy_b93, r_finds, lb2], fnd_inv h 2⟩
  rcases bit2 (nI l) with sb | sb
  · exact ⟨_, _, _, by simp only [f_X7_copy, e1, e3, c_missing ha, c_missing hb, a1, b1, la1, lb1, hba, hbb, hta, htb, hab, ca, sa, cb, sb]; simp [f_X7_copy_b101, c_found, lb1]; exact ⟨rfl, rfl⟩, by simp only [f_X8_copy, isRow1 ha, isRow1 hb, hba, hta, hbb, htb, ms_if]; simp [la2, lb3, hab, a4, b4, r_isPart _ x2 x5 hk, r_isPart _ x4 x5 hl, sa, sb, f_X8_copy_b93, r_finds, lb2], fnd_inv h 2⟩
  obtain ⟨i, N, rfl, rfl, hik⟩ := span_of hk sa
  obtain ⟨j, N', rfl, hN, hjl⟩ := span_of hl sb
  have eN : N = N' := by
    by_cases q : N' < 2 ^ 31
    · exact (nI_inj (by omega) q).mp hN
    · omega
  subst eN
  have hok : okCopy 40 40 (nI i) (nI j) (nI N) = true := decide_eq_true ⟨nI_nn (by omega), nI_nn (by omega), nI_nn (by omega), by rw [tn_nI (by omega), tn_nI (by omega)]; omega, by rw [tn_nI (by omega), tn_nI (by omega)]; omega⟩
  refine ⟨nI N, mset (mcpy σ (5 + a) i (5 + b) j N) 0 10 0, mset (mcpy (mset (mcpy σ (5 + a) i (5 + b) j N) 0 10 0) 80 (40 * a + i) 80 (40 * b + j) N) 77 3 0, ?_, ?_, ?_⟩
  · simp only [f_X7_copy, e1, e3, c_missing ha, c_missing hb, a1, b1, la1, lb1, hba, hbb, hta, htb, hab, ca, sa, cb, sb, hok, tn_nI (show i < 2 ^ 31 by omega), tn_nI (show j < 2 ^ 31 by omega), tn_nI (show N < 2 ^ 31 by omega)]
    simp [lb1, c_nothing]
  · have g78 : ∀ q, mset (mcpy σ (5 + a) i (5 + b) j N) 0 10 0 78 q = σ 78 q := fun q => by rw [ms_if, if_neg (by omega), mc_if, if_neg (by omega)]
    have g79 : ∀ q, mset (mcpy σ (5 + a) i (5 + b) j N) 0 10 0 79 q = σ 79 q := fun q => by rw [ms_if, if_neg (by omega), mc_if, if_neg (by omega)]
    generalize mset (mcpy σ (5 + a) i (5 + b) j N) 0 10 0 = ρ at g78 g79
    have fw : (a ≠ b ∨ j ≤ i) → f_X8_copy_l120 n n (nI a) (nI i) (nI b) (nI j) (nI N) 0 0 ρ = some (nI N, mset (mcpy ρ 80 (40 * a + i) 80 (40 * b + j) N) 77 3 0) := by
      intro hd
      have := r_copy_f (σ := ρ) (n := n) (a := a) (b := b) (i := i) (j := j) (N := N) (by omega) (by omega) ha hb hd N 0 n (by omega) (by omega)
      rw [mcpy_0] at this
      exact this
    have bw : a = b → i < j → f_X8_copy_l120 n n (nI a) (nI i) (nI b) (nI j) (nI N) 1 0 ρ = some (nI N, mset (mcpy ρ 80 (40 * a + i) 80 (40 * b + j) N) 77 3 0) := by
      intro e hd
      subst e
      have := r_copy_b (σ := ρ) (n := n) (a := a) (i := i) (j := j) (N := N) (by omega) (by omega) ha hd N 0 n (by omega) (by omega)
      have h0 : bcpy ρ (40 * a + i) (40 * a + j) N 0 = ρ := by funext c x; unfold bcpy; rw [if_neg (by omega)]
      rw [h0, bcpy_all] at this
      exact this
    simp only [f_X8_copy, isRow1 ha, isRow1 hb, hba, hta, hbb, htb, g78, g79, a4, b4, r_isPart _ _ _ hk, r_isPart _ _ _ hl, sa, sb, hab]
    simp [lb2, lb3, f_X8_copy_b114, f_X8_copy_b115]
    by_cases hq : a = b
    · subst hq
      by_cases hji : j ≤ i
      · simp [nI_le_lit (show j < 2 ^ 31 by omega) (show i < 2 ^ 31 by omega), hji]
        exact fw (Or.inr hji)
      · simp [nI_le_lit (show j < 2 ^ 31 by omega) (show i < 2 ^ 31 by omega), hji]
        exact bw rfl (by omega)
    · simp [nI_inj (show a < 2 ^ 31 by omega) (show b < 2 ^ 31 by omega), hq]
      exact fw (Or.inl hq)
  · refine h.rows ⟨fun q hq => ?_, fun q x hq hx => ?_⟩ rfl (fun c p1 p2 p3 => ?_) (fun y hy => ?_)
    · have := h.1.1 q hq
      simp [ms_if, mc_if, show ¬ (2 = 5 + b) by omega, show ¬ (3 = 5 + b) by omega, show ¬ (78 = 5 + b) by omega, show ¬ (79 = 5 + b) by omega]
      exact this
    · have e0 := h.1.2 q x hq hx
      simp only [ms_if, mc_if]
      simp only [if_neg (show ¬ (5 + q = 77 ∧ x = 3) by omega), if_neg (show ¬ (80 = 77 ∧ 40 * q + x = 3) by omega), if_neg (show ¬ (5 + q = 80 ∧ 40 * b + j ≤ x ∧ x < 40 * b + j + N) by omega), if_neg (show ¬ (5 + q = 0 ∧ x = 10) by omega), if_neg (show ¬ (80 = 0 ∧ 40 * q + x = 10) by omega), if_neg (show ¬ (80 = 5 + b ∧ j ≤ 40 * q + x ∧ 40 * q + x < j + N) by omega)]
      by_cases hc : q = b ∧ j ≤ x ∧ x < j + N
      · rw [if_pos (show 5 + q = 5 + b ∧ j ≤ x ∧ x < j + N by omega), if_pos (show True ∧ 40 * b + j ≤ 40 * q + x ∧ 40 * q + x < 40 * b + j + N from ⟨trivial, by omega, by omega⟩), if_neg (show ¬ (80 = 0 ∧ 40 * a + i + (40 * q + x - (40 * b + j)) = 10) by omega), if_neg (show ¬ (80 = 5 + b ∧ j ≤ 40 * a + i + (40 * q + x - (40 * b + j)) ∧ 40 * a + i + (40 * q + x - (40 * b + j)) < j + N) by omega)]
        have := h.1.2 a (i + (x - j)) ha (by omega)
        rw [this]
        congr 1; omega
      · rw [if_neg (show ¬ (5 + q = 5 + b ∧ j ≤ x ∧ x < j + N) by omega), if_neg (show ¬ (True ∧ 40 * b + j ≤ 40 * q + x ∧ 40 * q + x < 40 * b + j + N) from fun w => hc (by omega))]
        exact e0
    · funext y
      simp [pRow] at p1
      simp only [ms_if, mc_if]
      rw [if_neg (by omega), if_neg (by omega), if_neg (by omega), if_neg (by omega)]
    · simp only [ms_if, mc_if]
      rw [if_neg (by omega), if_neg (by omega), if_neg (by omega), if_neg (by omega)]
