/-! ===== feed, fault, status, trace, kind, reader, would, count, as, image, restore ===== -/
def BothP (σ : Mem) (c : Mem → Option Int32) (r : Mem → Option Int32) : Prop := ∃ y, c σ = some y ∧ r σ = some y
theorem inno {σ : Mem} {x : Int32} (a b : Int32) (h : x < a ∨ b < x) : f_X8_in σ x a b = some 0 := in_no h
theorem s_feed {σ : Mem} (h : Inv σ) (x : Int32) : Both σ (f_X7_feed x) (f_X8_feed x) := by
  by_cases h0 : x < 0
  · exact Both.same h (-1000001) (by simp [f_X7_feed, h0]) (by simp [f_X8_feed, inno 0 255 (Or.inl h0)])
  by_cases h1 : x ≤ 255
  rotate_left
  · have h2 : (255 : Int32) < x := by rw [i32_le] at h1; rw [i32_lt]; omega
    exact Both.same h (-1000001) (by simp [f_X7_feed, h0, h1]) (by simp [f_X8_feed, inno 0 255 (Or.inr h2)])
  have hin : ∀ τ, f_X8_in τ x 0 255 = some 1 := fun τ => in_yes h0 (fun q => by rw [i32_le] at h1; rw [i32_lt] at q; omega)
  obtain ⟨⟨k, hk, e1, e2⟩, eb, ef⟩ := h.2.2.1
  by_cases hf : k = 100
  · subst hf
    have n1 : ¬ (nI 100 < 100) := by decide
    have n2 : nI 100 = 100 := rfl
    exact Both.same h (-1000003) (by simp [f_X7_feed, h0, h1, f_X5_append, e1, n2]) (by simp [f_X8_feed, hin, e2, n2])
  have n1 : nI k < 100 := (nI_lt_lit (k := 100) (by omega) (by decide)).mpr (by omega)
  have n2 : ¬ nI k = 100 := fun q => hf ((nI_inj (b := 100) (by omega) (by decide)).mp q)
  have n3 := inL (inB_nI (show k < 100 by omega) (show 100 < 2 ^ 31 by decide))
  have n4 := tn_nI (show k < 2 ^ 31 by omega)
  refine ⟨nI (k + 1), mset (mset σ 14 k x) 13 1 (nI (k + 1)), mset (mset (mset (mset σ 14 k x) 13 1 (nI (k + 1))) 81 k x) 77 4 (nI (k + 1)), ?_, ?_, ?_⟩
  · simp [f_X7_feed, h0, h1, f_X5_append, e1, n1, n3, n4, ms_if, nI_1]
  · simp [f_X8_feed, hin, ms_if, e2, n2, n3, n4, nI_1]
  · obtain ⟨hR, hS, hT, hW, hI, hA, hC⟩ := h
    have sm : ∀ P : Nat → Bool, P 13 = false → P 14 = false → P 77 = false → P 81 = false → Same P σ (mset (mset (mset (mset σ 14 k x) 13 1 (nI (k + 1))) 81 k x) 77 4 (nI (k + 1))) := fun P a1 a2 a3 a4 => (((Same.ms a2).tr (Same.ms a1)).tr (Same.ms a4)).tr (Same.ms a3)
    refine ⟨hR.congr (sm _ rfl rfl rfl rfl), hS.congr rfl rfl, ?_, hW.congr (sm _ rfl rfl rfl rfl), hI.congr (sm _ rfl rfl rfl rfl), hA.congr (sm _ rfl rfl rfl rfl) rfl rfl rfl, hC.congr (sm _ rfl rfl rfl rfl) rfl rfl⟩
    refine ⟨⟨k + 1, by omega, rfl, rfl⟩, fun i hi => ?_, ef⟩
    simp only [ms_if]
    by_cases hik : i = k
    · simp [hik]
    · simp [hik, eb i hi]
theorem s_fault {σ : Mem} (h : Inv σ) : BothP σ f_X7_fault f_X8_fault := ⟨_, rfl, by unfold f_X8_fault; rw [h.2.2.1.2.2]⟩
theorem s_status {σ : Mem} (h : Inv σ) : BothP σ f_X7_status f_X8_status := ⟨_, rfl, by unfold f_X8_status; rw [← h.2.1]⟩
theorem lt_sub1 {x : Int32} {m : Nat} (hm : m < 2 ^ 30) : nI m - 1 < x ↔ nI m ≤ x := by
  have e1 : (nI m).toInt = m := nI_toInt (by omega)
  have z : (1 : Int32).toInt = 1 := rfl
  rw [i32_lt, i32_le, i32_sub (by rw [e1, z]; omega) (by rw [e1, z]; omega), e1, z]
  omega
theorem s_trace {σ : Mem} (h : Inv σ) (x : Int32) : BothP σ (fun σ => f_X7_trace σ x) (fun σ => f_X8_trace σ x) := by
  obtain ⟨k, hk, e1, e2, eb⟩ := h.2.2.2.2.2.2
  by_cases h0 : x < 0
  · exact ⟨-1000000, by simp [f_X7_trace, h0], by simp [f_X8_trace, in_no (σ := σ) (b := σ 77 20 - 1) (Or.inl h0)]⟩
  by_cases h1 : nI k ≤ x
  · exact ⟨-1000000, by simp [f_X7_trace, h0, e1, h1], by simp [f_X8_trace, e2, in_no (σ := σ) (a := 0) (Or.inr ((lt_sub1 (by omega)).mpr h1))]⟩
  have hy : f_X8_in σ x 0 (nI k - 1) = some 1 := in_yes h0 (fun q => h1 ((lt_sub1 (by omega)).mp q))
  obtain ⟨i, hi, rfl⟩ := ix_of (n := k) (by omega) h0 h1
  have n3 := inL (inB_nI (show i < 16 by omega) (show 16 < 2 ^ 31 by decide))
  have n4 := tn_nI (show i < 2 ^ 31 by omega)
  exact ⟨σ 88 i, by simp only [f_X7_trace, h0, e1, h1, n3, n4, if_true, if_false, eb i hi], by simp [f_X8_trace, e2, hy, n3, n4]⟩
theorem r_isOne {τ : Mem} {m : Nat} (hm : Mny (τ 82) m) (x : Int32) : f_X8_isOne τ x = some (b2i (if x < 0 then false else if τ 82 4 ≤ x then false else true)) := by
  have h6 := hm.1
  unfold f_X8_isOne
  rw [if_pos (by decide), tl4, r_in, Option.bind_some]
  have e : ∀ b : Bool, (if isBv (b2i b) = true then some (b2i b) else none) = some (b2i b) := fun b => by cases b <;> rfl
  rw [e]
  by_cases h : x < 0
  · simp [h]
  · by_cases h2 : τ 82 4 ≤ x
    · have := (lt_sub1 (x := x) (m := m) (by omega)).mpr (by rw [← hm.2]; exact h2)
      rw [← hm.2] at this
      simp [h, h2, this]
    · have : ¬ τ 82 4 - 1 < x := fun q => h2 (by rw [hm.2] at q ⊢; exact (lt_sub1 (by omega)).mp q)
      simp [h, h2, this]
/-- who is told: nobody, or a reader -/
theorem who {σ : Mem} (h : Inv σ) (x : Int32) : (f_X6_has σ 15 x = some 0 ∧ f_X8_isOne σ x = some 0 ∧ sCanX (σ 82) x = false) ∨ ∃ r m, Mny (σ 82) m ∧ r < m ∧ x = nI r ∧ f_X6_has σ 15 x = some 1 ∧ ∀ τ, τ 82 = σ 82 → f_X8_isOne τ x = some 1 := by
  obtain ⟨m, hm⟩ := h.many
  have h6 := hm.1
  have e1 := c_has (t := 15) rfl h.tw x
  by_cases h0 : x < 0
  · left; rw [e1, r_isOne hm]; simp [h0, b2i, sCanX]
  by_cases h1 : σ 82 4 ≤ x
  · left; rw [e1, r_isOne hm]; simp [h0, h1, b2i, sCanX]
  · right
    obtain ⟨r, hr, rfl⟩ := ix_of (n := m) (by omega) h0 (by rw [← hm.2]; exact h1)
    refine ⟨r, m, hm, hr, rfl, by rw [e1]; simp [h0, h1, b2i], fun τ hτ => ?_⟩
    rw [r_isOne (m := m) (by rw [hτ]; exact hm), hτ]
    simp [h0, h1, b2i]
theorem s_kind {σ : Mem} (h : Inv σ) (x : Int32) : BothP σ (fun σ => f_X7_kind σ x) (fun σ => f_X8_kind σ x) := by
  rcases who h x with ⟨e1, e2, -⟩ | ⟨r, m, hm, hr, rfl, e1, e2⟩
  · exact ⟨-1000001, by simp [f_X7_kind, e1], by simp [f_X8_kind, e2]⟩
  have h6 := hm.1
  have e3 := (twA h.tw hm hr).1
  exact ⟨σ 82 (9 + r), by simp [f_X7_kind, e1, inL (inB_nI (show r < 6 by omega) (show 6 < 2 ^ 31 by decide)), tn_nI (show r < 2 ^ 31 by omega)]; exact e3, by simp [f_X8_kind, e2 σ rfl, nI9, inL (inB_nI (show 9 + r < 33 by omega) (show 33 < 2 ^ 31 by decide)), tn_nI (show 9 + r < 2 ^ 31 by omega)]⟩
theorem s_reader {σ : Mem} (h : Inv σ) (x y : Int32) : BothP σ (fun σ => f_X7_reader σ x y) (fun σ => f_X8_reader σ x y) := by
  rcases who h x with ⟨e1, e2, -⟩ | ⟨r, m, hm, hr, rfl, e1, e2⟩
  · exact ⟨-1000001, by simp [f_X7_reader, e1], by simp [f_X8_reader, e2]⟩
  have h6 := hm.1
  obtain ⟨a1, a2, a3, a4⟩ := twA h.tw hm hr
  have b6 := inL (inB_nI (show r < 6 by omega) (show 6 < 2 ^ 31 by decide))
  have t6 := tn_nI (show r < 2 ^ 31 by omega)
  unfold BothP
  simp only [f_X7_reader, f_X8_reader, e1, e2 σ rfl, Option.bind_some, b6, t6, nI15, nI21, nI27, inL (inB_nI (show 15 + r < 33 by omega) (show 33 < 2 ^ 31 by decide)), inL (inB_nI (show 21 + r < 33 by omega) (show 33 < 2 ^ 31 by decide)), inL (inB_nI (show 27 + r < 33 by omega) (show 33 < 2 ^ 31 by decide)), tn_nI (show 15 + r < 2 ^ 31 by omega), tn_nI (show 21 + r < 2 ^ 31 by omega), tn_nI (show 27 + r < 2 ^ 31 by omega), if_true, c_hasRead (t := 15) rfl h.tw, c_canHave (t := 15) rfl h.tw hm, r_canBe a82 hm, inL (show inB 2 33 = true by decide), tl2, if_neg (show ¬ (1 : Int32) = 0 by decide)]
  by_cases y0 : y = 0
  · simp only [if_pos y0]; exact ⟨_, rfl, by rw [← a2]⟩
  by_cases y1 : y = 1
  · simp only [if_neg y0, if_pos y1]; exact ⟨_, rfl, by rw [← a3]⟩
  by_cases y2 : y = 2
  · simp only [if_neg y0, if_neg y1, if_pos y2]; exact ⟨_, rfl, by rw [← a4]⟩
  by_cases y3 : y = 3
  · simp only [if_neg y0, if_neg y1, if_neg y2, if_pos y3]
    rcases bit01 (σ 82 2 >>> (nI r &&& 31)) with q | q
    · simp [q, b2i]
    · simp [q, b2i]
  by_cases y4 : y = 4
  · simp only [if_neg y0, if_neg y1, if_neg y2, if_neg y3, if_pos y4]
    cases sCanX (σ 82) (nI r) <;> simp [b2i]
  · simp only [if_neg y0, if_neg y1, if_neg y2, if_neg y3, if_neg y4]; exact ⟨_, rfl, rfl⟩
theorem s_would {σ : Mem} {n : Nat} (h : Inv σ) (hn : 2000 ≤ n) (x y : Int32) : BothP σ (fun σ => f_X7_would n σ x y) (fun σ => f_X8_would n σ x y) := by
  rcases who h x with ⟨e1, e2, -⟩ | ⟨r, m, hm, hr, rfl, e1, e2⟩
  · exact ⟨-1000001, by simp [f_X7_would, e1], by simp [f_X8_would, e2]⟩
  have h6 := hm.1
  by_cases y0 : y < 0
  · exact ⟨-1000001, by simp [f_X7_would, e1, y0], by simp [f_X8_would, e2 σ rfl, inno 0 1 (Or.inl y0)]⟩
  by_cases y1 : y ≤ 1
  rotate_left
  · have h2 : (1 : Int32) < y := by rw [i32_le] at y1; rw [i32_lt]; omega
    exact ⟨-1000001, by simp [f_X7_would, e1, y0, y1], by simp [f_X8_would, e2 σ rfl, inno 0 1 (Or.inr h2)]⟩
  have hin : f_X8_in σ y 0 1 = some 1 := in_yes y0 (fun q => by rw [i32_le] at y1; rw [i32_lt] at q; omega)
  unfold BothP
  simp only [f_X7_would, f_X8_would, e1, e2 σ rfl, hin, y0, y1, c_canHave (t := 15) rfl h.tw hm, r_canBe a82 hm, c_comes (t := 15) rfl h.tw hm hr, r_comesTo a82 (show r < 6 by omega), c_brings (t := 15) rfl h.tw hm (show 100 ≤ n by omega) hr, r_bringsBy a82 hm (show 100 ≤ n by omega) hr, Option.bind_some, if_true, if_false, if_neg (show ¬ (1 : Int32) = 0 by decide)]
  by_cases q1 : b2i (sCanX (σ 82) (nI r)) = 0
  · simp only [if_pos q1]; exact ⟨_, rfl, rfl⟩
  by_cases q2 : y = 0
  · simp only [if_neg q1, if_pos q2]; exact ⟨_, rfl, rfl⟩
  · simp only [if_neg q1, if_neg q2]; exact ⟨_, rfl, rfl⟩
def cntR (σ : Mem) : Nat → Nat → Int32 → Int32
  | _, 0, acc => acc
  | i, k + 1, acc => cntR σ (i + 1) k (if σ 78 i = -1 then acc else acc + 1)
theorem c_howMany {σ : Mem} {n : Nat} (h : IRow σ) : ∀ (k i : Nat) (acc : Int32) (f : Nat), i + k = 8 → k < f → f_X2_howMany_l4 n σ f acc (nI i) = some (cntR σ i k acc) := by
  intro k
  induction k with
  | zero =>
    intro i acc f hi hf
    obtain ⟨f, rfl⟩ : ∃ f', f = f' + 1 := ⟨f - 1, by omega⟩
    show f_X2_howMany_b4 n σ _ acc (nI i) = _
    have e : i = 8 := by omega
    subst e
    rfl
  | succ k ih =>
    intro i acc f hi hf
    obtain ⟨f, rfl⟩ : ∃ f', f = f' + 1 := ⟨f - 1, by omega⟩
    show f_X2_howMany_b4 n σ (f_X2_howMany_l4 n σ f) acc (nI i) = _
    unfold f_X2_howMany_b4 f_X2_howMany_b21
    rw [if_neg (fun q => by have := (nI_le_lit (n := 8) (by omega) (by omega)).mp q; omega), c_missing (by omega), (h.1 i (by omega)).1, Option.bind_some, nI_1, cntR]
    by_cases q : σ 78 i = -1
    · rw [if_pos q, if_neg (by decide), if_pos q]
      exact ih (i + 1) _ f (by omega) (by omega)
    · rw [if_neg q, if_pos rfl, if_neg q]
      exact ih (i + 1) _ f (by omega) (by omega)
def cntA (σ : Mem) (rows x : Int32) : Int32 := if x = 0 then rows else if x = 1 then σ 82 4 else if x = 2 then σ 82 1 else if x = 3 then σ 82 0 else if x = 4 then σ 82 2 else if x = 5 then σ 82 3 else if x = 6 then σ 77 18 else if x = 7 then σ 77 4 else -1000001
theorem r_count {σ : Mem} {n : Nat} (h : IRow σ) (x : Int32) : ∀ (k i : Nat) (acc : Int32) (f : Nat), i + k = 8 → k < f → f_X8_count_l4 n σ f x acc (nI i) = some (cntA σ (cntR σ i k acc) x) := by
  intro k
  induction k with
  | zero =>
    intro i acc f hi hf
    obtain ⟨f, rfl⟩ : ∃ f', f = f' + 1 := ⟨f - 1, by omega⟩
    show f_X8_count_b4 n σ _ x acc (nI i) = _
    have e : i = 8 := by omega
    subst e
    unfold f_X8_count_b4 cntA
    rw [if_pos (by decide)]
    simp only [cntR, inL (show inB 4 33 = true by decide), inL (show inB 1 33 = true by decide), inL (show inB 0 33 = true by decide), inL (show inB 2 33 = true by decide), inL (show inB 3 33 = true by decide), if_true, tl0, tl1, tl2, tl3, tl4]
    repeat' split
    all_goals rfl
  | succ k ih =>
    intro i acc f hi hf
    obtain ⟨f, rfl⟩ : ∃ f', f = f' + 1 := ⟨f - 1, by omega⟩
    show f_X8_count_b4 n σ (f_X8_count_l4 n σ f) x acc (nI i) = _
    unfold f_X8_count_b4 f_X8_count_b25
    rw [if_neg (fun q => by have := (nI_le_lit (n := 8) (by omega) (by omega)).mp q; omega), if_pos (inB_nI (by omega) (by decide)), tn_nI (by omega), nI_1, cntR]
    rcases lane_cases (h.1 i (by omega)).2.2.1 with q | ⟨q1, q2, q3⟩
    · rw [if_neg (by rw [q]; decide), if_pos q, Option.bind_some, Int32.add_zero]
      exact ih (i + 1) _ f (by omega) (by omega)
    · rw [if_pos q3, if_neg q1, Option.bind_some]
      exact ih (i + 1) _ f (by omega) (by omega)
theorem s_count {σ : Mem} {n : Nat} (h : Inv σ) (hn : 2000 ≤ n) (x : Int32) : BothP σ (fun σ => f_X7_count n σ x) (fun σ => f_X8_count n σ x) := by
  refine ⟨cntA σ (cntR σ 0 8 0) x, ?_, r_count h.1 x 8 0 0 n (by omega) (by omega)⟩
  have e := c_howMany (n := n) h.1 8 0 0 n (by omega) (by omega)
  have e2 : f_X2_howMany n σ = some (cntR σ 0 8 0) := e
  obtain ⟨⟨a1, a2, a3, a4, a5, a6, a7, a8, a9⟩, -⟩ := h.tw
  obtain ⟨o, k, -, -, -, k1, k2, -⟩ := h.2.2.2.2.2.1
  obtain ⟨⟨l, -, l1, l2⟩, -⟩ := h.2.2.1
  simp only [f_X7_count, e2, Option.bind_some]
  unfold cntA
  rw [a5, a7, a6, a8, a9, k1, l1, k2, l2]
  repeat' split
  all_goals rfl

def kindOf (s k : Nat) : Bool := k == 0 || s == k || (k == 1 && (s == 2 || s == 3)) || (k == 4 && s == 5)
theorem c_isOfKind {σ : Mem} {n s k : Nat} (hn : 20 ≤ n) (h1 : 1 ≤ s) (h5 : s ≤ 5) (hk : k ≤ 5) : f_X7_isOfKind n σ (nI s) (nI k) = some (b2i (kindOf s k)) := by
  obtain ⟨n, rfl⟩ : ∃ n', n = n' + 10 := ⟨n - 10, by omega⟩
  rcases (show s = 1 ∨ s = 2 ∨ s = 3 ∨ s = 4 ∨ s = 5 by omega) with rfl | rfl | rfl | rfl | rfl <;> rcases (show k = 0 ∨ k = 1 ∨ k = 2 ∨ k = 3 ∨ k = 4 ∨ k = 5 by omega) with rfl | rfl | rfl | rfl | rfl | rfl <;> rfl
theorem btw15 {x : Int32} (h : Btw x 1 5) : ∃ s, 1 ≤ s ∧ s ≤ 5 ∧ x = nI s := by
  obtain ⟨h1, h2⟩ := h
  obtain ⟨j, hj, rfl⟩ := nI_of (x := x) (by rw [i32_lt]; show ¬ x.toInt < 0; omega)
  rw [nI_toInt hj] at h1 h2
  exact ⟨j, by omega, by omega, rfl⟩
theorem Okt.sort {g : Nat → Int32} {m r : Nat} (hO : Okt g) (hm : Mny g m) (hr : r < m) : ∃ s, 1 ≤ s ∧ s ≤ 5 ∧ g (9 + r) = nI s :=
  btw15 (hO.2.2.2.2.2.2 r (Nat.lt_of_lt_of_le hr hm.1) (by rw [hm.2]; exact nI_lt hr (by have := hm.1; omega))).2.2.2
theorem r_as_key {ρ : Mem} {x : Int32} {s k : Nat} (h1 : 1 ≤ s) (h5 : s ≤ 5) (hk : k ≤ 5) : (if nI k = 0 then f_X8_as_b47 x ρ else if nI s = nI k then f_X8_as_b47 x ρ else (f_X8_parentOf ρ (nI s)).bind fun y8 => if y8 = nI k then f_X8_as_b47 x ρ else f_X8_as_b52 x 0 ρ) = f_X8_as_b52 x (b2i (kindOf s k)) ρ := by
  rcases (show s = 1 ∨ s = 2 ∨ s = 3 ∨ s = 4 ∨ s = 5 by omega) with rfl | rfl | rfl | rfl | rfl <;> rcases (show k = 0 ∨ k = 1 ∨ k = 2 ∨ k = 3 ∨ k = 4 ∨ k = 5 by omega) with rfl | rfl | rfl | rfl | rfl | rfl <;> simp [nI, kindOf, b2i, f_X8_parentOf, f_X8_parentOf_b10, f_X8_as_b47]
theorem s_as {σ : Mem} {n : Nat} (h : Inv σ) (hn : 2000 ≤ n) (x y : Int32) : Both σ (f_X7_as n x y) (f_X8_as x y) := by
  rcases who h x with ⟨e1, e2, -⟩ | ⟨r, m, hm, hr, rfl, e1, e2⟩
  · exact Both.same h (-1000001) (by simp [f_X7_as, e1]) (by simp [f_X8_as, e2])
  have h6 := hm.1
  by_cases y0 : y < 0
  · exact Both.same h (-1000001) (by simp [f_X7_as, e1, y0]) (by simp [f_X8_as, e2 σ rfl, inno 0 5 (Or.inl y0)])
  by_cases y1 : nI 6 ≤ y
  · have y2 : ¬ y < 6 := by rw [i32_le] at y1; rw [i32_lt]; show ¬ _ < (nI 6).toInt; omega
    exact Both.same h (-1000001) (by simp [f_X7_as, e1, y0, y2]) (by simp [f_X8_as, e2 σ rfl, inno 0 5 (Or.inr ((lt_le y (k := 5) (by decide)).mpr y1))])
  have y2 : y < 6 := by rw [i32_le] at y1; rw [i32_lt]; show _ < (nI 6).toInt; omega
  have hin : ∀ τ, f_X8_in τ y 0 5 = some 1 := fun τ => in_yes y0 (fun q => y1 ((lt_le y (k := 5) (by decide)).mp q))
  obtain ⟨k, hk, rfl⟩ := ix_of (n := 6) (by decide) y0 y1
  obtain ⟨s, hs1, hs5, hs⟩ := h.2.2.2.1.1.sort hm hr
  have c1 : f_X7_isOfKind n σ (σ 16 r) (nI k) = some (b2i (kindOf s k)) := by
    rw [(twA h.tw hm hr).1, hs]; exact c_isOfKind (by omega) hs1 hs5 (by omega)
  have b6 := inL (inB_nI (show r < 6 by omega) (show 6 < 2 ^ 31 by decide))
  have t6 := tn_nI (show r < 2 ^ 31 by omega)
  have b9 := inL (inB_nI (show 9 + r < 33 by omega) (show 33 < 2 ^ 31 by decide))
  have t9 := tn_nI (show 9 + r < 2 ^ 31 by omega)
  have key : ∀ ρ : Mem, ρ 82 = σ 82 → f_X8_as (nI r) (nI k) ρ = (f_X8_as_b52 (nI r) (b2i (kindOf s k)) ρ) := by
    intro ρ hρ
    rw [← r_as_key hs1 hs5 (show k ≤ 5 by omega)]
    simp only [f_X8_as, e2 ρ hρ, hin, Option.bind_some, nI9, b9, t9, if_true, hρ, hs, if_neg (show ¬ (1 : Int32) = 0 by decide)]
  cases hb : kindOf s k with
  | false =>
    refine ⟨(-1000010) - 3, mset σ 0 10 3, _, ?_, ?_, fnd_inv h 3⟩
    · simp [f_X7_as, e1, y0, y2, b6, t6, c1, hb, b2i, c_found, c_nothing]
    · rw [key _ (by rfl), hb]; simp [f_X8_as_b52, b2i, r_finds, r_done]
  | true =>
    refine ⟨nI r, mset σ 0 10 0, _, ?_, ?_, fnd_inv h 0⟩
    · simp [f_X7_as, e1, y0, y2, b6, t6, c1, hb, b2i, c_found, c_nothing]
    · rw [key _ (by rfl), hb]; simp [f_X8_as_b52, b2i, r_finds, r_done]
/-! towns taken over -/
theorem town_cases {t : Nat} (h : isTown t = true) : t = 15 ∨ t = 20 ∨ t = 25 ∨ t = 30 ∨ t = 62 := by
  simp only [isTown, Bool.or_eq_true, beq_iff_eq] at h
  omega
theorem c_takeOver {σ : Mem} {t x : Nat} (ht : isTown t = true) (hx : isTown x = true) (htx : t ≠ x) (hb : isBv (σ x 0) = true) : ∃ τ, f_X6_takeOver t x σ = some τ ∧ (∀ g, TwR σ x g → TwR τ t g) ∧ τ t 0 = σ x 0 ∧ ∀ a, (a < t ∨ t + 5 ≤ a) → τ a = σ a := by
  have ap : t + 5 ≤ x ∨ x + 5 ≤ t := by
    rcases town_cases ht with rfl | rfl | rfl | rfl | rfl <;> rcases town_cases hx with rfl | rfl | rfl | rfl | rfl <;> omega
  have ok : okCopy 6 6 0 0 6 = true := by decide
  refine ⟨_, by unfold f_X6_takeOver; simp only [if_pos hx, if_pos ht, if_pos hb, eq_true ok, if_true, Option.bind_some, tl0, tl6, c_copyStands ht]; rfl, ?_⟩
  have n0 : t ≠ x := htx
  refine ⟨fun g hg => ?_, ?_, fun a ha => ?_⟩
  · obtain ⟨⟨a1, a2, a3, a4, a5, a6, a7, a8, a9⟩, b⟩ := hg
    have e1 : ∀ j, j ≤ 4 ∨ 9 ≤ j → (fun ρ : Mem => ρ x j) σ = σ x j := fun _ _ => rfl
    refine ⟨?_, fun r hr hlt => ?_⟩
    · simp only [cStands_if, mc_if, ms_if]
      simp [show ¬ (x = t) by omega, show ¬ (t = t + 4) by omega, show ¬ (t = t + 3) by omega, show ¬ (t = t + 2) by omega, show ¬ (t = t + 1) by omega, show ¬ (x = t + 4) by omega, show ¬ (x = t + 3) by omega, show ¬ (x = t + 2) by omega, show ¬ (x = t + 1) by omega, a1, a2, a3, a4, a5, a6, a7, a8, a9]
    · obtain ⟨b1, b2, b3, b4⟩ := b r hr hlt
      rw [cStands_ne (by omega), cStands_ne (by omega), cStands_ne (by omega), cStands_ne (by omega)]
      simp only [mc_if, ms_if]
      simp [hr, show ¬ (x + 1 = t) by omega, show ¬ (x + 2 = t) by omega, show ¬ (x + 3 = t) by omega, show ¬ (x + 4 = t) by omega, show ¬ (x + 1 = t + 1) by omega, show ¬ (x + 2 = t + 1) by omega, show ¬ (x + 3 = t + 1) by omega, show ¬ (x + 4 = t + 1) by omega, show ¬ (x + 2 = t + 2) by omega, show ¬ (x + 3 = t + 2) by omega, show ¬ (x + 4 = t + 2) by omega, show ¬ (x + 3 = t + 3) by omega, show ¬ (x + 4 = t + 3) by omega, b1, b2, b3, b4]
  · simp only [cStands_if, mc_if, ms_if]
    simp [show ¬ (t = t + 4) by omega, show ¬ (t = t + 3) by omega, show ¬ (t = t + 2) by omega, show ¬ (t = t + 1) by omega]
  · rw [cStands_ne (by omega), mcpy_ne a (by omega), mcpy_ne a (by omega), mcpy_ne a (by omega), mcpy_ne a (by omega), ms_cell (by omega), ms_cell (by omega), ms_cell (by omega), ms_cell (by omega), ms_cell (by omega)]
