/-! ===== rows of readers: all of them, in the class's order and in the reference's ===== -/
def wA (am : Nat → Bool) : List Nat → (Nat → Int32) → Option (Nat → Int32)
  | [], g => some g
  | r :: w, g => if (am r && sCan g r) = true then wA am w (sGive g r) else none
abbrev Row : Type := List Nat × (Nat → Int32)
/-- depth first, smaller numbers first, f more at most -/
def Dl (am : Nat → Bool) (m : Nat) : Nat → (Nat → Int32) → List Nat → List Row
  | 0, g, p => [(p, g)]
  | f + 1, g, p => (p, g) :: (List.range m).flatMap fun r => if (am r && sCan g r) = true then Dl am m f (sGive g r) (p ++ [r]) else []
/-- those that are k longer -/
def Wl (am : Nat → Bool) (m : Nat) : Nat → (Nat → Int32) → List Nat → List Row
  | 0, g, p => [(p, g)]
  | k + 1, g, p => (List.range m).flatMap fun r => if (am r && sCan g r) = true then Wl am m k (sGive g r) (p ++ [r]) else []
def wds (m : Nat) : Nat → List (List Nat)
  | 0 => [[]]
  | k + 1 => (List.range m).flatMap fun r => (wds m k).map fun w => r :: w
/-- the k digits of a code -/
def dgs (m : Nat) : Nat → Nat → List Nat
  | 0, _ => []
  | k + 1, c => dgs m k (c / m) ++ [c % m]
section COMB
variable {am : Nat → Bool} {m : Nat}
theorem Dl_len : ∀ (f : Nat) (g : Nat → Int32) (p : List Nat) (x : Row), x ∈ Dl am m f g p → p.length ≤ x.1.length := by
  intro f
  induction f with
  | zero => intro g p x hx; rw [Dl, List.mem_singleton] at hx; rw [hx]; exact Nat.le_refl _
  | succ f ih =>
    intro g p x hx
    rw [Dl, List.mem_cons] at hx
    rcases hx with rfl | hx
    · exact Nat.le_refl _
    · obtain ⟨r, -, h2⟩ := List.mem_flatMap.mp hx
      by_cases q : (am r && sCan g r) = true
      · rw [if_pos q] at h2
        have := ih _ _ _ h2
        simp at this; omega
      · rw [if_neg q] at h2; cases h2
theorem Dl_filter : ∀ (f k : Nat) (g : Nat → Int32) (p : List Nat), k ≤ f → (Dl am m f g p).filter (fun x => x.1.length == p.length + k) = Wl am m k g p := by
  intro f
  induction f with
  | zero =>
    intro k g p hk
    obtain rfl : k = 0 := by omega
    simp [Dl, Wl]
  | succ f ih =>
    intro k g p hk
    cases k with
    | zero =>
      rw [Dl, Wl, List.filter_cons, if_pos (by simp)]
      congr 1
      rw [List.filter_eq_nil_iff]
      intro x hx
      obtain ⟨r, -, h2⟩ := List.mem_flatMap.mp hx
      by_cases q : (am r && sCan g r) = true
      · rw [if_pos q] at h2
        have := Dl_len _ _ _ _ h2
        simp at this ⊢; omega
      · rw [if_neg q] at h2; cases h2
    | succ k =>
      rw [Dl, Wl, List.filter_cons, if_neg (by simp), List.filter_flatMap]
      congr 1
      funext r
      by_cases q : (am r && sCan g r) = true
      · rw [if_pos q, if_pos q, ← ih k (sGive g r) (p ++ [r]) (by omega)]
        congr 1
        funext x
        rw [show (p ++ [r]).length + k = p.length + (k + 1) by simp; omega]
      · rw [if_neg q, if_neg q]; rfl
theorem Wl_wds : ∀ (k : Nat) (g : Nat → Int32) (p : List Nat), Wl am m k g p = (wds m k).filterMap fun w => (wA am w g).map fun g' => (p ++ w, g') := by
  intro k
  induction k with
  | zero => intro g p; simp [Wl, wds, wA]
  | succ k ih =>
    intro g p
    rw [Wl, wds, List.filterMap_flatMap]
    congr 1
    funext r
    rw [List.filterMap_map]
    by_cases q : (am r && sCan g r) = true
    · rw [if_pos q, ih]
      congr 1
      funext w
      simp only [Function.comp, wA, if_pos q, List.append_assoc, List.singleton_append]
    · rw [if_neg q]
      symm
      rw [List.filterMap_eq_nil_iff]
      intro w _
      simp only [Function.comp, wA, if_neg q]
      rfl
theorem Wl_mem {k : Nat} {g : Nat → Int32} {x : Row} (h : x ∈ Wl am m k g []) : x.1 ∈ wds m k ∧ wA am x.1 g = some x.2 := by
  rw [Wl_wds, List.mem_filterMap] at h
  obtain ⟨w, h1, h2⟩ := h
  cases hw : wA am w g with
  | none => rw [hw] at h2; cases h2
  | some g' =>
    rw [hw] at h2
    cases h2
    exact ⟨h1, hw⟩
theorem wds_len : ∀ (k : Nat) (w : List Nat), w ∈ wds m k → w.length = k ∧ ∀ r ∈ w, r < m := by
  intro k
  induction k with
  | zero => intro w hw; rw [wds, List.mem_singleton] at hw; subst hw; exact ⟨rfl, fun r hr => by cases hr⟩
  | succ k ih =>
    intro w hw
    rw [wds] at hw
    obtain ⟨r, h1, h2⟩ := List.mem_flatMap.mp hw
    obtain ⟨w', h3, rfl⟩ := List.mem_map.mp h2
    obtain ⟨a, b⟩ := ih w' h3
    refine ⟨by simp [a], fun q hq => ?_⟩
    rcases List.mem_cons.mp hq with rfl | hq
    · exact List.mem_range.mp h1
    · exact b q hq
theorem range_mul (b : Nat) : ∀ a, List.range (a * b) = (List.range a).flatMap fun i => (List.range b).map fun j => i * b + j := by
  intro a
  induction a with
  | zero => simp
  | succ a ih =>
    rw [Nat.succ_mul, List.range_add, List.range_succ, List.flatMap_append, ih, List.flatMap_singleton]
theorem wds_snoc : ∀ (k : Nat), wds m (k + 1) = (wds m k).flatMap fun w => (List.range m).map fun r => w ++ [r] := by
  intro k
  induction k with
  | zero =>
    simp only [wds, List.map_cons, List.map_nil, List.flatMap_singleton, List.nil_append]
    induction (List.range m) with
    | nil => rfl
    | cons a l ih => rw [List.flatMap_cons, ih]; rfl
  | succ k ih =>
    have e1 : wds m (k + 1 + 1) = (List.range m).flatMap fun r => ((wds m k).flatMap fun w => (List.range m).map fun r => w ++ [r]).map fun w => r :: w := by rw [← ih]; rfl
    have e2 : (wds m (k + 1)).flatMap (fun w => (List.range m).map fun r => w ++ [r]) = ((List.range m).flatMap fun r => (wds m k).map fun w => r :: w).flatMap (fun w => (List.range m).map fun r => w ++ [r]) := rfl
    rw [e1, e2, List.flatMap_assoc]
    congr 1
    funext r
    rw [List.map_flatMap, List.flatMap_map]
    congr 1
    funext w
    rw [List.map_map]
    rfl
theorem dgs_all (hm : 0 < m) : ∀ (k : Nat), (List.range (m ^ k)).map (dgs m k) = wds m k := by
  intro k
  induction k with
  | zero => rfl
  | succ k ih =>
    rw [wds_snoc, Nat.pow_succ, range_mul, List.map_flatMap, ← ih, List.flatMap_map]
    congr 1
    funext i
    rw [List.map_map]
    apply List.map_congr_left
    intro j hj
    have hj := List.mem_range.mp hj
    simp only [Function.comp, dgs]
    rw [show (i * m + j) / m = i by rw [Nat.add_comm, Nat.add_mul_div_right _ _ hm, Nat.div_eq_of_lt hj, Nat.zero_add], show (i * m + j) % m = j by rw [Nat.add_comm, Nat.add_mul_mod_self_right, Nat.mod_eq_of_lt hj]]
/-- the fold over codes is the fold over the rows that go -/
def rfold {β : Type} (stp : β → List Nat → β) (m n : Nat) : Nat → Nat → β → β
  | 0, _, b => b
  | k + 1, c, b => rfold stp m n k (c + 1) (stp b (dgs m n c))
theorem rfold_eq {β : Type} {stp : β → List Nat → β} {n : Nat} : ∀ (k c : Nat) (b : β), rfold stp m n k c b = ((List.range' c k).map (dgs m n)).foldl stp b := by
  intro k
  induction k with
  | zero => intro c b; rfl
  | succ k ih =>
    intro c b
    rw [rfold, ih, List.range'_succ]
    rfl
theorem rfold_all {β : Type} {stp : β → List Nat → β} (hm : 0 < m) (n : Nat) (b : β) : rfold stp m n (m ^ n) 0 b = (wds m n).foldl stp b := by
  rw [rfold_eq, ← List.range_eq_range', dgs_all hm]
theorem fold_Wl {β : Type} {step : β → List Nat → (Nat → Int32) → β} {g : Nat → Int32} (n : Nat) (b : β) : (wds m n).foldl (fun b w => match wA am w g with | some g' => step b w g' | none => b) b = (Wl am m n g []).foldl (fun b x => step b x.1 x.2) b := by
  rw [Wl_wds, List.foldl_filterMap]
  congr 1
  funext b w
  cases wA am w g <;> rfl
/-! sets of readers as numbers below 64 -/
def cnt (s : Nat) : Nat := (if s.testBit 0 then 1 else 0) + (if s.testBit 1 then 1 else 0) + (if s.testBit 2 then 1 else 0) + (if s.testBit 3 then 1 else 0) + (if s.testBit 4 then 1 else 0) + (if s.testBit 5 then 1 else 0)
def setN : List Nat → Nat
  | [] => 0
  | r :: w => 2 ^ r ||| setN w
end COMB
theorem cnt_add : ∀ s, s < 64 → ∀ r, r < 6 → s.testBit r = false → cnt (2 ^ r ||| s) = cnt s + 1 := by decide +kernel
theorem cnt_le : ∀ m, m ≤ 6 → ∀ s, s < 2 ^ m → cnt s ≤ m := by
  have : ∀ m, m < 7 → ∀ s, s < 64 → s < 2 ^ m → cnt s ≤ m := by decide +kernel
  intro m hm s hs
  exact this m (by omega) s (Nat.lt_of_lt_of_le hs (Nat.pow_le_pow_right (by decide) hm)) hs
theorem cnt_eq : ∀ s, s < 64 → ∀ t, t < 64 → s &&& t = s → cnt s = cnt t → s = t := by decide +kernel
theorem or_lt64 {a b : Nat} (ha : a < 64) (hb : b < 64) : a ||| b < 64 := Nat.or_lt_two_pow (n := 6) ha hb
theorem nI_or : ∀ a, a < 64 → ∀ b, b < 64 → nI a ||| nI b = nI (a ||| b) := by decide +kernel
theorem nI_and : ∀ a, a < 64 → ∀ b, b < 64 → nI a &&& nI b = nI (a &&& b) := by decide +kernel
theorem nI_bit : ∀ r, r < 6 → (1 : Int32) <<< (nI r &&& 31) = nI (2 ^ r) := by decide +kernel
theorem nI_test : ∀ s, s < 64 → ∀ r, r < 6 → (((nI s >>> (nI r &&& 31)) &&& 1 = 0) ↔ s.testBit r = false) := by decide +kernel
theorem pow_lt64 {r : Nat} (h : r < 6) : 2 ^ r < 64 := by
  rcases (show r = 0 ∨ r = 1 ∨ r = 2 ∨ r = 3 ∨ r = 4 ∨ r = 5 by omega) with rfl | rfl | rfl | rfl | rfl | rfl <;> decide
theorem setN_lt {w : List Nat} : (∀ r ∈ w, r < 6) → setN w < 64 := by
  induction w with
  | nil => intro _; decide
  | cons a l ih =>
    intro h
    exact or_lt64 (pow_lt64 (h a List.mem_cons_self)) (ih fun r hr => h r (List.mem_cons_of_mem _ hr))
theorem bit_or {x y : Int32} {k : Int32} : ((x ||| y) >>> k) &&& 1 = 0 ↔ (x >>> k) &&& 1 = 0 ∧ (y >>> k) &&& 1 = 0 := by
  have d : ∀ a b : Int32, (a ||| b) &&& 1 = (a &&& 1) ||| (b &&& 1) := fun a b => by
    apply Int32.toBitVec_inj.mp
    simp only [Int32.toBitVec_and, Int32.toBitVec_or]
    ext i
    simp only [BitVec.getElem_and, BitVec.getElem_or]
    exact Bool.and_or_distrib_right _ _ _
  rw [Int32.shiftRight_or, d, Int32.or_eq_zero_iff]
