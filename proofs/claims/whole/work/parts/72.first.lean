/-! ===== the first best of a list ===== -/
section FIRST
variable {e0 : Int32}
def vR (e0 : Int32) (x : Row) : Int32 := x.2 3 - e0
def csR (e0 : Int32) (b x : Row) : Row := if vR e0 b < vR e0 x ∨ (vR e0 x = vR e0 b ∧ x.1.length < b.1.length) then x else b
def rsR (e0 : Int32) (b x : Row) : Row := if vR e0 b < vR e0 x then x else b
/-- a stands behind b for good; a isn't better than b -/
def wrs (e0 : Int32) (a b : Row) : Prop := vR e0 a < vR e0 b ∨ (vR e0 a = vR e0 b ∧ b.1.length < a.1.length)
def nbt (e0 : Int32) (a b : Row) : Prop := ¬ (vR e0 b < vR e0 a ∨ (vR e0 a = vR e0 b ∧ a.1.length < b.1.length))
theorem first_cs : ∀ (D A B : List Row) (b : Row), (∀ a ∈ A, wrs e0 a b) → (∀ a ∈ B, nbt e0 a b) → ∃ A' B', A ++ b :: B ++ D = A' ++ D.foldl (csR e0) b :: B' ∧ (∀ a ∈ A', wrs e0 a (D.foldl (csR e0) b)) ∧ ∀ a ∈ B', nbt e0 a (D.foldl (csR e0) b) := by
  intro D
  induction D with
  | nil => intro A B b hA hB; exact ⟨A, B, by simp, hA, hB⟩
  | cons x D ih =>
    intro A B b hA hB
    rw [List.foldl_cons]
    by_cases q : vR e0 b < vR e0 x ∨ (vR e0 x = vR e0 b ∧ x.1.length < b.1.length)
    · have ex : csR e0 b x = x := if_pos q
      rw [ex]
      obtain ⟨A', B', h1, h2, h3⟩ := ih (A ++ b :: B) [] x (fun a ha => by
        unfold wrs
        rw [i32_lt, i32_eq] at q ⊢
        rcases List.mem_append.mp ha with h | h
        · have := hA a h
          unfold wrs at this
          rw [i32_lt, i32_eq] at this
          omega
        · rcases List.mem_cons.mp h with rfl | h
          · omega
          · have := hB a h
            unfold nbt at this
            rw [i32_lt, i32_eq] at this
            omega) (fun a ha => by cases ha)
      exact ⟨A', B', by rw [← h1]; simp, h2, h3⟩
    · have ex : csR e0 b x = b := if_neg q
      rw [ex]
      obtain ⟨A', B', h1, h2, h3⟩ := ih A (B ++ [x]) b hA (fun a ha => by
        rcases List.mem_append.mp ha with h | h
        · exact hB a h
        · rw [List.mem_singleton] at h; subst h; exact q)
      exact ⟨A', B', by rw [← h1]; simp, h2, h3⟩
theorem rs_stay {b : Row} : ∀ (Y : List Row), (∀ y ∈ Y, ¬ vR e0 b < vR e0 y) → Y.foldl (rsR e0) b = b := by
  intro Y
  induction Y with
  | nil => intro _; rfl
  | cons y Y ih =>
    intro h
    rw [List.foldl_cons]
    have e : rsR e0 b y = b := by unfold rsR; rw [if_neg (h y List.mem_cons_self)]
    rw [e]
    exact ih fun z hz => h z (List.mem_cons_of_mem _ hz)
theorem rs_low {b : Row} : ∀ (X : List Row) (c : Row), vR e0 c < vR e0 b → (∀ x ∈ X, vR e0 x < vR e0 b) → vR e0 (X.foldl (rsR e0) c) < vR e0 b := by
  intro X
  induction X with
  | nil => intro c hc _; exact hc
  | cons x X ih =>
    intro c hc h
    rw [List.foldl_cons]
    refine ih _ ?_ fun z hz => h z (List.mem_cons_of_mem _ hz)
    unfold rsR
    by_cases q : vR e0 c < vR e0 x
    · rw [if_pos q]; exact h x List.mem_cons_self
    · rw [if_neg q]; exact hc
theorem first_rs {x0 b : Row} {R X Y : List Row} (h : x0 :: R = X ++ b :: Y) (hX : ∀ x ∈ X, vR e0 x < vR e0 b) (hY : ∀ y ∈ Y, ¬ vR e0 b < vR e0 y) : R.foldl (rsR e0) x0 = b := by
  cases X with
  | nil =>
    rw [List.nil_append] at h
    obtain ⟨rfl, rfl⟩ := List.cons.inj h
    exact rs_stay R hY
  | cons x X =>
    rw [List.cons_append] at h
    obtain ⟨rfl, rfl⟩ := List.cons.inj h
    have low := rs_low (e0 := e0) (b := b) X x0 (hX x0 List.mem_cons_self) fun z hz => hX z (List.mem_cons_of_mem _ hz)
    rw [List.foldl_append, List.foldl_cons]
    have e : rsR e0 (X.foldl (rsR e0) x0) b = b := if_pos low
    rw [e]
    exact rs_stay Y hY
end FIRST
theorem setN_test {r : Nat} : ∀ (w : List Nat), (setN w).testBit r = decide (r ∈ w) := by
  intro w
  induction w with
  | nil => simp [setN]
  | cons a w ih =>
    rw [setN, Nat.testBit_or, ih, Nat.testBit_two_pow]
    by_cases q : a = r
    · simp [q]
    · simp [q, Ne.symm q]
theorem setN_snoc {r : Nat} : ∀ (w : List Nat), setN (w ++ [r]) = setN w ||| 2 ^ r := by
  intro w
  induction w with
  | nil => simp [setN]
  | cons a w ih => rw [List.cons_append, setN, ih, setN, Nat.or_assoc]
theorem setN_pow {m : Nat} : ∀ (w : List Nat), (∀ r ∈ w, r < m) → setN w < 2 ^ m := by
  intro w
  induction w with
  | nil => intro _; exact Nat.two_pow_pos m
  | cons a w ih =>
    intro h
    exact Nat.or_lt_two_pow (Nat.pow_lt_pow_right (by decide) (h a List.mem_cons_self)) (ih fun r hr => h r (List.mem_cons_of_mem _ hr))
theorem sCan_bit {g : Nat → Int32} {r : Nat} (h : sCan g r = true) : (g 2 >>> (nI r &&& 31)) &&& 1 = 0 := by
  unfold sCan at h
  rw [Bool.and_eq_true] at h
  exact of_decide_eq_true h.1
theorem wA_read {am : Nat → Bool} : ∀ (w : List Nat) (g g' : Nat → Int32), (∀ r ∈ w, r < 6) → wA am w g = some g' → (∀ r ∈ w, (g 2 >>> (nI r &&& 31)) &&& 1 = 0) ∧ cnt (setN w) = w.length ∧ g' 2 = g 2 ||| nI (setN w) := by
  intro w
  induction w with
  | nil =>
    intro g g' _ h
    cases h
    exact ⟨fun r hr => absurd hr List.not_mem_nil, rfl, by show g 2 = g 2 ||| 0; rw [Int32.or_zero]⟩
  | cons r w ih =>
    intro g g' hw h
    have hr6 : r < 6 := hw r List.mem_cons_self
    have hw' : ∀ q ∈ w, q < 6 := fun q hq => hw q (List.mem_cons_of_mem _ hq)
    rw [wA] at h
    by_cases q : (am r && sCan g r) = true
    · rw [if_pos q] at h
      have hc : sCan g r = true := by rw [Bool.and_eq_true] at q; exact q.2
      obtain ⟨a1, a2, a3⟩ := ih _ _ hw' h
      have e2 : sGive g r 2 = g 2 ||| nI (2 ^ r) := by
        show g 2 ||| (1 <<< (nI r &&& 31)) = _
        rw [nI_bit r hr6]
      have b1 := sCan_bit hc
      have nr : r ∉ w := by
        intro hmem
        have := a1 r hmem
        rw [e2, bit_or] at this
        have t := (nI_test (2 ^ r) (pow_lt64 hr6) r hr6).mp this.2
        rw [Nat.testBit_two_pow] at t
        simp at t
      refine ⟨fun x hx => ?_, ?_, ?_⟩
      · rcases List.mem_cons.mp hx with rfl | hx
        · exact b1
        · have := a1 x hx
          rw [e2, bit_or] at this
          exact this.1
      · rw [setN, cnt_add (setN w) (setN_lt hw') r hr6 (by rw [setN_test]; simp [nr]), a2, List.length_cons]
      · rw [a3, e2, setN, Int32.or_assoc, nI_or _ (pow_lt64 hr6) _ (setN_lt hw')]
    · rw [if_neg q] at h; cases h
theorem wlk_wA {m : Nat} : ∀ (w : List Nat) (g : Nat → Int32), Mny g m → (∀ r ∈ w, r < m) → wlk (w.map nI) g = wA (amAll m) w g := by
  intro w
  induction w with
  | nil => intro g _ _; rfl
  | cons r w ih =>
    intro g hm hw
    have h6 := hm.1
    have hr : r < m := hw r List.mem_cons_self
    rw [List.map_cons, wlk, wA, canX_nI hm hr, tn_nI (by omega), ih _ hm.give fun q hq => hw q (List.mem_cons_of_mem _ hq)]
    have : amAll m r = true := decide_eq_true hr
    rw [this, Bool.true_and]
/-- the best row, depth first, is the first best of the rows by their lengths -/
theorem best_same {m : Nat} {g : Nat → Int32} (hm : m ≤ 6) : ∃ D', Dl (amAll m) m 6 g [] = ([], g) :: D' ∧ D'.foldl (csR (g 3)) ([], g) = ((List.range' 1 m).flatMap fun k => Wl (amAll m) m k g []).foldl (rsR (g 3)) ([], g) := by
  refine ⟨_, rfl, ?_⟩
  generalize hD' : (List.flatMap (fun r => if (amAll m r && sCan g r) = true then Dl (amAll m) m 5 (sGive g r) ([] ++ [r]) else []) (List.range m)) = D'
  have hD : Dl (amAll m) m 6 g [] = ([], g) :: D' := by rw [← hD']; rfl
  obtain ⟨A, B, h1, h2, h3⟩ := first_cs (e0 := g 3) D' [] [] ([], g) (fun a ha => by cases ha) (fun a ha => by cases ha)
  generalize hb : D'.foldl (csR (g 3)) ([], g) = b at h1 h2 h3
  have h1' : Dl (amAll m) m 6 g [] = A ++ b :: B := by rw [hD, ← h1]; rfl
  have fl : ∀ k, k ≤ 6 → Wl (amAll m) m k g [] = (A ++ b :: B).filter (fun x => x.1.length == k) := fun k hk => by
    rw [← h1', ← Dl_filter 6 k g [] hk]
    congr 1
    funext x
    simp
  have mem : ∀ k x, k ≤ 6 → x ∈ Wl (amAll m) m k g [] → x ∈ A ++ b :: B ∧ x.1.length = k := fun k x hk hx => by
    rw [fl k hk, List.mem_filter] at hx
    exact ⟨hx.1, by simpa using hx.2⟩
  -- the best one's length
  have hbD : b ∈ Dl (amAll m) m 6 g [] := by rw [h1']; simp
  have len6 : ∀ (f : Nat) (g : Nat → Int32) (p : List Nat) (x : Row), x ∈ Dl (amAll m) m f g p → x.1.length ≤ p.length + f := by
    intro f
    induction f with
    | zero => intro g p x hx; rw [Dl, List.mem_singleton] at hx; rw [hx]; exact Nat.le_refl _
    | succ f ih =>
      intro g p x hx
      rw [Dl, List.mem_cons] at hx
      rcases hx with rfl | hx
      · exact Nat.le_add_right _ _
      · obtain ⟨r, -, q2⟩ := List.mem_flatMap.mp hx
        by_cases q : (amAll m r && sCan g r) = true
        · rw [if_pos q] at q2
          have := ih _ _ _ q2
          rw [List.length_append, List.length_singleton] at this
          omega
        · rw [if_neg q] at q2; cases q2
  have hl6 : b.1.length ≤ 6 := by have := len6 6 g [] b hbD; simpa using this
  have hbW : b ∈ Wl (amAll m) m b.1.length g [] := by
    rw [fl _ hl6, List.mem_filter]
    exact ⟨by simp, by simp⟩
  have hlm : b.1.length ≤ m := by
    obtain ⟨w1, w2⟩ := Wl_mem hbW
    obtain ⟨-, w4⟩ := wds_len _ _ w1
    obtain ⟨-, c, -⟩ := wA_read b.1 g b.2 (fun r hr => Nat.lt_of_lt_of_le (w4 r hr) hm) w2
    rw [← c]
    exact cnt_le m hm _ (setN_pow _ w4)
  -- the list by lengths
  have hR : ([], g) :: ((List.range' 1 m).flatMap fun k => Wl (amAll m) m k g []) = (List.range (m + 1)).flatMap fun k => Wl (amAll m) m k g [] := by
    rw [List.range_eq_range', List.range'_succ, List.flatMap_cons]
    rfl
  have hsplit : List.range (m + 1) = List.range b.1.length ++ b.1.length :: (List.range (m - b.1.length)).map (fun j => b.1.length + (j + 1)) := by
    rw [show m + 1 = b.1.length + ((m - b.1.length) + 1) by omega, List.range_add, List.range_succ_eq_map, List.map_cons, List.map_map]
    rfl
  symm
  refine first_rs (X := ((List.range b.1.length).flatMap fun k => Wl (amAll m) m k g []) ++ A.filter (fun x => x.1.length == b.1.length)) (Y := B.filter (fun x => x.1.length == b.1.length) ++ ((List.range (m - b.1.length)).map (fun j => b.1.length + (j + 1))).flatMap fun k => Wl (amAll m) m k g []) ?_ ?_ ?_
  · rw [hR, hsplit, List.flatMap_append, List.flatMap_cons, fl b.1.length hl6, List.filter_append, List.filter_cons, if_pos (by simp)]
    simp
  · intro x hx
    rcases List.mem_append.mp hx with hx | hx
    · obtain ⟨k, hk, hx⟩ := List.mem_flatMap.mp hx
      have hk := List.mem_range.mp hk
      obtain ⟨q1, q2⟩ := mem k x (by omega) hx
      rcases List.mem_append.mp q1 with q | q
      · have := h2 x q
        unfold wrs at this
        rw [i32_lt, i32_eq] at this
        rw [i32_lt]; omega
      · rcases List.mem_cons.mp q with q | q
        · subst q; omega
        · have := h3 x q
          unfold nbt at this
          rw [i32_lt, i32_eq] at this
          rw [i32_lt]; omega
    · rw [List.mem_filter] at hx
      have q2 : x.1.length = b.1.length := by simpa using hx.2
      have := h2 x hx.1
      unfold wrs at this
      rw [i32_lt, i32_eq] at this
      rw [i32_lt]; omega
  · intro y hy
    have cmp : y ∈ A ++ b :: B → ¬ vR (g 3) b < vR (g 3) y := by
      intro q
      rcases List.mem_append.mp q with q | q
      · have := h2 y q
        unfold wrs at this
        rw [i32_lt, i32_eq] at this
        rw [i32_lt]; omega
      · rcases List.mem_cons.mp q with q | q
        · subst q; rw [i32_lt]; omega
        · have := h3 y q
          unfold nbt at this
          rw [i32_lt, i32_eq] at this
          rw [i32_lt]; omega
    rcases List.mem_append.mp hy with hy | hy
    · rw [List.mem_filter] at hy
      exact cmp (by simp [hy.1])
    · obtain ⟨k, hk, hy⟩ := List.mem_flatMap.mp hy
      obtain ⟨j, hj, rfl⟩ := List.mem_map.mp hk
      have hj := List.mem_range.mp hj
      exact cmp (mem _ y (by omega) hy).1
