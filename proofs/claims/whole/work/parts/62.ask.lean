/-! ===== ask ===== -/
theorem nL1 : nI 1 = 1 := rfl
theorem nL2 : nI 2 = 2 := rfl
theorem nL3 : nI 3 = 3 := rfl
theorem nL4 : nI 4 = 4 := rfl
theorem nL5 : nI 5 = 5 := rfl
/-- the bodies that began, written behind each other -/
def trc (σ : Mem) (c p b : Nat) (l : List Int32) : Mem := fun a j => if a = c ∧ j = p then nI l.length else if a = b ∧ j < l.length then l.getD j 0 else σ a j
theorem trc_0 {σ : Mem} {c p b : Nat} (h : σ c p = 0) : trc σ c p b [] = σ := by
  funext a j
  unfold trc
  by_cases q : a = c ∧ j = p
  · rw [if_pos q, q.1, q.2, h]; rfl
  · rw [if_neg q, if_neg (fun w => absurd w.2 (Nat.not_lt_zero _))]
theorem trc_push {σ : Mem} {c p b : Nat} {l : List Int32} {v : Int32} (hcb : b ≠ c) : mset (mset (trc σ c p b l) b l.length v) c p (nI (l.length + 1)) = trc σ c p b (l ++ [v]) := by
  funext a j
  simp only [ms_if]
  unfold trc
  simp only [List.length_append, List.length_cons, List.length_nil, Nat.zero_add]
  by_cases q : a = c ∧ j = p
  · rw [if_pos q, if_pos q]
  rw [if_neg q, if_neg q, if_neg q]
  by_cases h1 : a = b ∧ j = l.length
  · rw [if_pos h1, if_pos ⟨h1.1, by omega⟩, h1.2]
    simp [List.getD]
  rw [if_neg h1]
  by_cases h2 : a = b ∧ j < l.length
  · rw [if_pos h2, if_pos ⟨h2.1, by omega⟩]
    simp [List.getD, List.getElem?_append_left h2.2]
  · rw [if_neg h2, if_neg (fun w => by
      rcases Nat.lt_or_ge j l.length with e | e
      · exact h2 ⟨w.1, e⟩
      · exact h1 ⟨w.1, by omega⟩)]
theorem trc_at {σ : Mem} {c p b : Nat} {l : List Int32} : trc σ c p b l c p = nI l.length := by
  unfold trc; rw [if_pos ⟨rfl, rfl⟩]
theorem trc_off {σ : Mem} {c p b a j : Nat} {l : List Int32} (h1 : a ≠ c ∨ j ≠ p) (h2 : a ≠ b) : trc σ c p b l a j = σ a j := by
  unfold trc
  rw [if_neg (fun q => h1.elim (fun w => w q.1) (fun w => w q.2)), if_neg (fun q => h2 q.1)]
theorem trc_cell {σ : Mem} {c p b a : Nat} {l : List Int32} (h1 : a ≠ c) (h2 : a ≠ b) : trc σ c p b l a = σ a := by
  funext j; exact trc_off (Or.inl h1) h2
theorem c_beg {σ : Mem} {l : List Int32} {v : Int32} (h : l.length < 16) : f_X1_begins v (trc σ 75 1 76 l) = some (trc σ 75 1 76 (l ++ [v])) := by
  unfold f_X1_begins
  rw [trc_at, if_neg (fun q => by have := (nI_le_lit (n := 16) (by decide) (by omega)).mp q; omega), if_pos (inB_nI h (by decide)), tn_nI (by omega), Option.bind_some, ms_cell (by decide), trc_at, nI_1, trc_push (by decide)]
  rfl
theorem r_beg {σ : Mem} {l : List Int32} {v : Int32} (h : l.length < 16) : f_X8_begins v (trc σ 77 20 88 l) = some (trc σ 77 20 88 (l ++ [v])) := by
  unfold f_X8_begins
  rw [trc_at, if_neg (fun q => by have := (nI_le_lit (n := 16) (by decide) (by omega)).mp q; omega), if_pos (inB_nI h (by decide)), tn_nI (by omega), Option.bind_some, ms_cell (by decide), trc_at, nI_1, trc_push (by decide)]
  rfl
def askL (s : Nat) (size : Bool) : List Int32 := if size = true then (if s = 1 then [11, 10, 21, 20] else if s = 2 then [12, 11, 10, 24, 21, 20] else if s = 3 then [11, 10, 22, 21, 20] else if s = 4 then [13, 10] else [14, 13, 10])
  else (if s = 1 then [21, 20] else if s = 2 then [24, 21, 20] else if s = 3 then [22, 21, 20] else if s = 4 then [23, 20, 13, 10] else [23, 20, 14, 13, 10])
def askV (s : Nat) (size : Bool) (num place worth : Int32) : Int32 := if size = true then (if s = 1 then worth + (num + place) else if s = 2 then -(worth + 2 * (num + place)) else if s = 3 then worth + (num + place - 1000) else if s = 4 then worth - 100 else 2 * (worth - 100))
  else (if s = 1 then num + place else if s = 2 then 2 * (num + place) else if s = 3 then num + place - 1000 else if s = 4 then num - (worth - 100) else num - 2 * (worth - 100))
section ASKC
variable {σ : Mem} {n s : Nat} {l : List Int32}
theorem t75 (j : Nat) (hj : j ≠ 1) : trc σ 75 1 76 l 75 j = σ 75 j := trc_off (Or.inr hj) (by decide)
theorem ca_lentSize (h : l.length < 16) : f_X1_lentSize (trc σ 75 1 76 l) = some (σ 75 4, trc σ 75 1 76 (l ++ [10])) := by
  unfold f_X1_lentSize; rw [c_beg h, Option.bind_some, t75 4 (by decide)]
theorem ca_oldSize (h : l.length < 15) : f_X1_oldSize (trc σ 75 1 76 l) = some (σ 75 4 - 100, trc σ 75 1 76 (l ++ [13, 10])) := by
  unfold f_X1_oldSize; rw [c_beg (by omega), Option.bind_some, ca_lentSize (by simp; omega), Option.bind_some, List.append_assoc]; rfl
theorem ca_sizeOld (h : l.length < 13) : f_X1_sizeAskedOfOld (trc σ 75 1 76 l) = some (if σ 75 2 = 5 then 2 * (σ 75 4 - 100) else σ 75 4 - 100, trc σ 75 1 76 (l ++ (if σ 75 2 = 5 then [14, 13, 10] else [13, 10]))) := by
  unfold f_X1_sizeAskedOfOld
  rw [t75 2 (by decide)]
  by_cases q : σ 75 2 = 5
  · rw [if_pos q, if_pos q, if_pos q, c_beg (by omega), Option.bind_some, ca_oldSize (by simp; omega), Option.bind_some, List.append_assoc]; rfl
  · rw [if_neg q, if_neg q, if_neg q, ca_oldSize (by omega)]; rfl
theorem ca_lentMark (h : l.length < 16) : f_X1_lentMark (trc σ 75 1 76 l) = some (σ 75 3, trc σ 75 1 76 (l ++ [20])) := by
  unfold f_X1_lentMark; rw [c_beg h, Option.bind_some, t75 3 (by decide)]
theorem ca_freshMark (h : l.length < 15) : f_X1_freshMark (trc σ 75 1 76 l) = some (σ 75 3 + σ 75 5, trc σ 75 1 76 (l ++ [21, 20])) := by
  unfold f_X1_freshMark; rw [c_beg (by omega), Option.bind_some, ca_lentMark (by simp; omega), Option.bind_some, List.append_assoc]
  dsimp only
  rw [t75 5 (by decide)]; rfl
theorem ca_markFresh (h : l.length < 13) : f_X1_markAskedOfFresh (trc σ 75 1 76 l) = some (if σ 75 2 = 2 then 2 * (σ 75 3 + σ 75 5) else if σ 75 2 = 3 then σ 75 3 + σ 75 5 - 1000 else σ 75 3 + σ 75 5, trc σ 75 1 76 (l ++ (if σ 75 2 = 2 then [24, 21, 20] else if σ 75 2 = 3 then [22, 21, 20] else [21, 20]))) := by
  unfold f_X1_markAskedOfFresh
  rw [t75 2 (by decide)]
  by_cases q : σ 75 2 = 2
  · rw [if_pos q, if_pos q, if_pos q, c_beg (by omega), Option.bind_some, ca_freshMark (by simp; omega), Option.bind_some, List.append_assoc]; rfl
  rw [if_neg q, if_neg q, if_neg q]
  by_cases q : σ 75 2 = 3
  · rw [if_pos q, if_pos q, if_pos q, c_beg (by omega), Option.bind_some, ca_freshMark (by simp; omega), Option.bind_some, List.append_assoc]; rfl
  · rw [if_neg q, if_neg q, if_neg q, ca_freshMark (by omega)]; rfl
theorem ca_freshSize (h : l.length < 10) : f_X1_freshSize (trc σ 75 1 76 l) = some (σ 75 4 + (if σ 75 2 = 2 then 2 * (σ 75 3 + σ 75 5) else if σ 75 2 = 3 then σ 75 3 + σ 75 5 - 1000 else σ 75 3 + σ 75 5), trc σ 75 1 76 (l ++ ([11, 10] ++ (if σ 75 2 = 2 then [24, 21, 20] else if σ 75 2 = 3 then [22, 21, 20] else [21, 20])))) := by
  unfold f_X1_freshSize; rw [c_beg (by omega), Option.bind_some, ca_lentSize (by simp; omega), Option.bind_some]
  dsimp only
  rw [ca_markFresh (by simp; omega), Option.bind_some, List.append_assoc, List.append_assoc]; rfl
theorem ca_size (hn : 20 ≤ n) (h1 : 1 ≤ s) (h5 : s ≤ 5) (hs : σ 75 2 = nI s) (h0 : σ 75 1 = 0) : f_X1_sizeAsked n σ = some (askV s true (σ 75 3) (σ 75 5) (σ 75 4), trc σ 75 1 76 (askL s true)) := by
  have e : f_X7_isOfKind n σ (σ 75 2) 4 = some (b2i (kindOf s 4)) := by rw [hs]; exact c_isOfKind hn h1 h5 (by decide)
  have z := trc_0 (b := 76) h0
  have hO := ca_sizeOld (σ := σ) (l := []) (by decide)
  rw [z] at hO
  have hF : f_X1_sizeAskedOfFresh σ = some (if σ 75 2 = 2 then -(σ 75 4 + (if σ 75 2 = 2 then 2 * (σ 75 3 + σ 75 5) else if σ 75 2 = 3 then σ 75 3 + σ 75 5 - 1000 else σ 75 3 + σ 75 5)) else σ 75 4 + (if σ 75 2 = 2 then 2 * (σ 75 3 + σ 75 5) else if σ 75 2 = 3 then σ 75 3 + σ 75 5 - 1000 else σ 75 3 + σ 75 5), trc σ 75 1 76 ((if σ 75 2 = 2 then [12] else []) ++ ([11, 10] ++ (if σ 75 2 = 2 then [24, 21, 20] else if σ 75 2 = 3 then [22, 21, 20] else [21, 20])))) := by
    unfold f_X1_sizeAskedOfFresh
    by_cases q : σ 75 2 = 2
    · have c := c_beg (σ := σ) (l := []) (v := 12) (by decide)
      rw [z] at c
      rw [if_pos q, c, Option.bind_some, ca_freshSize (by decide)]
      simp only [Option.bind_some, if_pos q]
      rfl
    · have c := ca_freshSize (σ := σ) (l := []) (by decide)
      rw [z] at c
      rw [if_neg q, c]
      simp only [Option.bind_some, if_neg q]
  unfold f_X1_sizeAsked
  rw [e, hO, hF, hs]
  rcases (show s = 1 ∨ s = 2 ∨ s = 3 ∨ s = 4 ∨ s = 5 by omega) with rfl | rfl | rfl | rfl | rfl <;> simp [nL1, nL2, nL3, nL4, nL5, kindOf, b2i, askV, askL]
theorem ca_mark (hn : 20 ≤ n) (h1 : 1 ≤ s) (h5 : s ≤ 5) (hs : σ 75 2 = nI s) (h0 : σ 75 1 = 0) : f_X1_markAsked n σ = some (askV s false (σ 75 3) (σ 75 5) (σ 75 4), trc σ 75 1 76 (askL s false)) := by
  have e : f_X7_isOfKind n σ (σ 75 2) 4 = some (b2i (kindOf s 4)) := by rw [hs]; exact c_isOfKind hn h1 h5 (by decide)
  have z := trc_0 (b := 76) h0
  have hF := ca_markFresh (σ := σ) (l := []) (by decide)
  rw [z] at hF
  have hO : f_X1_oldMark σ = some (σ 75 3 - (if σ 75 2 = 5 then 2 * (σ 75 4 - 100) else σ 75 4 - 100), trc σ 75 1 76 ([23, 20] ++ (if σ 75 2 = 5 then [14, 13, 10] else [13, 10]))) := by
    unfold f_X1_oldMark
    have c := c_beg (σ := σ) (l := []) (v := 23) (by decide)
    rw [z] at c
    rw [c, Option.bind_some, ca_lentMark (by decide), Option.bind_some]
    dsimp only
    rw [ca_sizeOld (by decide)]
    rfl
  unfold f_X1_markAsked
  rw [e, hO, hF, hs]
  rcases (show s = 1 ∨ s = 2 ∨ s = 3 ∨ s = 4 ∨ s = 5 by omega) with rfl | rfl | rfl | rfl | rfl <;> simp [nL1, nL2, nL3, nL4, nL5, kindOf, b2i, askV, askL]
end ASKC
section ASKR
variable {σ : Mem} {n s r : Nat} {l : List Int32}
theorem t82 : trc σ 77 20 88 l 82 = σ 82 := trc_cell (by decide) (by decide)
theorem ra_fresh (hr : r < 6) (h : l.length < 14) : f_X8_markFresh (nI r) (trc σ 77 20 88 l) = some (nI r + σ 82 (15 + r), trc σ 77 20 88 (l ++ [21, 20])) := by
  unfold f_X8_markFresh
  rw [r_beg (by omega), Option.bind_some, r_beg (by simp; omega), Option.bind_some, nI15, if_pos (inB_nI (by omega) (by decide)), tn_nI (by omega), t82, List.append_assoc]; rfl
theorem ra_new (hr : r < 6) (h : l.length < 13) : f_X8_markNew (nI r) (trc σ 77 20 88 l) = some (if σ 82 (9 + r) = 2 then 2 * (nI r + σ 82 (15 + r)) else if σ 82 (9 + r) = 3 then nI r + σ 82 (15 + r) - 1000 else nI r + σ 82 (15 + r), trc σ 77 20 88 (l ++ (if σ 82 (9 + r) = 2 then [24, 21, 20] else if σ 82 (9 + r) = 3 then [22, 21, 20] else [21, 20]))) := by
  unfold f_X8_markNew
  rw [nI9, if_pos (inB_nI (by omega) (by decide)), tn_nI (by omega), t82, Option.bind_some]
  dsimp only
  by_cases q : σ 82 (9 + r) = 2
  · rw [if_pos q, if_pos q, if_pos q, r_beg (by omega), Option.bind_some, ra_fresh hr (by simp; omega), Option.bind_some, List.append_assoc]; rfl
  rw [if_neg q, if_neg q, if_neg q]
  by_cases q : σ 82 (9 + r) = 3
  · rw [if_pos q, if_pos q, if_pos q, r_beg (by omega), Option.bind_some, ra_fresh hr (by simp; omega), Option.bind_some, List.append_assoc]; rfl
  · rw [if_neg q, if_neg q, if_neg q, ra_fresh hr (by omega)]; rfl
theorem ra_old (hr : r < 6) (h : l.length < 14) : f_X8_sizeOld (nI r) (trc σ 77 20 88 l) = some (σ 82 (21 + r) - 100, trc σ 77 20 88 (l ++ [13, 10])) := by
  unfold f_X8_sizeOld
  rw [r_beg (by omega), Option.bind_some, r_beg (by simp; omega), Option.bind_some, nI21, if_pos (inB_nI (by omega) (by decide)), tn_nI (by omega), t82, List.append_assoc]; rfl
theorem ra_51 (hr : r < 6) (h : l.length < 10) {k : Int32} : f_X8_sizeOf_b51 (nI r) k (trc σ 77 20 88 l) = some (if k = 2 then -(σ 82 (21 + r) + (if σ 82 (9 + r) = 2 then 2 * (nI r + σ 82 (15 + r)) else if σ 82 (9 + r) = 3 then nI r + σ 82 (15 + r) - 1000 else nI r + σ 82 (15 + r))) else σ 82 (21 + r) + (if σ 82 (9 + r) = 2 then 2 * (nI r + σ 82 (15 + r)) else if σ 82 (9 + r) = 3 then nI r + σ 82 (15 + r) - 1000 else nI r + σ 82 (15 + r)), trc σ 77 20 88 (l ++ ([11, 10] ++ (if σ 82 (9 + r) = 2 then [24, 21, 20] else if σ 82 (9 + r) = 3 then [22, 21, 20] else [21, 20])))) := by
  unfold f_X8_sizeOf_b51
  rw [r_beg (by omega), Option.bind_some, r_beg (by simp; omega), Option.bind_some, nI21, if_pos (inB_nI (by omega) (by decide)), tn_nI (by omega), ra_new hr (by simp; omega), Option.bind_some, t82, List.append_assoc, List.append_assoc]
  dsimp only [Option.bind_some]
  by_cases q : k = 2
  · rw [if_pos q, if_pos q]; rfl
  · rw [if_neg q, if_neg q]; rfl
theorem ra_size (hr : r < 6) (hl : l.length < 9) (h1 : 1 ≤ s) (h5 : s ≤ 5) (hs : σ 82 (9 + r) = nI s) : f_X8_sizeOf (nI r) (trc σ 77 20 88 l) = some (askV s true (nI r) (σ 82 (15 + r)) (σ 82 (21 + r)), trc σ 77 20 88 (l ++ askL s true)) := by
  unfold f_X8_sizeOf
  rw [nI9, if_pos (inB_nI (by omega) (by decide)), tn_nI (by omega), t82, Option.bind_some, hs]
  have b1 := r_beg (σ := σ) (l := l) (v := 12) (by omega)
  have b2 := r_beg (σ := σ) (l := l) (v := 14) (by omega)
  have b3 := ra_old (σ := σ) (l := l) hr (by omega)
  have b4 := ra_old (σ := σ) (l := l ++ [14]) hr (by simp; omega)
  have b5 := fun k => ra_51 (σ := σ) (l := l) hr (by omega) (k := k)
  have b6 := fun k => ra_51 (σ := σ) (l := l ++ [12]) hr (by simp; omega) (k := k)
  rcases (show s = 1 ∨ s = 2 ∨ s = 3 ∨ s = 4 ∨ s = 5 by omega) with rfl | rfl | rfl | rfl | rfl <;> simp [nL1, nL2, nL3, nL4, nL5, askV, askL, b1, b2, b3, b4, b5, b6, hs]
theorem ra_mark (hr : r < 6) (h1 : 1 ≤ s) (h5 : s ≤ 5) (hs : σ 82 (9 + r) = nI s) : f_X8_markOf (nI r) (trc σ 77 20 88 []) = some (askV s false (nI r) (σ 82 (15 + r)) (σ 82 (21 + r)), trc σ 77 20 88 (askL s false)) := by
  unfold f_X8_markOf
  rw [nI9, if_pos (inB_nI (by omega) (by decide)), tn_nI (by omega), t82, hs]
  have b1 := ra_new (σ := σ) (l := []) hr (by decide)
  have b2 := r_beg (σ := σ) (l := []) (v := 23) (by decide)
  have b3 := r_beg (σ := σ) (l := [23]) (v := 20) (by decide)
  have b4 := ra_size (σ := σ) (l := [23, 20]) hr (by decide) h1 h5 hs
  rw [hs] at b1
  rw [List.nil_append] at b2
  have b3' : f_X8_begins 20 (trc σ 77 20 88 [23]) = some (trc σ 77 20 88 [23, 20]) := b3
  rcases (show s = 1 ∨ s = 2 ∨ s = 3 ∨ s = 4 ∨ s = 5 by omega) with rfl | rfl | rfl | rfl | rfl <;> simp [nL1, nL2, nL3, nL4, nL5, askV, askL] at b1 b2 b3' b4 ⊢ <;> simp [b1, b2, b3', b4]
end ASKR
theorem askL_len {s : Nat} {b : Bool} : (askL s b).length ≤ 16 := by
  cases b <;> simp only [askL] <;> (repeat' split) <;> simp_all
theorem s_ask {σ : Mem} {n : Nat} (h : Inv σ) (hn : 2000 ≤ n) (x y : Int32) : Both σ (f_X7_ask n x y) (f_X8_ask x y) := by
  rcases who h x with ⟨e1, e2, -⟩ | ⟨r, m, hm, hr, rfl, e1, e2⟩
  · exact Both.same h (-1000001) (by simp [f_X7_ask, e1]) (by simp [f_X8_ask, e2])
  have h6 := hm.1
  by_cases y0 : y < 0
  · exact Both.same h (-1000001) (by simp [f_X7_ask, e1, y0]) (by simp [f_X8_ask, e2 σ rfl, inno 0 1 (Or.inl y0)])
  by_cases y1 : y ≤ 1
  rotate_left
  · have h2 : (1 : Int32) < y := by rw [i32_le] at y1; rw [i32_lt]; omega
    exact Both.same h (-1000001) (by simp [f_X7_ask, e1, y0, y1]) (by simp [f_X8_ask, e2 σ rfl, inno 0 1 (Or.inr h2)])
  have hin : ∀ τ, f_X8_in τ y 0 1 = some 1 := fun τ => in_yes y0 (fun q => by rw [i32_le] at y1; rw [i32_lt] at q; omega)
  obtain ⟨s, hs1, hs5, hs⟩ := h.2.2.2.1.1.sort hm hr
  obtain ⟨a1, a2, a3, -⟩ := twA h.tw hm hr
  have a1' : σ 16 r = nI s := a1.trans hs
  have a2' : σ 17 r = σ 82 (15 + r) := a2
  have a3' : σ 18 r = σ 82 (21 + r) := a3
  obtain ⟨σ1, hof, o1, o2, o3, o4, o5, oo, oj⟩ : ∃ σ1, f_X1_of 15 (nI r) σ = some σ1 ∧ σ1 75 1 = 0 ∧ σ1 75 2 = nI s ∧ σ1 75 3 = nI r ∧ σ1 75 4 = σ 82 (21 + r) ∧ σ1 75 5 = σ 82 (15 + r) ∧ (∀ a, a ≠ 75 → σ1 a = σ a) ∧ True := by
    refine ⟨_, by unfold f_X1_of; simp only [eq_true (show isTown 15 = true from rfl), inL (inB_nI (show r < 6 by omega) (show 6 < 2 ^ 31 by decide)), tn_nI (show r < 2 ^ 31 by omega), if_true, Option.bind_some]; rfl, ?_, ?_, ?_, ?_, ?_, ?_, trivial⟩
    · simp [ms_if]
    · simp [ms_if]; exact a1'
    · simp [ms_if]
    · simp [ms_if]; exact a3'
    · simp [ms_if]; exact a2'
    · intro a ha
      rw [ms_cell ha, ms_cell ha, ms_cell ha, ms_cell ha, ms_cell ha]
  obtain ⟨b, hb⟩ : ∃ b : Bool, (y = 0 ↔ b = true) := ⟨decide (y = 0), by simp⟩
  refine ⟨askV s b (nI r) (σ 82 (15 + r)) (σ 82 (21 + r)), trc σ1 75 1 76 (askL s b), trc (mset (trc σ1 75 1 76 (askL s b)) 77 20 0) 77 20 88 (askL s b), ?_, ?_, ?_⟩
  · simp only [f_X7_ask, e1, Option.bind_some, if_neg (show ¬ (1 : Int32) = 0 by decide), if_neg y0, if_pos y1, hof]
    cases b with
    | true => rw [if_pos (hb.mpr rfl), ca_size (by omega) hs1 hs5 o2 o1, o3, o4, o5]; rfl
    | false => rw [if_neg (fun q => by have := hb.mp q; cases this), ca_mark (by omega) hs1 hs5 o2 o1, o3, o4, o5]; rfl
  · have e82 : trc σ1 75 1 76 (askL s b) 82 = σ 82 := by rw [trc_cell (by decide) (by decide), oo 82 (by decide)]
    have m82 : mset (trc σ1 75 1 76 (askL s b)) 77 20 0 82 = σ 82 := by rw [ms_cell (by decide), e82]
    have z : trc (mset (trc σ1 75 1 76 (askL s b)) 77 20 0) 77 20 88 [] = mset (trc σ1 75 1 76 (askL s b)) 77 20 0 := trc_0 ms_at
    simp only [f_X8_ask, e2 _ e82, hin, Option.bind_some, if_neg (show ¬ (1 : Int32) = 0 by decide)]
    cases b with
    | true =>
      have c := ra_size (σ := mset (trc σ1 75 1 76 (askL s true)) 77 20 0) (r := r) (l := []) (by omega) (by decide) hs1 hs5 (by rw [m82]; exact hs)
      rw [z, m82, List.nil_append] at c
      rw [if_pos (hb.mpr rfl), c]; rfl
    | false =>
      have c := ra_mark (σ := mset (trc σ1 75 1 76 (askL s false)) 77 20 0) (r := r) (by omega) hs1 hs5 (by rw [m82]; exact hs)
      rw [z, m82] at c
      rw [if_neg (fun q => by have := hb.mp q; cases this), c]; rfl
  · generalize hl : askL s b = l
    have hlen : l.length ≤ 16 := by rw [← hl]; exact askL_len
    generalize hτ : trc (mset (trc σ1 75 1 76 l) 77 20 0) 77 20 88 l = τ
    have o : ∀ a, a ≠ 75 → a ≠ 76 → a ≠ 77 → a ≠ 88 → τ a = σ a := fun a p1 p2 p3 p4 => by rw [← hτ, trc_cell p3 p4, ms_cell p3, trc_cell p1 p2, oo a p1]
    have o77 : ∀ j, j ≠ 20 → τ 77 j = σ 77 j := fun j hj => by rw [← hτ, trc_off (Or.inr hj) (by decide), ms_off (Or.inr hj), trc_cell (by decide) (by decide), oo 77 (by decide)]
    have sm : ∀ P : Nat → Bool, P 75 = false → P 76 = false → P 77 = false → P 88 = false → Same P σ τ := fun P p1 p2 p3 p4 a ha => o a (fun q => by rw [q, p1] at ha; cases ha) (fun q => by rw [q, p2] at ha; cases ha) (fun q => by rw [q, p3] at ha; cases ha) (fun q => by rw [q, p4] at ha; cases ha)
    obtain ⟨hR, hS, hT, hW, hI, hA, -⟩ := h
    refine ⟨hR.congr (sm _ rfl rfl rfl rfl), hS.congr (by rw [o 0 (by decide) (by decide) (by decide) (by decide)]) (o77 3 (by decide)), hT.congr (sm _ rfl rfl rfl rfl) (by rw [o 13 (by decide) (by decide) (by decide) (by decide)]) (by rw [o 13 (by decide) (by decide) (by decide) (by decide)]) (o77 4 (by decide)) (o77 11 (by decide)), hW.congr (sm _ rfl rfl rfl rfl), hI.congr (sm _ rfl rfl rfl rfl), hA.congr (sm _ rfl rfl rfl rfl) (by rw [o 35 (by decide) (by decide) (by decide) (by decide)]) (by rw [o 35 (by decide) (by decide) (by decide) (by decide)]) (o77 18 (by decide)), l.length, hlen, ?_, ?_, fun i hi => ?_⟩
    · rw [← hτ, trc_cell (by decide) (by decide), ms_cell (by decide)]; exact trc_at
    · rw [← hτ]; exact trc_at
    · rw [← hτ, trc_cell (a := 76) (by decide) (by decide), ms_cell (by decide)]
      unfold trc
      simp [hi]
