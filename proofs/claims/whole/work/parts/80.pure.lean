/-! printed by gen5.py: the law's loop answers 1 -/
theorem law_loop {n L : Nat} {xs : Nat → Int32} (hN : 100000 ≤ n) (hL : L ≤ 3584) : ∀ (k i f : Nat) (σ : Mem), Inv σ → L ≤ i + 7 * k → k < f → i ≤ 4000 → ∃ τ, f_L_law_l18 n (L, xs) f (nI i) σ = some (1, τ) := by
  have hn : 2000 ≤ n := by omega
  intro k
  have stop : ∀ (i f : Nat) (σ : Mem), i ≤ 4000 → L < i + 7 → ∃ τ, f_L_law_l18 n (L, xs) (f + 1) (nI i) σ = some (1, τ) := by
    intro i f σ hi hlt
    refine ⟨σ, ?_⟩
    show f_L_law_b18 n (L, xs) _ (nI i) σ = _
    unfold f_L_law_b18
    rw [if_pos]
    show nI L - 7 < nI i
    have e7 : (7 : Int32).toInt = 7 := rfl
    have eL : (nI L).toInt = L := nI_toInt (by omega)
    rw [i32_lt, i32_sub (by rw [eL, e7]; omega) (by rw [eL, e7]; omega), eL, e7, nI_toInt (by omega)]
    omega
  induction k with
  | zero =>
    intro i f σ h hi hf h4
    obtain ⟨f, rfl⟩ : ∃ f', f = f' + 1 := ⟨f - 1, by omega⟩
    exact stop i f σ h4 (by omega)
  | succ k ih =>
    intro i f σ h hi hf h4
    obtain ⟨f, rfl⟩ : ∃ f', f = f' + 1 := ⟨f - 1, by omega⟩
    rcases Nat.lt_or_ge L (i + 7) with hlt | hge
    · exact stop i f σ h4 hlt
    have go : ∀ σ', Inv σ' → ∃ τ, f_L_law_b1048 n (L, xs) (f_L_law_l18 n (L, xs) f) (nI i) σ' = some (1, τ) := by
      intro σ' h'
      unfold f_L_law_b1048
      have e7 : nI i + 7 = nI (i + 7) := nIa i 7
      rw [e7]
      exact ih (i + 7) f σ' h' (by omega) (by omega) (by omega)
    have u : f_L_law_l18 n (L, xs) (f + 1) (nI i) σ = f_L_law_b18 n (L, xs) (f_L_law_l18 n (L, xs) f) (nI i) σ := rfl
    rw [u]
    unfold f_L_law_b18
    have e1 : nI i + 1 = nI (i + 1) := nIa i 1
    have e2 : nI i + 2 = nI (i + 2) := nIa i 2
    have e3 : nI i + 3 = nI (i + 3) := nIa i 3
    have e4 : nI i + 4 = nI (i + 4) := nIa i 4
    have e5 : nI i + 5 = nI (i + 5) := nIa i 5
    have e6 : nI i + 6 = nI (i + 6) := nIa i 6
    have b0 := inL (inB_nI (show i + 0 < L by omega) (show L < 2 ^ 31 by omega))
    have t0 := tn_nI (show i + 0 < 2 ^ 31 by omega)
    have b1 := inL (inB_nI (show i + 1 < L by omega) (show L < 2 ^ 31 by omega))
    have t1 := tn_nI (show i + 1 < 2 ^ 31 by omega)
    have b2 := inL (inB_nI (show i + 2 < L by omega) (show L < 2 ^ 31 by omega))
    have t2 := tn_nI (show i + 2 < 2 ^ 31 by omega)
    have b3 := inL (inB_nI (show i + 3 < L by omega) (show L < 2 ^ 31 by omega))
    have t3 := tn_nI (show i + 3 < 2 ^ 31 by omega)
    have b4 := inL (inB_nI (show i + 4 < L by omega) (show L < 2 ^ 31 by omega))
    have t4 := tn_nI (show i + 4 < 2 ^ 31 by omega)
    have b5 := inL (inB_nI (show i + 5 < L by omega) (show L < 2 ^ 31 by omega))
    have t5 := tn_nI (show i + 5 < 2 ^ 31 by omega)
    have b6 := inL (inB_nI (show i + 6 < L by omega) (show L < 2 ^ 31 by omega))
    have t6 := tn_nI (show i + 6 < 2 ^ 31 by omega)
    rw [Nat.add_zero] at b0 t0
    have ns : ¬ ((Int32.ofNat L) - 7) < nI i := by
      have e7 : (7 : Int32).toInt = 7 := rfl
      have eL : (nI L).toInt = L := nI_toInt (by omega)
      show ¬ nI L - 7 < nI i
      rw [i32_lt, i32_sub (by rw [eL, e7]; omega) (by rw [eL, e7]; omega), eL, e7, nI_toInt (by omega)]
      omega
    rw [if_neg ns, if_pos (show inB (nI i) L = true from inB_nI (by omega) (by omega)), Option.bind_some]
    generalize hy2 : ((L, xs).2 (nI i).toNatClampNeg) &&& 31 = y2
    clear hy2
    by_cases q0 : y2 = 0
    · obtain ⟨y, σ1, σ2, c1, c2, c3⟩ := s_row h hn (xs (i + 1)) (xs (i + 2)) (xs (i + 3))
      rw [if_pos q0]
      simp only [Option.bind_some, e1, e2, e3, b1, b2, b3, t1, t2, t3, eq_self, if_true, c1, c2]
      exact go σ2 c3
    rw [if_neg q0]
    by_cases q1 : y2 = 1
    · obtain ⟨y, σ1, σ2, c1, c2, c3⟩ := s_set h hn (xs (i + 1)) (xs (i + 2)) (xs (i + 3))
      rw [if_pos q1]
      simp only [Option.bind_some, e1, e2, e3, b1, b2, b3, t1, t2, t3, eq_self, if_true, c1, c2]
      exact go σ2 c3
    rw [if_neg q1]
    by_cases q2 : y2 = 2
    · obtain ⟨y, σ1, σ2, c1, c2, c3⟩ := s_copy h hn (xs (i + 1)) (xs (i + 2)) (xs (i + 3)) (xs (i + 4)) (xs (i + 5))
      rw [if_pos q2]
      simp only [Option.bind_some, e1, e2, e3, e4, e5, b1, b2, b3, b4, b5, t1, t2, t3, t4, t5, eq_self, if_true, c1, c2]
      exact go σ2 c3
    rw [if_neg q2]
    by_cases q3 : y2 = 3
    · obtain ⟨y, σ1, σ2, c1, c2, c3⟩ := s_drop h (xs (i + 1))
      rw [if_pos q3]
      simp only [Option.bind_some, e1, b1, t1, eq_self, if_true, c1, c2]
      exact go σ2 c3
    rw [if_neg q3]
    by_cases q4 : y2 = 4
    · obtain ⟨y, σ1, σ2, c1, c2, c3⟩ := s_feed h (xs (i + 1))
      rw [if_pos q4]
      simp only [Option.bind_some, e1, b1, t1, eq_self, if_true, c1, c2]
      exact go σ2 c3
    rw [if_neg q4]
    by_cases q5 : y2 = 5
    · obtain ⟨y, σ1, σ2, c1, c2, c3⟩ := s_town h hn
      rw [if_pos q5]
      simp only [Option.bind_some, eq_self, if_true, c1, c2]
      exact go σ2 c3
    rw [if_neg q5]
    by_cases q6 : y2 = 6
    · obtain ⟨y, c1, c2⟩ := s_fault h
      rw [if_pos q6]
      simp only [Option.bind_some, eq_self, if_true, c1, c2]
      exact go σ h
    rw [if_neg q6]
    by_cases q7 : y2 = 7
    · obtain ⟨y, σ1, σ2, c1, c2, c3⟩ := s_give h hn (xs (i + 1))
      rw [if_pos q7]
      simp only [Option.bind_some, e1, b1, t1, eq_self, if_true, c1, c2]
      exact go σ2 c3
    rw [if_neg q7]
    by_cases q8 : y2 = 8
    · obtain ⟨y, σ1, σ2, c1, c2, c3⟩ := s_pause h hn (xs (i + 1))
      rw [if_pos q8]
      simp only [Option.bind_some, e1, b1, t1, eq_self, if_true, c1, c2]
      exact go σ2 c3
    rw [if_neg q8]
    by_cases q9 : y2 = 9
    · obtain ⟨y, σ1, σ2, c1, c2, c3⟩ := s_value h hn (xs (i + 1)) (xs (i + 2))
      rw [if_pos q9]
      simp only [Option.bind_some, e1, e2, b1, b2, t1, t2, eq_self, if_true, c1, c2]
      exact go σ2 c3
    rw [if_neg q9]
    by_cases q10 : y2 = 10
    · obtain ⟨y, σ1, σ2, c1, c2, c3⟩ := s_move h hn (xs (i + 1)) (xs (i + 2))
      rw [if_pos q10]
      simp only [Option.bind_some, e1, e2, b1, b2, t1, t2, eq_self, if_true, c1, c2]
      exact go σ2 c3
    rw [if_neg q10]
    by_cases q11 : y2 = 11
    · obtain ⟨y, σ1, σ2, c1, c2, c3⟩ := s_undo h hn
      rw [if_pos q11]
      simp only [Option.bind_some, eq_self, if_true, c1, c2]
      exact go σ2 c3
    rw [if_neg q11]
    by_cases q12 : y2 = 12
    · obtain ⟨y, c1, c2⟩ := s_reader h (xs (i + 1)) (xs (i + 2))
      dsimp only at c1 c2
      rw [if_pos q12]
      simp only [Option.bind_some, e1, e2, b1, b2, t1, t2, eq_self, if_true, c1, c2]
      exact go σ h
    rw [if_neg q12]
    by_cases q13 : y2 = 13
    · obtain ⟨y, c1, c2⟩ := s_would h hn (xs (i + 1)) (xs (i + 2))
      dsimp only at c1 c2
      rw [if_pos q13]
      simp only [Option.bind_some, e1, e2, b1, b2, t1, t2, eq_self, if_true, c1, c2]
      exact go σ h
    rw [if_neg q13]
    by_cases q14 : y2 = 14
    · obtain ⟨y, σ1, σ2, c1, c2, c3⟩ := s_best h hN (xs (i + 1))
      rw [if_pos q14]
      simp only [Option.bind_some, e1, b1, t1, eq_self, if_true, c1, c2]
      exact go σ2 c3
    rw [if_neg q14]
    by_cases q15 : y2 = 15
    · obtain ⟨y, σ1, σ2, c1, c2, c3⟩ := s_soonest h hN (xs (i + 1)) (xs (i + 2))
      rw [if_pos q15]
      simp only [Option.bind_some, e1, e2, b1, b2, t1, t2, eq_self, if_true, c1, c2]
      exact go σ2 c3
    rw [if_neg q15]
    by_cases q16 : y2 = 16
    · obtain ⟨y, σ1, σ2, c1, c2, c3⟩ := s_copies h hN (xs (i + 1)) (xs (i + 2))
      rw [if_pos q16]
      simp only [Option.bind_some, e1, e2, b1, b2, t1, t2, eq_self, if_true, c1, c2]
      exact go σ2 c3
    rw [if_neg q16]
    by_cases q17 : y2 = 17
    · obtain ⟨y, σ1, σ2, c1, c2, c3⟩ := s_fits h hn (xs (i + 1)) (xs (i + 2)) (xs (i + 3)) (xs (i + 4)) (xs (i + 5)) (xs (i + 6))
      rw [if_pos q17]
      simp only [Option.bind_some, e1, e2, e3, e4, e5, e6, b1, b2, b3, b4, b5, b6, t1, t2, t3, t4, t5, t6, eq_self, if_true, c1, c2]
      exact go σ2 c3
    rw [if_neg q17]
    by_cases q18 : y2 = 18
    · obtain ⟨y, σ1, σ2, c1, c2, c3⟩ := s_lost h hn (xs (i + 1)) (xs (i + 2)) (xs (i + 3)) (xs (i + 4)) (xs (i + 5)) (xs (i + 6))
      rw [if_pos q18]
      simp only [Option.bind_some, e1, e2, e3, e4, e5, e6, b1, b2, b3, b4, b5, b6, t1, t2, t3, t4, t5, t6, eq_self, if_true, c1, c2]
      exact go σ2 c3
    rw [if_neg q18]
    by_cases q19 : y2 = 19
    · obtain ⟨y, σ1, σ2, c1, c2, c3⟩ := s_drawn h hn (xs (i + 1)) (xs (i + 2)) (xs (i + 3))
      rw [if_pos q19]
      simp only [Option.bind_some, e1, e2, e3, b1, b2, b3, t1, t2, t3, eq_self, if_true, c1, c2]
      exact go σ2 c3
    rw [if_neg q19]
    by_cases q20 : y2 = 20
    · obtain ⟨y, σ1, σ2, c1, c2, c3⟩ := s_image h hn (xs (i + 1))
      rw [if_pos q20]
      simp only [Option.bind_some, e1, b1, t1, eq_self, if_true, c1, c2]
      exact go σ2 c3
    rw [if_neg q20]
    by_cases q21 : y2 = 21
    · obtain ⟨y, σ1, σ2, c1, c2, c3⟩ := s_restore h hn (xs (i + 1))
      rw [if_pos q21]
      simp only [Option.bind_some, e1, b1, t1, eq_self, if_true, c1, c2]
      exact go σ2 c3
    rw [if_neg q21]
    by_cases q22 : y2 = 22
    · obtain ⟨y, c1, c2⟩ := s_kind h (xs (i + 1))
      dsimp only at c1 c2
      rw [if_pos q22]
      simp only [Option.bind_some, e1, b1, t1, eq_self, if_true, c1, c2]
      exact go σ h
    rw [if_neg q22]
    by_cases q23 : y2 = 23
    · obtain ⟨y, σ1, σ2, c1, c2, c3⟩ := s_as h hn (xs (i + 1)) (xs (i + 2))
      rw [if_pos q23]
      simp only [Option.bind_some, e1, e2, b1, b2, t1, t2, eq_self, if_true, c1, c2]
      exact go σ2 c3
    rw [if_neg q23]
    by_cases q24 : y2 = 24
    · obtain ⟨y, σ1, σ2, c1, c2, c3⟩ := s_ask h hn (xs (i + 1)) (xs (i + 2))
      rw [if_pos q24]
      simp only [Option.bind_some, e1, e2, b1, b2, t1, t2, eq_self, if_true, c1, c2]
      exact go σ2 c3
    rw [if_neg q24]
    by_cases q25 : y2 = 25
    · obtain ⟨y, c1, c2⟩ := s_trace h (xs (i + 1))
      dsimp only at c1 c2
      rw [if_pos q25]
      simp only [Option.bind_some, e1, b1, t1, eq_self, if_true, c1, c2]
      exact go σ h
    rw [if_neg q25]
    by_cases q26 : y2 = 26
    · obtain ⟨y, c1, c2⟩ := s_count h hn (xs (i + 1))
      dsimp only at c1 c2
      rw [if_pos q26]
      simp only [Option.bind_some, e1, b1, t1, eq_self, if_true, c1, c2]
      exact go σ h
    rw [if_neg q26]
    by_cases q27 : y2 = 27
    · obtain ⟨y, c1, c2⟩ := s_status h
      rw [if_pos q27]
      simp only [Option.bind_some, eq_self, if_true, c1, c2]
      exact go σ h
    rw [if_neg q27]
    exact go σ h
/-- the memory behind the constructors -/
def σ00 : Mem := fun k => if k = 2 then fill8 (fun _ => 0) (-1) else if k = 78 then fill8 (fun _ => 0) (-1) else if k = 70 then (fun j => if j = 3 then 74 else 0) else fun _ => 0
theorem σ00_0 {k j : Nat} (h : k ≠ 2) (h1 : k ≠ 78) (h2 : k ≠ 70) : σ00 k j = 0 := by
  unfold σ00
  rw [if_neg h, if_neg h1, if_neg h2]
theorem σ00_8 {j : Nat} (h : j < 8) : σ00 2 j = -1 ∧ σ00 78 j = -1 := by
  have : fill8 (fun _ => 0) (-1) j = -1 := by
    unfold fill8 upd
    rcases (show j = 0 ∨ j = 1 ∨ j = 2 ∨ j = 3 ∨ j = 4 ∨ j = 5 ∨ j = 6 ∨ j = 7 by omega) with rfl | rfl | rfl | rfl | rfl | rfl | rfl | rfl <;> rfl
  exact ⟨this, this⟩
theorem inv_00 : Inv σ00 := by
  have z : ∀ k j, k ≠ 2 → k ≠ 78 → k ≠ 70 → σ00 k j = 0 := fun k j h h1 h2 => σ00_0 h h1 h2
  have f82 : σ00 82 = fun _ => 0 := by funext j; exact z 82 j (by decide) (by decide) (by decide)
  have ok : Okt (fun _ => 0) := ⟨⟨0, by decide, rfl⟩, Or.inl rfl, ⟨by decide, by decide⟩, ⟨by decide, by decide⟩, ⟨by decide, by decide⟩, ⟨by decide, by decide⟩, fun r hr hlt => absurd hlt (nI_nn (by omega))⟩
  refine ⟨⟨fun r hr => ?_, fun r i hr hi => ?_⟩, ?_, ⟨⟨0, by decide, ?_, ?_⟩, fun i hi => ?_, ?_⟩, ⟨by rw [f82]; exact ok, ?_⟩, ⟨⟨?_, Or.inl ?_⟩, ⟨?_, Or.inl ?_⟩⟩, ⟨0, 0, by decide, by decide, ?_, ?_, ?_, fun i hi => by omega⟩, ⟨0, by decide, ?_, ?_, fun i hi => by omega⟩⟩
  · obtain ⟨a, b⟩ := σ00_8 hr
    rw [a, b, z 3 r (by decide) (by decide) (by decide), z 79 r (by decide) (by decide) (by decide)]
    exact ⟨rfl, rfl, Or.inl rfl, 0, by decide, rfl⟩
  · rw [z (5 + r) i (by omega) (by omega) (by omega), z 80 _ (by decide) (by decide) (by decide)]
  · unfold ISta; rw [z 0 10 (by decide) (by decide) (by decide), z 77 3 (by decide) (by decide) (by decide)]
  · exact z 13 1 (by decide) (by decide) (by decide)
  · exact z 77 4 (by decide) (by decide) (by decide)
  · rw [z 14 i (by decide) (by decide) (by decide), z 81 i (by decide) (by decide) (by decide)]
  · rw [z 13 3 (by decide) (by decide) (by decide), z 77 11 (by decide) (by decide) (by decide)]
  · rw [f82]
    refine ⟨?_, fun r hr hlt => absurd hlt (nI_nn (by omega))⟩
    exact ⟨z 15 _ (by decide) (by decide) (by decide), z 15 _ (by decide) (by decide) (by decide), z 15 _ (by decide) (by decide) (by decide), z 15 _ (by decide) (by decide) (by decide), z 15 _ (by decide) (by decide) (by decide), z 15 _ (by decide) (by decide) (by decide), z 15 _ (by decide) (by decide) (by decide), z 15 _ (by decide) (by decide) (by decide), z 15 _ (by decide) (by decide) (by decide)⟩
  · rw [z 25 0 (by decide) (by decide) (by decide), z 86 0 (by decide) (by decide) (by decide)]
  · exact z 86 0 (by decide) (by decide) (by decide)
  · rw [z 30 0 (by decide) (by decide) (by decide), z 86 1 (by decide) (by decide) (by decide)]
  · exact z 86 1 (by decide) (by decide) (by decide)
  · exact z 35 1 (by decide) (by decide) (by decide)
  · exact z 35 2 (by decide) (by decide) (by decide)
  · exact z 77 18 (by decide) (by decide) (by decide)
  · exact z 75 1 (by decide) (by decide) (by decide)
  · exact z 77 20 (by decide) (by decide) (by decide)
theorem pure_main (L : Nat) (xs : Nat → Int32) (hL : L ≤ 3584) : ∃ (n : Nat) (τ : Mem), f_L_law_l18 n (L, xs) n 0 (fun k => if k = 2 then fill8 (fun _ => 0) (-1) else if k = 78 then fill8 (fun _ => 0) (-1) else if k = 70 then (fun j => if j = 3 then 74 else 0) else fun _ => 0) = some (1, τ) := by
  obtain ⟨n, hn⟩ : ∃ n : Nat, 100000 ≤ n := ⟨100000, Nat.le_refl _⟩
  obtain ⟨τ, h⟩ := law_loop (n := n) (L := L) (xs := xs) hn hL 600 0 n σ00 inv_00 (by omega) (by omega) (by decide)
  exact ⟨n, τ, h⟩
