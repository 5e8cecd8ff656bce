/-! ===== images, acts ===== -/
theorem EqT.symm {g h : Nat → Int32} (e : EqT g h) : EqT h g := by
  obtain ⟨⟨e0, e1, e2, e3, e4, e5, e6, e7, e8⟩, f⟩ := e
  refine ⟨⟨e0.symm, e1.symm, e2.symm, e3.symm, e4.symm, e5.symm, e6.symm, e7.symm, e8.symm⟩, fun r hr hlt => ?_⟩
  obtain ⟨a, b, c, d⟩ := f r hr (by rw [e4]; exact hlt)
  exact ⟨a.symm, b.symm, c.symm, d.symm⟩
theorem EqT.trans {g h k : Nat → Int32} (e : EqT g h) (w : EqT h k) : EqT g k := by
  obtain ⟨⟨e0, e1, e2, e3, e4, e5, e6, e7, e8⟩, f⟩ := e
  obtain ⟨⟨w0, w1, w2, w3, w4, w5, w6, w7, w8⟩, y⟩ := w
  refine ⟨⟨e0.trans w0, e1.trans w1, e2.trans w2, e3.trans w3, e4.trans w4, e5.trans w5, e6.trans w6, e7.trans w7, e8.trans w8⟩, fun r hr hlt => ?_⟩
  obtain ⟨a, b, c, d⟩ := f r hr hlt
  obtain ⟨a', b', c', d'⟩ := y r hr (by rw [← e4]; exact hlt)
  exact ⟨a.trans a', b.trans b', c.trans c', d.trans d'⟩
theorem EqT.of33 {g h : Nat → Int32} (e : ∀ x, x < 33 → g x = h x) : EqT g h :=
  ⟨⟨e 0 (by decide), e 1 (by decide), e 2 (by decide), e 3 (by decide), e 4 (by decide), e 5 (by decide), e 6 (by decide), e 7 (by decide), e 8 (by decide)⟩, fun r hr _ => ⟨e _ (by omega), e _ (by omega), e _ (by omega), e _ (by omega)⟩⟩
theorem r_isTown (τ : Mem) : f_X8_isTown τ = some (if τ 82 8 = 1 then 1 else 0) := by
  unfold f_X8_isTown
  rw [if_pos (by decide), tl8]
  by_cases q : τ 82 8 = 1
  · rw [if_pos q, if_pos q]
  · rw [if_neg q, if_neg q]
/-- a town, or none -/
theorem twn {σ : Mem} (h : Inv σ) : (σ 15 0 = 0 ∧ σ 82 8 = 0) ∨ (σ 15 0 = 1 ∧ σ 82 8 = 1) := by
  have e := h.tw.1.1
  rcases h.2.2.2.1.1.2.1 with q | q
  · exact Or.inl ⟨e.trans q, q⟩
  · exact Or.inr ⟨e.trans q, q⟩
theorem lay_at {σ : Mem} {a fr b to x : Nat} (hx : x < 33) : mcpy σ a fr b to 33 b (to + x) = σ a (fr + x) := by
  rw [mc_if, if_pos ⟨rfl, by omega, by omega⟩]
  congr 1; omega
theorem s_image {σ : Mem} {n : Nat} (h : Inv σ) (hn : 2000 ≤ n) (x : Int32) : Both σ (f_X7_image x) (f_X8_image n x) := by
  by_cases h0 : x < 0
  · exact Both.same h (-1000001) (by simp [f_X7_image, h0]) (by simp [f_X8_image, inno 0 1 (Or.inl h0)])
  by_cases h1 : x ≤ 1
  rotate_left
  · have h2 : (1 : Int32) < x := by rw [i32_le] at h1; rw [i32_lt]; omega
    exact Both.same h (-1000001) (by simp [f_X7_image, h0, h1]) (by simp [f_X8_image, inno 0 1 (Or.inr h2)])
  have hin : ∀ τ, f_X8_in τ x 0 1 = some 1 := fun τ => in_yes h0 (fun q => by rw [i32_le] at h1; rw [i32_lt] at q; omega)
  rcases twn h with ⟨t1, t2⟩ | ⟨t1, t2⟩
  · exact Both.same h (-1000002) (by simp [f_X7_image, h0, h1, t1]) (by simp [f_X8_image, hin, r_isTown, t2])
  obtain ⟨k, hk, rfl⟩ := okI (k := 1) h0 h1 (by decide)
  obtain ⟨t, ht, hte, h25⟩ : ∃ t, isTown t = true ∧ f_X7_imageNumber σ (nI k) = some t ∧ ((k = 0 ∧ t = 25) ∨ (k = 1 ∧ t = 30)) := by
    rcases (show k = 0 ∨ k = 1 by omega) with rfl | rfl
    · exact ⟨25, rfl, rfl, Or.inl ⟨rfl, rfl⟩⟩
    · exact ⟨30, rfl, rfl, Or.inr ⟨rfl, rfl⟩⟩
  obtain ⟨τ, e1, e2, e3, e4⟩ := c_takeOver (σ := σ) (t := t) (x := 15) ht rfl (by omega) (by rw [t1]; rfl)
  have g82 : τ 82 = σ 82 := e4 82 (by omega)
  have g33 : (33 : Int32) * nI k = nI (33 * k) := pk_mul 33 k
  refine ⟨1, τ, mset (mcpy τ 82 0 85 (33 * k) 33) 86 k 1, ?_, ?_, ?_⟩
  · simp [f_X7_image, h0, h1, t1, hte, ht, e1]
  · have hl := r_lay (σ := τ) (n := n) (a := 82) (fr := 0) (b := 85) (to := 33 * k) rfl rfl (by decide) (by decide) (show 33 * k + 33 ≤ 66 by omega) (by decide) (by decide) (by omega)
    have hl' : f_X8_lay n 82 0 85 (33 * nI k) τ = some (mcpy τ 82 0 85 (33 * k) 33) := by rw [g33]; exact hl
    simp [f_X8_image, hin, r_isTown, g82, t2, hl', inL (inB_nI (show k < 2 by omega) (show 2 < 2 ^ 31 by decide)), tn_nI (show k < 2 ^ 31 by omega)]
  · obtain ⟨hR, hS, hT, hW, ⟨hI1, hI2⟩, hA, hC⟩ := h
    have sm : ∀ P : Nat → Bool, (∀ a, t ≤ a → a < t + 5 → P a = false) → P 85 = false → P 86 = false → Same P σ (mset (mcpy τ 82 0 85 (33 * k) 33) 86 k 1) := fun P p1 p2 p3 =>
      Same.tr (τ := τ) (fun a ha => e4 a (by rcases Nat.lt_or_ge a t with q | q; exact Or.inl q; rcases Nat.lt_or_ge a (t + 5) with q2 | q2; exact absurd ha (by rw [p1 a q q2]; decide); exact Or.inr q2)) ((Same.mc p2).tr (Same.ms p3))
    have o : ∀ a, (a < t ∨ t + 5 ≤ a) → a ≠ 85 → a ≠ 86 → mset (mcpy τ 82 0 85 (33 * k) 33) 86 k 1 a = σ a := fun a p1 p2 p3 => by rw [ms_cell p3, mcpy_ne a p2]; exact e4 a p1
    have pf : ∀ a, t ≤ a → a < t + 5 → 25 ≤ a ∧ a < 35 := fun a p1 p2 => by omega
    refine ⟨hR.congr (sm _ (fun a p1 p2 => by have := pf a p1 p2; simp [pRow]; omega) rfl rfl), hS.congr (by rw [o 0 (by omega) (by decide) (by decide)]) (by rw [o 77 (by omega) (by decide) (by decide)]), hT.congr (sm _ (fun a p1 p2 => by have := pf a p1 p2; simp [pTap]; omega) rfl rfl) (by rw [o 13 (by omega) (by decide) (by decide)]) (by rw [o 13 (by omega) (by decide) (by decide)]) (by rw [o 77 (by omega) (by decide) (by decide)]) (by rw [o 77 (by omega) (by decide) (by decide)]), hW.congr (sm _ (fun a p1 p2 => by have := pf a p1 p2; simp [pTow]; omega) rfl rfl), ?_, hA.congr (sm _ (fun a p1 p2 => by have := pf a p1 p2; simp [pAct]; omega) rfl rfl) (by rw [o 35 (by omega) (by decide) (by decide)]) (by rw [o 35 (by omega) (by decide) (by decide)]) (by rw [o 77 (by omega) (by decide) (by decide)]), hC.congr (sm _ (fun a p1 p2 => by have := pf a p1 p2; simp [pTrc]; omega) rfl rfl) (by rw [o 75 (by omega) (by decide) (by decide)]) (by rw [o 77 (by omega) (by decide) (by decide)])⟩
    have key : Img (mset (mcpy τ 82 0 85 (33 * k) 33) 86 k 1) k t := by
      have c0 : mset (mcpy τ 82 0 85 (33 * k) 33) 86 k 1 t 0 = 1 := by rw [ms_cell (by omega), mcpy_ne t (by omega), e3, t1]
      have c1 : mset (mcpy τ 82 0 85 (33 * k) 33) 86 k 1 86 k = 1 := ms_at
      have ce : ∀ x, x < 33 → mset (mcpy τ 82 0 85 (33 * k) 33) 86 k 1 85 (33 * k + x) = σ 82 x := fun x hx => by
        rw [ms_cell (by decide), lay_at hx, g82, Nat.zero_add]
      have cE : EqT (fun i => mset (mcpy τ 82 0 85 (33 * k) 33) 86 k 1 85 (33 * k + i)) (σ 82) := EqT.of33 ce
      refine ⟨c0.trans c1.symm, Or.inr ⟨c1, hW.1.eqT cE, (ce 8 (by decide)).trans t2, ?_⟩⟩
      refine TwR.eqT (g := σ 82) ?_ cE
      exact (e2 _ hW.2).congr (by rw [ms_cell (by omega), mcpy_ne _ (by omega)]) (by rw [ms_cell (by omega), mcpy_ne _ (by omega)]) (by rw [ms_cell (by omega), mcpy_ne _ (by omega)]) (by rw [ms_cell (by omega), mcpy_ne _ (by omega)]) (by rw [ms_cell (by omega), mcpy_ne _ (by omega)])
    have oth : ∀ (k' t' : Nat), Img σ k' t' → k' ≠ k → k' < 2 → k < 2 → (∀ a, t' ≤ a → a < t' + 5 → mset (mcpy τ 82 0 85 (33 * k) 33) 86 k 1 a = σ a) → Img (mset (mcpy τ 82 0 85 (33 * k) 33) 86 k 1) k' t' := by
      intro k' t' hi hne hk2 hk3 ho
      have c1 : mset (mcpy τ 82 0 85 (33 * k) 33) 86 k 1 86 k' = σ 86 k' := by
        rw [ms_off (Or.inr hne), mcpy_ne 86 (by decide), e4 86 (by omega)]
      have c2 : ∀ x, x < 33 → mset (mcpy τ 82 0 85 (33 * k) 33) 86 k 1 85 (33 * k' + x) = σ 85 (33 * k' + x) := fun x hx => by
        rw [ms_cell (by decide), mc_if, if_neg (by omega), e4 85 (by omega)]
      have cE : EqT (fun i => mset (mcpy τ 82 0 85 (33 * k) 33) 86 k 1 85 (33 * k' + i)) (fun i => σ 85 (33 * k' + i)) := EqT.of33 c2
      obtain ⟨a1, a2⟩ := hi
      refine ⟨by rw [ho t' (Nat.le_refl _) (by omega), c1]; exact a1, ?_⟩
      rw [c1]
      exact a2.imp id (fun q => ⟨q.1, q.2.1.eqT cE, by rw [c2 8 (by decide)]; exact q.2.2.1, (q.2.2.2.congr (ho _ (by omega) (by omega)) (ho _ (by omega) (by omega)) (ho _ (by omega) (by omega)) (ho _ (by omega) (by omega)) (ho _ (by omega) (by omega))).eqT cE⟩)
    rcases h25 with ⟨rfl, rfl⟩ | ⟨rfl, rfl⟩
    · exact ⟨key, oth 1 30 hI2 (by decide) (by decide) (by decide) (fun a p1 p2 => o a (by omega) (by omega) (by omega))⟩
    · exact ⟨oth 0 25 hI1 (by decide) (by decide) (by decide) (fun a p1 p2 => o a (by omega) (by omega) (by omega)), key⟩
theorem s_restore {σ : Mem} {n : Nat} (h : Inv σ) (hn : 2000 ≤ n) (x : Int32) : Both σ (f_X7_restore x) (f_X8_restore n x) := by
  by_cases h0 : x < 0
  · exact Both.same h (-1000001) (by simp [f_X7_restore, h0]) (by simp [f_X8_restore, inno 0 1 (Or.inl h0)])
  by_cases h1 : x ≤ 1
  rotate_left
  · have h2 : (1 : Int32) < x := by rw [i32_le] at h1; rw [i32_lt]; omega
    exact Both.same h (-1000001) (by simp [f_X7_restore, h0, h1]) (by simp [f_X8_restore, inno 0 1 (Or.inr h2)])
  have hin : ∀ τ, f_X8_in τ x 0 1 = some 1 := fun τ => in_yes h0 (fun q => by rw [i32_le] at h1; rw [i32_lt] at q; omega)
  obtain ⟨k, hk, rfl⟩ := okI (k := 1) h0 h1 (by decide)
  have bk := inL (inB_nI (show k < 2 by omega) (show 2 < 2 ^ 31 by decide))
  have tk := tn_nI (show k < 2 ^ 31 by omega)
  obtain ⟨t, ht, hte, hI⟩ : ∃ t, isTown t = true ∧ (∀ τ, f_X7_imageNumber τ (nI k) = some t) ∧ Img σ k t ∧ (t = 25 ∨ t = 30) := by
    rcases (show k = 0 ∨ k = 1 by omega) with rfl | rfl
    · exact ⟨25, rfl, fun _ => rfl, h.2.2.2.2.1.1, Or.inl rfl⟩
    · exact ⟨30, rfl, fun _ => rfl, h.2.2.2.2.1.2, Or.inr rfl⟩
  obtain ⟨⟨i1, i2⟩, h25⟩ := hI
  rcases i2 with i2 | ⟨i2, i3, i4, i5⟩
  · exact Both.same h (-1000002) (by simp [f_X7_restore, h0, h1, hte, ht, i1, i2]) (by simp [f_X8_restore, hin, bk, tk, i2])
  obtain ⟨τ, e1, e2, e3, e4⟩ := c_takeOver (σ := σ) (t := 15) (x := t) rfl ht (by omega) (by rw [i1, i2]; rfl)
  have g33 : (33 : Int32) * nI k = nI (33 * k) := pk_mul 33 k
  have g85 : ∀ x, mset (mset τ 35 1 0) 35 2 0 85 x = σ 85 x := fun x => by rw [ms_cell (by decide), ms_cell (by decide), e4 85 (by omega)]
  refine ⟨1, mset (mset τ 35 1 0) 35 2 0, mset (mcpy (mset (mset τ 35 1 0) 35 2 0) 85 (33 * k) 82 0 33) 77 18 0, ?_, ?_, ?_⟩
  · simp [f_X7_restore, h0, h1, hte, ht, i1, i2, e1, f_X0_forget]
  · have hl := r_lay (σ := mset (mset τ 35 1 0) 35 2 0) (n := n) (a := 85) (fr := 33 * k) (b := 82) (to := 0) rfl rfl (by decide) (show 33 * k + 33 ≤ 66 by omega) (by decide) (by decide) (by decide) (by omega)
    have hl' : f_X8_lay n 85 (33 * nI k) 82 0 (mset (mset τ 35 1 0) 35 2 0) = some (mcpy (mset (mset τ 35 1 0) 35 2 0) 85 (33 * k) 82 0 33) := by rw [g33]; exact hl
    have g86 : mset (mset τ 35 1 0) 35 2 0 86 k = σ 86 k := by rw [ms_cell (by decide), ms_cell (by decide), e4 86 (by omega)]
    simp [f_X8_restore, hin, bk, tk, g86, i2, hl']
  · obtain ⟨hR, hS, hT, hW, hI, hA, hC⟩ := h
    generalize hρ : mset (mset τ 35 1 0) 35 2 0 = ρ at *
    have r1 : ∀ a, (a < 15 ∨ 20 ≤ a) → a ≠ 35 → ρ a = σ a := fun a p1 p2 => by rw [← hρ, ms_cell p2, ms_cell p2]; exact e4 a p1
    have o : ∀ a, (a < 15 ∨ 20 ≤ a) → a ≠ 35 → a ≠ 82 → a ≠ 77 → mset (mcpy ρ 85 (33 * k) 82 0 33) 77 18 0 a = σ a := fun a p1 p2 p3 p4 => by rw [ms_cell p4, mcpy_ne a p3]; exact r1 a p1 p2
    have sl : ∀ j, j ≠ 18 → mset (mcpy ρ 85 (33 * k) 82 0 33) 77 18 0 77 j = σ 77 j := fun j hj => by rw [ms_off (Or.inr hj), mcpy_ne 77 (by decide), r1 77 (by omega) (by decide)]
    have c82 : ∀ x, x < 33 → mset (mcpy ρ 85 (33 * k) 82 0 33) 77 18 0 82 x = σ 85 (33 * k + x) := fun x hx => by
      have := lay_at (σ := ρ) (a := 85) (fr := 33 * k) (b := 82) (to := 0) hx
      rw [Nat.zero_add] at this
      rw [ms_cell (by decide), this, g85]
    have cE : EqT (mset (mcpy ρ 85 (33 * k) 82 0 33) 77 18 0 82) (fun i => σ 85 (33 * k + i)) := EqT.of33 c82
    refine ⟨hR.congr (fun a ha => by simp [pRow] at ha; exact o a (by omega) (by omega) (by omega) (by omega)), hS.congr (by rw [o 0 (by omega) (by decide) (by decide) (by decide)]) (sl 3 (by decide)), hT.congr (fun a ha => by simp [pTap] at ha; exact o a (by omega) (by omega) (by omega) (by omega)) (by rw [o 13 (by omega) (by decide) (by decide) (by decide)]) (by rw [o 13 (by omega) (by decide) (by decide) (by decide)]) (sl 4 (by decide)) (sl 11 (by decide)), ⟨i3.eqT cE, ?_⟩, hI.congr (fun a ha => by simp [pImg] at ha; exact o a (by omega) (by omega) (by omega) (by omega)), ?_, hC.congr (fun a ha => by simp [pTrc] at ha; exact o a (by omega) (by omega) (by omega) (by omega)) (by rw [o 75 (by omega) (by decide) (by decide) (by decide)]) (sl 20 (by decide))⟩
    · refine TwR.eqT ?_ cE
      have c : ∀ a, 15 ≤ a → a < 20 → mset (mcpy ρ 85 (33 * k) 82 0 33) 77 18 0 a = τ a := fun a p1 p2 => by rw [ms_cell (by omega), mcpy_ne a (by omega), ← hρ, ms_cell (by omega), ms_cell (by omega)]
      exact (e2 _ i5).congr (c _ (by omega) (by omega)) (c _ (by omega) (by omega)) (c _ (by omega) (by omega)) (c _ (by omega) (by omega)) (c _ (by omega) (by omega))
    · have c35 : mset (mcpy ρ 85 (33 * k) 82 0 33) 77 18 0 35 = ρ 35 := by rw [ms_cell (by decide), mcpy_ne 35 (by decide)]
      exact ⟨0, 0, by decide, by decide, by rw [c35, ← hρ]; rfl, by rw [c35, ← hρ]; rfl, rfl, fun i hi => absurd hi (by omega)⟩
