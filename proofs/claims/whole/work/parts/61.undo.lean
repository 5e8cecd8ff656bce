/-! ===== undo ===== -/
theorem c_back66 {σ : Mem} {q : Nat} (hq : q < 24) : f_X0_takeBack_b66 15 (37 + q) σ = some (cStands σ 15 (σ (37 + q) 3) (σ (37 + q) 4) (σ (37 + q) 5) (σ (37 + q) 6)) := by
  obtain ⟨i1, i2⟩ := ia_act hq
  have it : (isTown 15 = true) = True := eq_true rfl
  have b3 : (inB 3 7 = true) = True := inL (by decide)
  have b4 : (inB 4 7 = true) = True := inL (by decide)
  have b5 : (inB 5 7 = true) = True := inL (by decide)
  have b6 : (inB 6 7 = true) = True := inL (by decide)
  simp only [f_X0_takeBack_b66, eq_true i1, i2, b3, b4, b5, b6, it, if_true, tl3, tl4, tl5, tl6, c_copyStands (σ := σ) (t := 15) rfl, Option.bind_some]
theorem unap_no {s g : Nat → Int32} (h : s 0 < 0 ∨ (¬ s 0 < 0 ∧ g 4 ≤ s 0)) {i : Nat} (hi : 4 ≤ i) : unap s g i = g i := by
  unfold unap
  rw [if_neg (by omega), if_neg (by omega), if_neg (by omega), if_neg (by omega)]
  rcases h with h | ⟨h1, h2⟩
  · rw [if_pos h]
  · rw [if_neg h1, if_pos h2]
theorem unap_yes {s g : Nat → Int32} {r : Nat} (hr : r < 6) (h : s 0 = nI r) (h4 : ¬ g 4 ≤ nI r) {i : Nat} (hi : 4 ≤ i) : unap s g i = if i = 15 + r then s 1 else if i = 21 + r then s 2 else g i := by
  unfold unap
  rw [if_neg (by omega), if_neg (by omega), if_neg (by omega), if_neg (by omega), h, if_neg (nI_nn (by omega)), if_neg h4, tn_nI (by omega)]
theorem s_undo {σ : Mem} {n : Nat} (h : Inv σ) (hn : 2000 ≤ n) : Both σ f_X7_undo (f_X8_undo n) := by
  obtain ⟨m, hm⟩ := h.many
  have h6 := hm.1
  obtain ⟨o, k, ho, hk, k1, k2, k3, hC⟩ := id h.2.2.2.2.2.1
  by_cases h0 : k = 0
  · subst h0
    have q1 : ¬ (0 : Int32) < nI 0 := by decide
    have q2 : nI 0 = 0 := rfl
    exact Both.same h (-1000002) (by simp [f_X7_undo, k2, q2]) (by simp [f_X8_undo, k3, q2])
  obtain ⟨k, rfl⟩ : ∃ k', k = k' + 1 := ⟨k - 1, by omega⟩
  have q1 : (0 : Int32) < nI (k + 1) := (nI_lt_lit (n := 0) (by decide) (by omega)).mpr (by omega)
  have q2 : ¬ nI (k + 1) = 0 := fun q => by have := (nI_inj (b := 0) (by omega) (by decide)).mp q; omega
  have hq : (o + k) % 24 < 24 := Nat.mod_lt _ (by decide)
  have pr : nI (k + 1) - 1 = nI k := nI_pred k
  obtain ⟨hO, hE⟩ := hC k (by omega)
  have st1 : stOf σ (k + 1) k = fun x => σ 87 (33 * k + x) := by unfold stOf; rw [if_pos (by omega)]
  have st2 : stOf σ (k + 1) (k + 1) = σ 82 := by unfold stOf; rw [if_neg (by omega)]
  rw [st1] at hO hE
  rw [st2] at hE
  -- the class's side
  have T2 : TwR (mset σ 35 2 (nI k)) 15 (σ 82) := h.tw.congr (by rw [ms_cell (by decide)]) (by rw [ms_cell (by decide)]) (by rw [ms_cell (by decide)]) (by rw [ms_cell (by decide)]) (by rw [ms_cell (by decide)])
  have sl : mset σ 35 2 (nI k) (37 + (o + k) % 24) = σ (37 + (o + k) % 24) := ms_cell (by omega)
  have e35 : mset σ 35 2 (nI k) 35 1 = nI o := by rw [ms_off (Or.inr (by decide))]; exact k1
  have e35b : mset σ 35 2 (nI k) 35 2 = nI k := ms_at
  have bq := inL (inB_nI hq (show 24 < 2 ^ 31 by decide))
  have tq := tn_nI (show (o + k) % 24 < 2 ^ 31 by omega)
  have b0 : (inB 0 7 = true) = True := inL (by decide)
  have b1 : (inB 1 7 = true) = True := inL (by decide)
  have b2 : (inB 2 7 = true) = True := inL (by decide)
  have it : (isTown 15 = true) = True := eq_true rfl
  have cls : ∃ τ, f_X0_takeBack 15 σ = some τ ∧ TwR τ 15 (unap (σ (37 + (o + k) % 24)) (σ 82)) ∧ τ 35 1 = nI o ∧ τ 35 2 = nI k ∧ ∀ a, (a < 15 ∨ 20 ≤ a) → a ≠ 35 → τ a = σ a := by
    rcases ix_cases (σ (37 + (o + k) % 24) 0) (n := m) (by omega) with hx | ⟨hx1, hx2⟩ | ⟨r, hr, hx⟩
    · refine ⟨_, by simp only [f_X0_takeBack, k2, q1, if_true, Option.bind_some, pr, e35, e35b, mod24 ho (show k ≤ 24 by omega), bq, tq, b0, tl0, it, sl, c_has (t := 15) rfl T2, if_pos hx, b2i, Bool.false_eq_true, if_false, c_back66 hq]; rfl, ?_, ?_, ?_, fun a p1 p2 => ?_⟩
      · refine (T2.stands _ _ _ _).eqT ?_
        have un := fun i (hi : 4 ≤ i) => unap_no (s := σ (37 + (o + k) % 24)) (g := σ 82) (Or.inl hx) hi
        exact ⟨⟨unap0, unap1, unap2, unap3, un 4 (by decide), un 5 (by decide), un 6 (by decide), un 7 (by decide), un 8 (by decide)⟩, fun r hr _ => by
          simp only [un (9 + r) (by omega), un (15 + r) (by omega), un (21 + r) (by omega), un (27 + r) (by omega)]
          simp [show ¬ (9 + r = 0) by omega, show ¬ (9 + r = 2) by omega, show ¬ (9 + r = 3) by omega, show ¬ (9 + r = 1) by omega, show ¬ (15 + r = 2) by omega, show ¬ (15 + r = 3) by omega, show ¬ (15 + r = 1) by omega, show ¬ (21 + r = 2) by omega, show ¬ (21 + r = 3) by omega, show ¬ (21 + r = 1) by omega, show ¬ (27 + r = 2) by omega, show ¬ (27 + r = 3) by omega, show ¬ (27 + r = 1) by omega]⟩
      · rw [cStands_ne (by decide)]; exact e35
      · rw [cStands_ne (by decide)]; exact e35b
      · rw [cStands_ne (by omega), ms_cell p2]
    · rw [← hm.2] at hx2
      refine ⟨_, by simp only [f_X0_takeBack, k2, q1, if_true, Option.bind_some, pr, e35, e35b, mod24 ho (show k ≤ 24 by omega), bq, tq, b0, tl0, it, sl, c_has (t := 15) rfl T2, if_neg hx1, if_pos hx2, b2i, Bool.false_eq_true, if_false, c_back66 hq]; rfl, ?_, ?_, ?_, fun a p1 p2 => ?_⟩
      · refine (T2.stands _ _ _ _).eqT ?_
        have un := fun i (hi : 4 ≤ i) => unap_no (s := σ (37 + (o + k) % 24)) (g := σ 82) (Or.inr ⟨hx1, hx2⟩) hi
        exact ⟨⟨unap0, unap1, unap2, unap3, un 4 (by decide), un 5 (by decide), un 6 (by decide), un 7 (by decide), un 8 (by decide)⟩, fun r hr _ => by
          simp only [un (9 + r) (by omega), un (15 + r) (by omega), un (21 + r) (by omega), un (27 + r) (by omega)]
          simp [show ¬ (9 + r = 0) by omega, show ¬ (9 + r = 2) by omega, show ¬ (9 + r = 3) by omega, show ¬ (9 + r = 1) by omega, show ¬ (15 + r = 2) by omega, show ¬ (15 + r = 3) by omega, show ¬ (15 + r = 1) by omega, show ¬ (21 + r = 2) by omega, show ¬ (21 + r = 3) by omega, show ¬ (21 + r = 1) by omega, show ¬ (27 + r = 2) by omega, show ¬ (27 + r = 3) by omega, show ¬ (27 + r = 1) by omega]⟩
      · rw [cStands_ne (by decide)]; exact e35
      · rw [cStands_ne (by decide)]; exact e35b
      · rw [cStands_ne (by omega), ms_cell p2]
    · have hn4 : ¬ σ 82 4 ≤ nI r := fun q => by rw [hm.2] at q; have := (nI_le_lit (by omega) (by omega)).mp q; omega
      have br := inL (inB_nI (show r < 6 by omega) (show 6 < 2 ^ 31 by decide))
      have tr := tn_nI (show r < 2 ^ 31 by omega)
      have slo : ∀ (v w : Int32) x, mset (mset (mset σ 35 2 (nI k)) 17 r v) 18 r w (37 + (o + k) % 24) x = σ (37 + (o + k) % 24) x := fun v w x => by rw [ms_cell (by omega), ms_cell (by omega), sl]
      have slo1 : ∀ (v : Int32) x, mset (mset σ 35 2 (nI k)) 17 r v (37 + (o + k) % 24) x = σ (37 + (o + k) % 24) x := fun v x => by rw [ms_cell (by omega), sl]
      refine ⟨_, by simp only [f_X0_takeBack, k2, q1, if_true, Option.bind_some, pr, e35, e35b, mod24 ho (show k ≤ 24 by omega), bq, tq, b0, b1, b2, br, tr, tl0, tl1, tl2, it, sl, slo1, hx, c_has (t := 15) rfl T2, if_neg (nI_nn (show r < 2 ^ 31 by omega)), if_neg hn4, b2i, if_neg (show ¬ (1 : Int32) = 0 by decide), c_back66 hq, slo]; rfl, ?_, ?_, ?_, fun a p1 p2 => ?_⟩
      · have hy := fun i (hi : 4 ≤ i) => unap_yes (s := σ (37 + (o + k) % 24)) (g := σ 82) (show r < 6 by omega) hx hn4 hi
        obtain ⟨⟨t1, t2, t3, t4, t5, t6, t7, t8, t9⟩, tt⟩ := T2
        have T3 : TwR (mset (mset (mset σ 35 2 (nI k)) (15 + 2) r (σ (37 + (o + k) % 24) 1)) (15 + 3) r (σ (37 + (o + k) % 24) 2)) 15 (fun i => if i = 15 + r then σ (37 + (o + k) % 24) 1 else if i = 21 + r then σ (37 + (o + k) % 24) 2 else σ 82 i) := by
          refine ⟨⟨?_, ?_, ?_, ?_, ?_, ?_, ?_, ?_, ?_⟩, fun q hq hlt => ?_⟩
          · dsimp only; rw [ms_cell (by decide), ms_cell (by decide), if_neg (by omega), if_neg (by omega)]; exact t1
          · dsimp only; rw [ms_cell (by decide), ms_cell (by decide), if_neg (by omega), if_neg (by omega)]; exact t2
          · dsimp only; rw [ms_cell (by decide), ms_cell (by decide), if_neg (by omega), if_neg (by omega)]; exact t3
          · dsimp only; rw [ms_cell (by decide), ms_cell (by decide), if_neg (by omega), if_neg (by omega)]; exact t4
          · dsimp only; rw [ms_cell (by decide), ms_cell (by decide), if_neg (by omega), if_neg (by omega)]; exact t5
          · dsimp only; rw [ms_cell (by decide), ms_cell (by decide), if_neg (by omega), if_neg (by omega)]; exact t6
          · dsimp only; rw [ms_cell (by decide), ms_cell (by decide), if_neg (by omega), if_neg (by omega)]; exact t7
          · dsimp only; rw [ms_cell (by decide), ms_cell (by decide), if_neg (by omega), if_neg (by omega)]; exact t8
          · dsimp only; rw [ms_cell (by decide), ms_cell (by decide), if_neg (by omega), if_neg (by omega)]; exact t9
          · dsimp only at hlt ⊢; rw [if_neg (by omega), if_neg (by omega)] at hlt
            obtain ⟨w1, w2, w3, w4⟩ := tt q hq hlt
            have w2' : mset σ 35 2 (nI k) 17 q = σ 82 (15 + q) := w2
            have w3' : mset σ 35 2 (nI k) 18 q = σ 82 (21 + q) := w3
            have w1' : mset σ 35 2 (nI k) 16 q = σ 82 (9 + q) := w1
            have w4' : mset σ 35 2 (nI k) 19 q = σ 82 (27 + q) := w4
            refine ⟨?_, ?_, ?_, ?_⟩
            · rw [if_neg (by omega), if_neg (by omega), ms_cell (by decide), ms_cell (by decide)]; exact w1'
            · rw [ms_cell (by decide), ms_if]
              by_cases hqr : q = r
              · rw [if_pos ⟨rfl, hqr⟩, if_pos (by omega)]
              · rw [if_neg (fun z => hqr z.2), if_neg (by omega), if_neg (by omega)]; exact w2'
            · rw [ms_if]
              by_cases hqr : q = r
              · rw [if_pos ⟨rfl, hqr⟩, if_neg (by omega), if_pos (by omega)]
              · rw [if_neg (fun z => hqr z.2), if_neg (by omega), if_neg (by omega), ms_cell (by decide)]; exact w3'
            · rw [if_neg (by omega), if_neg (by omega), ms_cell (by decide), ms_cell (by decide)]; exact w4'
        refine (T3.stands _ _ _ _).eqT ?_
        exact ⟨⟨unap0, unap1, unap2, unap3, hy 4 (by decide), hy 5 (by decide), hy 6 (by decide), hy 7 (by decide), hy 8 (by decide)⟩, fun q hq _ => by
          rw [hy _ (by omega), hy _ (by omega), hy _ (by omega), hy _ (by omega)]
          simp [show ¬ (9 + q = 0) by omega, show ¬ (9 + q = 2) by omega, show ¬ (9 + q = 3) by omega, show ¬ (9 + q = 1) by omega, show ¬ (15 + q = 2) by omega, show ¬ (15 + q = 3) by omega, show ¬ (15 + q = 1) by omega, show ¬ (21 + q = 2) by omega, show ¬ (21 + q = 3) by omega, show ¬ (21 + q = 1) by omega, show ¬ (27 + q = 2) by omega, show ¬ (27 + q = 3) by omega, show ¬ (27 + q = 1) by omega]⟩
      · rw [cStands_ne (by decide), ms_cell (by decide), ms_cell (by decide)]; exact e35
      · rw [cStands_ne (by decide), ms_cell (by decide), ms_cell (by decide)]; exact e35b
      · rw [cStands_ne (by omega), ms_cell (by omega), ms_cell (by omega), ms_cell p2]
  obtain ⟨ρ, c1, c2, c3, c4, c5⟩ := cls
  have r77 : ∀ j, ρ 77 j = σ 77 j := fun j => by rw [c5 77 (by omega) (by decide)]
  have r87 : ∀ j, mset ρ 77 18 (nI k) 87 j = σ 87 j := fun j => by rw [ms_cell (by decide), c5 87 (by omega) (by decide)]
  have g33 : (33 : Int32) * nI k = nI (33 * k) := pk_mul 33 k
  have hl := r_lay (σ := mset ρ 77 18 (nI k)) (n := n) (a := 87) (fr := 33 * k) (b := 82) (to := 0) rfl rfl (by decide) (show 33 * k + 33 ≤ 792 by omega) (by decide) (by decide) (by decide) (by omega)
  have hl' : f_X8_lay n 87 (33 * nI k) 82 0 (mset ρ 77 18 (nI k)) = some (mcpy (mset ρ 77 18 (nI k)) 87 (33 * k) 82 0 33) := by rw [g33]; exact hl
  have e18 : mset ρ 77 18 (nI k) 77 18 = nI k := ms_at
  refine ⟨nI k, ρ, mcpy (mset ρ 77 18 (nI k)) 87 (33 * k) 82 0 33, ?_, ?_, ?_⟩
  · simp only [f_X7_undo, k2, q1, if_true, c1, Option.bind_some, c4]
  · simp only [f_X8_undo, r77, k3, if_neg q2, Option.bind_some, pr, e18, hl', mcpy_ne 77 (show 77 ≠ 82 by decide)]
  · generalize hτ : mcpy (mset ρ 77 18 (nI k)) 87 (33 * k) 82 0 33 = τ
    have o1 : ∀ a, (a < 15 ∨ 20 ≤ a) → a ≠ 35 → a ≠ 82 → a ≠ 77 → τ a = σ a := fun a p1 p2 p3 p4 => by rw [← hτ, mcpy_ne a p3, ms_cell p4]; exact c5 a p1 p2
    have o77 : ∀ j, j ≠ 18 → τ 77 j = σ 77 j := fun j hj => by rw [← hτ, mcpy_ne 77 (by decide), ms_off (Or.inr hj)]; exact r77 j
    have e82 : ∀ x, x < 33 → τ 82 x = σ 87 (33 * k + x) := fun x hx => by
      have := lay_at (σ := mset ρ 77 18 (nI k)) (a := 87) (fr := 33 * k) (b := 82) (to := 0) hx
      rw [Nat.zero_add] at this
      rw [← hτ, this, r87]
    have eE : EqT (τ 82) (fun x => σ 87 (33 * k + x)) := EqT.of33 e82
    obtain ⟨hR, hS, hT, hW, hI, -, hc⟩ := h
    refine ⟨hR.congr (fun a ha => by simp [pRow] at ha; exact o1 a (by omega) (by omega) (by omega) (by omega)), hS.congr (by rw [o1 0 (by omega) (by decide) (by decide) (by decide)]) (o77 3 (by decide)), hT.congr (fun a ha => by simp [pTap] at ha; exact o1 a (by omega) (by omega) (by omega) (by omega)) (by rw [o1 13 (by omega) (by decide) (by decide) (by decide)]) (by rw [o1 13 (by omega) (by decide) (by decide) (by decide)]) (o77 4 (by decide)) (o77 11 (by decide)), ⟨hO.eqT eE, ?_⟩, hI.congr (fun a ha => by simp [pImg] at ha; exact o1 a (by omega) (by omega) (by omega) (by omega)), ?_, hc.congr (fun a ha => by simp [pTrc] at ha; exact o1 a (by omega) (by omega) (by omega) (by omega)) (by rw [o1 75 (by omega) (by decide) (by decide) (by decide)]) (o77 20 (by decide))⟩
    · refine TwR.eqT (g := unap (σ (37 + (o + k) % 24)) (σ 82)) ?_ (eE.trans hE)
      have c : ∀ a, 15 ≤ a → a < 20 → τ a = ρ a := fun a p1 p2 => by rw [← hτ, mcpy_ne a (by omega), ms_cell (by omega)]
      exact c2.congr (c _ (by omega) (by omega)) (c _ (by omega) (by omega)) (c _ (by omega) (by omega)) (c _ (by omega) (by omega)) (c _ (by omega) (by omega))
    · have e35' : τ 35 = ρ 35 := by rw [← hτ, mcpy_ne 35 (by decide), ms_cell (by decide)]
      refine ⟨o, k, ho, by omega, by rw [e35']; exact c3, by rw [e35']; exact c4, by rw [← hτ, mcpy_ne 77 (by decide)]; exact e18, fun i hi => ?_⟩
      have sE : ∀ j, j ≤ k → EqT (stOf τ k j) (stOf σ (k + 1) j) := by
        intro j hj
        unfold stOf
        rw [if_pos (show j < k + 1 by omega)]
        by_cases hjk : j < k
        · rw [if_pos hjk, o1 87 (by omega) (by decide) (by decide) (by decide)]; exact EqT.rf
        · rw [if_neg hjk, show j = k by omega]; exact eE
      obtain ⟨d1, d2⟩ := hC i (by omega)
      rw [o1 (37 + (o + i) % 24) (by omega) (by omega) (by omega) (by omega)]
      exact ⟨d1.eqT (sE i (by omega)), (sE i (by omega)).trans (d2.trans (unap_congr (sE (i + 1) (by omega)).symm))⟩
