/-! ===== pause, value, move, undo ===== -/
theorem Okt.upd {g g' : Nat → Int32} (hO : Okt g) (h4 : g' 4 = g 4) (h8 : g' 8 = g 8) (h0 : g' 0 = g 0) (h1 : Btw (g' 1) 0 1100) (h5 : g' 5 = g 5) (h7 : g' 7 = g 7) (hr : ∀ r, r < 6 → nI r < g 4 → Btw (g' (15 + r)) 0 9 ∧ Btw (g' (21 + r)) 0 30 ∧ g' (27 + r) = g (27 + r) ∧ g' (9 + r) = g (9 + r)) : Okt g' := by
  obtain ⟨⟨m, a0, a0'⟩, a1, a2, a3, a4, a5, a6⟩ := hO
  refine ⟨⟨m, a0, h4.trans a0'⟩, by rw [h8]; exact a1, by rw [h0]; exact a2, h1, by rw [h5]; exact a4, by rw [h7]; exact a5, fun r p1 p2 => ?_⟩
  rw [h4] at p2
  obtain ⟨b1, b2, b3, b4⟩ := hr r p1 p2
  obtain ⟨c1, c2, c3, c4⟩ := a6 r p1 p2
  rw [b3, b4]
  exact ⟨b1, b2, c3, c4⟩
theorem s_pause {σ : Mem} {n : Nat} (h : Inv σ) (hn : 2000 ≤ n) (x : Int32) : Both σ (f_X7_pause x) (f_X8_pause n x) := by
  rcases twn h with ⟨t1, t2⟩ | ⟨t1, t2⟩
  · exact Both.same h (-1000002) (by simp [f_X7_pause, t1]) (by simp [f_X8_pause, r_isTown, t2])
  by_cases h0 : x < 1
  · exact Both.same h (-1000001) (by simp [f_X7_pause, t1, h0]) (by simp [f_X8_pause, r_isTown, t2, inno 1 24 (Or.inl h0)])
  by_cases h1 : x ≤ 24
  rotate_left
  · have h2 : (24 : Int32) < x := by rw [i32_le] at h1; rw [i32_lt]; omega
    exact Both.same h (-1000001) (by simp [f_X7_pause, t1, h0, h1]) (by simp [f_X8_pause, r_isTown, t2, inno 1 24 (Or.inr h2)])
  have hin : ∀ τ, f_X8_in τ x 1 24 = some 1 := fun τ => in_yes h0 (fun q => by rw [i32_le] at h1; rw [i32_lt] at q; omega)
  have e10 := h.tw.1.2.2.2.2.2.2.1
  have i1 := inL (show inB 1 33 = true by decide)
  by_cases hf : σ 82 1 + x ≤ 999
  rotate_left
  · exact Both.same h (-1000003) (by simp [f_X7_pause, t1, h0, h1, e10, hf]) (by simp [f_X8_pause, r_isTown, t2, hin, i1, tl1, hf])
  obtain ⟨m, hm⟩ := h.many
  have h6 := hm.1
  obtain ⟨o, k, ho, hk, k1, k2, k3, hC⟩ := id h.2.2.2.2.2.1
  obtain ⟨σ6, has, f1, f2, f3, f4, f5, f6, f7⟩ := c_keep ho hk k1 k2 h.tw hm (Or.inl rfl)
  have c6 : ∀ a, 15 ≤ a → a < 20 → σ6 a = σ a := fun a p1 p2 => f7 a (by omega) (by omega)
  have T6 : TwR σ6 15 (σ 82) := h.tw.congr (c6 _ (by omega) (by omega)) (c6 _ (by omega) (by omega)) (c6 _ (by omega) (by omega)) (c6 _ (by omega) (by omega)) (c6 _ (by omega) (by omega))
  have s82 : mset σ6 15 10 (σ 82 1 + x) 82 = σ 82 := by rw [ms_cell (by decide), f7 82 (by decide) (by omega)]
  have s77 : ∀ j, mset σ6 15 10 (σ 82 1 + x) 77 j = σ 77 j := fun j => by rw [ms_cell (by decide), f7 77 (by decide) (by omega)]
  obtain ⟨ρ, m1, m2, m3, m4, m5, m6⟩ := r_note (σ := mset σ6 15 10 (σ 82 1 + x)) (n := n) hn hk ((s77 18).trans k3)
  have r82 : ρ 82 = σ 82 := (m5 82 (by decide) (by decide)).trans s82
  refine ⟨σ 82 1 + x, mset σ6 15 10 (σ 82 1 + x), mset ρ 82 1 (σ 82 1 + x), ?_, ?_, ?_⟩
  · have e6 : σ6 15 10 = σ 82 1 := T6.1.2.2.2.2.2.2.1
    simp [f_X7_pause, t1, h0, h1, e10, hf, f1, e6, ms_at]
  · simp [f_X8_pause, r_isTown, s82, t2, hin, i1, tl1, hf, m1, r82, ms_at]
  · have hh : has = false := f2 rfl
    have hi : ∀ i, mset ρ 82 1 (σ 82 1 + x) 82 i = if i = 1 then σ 82 1 + x else σ 82 i := fun i => by
      rw [ms_if, r82]; simp
    refine act_inv (σ1 := mset σ6 15 10 (σ 82 1 + x)) (x := -1) (has := has) h ho hk hC hm (Or.inl ⟨rfl, hh⟩) f4 f5 f6 f7 (fun a pa => ms_cell (by omega)) m2 m3 m4 m5 m6 (fun a pa => ms_cell pa) ?_ ?_ ?_ ?_
    · obtain ⟨⟨b1, b2, b3, b4, b5, b6, b7, b8, b9⟩, bb⟩ := T6
      unfold TwR
      simp only [hi]
      refine ⟨⟨by rw [ms_off (Or.inr (by decide))]; exact b1, by rw [ms_off (Or.inr (by decide))]; exact b2, by rw [ms_off (Or.inr (by decide))]; exact b3, by rw [ms_off (Or.inr (by decide))]; exact b4, by rw [ms_off (Or.inr (by decide))]; exact b5, by rw [ms_off (Or.inr (by decide))]; exact b6, ms_at, by rw [ms_off (Or.inr (by decide))]; exact b8, by rw [ms_off (Or.inr (by decide))]; exact b9⟩, fun r hr hlt => ?_⟩
      rw [if_neg (by omega), if_neg (by omega), if_neg (by omega), if_neg (by omega), ms_cell (by decide), ms_cell (by decide), ms_cell (by decide), ms_cell (by decide)]
      exact bb r hr hlt
    · have hO := h.2.2.2.1.1
      refine hO.upd (hi 4) (hi 8) (hi 0) ?_ (hi 5) (hi 7) (fun r p1 p2 => ?_)
      · rw [hi]
        obtain ⟨b1, b2⟩ := hO.2.2.2.1
        rw [i32_lt] at h0
        rw [i32_le] at hf h1
        have z1 : (1 : Int32).toInt = 1 := rfl
        have z2 : (24 : Int32).toInt = 24 := rfl
        have z3 : (999 : Int32).toInt = 999 := rfl
        have e := i32_add (a := σ 82 1) (b := x) (by omega) (by omega)
        rw [e] at hf
        show Btw (σ 82 1 + x) 0 1100
        unfold Btw
        omega
      · have := hO.2.2.2.2.2.2 r p1 p2
        rw [hi, hi, hi, hi, if_neg (by omega), if_neg (by omega), if_neg (by omega), if_neg (by omega)]
        exact ⟨this.1, this.2.1, rfl, rfl⟩
    · intro i p1 _ _; rw [hi, if_neg (by omega)]
    · exact hi 4
/-- value and move: one number of a reader is another; d tells which -/
theorem s_chg {σ : Mem} {n d c : Nat} {top : Int32} (h : Inv σ) (hn : 2000 ≤ n) (x v : Int32) (cf rf : Mem → Option (Int32 × Mem)) (hd : (d = 15 ∧ c = 17 ∧ top = 9) ∨ (d = 21 ∧ c = 18 ∧ top = 30))
    (hcf : cf σ = (f_X6_has σ 15 x).bind fun y1 => if y1 = 0 then (some ((-1000001), σ)) else (if v < 0 then (some ((-1000001), σ)) else (if v ≤ top then ((f_X0_keep 15 x σ).bind fun σ6 => if inB x 6 = true then (some (σ6 c x.toNatClampNeg : Int32)).bind fun y7 => if inB x 6 = true then (some (mset σ6 c x.toNatClampNeg v)).bind fun σ8 => some (y7, σ8) else none else none) else (some ((-1000001), σ)))))
    (hrf : ∀ σ, rf σ = (f_X8_isOne σ x).bind fun y1 => if y1 = 0 then (some ((-1000001), σ)) else ((f_X8_in σ v 0 top).bind fun y3 => if y3 = 0 then (some ((-1000001), σ)) else ((f_X8_note n σ).bind fun σ6 => if inB (nI d + x) 33 = true then (some (σ6 82 (nI d + x).toNatClampNeg : Int32)).bind fun y7 => if inB (nI d + x) 33 = true then (some (mset σ6 82 (nI d + x).toNatClampNeg v)).bind fun σ8 => some (y7, σ8) else none else none))) : Both σ cf rf := by
  have hd33 : d + 6 ≤ 27 ∧ 15 ≤ d := by omega
  rcases who h x with ⟨e1, e2, -⟩ | ⟨r, m, hm, hr, rfl, e1, e2⟩
  · exact Both.same h (-1000001) (by rw [hcf, e1]; rfl) (by rw [hrf, e2]; rfl)
  have h6 := hm.1
  by_cases h0 : v < 0
  · exact Both.same h (-1000001) (by rw [hcf, e1]; simp [h0]) (by rw [hrf, e2 σ rfl, inno 0 top (Or.inl h0)]; rfl)
  by_cases h1 : v ≤ top
  rotate_left
  · have h2 : top < v := by rw [i32_le] at h1; rw [i32_lt]; omega
    exact Both.same h (-1000001) (by rw [hcf, e1]; simp [h0, h1]) (by rw [hrf, e2 σ rfl, inno 0 top (Or.inr h2)]; rfl)
  have hin : ∀ τ, f_X8_in τ v 0 top = some 1 := fun τ => in_yes h0 (fun q => by rw [i32_le] at h1; rw [i32_lt] at q; omega)
  obtain ⟨o, k, ho, hk, k1, k2, k3, hC⟩ := id h.2.2.2.2.2.1
  obtain ⟨σ6, has, f1, f2, f3, f4, f5, f6, f7⟩ := c_keep ho hk k1 k2 h.tw hm (Or.inr ⟨r, hr, rfl⟩)
  have c6 : ∀ a, 15 ≤ a → a < 20 → σ6 a = σ a := fun a p1 p2 => f7 a (by omega) (by omega)
  have T6 : TwR σ6 15 (σ 82) := h.tw.congr (c6 _ (by omega) (by omega)) (c6 _ (by omega) (by omega)) (c6 _ (by omega) (by omega)) (c6 _ (by omega) (by omega)) (c6 _ (by omega) (by omega))
  have s82 : mset σ6 c r v 82 = σ 82 := by rw [ms_cell (by omega), f7 82 (by decide) (by omega)]
  have s77 : ∀ j, mset σ6 c r v 77 j = σ 77 j := fun j => by rw [ms_cell (by omega), f7 77 (by decide) (by omega)]
  obtain ⟨ρ, m1, m2, m3, m4, m5, m6⟩ := r_note (σ := mset σ6 c r v) (n := n) hn hk ((s77 18).trans k3)
  have r82 : ρ 82 = σ 82 := (m5 82 (by decide) (by decide)).trans s82
  have br := inL (inB_nI (show r < 6 by omega) (show 6 < 2 ^ 31 by decide))
  have tr := tn_nI (show r < 2 ^ 31 by omega)
  have bd := inL (inB_nI (show d + r < 33 by omega) (show 33 < 2 ^ 31 by decide))
  have td := tn_nI (show d + r < 2 ^ 31 by omega)
  obtain ⟨a1, a2, a3, a4⟩ := twA T6 hm hr
  have cv : σ6 c r = σ 82 (d + r) := by
    rcases hd with ⟨rfl, rfl, -⟩ | ⟨rfl, rfl, -⟩
    · exact a2
    · exact a3
  refine ⟨σ 82 (d + r), mset σ6 c r v, mset ρ 82 (d + r) v, ?_, ?_, ?_⟩
  · rw [hcf, e1]; simp [h0, h1, f1, br, tr, cv]
  · rw [hrf, e2 _ s82]; simp [hin, m1, nIa, bd, td, r82]
  · have hh : has = true := f3 r hr rfl
    have hi : ∀ i, mset ρ 82 (d + r) v 82 i = if i = d + r then v else σ 82 i := fun i => by
      rw [ms_if, r82]; simp
    refine act_inv (σ1 := mset σ6 c r v) (x := nI r) (has := has) h ho hk hC hm (Or.inr ⟨r, hr, rfl, hh⟩) f4 f5 f6 f7 (fun a pa => ms_cell (by omega)) m2 m3 m4 m5 m6 (fun a pa => ms_cell pa) ?_ ?_ ?_ ?_
    · obtain ⟨⟨b1, b2, b3, b4, b5, b6, b7, b8, b9⟩, bb⟩ := T6
      unfold TwR
      simp only [hi]
      refine ⟨⟨by rw [ms_cell (by omega), if_neg (by omega)]; exact b1, by rw [ms_cell (by omega), if_neg (by omega)]; exact b2, by rw [ms_cell (by omega), if_neg (by omega)]; exact b3, by rw [ms_cell (by omega), if_neg (by omega)]; exact b4, by rw [ms_cell (by omega), if_neg (by omega)]; exact b5, by rw [ms_cell (by omega), if_neg (by omega)]; exact b6, by rw [ms_cell (by omega), if_neg (by omega)]; exact b7, by rw [ms_cell (by omega), if_neg (by omega)]; exact b8, by rw [ms_cell (by omega), if_neg (by omega)]; exact b9⟩, fun q hq hlt => ?_⟩
      rw [if_neg (show ¬ (4 = d + r) by omega)] at hlt
      obtain ⟨w1, w2, w3, w4⟩ := bb q hq hlt
      rcases hd with ⟨rfl, rfl, -⟩ | ⟨rfl, rfl, -⟩
      · have w2' : σ6 17 q = σ 82 (15 + q) := w2
        simp only [ms_if]
        simp [show ¬ (9 + q = 15 + r) by omega, show ¬ (21 + q = 15 + r) by omega, show ¬ (27 + q = 15 + r) by omega]
        refine ⟨w1, ?_, w3, w4⟩
        rw [w2']
      · have w3' : σ6 18 q = σ 82 (21 + q) := w3
        simp only [ms_if]
        simp [show ¬ (9 + q = 21 + r) by omega, show ¬ (15 + q = 21 + r) by omega, show ¬ (27 + q = 21 + r) by omega]
        refine ⟨w1, w2, ?_, w4⟩
        rw [w3']
    · have hO := h.2.2.2.1.1
      have bv : Btw v 0 top.toInt := by
        rw [i32_lt] at h0; rw [i32_le] at h1
        have z : (0 : Int32).toInt = 0 := rfl
        exact ⟨by omega, h1⟩
      refine hO.upd (by rw [hi, if_neg (by omega)]) (by rw [hi, if_neg (by omega)]) (by rw [hi, if_neg (by omega)]) (by rw [hi, if_neg (by omega)]; exact hO.2.2.2.1) (by rw [hi, if_neg (by omega)]) (by rw [hi, if_neg (by omega)]) (fun q p1 p2 => ?_)
      obtain ⟨w1, w2, w3, w4⟩ := hO.2.2.2.2.2.2 q p1 p2
      rw [hi, hi, hi, hi]
      rcases hd with ⟨rfl, rfl, rfl⟩ | ⟨rfl, rfl, rfl⟩
      · rw [if_neg (show ¬ (21 + q = 15 + r) by omega), if_neg (show ¬ (27 + q = 15 + r) by omega), if_neg (show ¬ (9 + q = 15 + r) by omega)]
        refine ⟨?_, w2, rfl, rfl⟩
        split
        · exact bv
        · exact w1
      · rw [if_neg (show ¬ (15 + q = 21 + r) by omega), if_neg (show ¬ (27 + q = 21 + r) by omega), if_neg (show ¬ (9 + q = 21 + r) by omega)]
        refine ⟨w1, ?_, rfl, rfl⟩
        split
        · exact bv
        · exact w2
    · intro i p1 p2 p3
      have := p3 hh
      rw [tr] at this
      rw [hi, if_neg (by omega)]
    · rw [hi, if_neg (by omega)]
theorem s_value {σ : Mem} {n : Nat} (h : Inv σ) (hn : 2000 ≤ n) (x v : Int32) : Both σ (f_X7_value x v) (f_X8_value n x v) :=
  s_chg (d := 21) (c := 18) (top := 30) h hn x v _ _ (Or.inr ⟨rfl, rfl, rfl⟩) rfl (fun _ => rfl)
theorem s_move {σ : Mem} {n : Nat} (h : Inv σ) (hn : 2000 ≤ n) (x v : Int32) : Both σ (f_X7_move x v) (f_X8_move n x v) :=
  s_chg (d := 15) (c := 17) (top := 9) h hn x v _ _ (Or.inl ⟨rfl, rfl, rfl⟩) rfl (fun _ => rfl)
