/-! ===== acts: what both sides keep ===== -/
theorem unap_snap {σ : Mem} {g g' s : Nat → Int32} {m : Nat} {x : Int32} {has : Bool} (hT : TwR σ 15 g) (hm : Mny g m) (hs : ∀ j, j < 7 → s j = snap σ x has x.toNatClampNeg j) (hx : (x = -1 ∧ has = false) ∨ ∃ r, r < m ∧ x = nI r ∧ has = true) (h4 : ∀ i, 4 ≤ i → i < 33 → (has = true → i ≠ 15 + x.toNatClampNeg ∧ i ≠ 21 + x.toNatClampNeg) → g' i = g i) (h44 : g' 4 = g 4) : EqT g (unap s g') := by
  obtain ⟨⟨t1, t2, t3, t4, t5, t6, t7, t8, t9⟩, -⟩ := id hT
  have s3 : s 3 = g 0 := (hs 3 (by decide)).trans t6
  have s4 : s 4 = g 1 := (hs 4 (by decide)).trans t7
  have s5 : s 5 = g 2 := (hs 5 (by decide)).trans t8
  have s6 : s 6 = g 3 := (hs 6 (by decide)).trans t9
  have key : ∀ i, 4 ≤ i → i < 33 → unap s g' i = g i := by
    intro i hi hi2
    unfold unap
    rw [if_neg (by omega), if_neg (by omega), if_neg (by omega), if_neg (by omega)]
    rcases hx with ⟨rfl, rfl⟩ | ⟨r, hr, rfl, rfl⟩
    · have s0 : s 0 = -1 := hs 0 (by decide)
      rw [s0, if_pos (by decide)]
      exact h4 i hi hi2 (fun q => by cases q)
    · have h6 := hm.1
      have tr := tn_nI (show r < 2 ^ 31 by omega)
      have s0 : s 0 = nI r := hs 0 (by decide)
      obtain ⟨a1, a2, a3, a4⟩ := twA hT hm hr
      have s1 : s 1 = g (15 + r) := by rw [hs 1 (by decide), tr]; exact a2
      have s2 : s 2 = g (21 + r) := by rw [hs 2 (by decide), tr]; exact a3
      rw [s0, if_neg (nI_nn (by omega)), h44, hm.2, if_neg (fun q => by have := (nI_le_lit (by omega) (by omega)).mp q; omega), tr]
      by_cases q1 : i = 15 + r
      · rw [if_pos q1, s1, q1]
      · by_cases q2 : i = 21 + r
        · rw [if_neg q1, if_pos q2, s2, q2]
        · rw [if_neg q1, if_neg q2]
          exact h4 i hi hi2 (fun _ => by rw [tr]; exact ⟨q1, q2⟩)
  refine ⟨⟨(unap0.trans s3).symm, (unap1.trans s4).symm, (unap2.trans s5).symm, (unap3.trans s6).symm, (key 4 (by decide) (by decide)).symm, (key 5 (by decide) (by decide)).symm, (key 6 (by decide) (by decide)).symm, (key 7 (by decide) (by decide)).symm, (key 8 (by decide) (by decide)).symm⟩, fun r hr _ => ⟨(key _ (by omega) (by omega)).symm, (key _ (by omega) (by omega)).symm, (key _ (by omega) (by omega)).symm, (key _ (by omega) (by omega)).symm⟩⟩
theorem act_inv {σ σ6 σ1 ρ τ : Mem} {o k m : Nat} {x : Int32} {has : Bool} (h : Inv σ) (ho : o < 24) (hk : k ≤ 24) (hC : Chain σ o k) (hm : Mny (σ 82) m)
    (hx : (x = -1 ∧ has = false) ∨ ∃ r, r < m ∧ x = nI r ∧ has = true) (k4 : ∀ j, j < 7 → σ6 (37 + (o + k) % 24) j = snap σ x has x.toNatClampNeg j) (k5 : σ6 35 1 = nI (ringO o k)) (k6 : σ6 35 2 = nI (ringK k)) (k7 : ∀ a, a ≠ 35 → a ≠ 37 + (o + k) % 24 → σ6 a = σ a)
    (s1 : ∀ a, (a < 15 ∨ 20 ≤ a) → σ1 a = σ6 a) (n1 : ρ 77 18 = nI (ringK k)) (n2 : ∀ i x, i < k - ringD k → x < 33 → ρ 87 (33 * i + x) = σ1 87 (33 * (i + ringD k) + x)) (n3 : ∀ x, x < 33 → ρ 87 (33 * (k - ringD k) + x) = σ1 82 x) (n4 : ∀ a, a ≠ 87 → a ≠ 77 → ρ a = σ1 a) (n5 : ∀ j, j ≠ 18 → ρ 77 j = σ1 77 j)
    (t1 : ∀ a, a ≠ 82 → τ a = ρ a) (t2 : TwR σ1 15 (τ 82)) (t3 : Okt (τ 82)) (t4 : ∀ i, 4 ≤ i → i < 33 → (has = true → i ≠ 15 + x.toNatClampNeg ∧ i ≠ 21 + x.toNatClampNeg) → τ 82 i = σ 82 i) (t5 : τ 82 4 = σ 82 4) : Inv τ := by
  have hq : (o + k) % 24 < 24 := Nat.mod_lt _ (by decide)
  have oth : ∀ a, a ≠ 35 → (a < 37 ∨ 61 ≤ a) → (a < 15 ∨ 20 ≤ a) → a ≠ 82 → a ≠ 87 → a ≠ 77 → τ a = σ a := fun a p1 p2 p3 p4 p5 p6 => by
    rw [t1 a p4, n4 a p5 p6, s1 a p3]; exact k7 a p1 (by omega)
  have sl : ∀ j, j ≠ 18 → τ 77 j = σ 77 j := fun j hj => by
    rw [t1 77 (by decide), n5 j hj, s1 77 (by omega), k7 77 (by decide) (by omega)]
  have e82 : ∀ x, σ1 82 x = σ 82 x := fun x => by rw [s1 82 (by omega), k7 82 (by decide) (by omega)]
  have e87 : ∀ x, σ1 87 x = σ 87 x := fun x => by rw [s1 87 (by omega), k7 87 (by decide) (by omega)]
  have eS : ∀ q, q < 24 → τ (37 + q) = σ6 (37 + q) := fun q hq => by rw [t1 _ (by omega), n4 _ (by omega) (by omega), s1 _ (by omega)]
  have tw := h.tw
  obtain ⟨hR, hS, hT, hW, hI, hA, hc⟩ := h
  refine ⟨hR.congr (fun a ha => by simp [pRow] at ha; exact oth a (by omega) (by omega) (by omega) (by omega) (by omega) (by omega)), hS.congr (by rw [oth 0 (by omega) (by omega) (by omega) (by omega) (by omega) (by omega)]) (sl 3 (by decide)), hT.congr (fun a ha => by simp [pTap] at ha; exact oth a (by omega) (by omega) (by omega) (by omega) (by omega) (by omega)) (by rw [oth 13 (by omega) (by omega) (by omega) (by omega) (by omega) (by omega)]) (by rw [oth 13 (by omega) (by omega) (by omega) (by omega) (by omega) (by omega)]) (sl 4 (by decide)) (sl 11 (by decide)), ⟨t3, ?_⟩, hI.congr (fun a ha => by simp [pImg] at ha; exact oth a (by omega) (by omega) (by omega) (by omega) (by omega) (by omega)), ?_, hc.congr (fun a ha => by simp [pTrc] at ha; exact oth a (by omega) (by omega) (by omega) (by omega) (by omega) (by omega)) (by rw [oth 75 (by omega) (by omega) (by omega) (by omega) (by omega) (by omega)]) (sl 20 (by decide))⟩
  · have c : ∀ a, 15 ≤ a → a < 20 → τ a = σ1 a := fun a p1 p2 => by rw [t1 a (by omega), n4 a (by omega) (by omega)]
    exact t2.congr (c _ (by omega) (by omega)) (c _ (by omega) (by omega)) (c _ (by omega) (by omega)) (c _ (by omega) (by omega)) (c _ (by omega) (by omega))
  · refine acts_push (σ := σ) ho hk hC hW.1 ?_ ?_ ?_ (fun q p1 p2 => ?_) (fun i x p1 p2 => ?_) (fun x p => ?_) ?_
    · rw [t1 35 (by decide), n4 35 (by decide) (by decide), s1 35 (by omega), k5]
    · rw [t1 35 (by decide), n4 35 (by decide) (by decide), s1 35 (by omega), k6]
    · rw [t1 77 (by decide), n1]
    · rw [eS q p1]; exact k7 _ (by omega) (by omega)
    · rw [t1 87 (by decide), n2 i x p1 p2, e87]
    · rw [t1 87 (by decide), n3 x p, e82]
    · rw [eS _ hq]
      exact unap_snap (x := x) (has := has) tw hm k4 hx t4 t5
/-! the numbers of a town -/
theorem iabs_toInt {x : Int32} (h : -2147483648 < x.toInt) : (iabs x).toInt = if 0 ≤ x.toInt then x.toInt else -x.toInt := by
  unfold iabs
  have z : (0 : Int32).toInt = 0 := rfl
  by_cases q : 0 ≤ x
  · rw [if_pos q]; rw [i32_le, z] at q; rw [if_pos q]
  · rw [if_neg q]; rw [i32_le, z] at q; rw [if_neg q]
    have := i32_range x
    rw [i32_sub (by rw [z]; omega) (by rw [z]; omega), z]; omega
theorem Okt.rd {g : Nat → Int32} {m r : Nat} (hO : Okt g) (hm : Mny g m) (hr : r < m) : Btw (g (15 + r)) 0 9 ∧ Btw (g (21 + r)) 0 30 ∧ Btw (g (27 + r)) 0 9 ∧ Btw (g (9 + r)) 1 5 :=
  hO.2.2.2.2.2.2 r (Nat.lt_of_lt_of_le hr hm.1) (by rw [hm.2]; exact nI_lt hr (by have := hm.1; omega))
theorem comes_btw {g : Nat → Int32} {m r : Nat} (hO : Okt g) (hm : Mny g m) (hr : r < m) : (g 1).toInt ≤ (sComes g r).toInt ∧ (sComes g r).toInt ≤ (g 1).toInt + 9 := by
  obtain ⟨-, -, ⟨a1, a2⟩, ⟨b1, b2⟩, -⟩ := id hO
  obtain ⟨⟨c1, c2⟩, -⟩ := hO.rd hm hr
  have e1 : (g 0 - g (15 + r)).toInt = (g 0).toInt - (g (15 + r)).toInt := i32_sub (by omega) (by omega)
  have e2 := iabs_toInt (x := g 0 - g (15 + r)) (by omega)
  rw [e1] at e2
  unfold sComes
  have b : 0 ≤ (iabs (g 0 - g (15 + r))).toInt ∧ (iabs (g 0 - g (15 + r))).toInt ≤ 9 := by
    rw [e2]; split <;> omega
  rw [i32_add (by omega) (by omega)]
  omega
theorem sGive_hi {g : Nat → Int32} {r i : Nat} (hi : 4 ≤ i) : sGive g r i = g i := by
  unfold sGive
  rw [if_neg (by omega), if_neg (by omega), if_neg (by omega), if_neg (by omega)]
theorem Okt.give {g : Nat → Int32} {m r : Nat} (hO : Okt g) (hm : Mny g m) (hr : r < m) (hc : sCan g r = true) : Okt (sGive g r) := by
  obtain ⟨-, a1, a2, a3, a4, a5, a6⟩ := id hO
  have hr6 : r < 6 := Nat.lt_of_lt_of_le hr hm.1
  obtain ⟨c1, c2, c3, c4⟩ := hO.rd hm hr
  have hb := comes_btw hO hm hr
  have hc2 : (sComes g r).toInt ≤ (g 7).toInt := by
    unfold sCan at hc
    simp only [Bool.and_eq_true, Bool.not_eq_true', decide_eq_false_iff_not] at hc
    have := hc.2
    rw [i32_lt] at this; omega
  refine ⟨⟨m, hm.1, by rw [sGive_hi (by decide)]; exact hm.2⟩, by rw [sGive_hi (by decide)]; exact a1, ?_, ?_, by rw [sGive_hi (by decide)]; exact a4, by rw [sGive_hi (by decide)]; exact a5, fun q hq hlt => ?_⟩
  · have : sGive g r 0 = g (15 + r) := if_pos rfl
    rw [this]; exact c1
  · have : sGive g r 1 = sComes g r + (if g (9 + r) = 5 then 2 else 1) := rfl
    rw [this]
    obtain ⟨b1, b2⟩ := a3
    obtain ⟨d1, d2⟩ := a5
    have w : ((if g (9 + r) = 5 then (2 : Int32) else 1)).toInt = 2 ∨ ((if g (9 + r) = 5 then (2 : Int32) else 1)).toInt = 1 := by
      split
      · exact Or.inl rfl
      · exact Or.inr rfl
    unfold Btw
    rw [i32_add (by omega) (by omega)]
    omega
  · rw [sGive_hi (by decide)] at hlt
    rw [sGive_hi (by omega), sGive_hi (by omega), sGive_hi (by omega), sGive_hi (by omega)]
    exact a6 q hq hlt
theorem s_give {σ : Mem} {n : Nat} (h : Inv σ) (hn : 2000 ≤ n) (x : Int32) : Both σ (f_X7_give n x) (f_X8_give n x) := by
  rcases who h x with ⟨e1, e2, -⟩ | ⟨r, m, hm, hr, rfl, e1, e2⟩
  · exact Both.same h (-1000001) (by simp [f_X7_give, e1]) (by simp [f_X8_give, e2])
  have h6 := hm.1
  have n10 : ¬ (1 : Int32) = 0 := by decide
  cases hc : sCanX (σ 82) (nI r) with
  | false => exact Both.same h (-1000002) (by simp [f_X7_give, e1, c_canHave (t := 15) rfl h.tw hm, hc, b2i]) (by simp [f_X8_give, e2 σ rfl, r_canBe a82 hm, hc, b2i])
  | true =>
    obtain ⟨o, k, ho, hk, k1, k2, k3, hC⟩ := id h.2.2.2.2.2.1
    obtain ⟨σ6, has, f1, f2, f3, f4, f5, f6, f7⟩ := c_keep ho hk k1 k2 h.tw hm (Or.inr ⟨r, hr, rfl⟩)
    have c6 : ∀ a, 15 ≤ a → a < 20 → σ6 a = σ a := fun a p1 p2 => f7 a (by omega) (by omega)
    have T6 : TwR σ6 15 (σ 82) := h.tw.congr (c6 _ (by omega) (by omega)) (c6 _ (by omega) (by omega)) (c6 _ (by omega) (by omega)) (c6 _ (by omega) (by omega)) (c6 _ (by omega) (by omega))
    obtain ⟨σ1, g1, g2, g3⟩ := c_hand (t := 15) (n := n) rfl T6 hm (by omega) hr
    have s82 : σ1 82 = σ 82 := by rw [g3 82 (by decide), f7 82 (by decide) (by omega)]
    have s77 : ∀ j, σ1 77 j = σ 77 j := fun j => by rw [g3 77 (by decide), f7 77 (by decide) (by omega)]
    obtain ⟨ρ, m1, m2, m3, m4, m5, m6⟩ := r_note (σ := σ1) (n := n) hn hk ((s77 18).trans k3)
    have r82 : ρ 82 = σ 82 := (m5 82 (by decide) (by decide)).trans s82
    obtain ⟨τ, p1, p2, p3⟩ := r_gives (σ := ρ) (s := 82) (n := n) (m := m) a82 (by rw [r82]; exact hm) (by omega) hr
    rw [r82] at p1 p2
    have hcan : sCan (σ 82) r = true := by
      unfold sCanX at hc
      rw [if_neg (nI_nn (by omega)), hm.2, if_neg (fun q => by have := (nI_le_lit (by omega) (by omega)).mp q; omega), tn_nI (by omega)] at hc
      exact hc
    refine ⟨sBr (σ 82) r, σ1, τ, ?_, ?_, ?_⟩
    · simp [f_X7_give, e1, c_canHave (t := 15) rfl h.tw hm, hc, b2i, f1, g1]
    · have cb := r_canBe (σ := σ1) (s := 82) a82 (m := m) (by rw [s82]; exact hm) (nI r)
      rw [s82] at cb
      simp [f_X8_give, e2 σ1 s82, cb, hc, b2i, m1, p1]
    · have hh : has = true := f3 r hr rfl
      refine act_inv (x := nI r) (has := has) h ho hk hC hm (Or.inr ⟨r, hr, rfl, hh⟩) f4 f5 f6 f7 (fun a pa => g3 a (by omega)) m2 m3 m4 m5 m6 p3 ?_ ?_ ?_ ?_
      · rw [p2]; exact g2
      · rw [p2]; exact h.2.2.2.1.1.give hm hr hcan
      · intro i hi _ _; rw [p2]; exact sGive_hi hi
      · rw [p2]; exact sGive_hi (by decide)
