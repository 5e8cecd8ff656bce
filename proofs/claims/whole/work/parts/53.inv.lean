/-! ===== what the class's cells and the reference's cells have in common ===== -/
def EqT (g h : Nat → Int32) : Prop := (g 0 = h 0 ∧ g 1 = h 1 ∧ g 2 = h 2 ∧ g 3 = h 3 ∧ g 4 = h 4 ∧ g 5 = h 5 ∧ g 6 = h 6 ∧ g 7 = h 7 ∧ g 8 = h 8) ∧ ∀ r, r < 6 → nI r < g 4 → g (9 + r) = h (9 + r) ∧ g (15 + r) = h (15 + r) ∧ g (21 + r) = h (21 + r) ∧ g (27 + r) = h (27 + r)
theorem EqT.rf {g : Nat → Int32} : EqT g g := ⟨⟨rfl, rfl, rfl, rfl, rfl, rfl, rfl, rfl, rfl⟩, fun _ _ _ => ⟨rfl, rfl, rfl, rfl⟩⟩
theorem TwR.eqT {σ : Mem} {t : Nat} {g h : Nat → Int32} (hT : TwR σ t g) (hE : EqT h g) : TwR σ t h := by
  obtain ⟨⟨a1, a2, a3, a4, a5, a6, a7, a8, a9⟩, b⟩ := hT
  obtain ⟨⟨e0, e1, e2, e3, e4, e5, e6, e7, e8⟩, f⟩ := hE
  refine ⟨⟨a1.trans e8.symm, a2.trans e5.symm, a3.trans e6.symm, a4.trans e7.symm, a5.trans e4.symm, a6.trans e0.symm, a7.trans e1.symm, a8.trans e2.symm, a9.trans e3.symm⟩, fun r hr hlt => ?_⟩
  obtain ⟨c1, c2, c3, c4⟩ := b r hr (by rw [← e4]; exact hlt)
  obtain ⟨d1, d2, d3, d4⟩ := f r hr hlt
  exact ⟨c1.trans d1.symm, c2.trans d2.symm, c3.trans d3.symm, c4.trans d4.symm⟩
/-- a number between two others -/
def Btw (x : Int32) (a b : Int) : Prop := a ≤ x.toInt ∧ x.toInt ≤ b
/-- what every town keeps -/
def Okt (g : Nat → Int32) : Prop := (∃ m, Mny g m) ∧ (g 8 = 0 ∨ g 8 = 1) ∧ Btw (g 0) 0 9 ∧ Btw (g 1) 0 1100 ∧ Btw (g 5) 0 9 ∧ Btw (g 7) 0 60 ∧ ∀ r, r < 6 → nI r < g 4 → Btw (g (15 + r)) 0 9 ∧ Btw (g (21 + r)) 0 30 ∧ Btw (g (27 + r)) 0 9 ∧ Btw (g (9 + r)) 1 5
theorem Okt.eqT {g h : Nat → Int32} (hO : Okt g) (hE : EqT h g) : Okt h := by
  obtain ⟨⟨m, h6, hm⟩, a1, a2, a3, a4, a5, a6⟩ := hO
  obtain ⟨⟨e0, e1, e2, e3, e4, e5, e6, e7, e8⟩, f⟩ := hE
  refine ⟨⟨m, h6, e4.trans hm⟩, by rw [e8]; exact a1, by rw [e0]; exact a2, by rw [e1]; exact a3, by rw [e5]; exact a4, by rw [e7]; exact a5, fun r hr hlt => ?_⟩
  obtain ⟨d1, d2, d3, d4⟩ := f r hr hlt
  rw [d1, d2, d3, d4]
  exact a6 r hr (by rw [← e4]; exact hlt)
def pRow (a : Nat) : Bool := (decide (2 ≤ a) && decide (a ≤ 3)) || (decide (5 ≤ a) && decide (a ≤ 12)) || (decide (78 ≤ a) && decide (a ≤ 80))
def pTap (a : Nat) : Bool := a == 14 || a == 81
def pTow (a : Nat) : Bool := (decide (15 ≤ a) && decide (a ≤ 19)) || a == 82
def pImg (a : Nat) : Bool := (decide (25 ≤ a) && decide (a ≤ 34)) || a == 85 || a == 86
def pAct (a : Nat) : Bool := (decide (37 ≤ a) && decide (a ≤ 60)) || a == 82 || a == 87
def pTrc (a : Nat) : Bool := a == 76 || a == 88
/-- which lane a row has -/
def Lane (x : Int32) : Prop := x = -1 ∨ x = 0 ∨ x = 1 ∨ x = 2
def IRow (σ : Mem) : Prop := (∀ r, r < 8 → σ 2 r = σ 78 r ∧ σ 3 r = σ 79 r ∧ Lane (σ 78 r) ∧ ∃ k, k ≤ 40 ∧ σ 79 r = nI k) ∧ ∀ r i, r < 8 → i < 40 → σ (5 + r) i = σ 80 (40 * r + i)
def ISta (σ : Mem) : Prop := σ 0 10 = σ 77 3
def ITap (σ : Mem) : Prop := (∃ k, k ≤ 100 ∧ σ 13 1 = nI k ∧ σ 77 4 = nI k) ∧ (∀ i, i < 100 → σ 14 i = σ 81 i) ∧ σ 13 3 = σ 77 11
def ITow (σ : Mem) : Prop := Okt (σ 82) ∧ TwR σ 15 (σ 82)
def Img (σ : Mem) (k t : Nat) : Prop := σ t 0 = σ 86 k ∧ (σ 86 k = 0 ∨ (σ 86 k = 1 ∧ Okt (fun i => σ 85 (33 * k + i)) ∧ σ 85 (33 * k + 8) = 1 ∧ TwR σ t (fun i => σ 85 (33 * k + i))))
def IImg (σ : Mem) : Prop := Img σ 0 25 ∧ Img σ 1 30
/-- what takeBack makes of a town -/
def unap (s g : Nat → Int32) : Nat → Int32 := fun i => if i = 0 then s 3 else if i = 1 then s 4 else if i = 2 then s 5 else if i = 3 then s 6 else
  if s 0 < 0 then g i else if g 4 ≤ s 0 then g i else if i = 15 + (s 0).toNatClampNeg then s 1 else if i = 21 + (s 0).toNatClampNeg then s 2 else g i
/-- the acts: o the oldest slot, k kept; each slot takes the later town to the one before -/
def stOf (σ : Mem) (k i : Nat) : Nat → Int32 := if i < k then fun x => σ 87 (33 * i + x) else σ 82
def Chain (σ : Mem) (o k : Nat) : Prop := ∀ i, i < k → Okt (stOf σ k i) ∧ EqT (stOf σ k i) (unap (σ (37 + (o + i) % 24)) (stOf σ k (i + 1)))
def IAct (σ : Mem) : Prop := ∃ o k, o < 24 ∧ k ≤ 24 ∧ σ 35 1 = nI o ∧ σ 35 2 = nI k ∧ σ 77 18 = nI k ∧ Chain σ o k
def ITrc (σ : Mem) : Prop := ∃ k, k ≤ 16 ∧ σ 75 1 = nI k ∧ σ 77 20 = nI k ∧ ∀ i, i < k → σ 76 i = σ 88 i
def Inv (σ : Mem) : Prop := IRow σ ∧ ISta σ ∧ ITap σ ∧ ITow σ ∧ IImg σ ∧ IAct σ ∧ ITrc σ
theorem IRow.congr {σ τ : Mem} (h : IRow σ) (hs : Same pRow σ τ) : IRow τ := by
  obtain ⟨h1, h2⟩ := h
  refine ⟨fun r hr => ?_, fun r i hr hi => ?_⟩
  · rw [hs 2 rfl, hs 78 rfl, hs 3 rfl, hs 79 rfl]; exact h1 r hr
  · rw [hs (5 + r) (by simp [pRow]; omega), hs 80 rfl]; exact h2 r i hr hi
theorem ISta.congr {σ τ : Mem} (h : ISta σ) (h1 : τ 0 10 = σ 0 10) (h2 : τ 77 3 = σ 77 3) : ISta τ := by
  unfold ISta; rw [h1, h2]; exact h
theorem ITap.congr {σ τ : Mem} (h : ITap σ) (hs : Same pTap σ τ) (h1 : τ 13 1 = σ 13 1) (h2 : τ 13 3 = σ 13 3) (h3 : τ 77 4 = σ 77 4) (h4 : τ 77 11 = σ 77 11) : ITap τ := by
  unfold ITap
  rw [hs 14 rfl, hs 81 rfl, h1, h2, h3, h4]; exact h
theorem ITow.congr {σ τ : Mem} (h : ITow σ) (hs : Same pTow σ τ) : ITow τ := by
  unfold ITow
  rw [hs 82 rfl]
  exact ⟨h.1, h.2.congr (hs 15 rfl) (hs 16 rfl) (hs 17 rfl) (hs 18 rfl) (hs 19 rfl)⟩
theorem IImg.congr {σ τ : Mem} (h : IImg σ) (hs : Same pImg σ τ) : IImg τ := by
  obtain ⟨⟨a1, a2⟩, b1, b2⟩ := h
  unfold IImg Img
  rw [hs 85 rfl, hs 86 rfl, hs 25 rfl, hs 30 rfl]
  refine ⟨⟨a1, a2.imp id (fun q => ⟨q.1, q.2.1, q.2.2.1, q.2.2.2.congr (hs 25 rfl) (hs 26 rfl) (hs 27 rfl) (hs 28 rfl) (hs 29 rfl)⟩)⟩, b1, b2.imp id (fun q => ⟨q.1, q.2.1, q.2.2.1, q.2.2.2.congr (hs 30 rfl) (hs 31 rfl) (hs 32 rfl) (hs 33 rfl) (hs 34 rfl)⟩)⟩
theorem Chain.congr {σ τ : Mem} {o k : Nat} (h : Chain σ o k) (hs : Same pAct σ τ) : Chain τ o k := by
  intro i hi
  have e : ∀ j, stOf τ k j = stOf σ k j := fun j => by unfold stOf; rw [hs 82 rfl, hs 87 rfl]
  have hl : (o + i) % 24 < 24 := Nat.mod_lt _ (by decide)
  rw [e, e, hs (37 + (o + i) % 24) (by simp [pAct]; omega)]
  exact h i hi
theorem IAct.congr {σ τ : Mem} (h : IAct σ) (hs : Same pAct σ τ) (h1 : τ 35 1 = σ 35 1) (h2 : τ 35 2 = σ 35 2) (h3 : τ 77 18 = σ 77 18) : IAct τ := by
  obtain ⟨o, k, a1, a2, a3, a4, a5, a6⟩ := h
  exact ⟨o, k, a1, a2, h1.trans a3, h2.trans a4, h3.trans a5, a6.congr hs⟩
theorem ITrc.congr {σ τ : Mem} (h : ITrc σ) (hs : Same pTrc σ τ) (h1 : τ 75 1 = σ 75 1) (h2 : τ 77 20 = σ 77 20) : ITrc τ := by
  unfold ITrc
  rw [hs 76 rfl, hs 88 rfl, h1, h2]; exact h
/-- a call leaves all but the scratch -/
def pKeep (a : Nat) : Bool := !((decide (20 ≤ a) && decide (a ≤ 24)) || (decide (61 ≤ a) && decide (a ≤ 74)) || a == 83 || a == 84 || (decide (89 ≤ a) && decide (a ≤ 93)) || a == 77 || a == 0 || a == 13 || a == 75)
theorem pKeep_of {P : Nat → Bool} (h : ∀ a, a < 94 → (!(P a) || pKeep a) = true) (h2 : ∀ a, 94 ≤ a → P a = false) : ∀ a, P a = true → pKeep a = true := by
  intro a ha
  rcases Nat.lt_or_ge a 94 with q | q
  · have := h a q
    rw [ha] at this
    simpa using this
  · rw [h2 a q] at ha; cases ha
theorem kRow : ∀ a, pRow a = true → pKeep a = true := pKeep_of (by decide +kernel) (fun a h => by simp [pRow]; omega)
theorem kTap : ∀ a, pTap a = true → pKeep a = true := pKeep_of (by decide +kernel) (fun a h => by simp [pTap]; omega)
theorem kTow : ∀ a, pTow a = true → pKeep a = true := pKeep_of (by decide +kernel) (fun a h => by simp [pTow]; omega)
theorem kImg : ∀ a, pImg a = true → pKeep a = true := pKeep_of (by decide +kernel) (fun a h => by simp [pImg]; omega)
theorem kAct : ∀ a, pAct a = true → pKeep a = true := pKeep_of (by decide +kernel) (fun a h => by simp [pAct]; omega)
theorem kTrc : ∀ a, pTrc a = true → pKeep a = true := pKeep_of (by decide +kernel) (fun a h => by simp [pTrc]; omega)
/-- the slots of mixed cells that matter -/
def Slots (σ τ : Mem) : Prop := τ 13 1 = σ 13 1 ∧ τ 13 3 = σ 13 3 ∧ τ 75 1 = σ 75 1 ∧ τ 77 4 = σ 77 4 ∧ τ 77 11 = σ 77 11 ∧ τ 77 18 = σ 77 18 ∧ τ 77 20 = σ 77 20
theorem Slots.rf {σ : Mem} : Slots σ σ := ⟨rfl, rfl, rfl, rfl, rfl, rfl, rfl⟩
theorem Slots.tr {σ τ υ : Mem} (h : Slots σ τ) (k : Slots τ υ) : Slots σ υ := by
  obtain ⟨a1, a2, a3, a4, a5, a6, a7⟩ := h
  obtain ⟨b1, b2, b3, b4, b5, b6, b7⟩ := k
  exact ⟨b1.trans a1, b2.trans a2, b3.trans a3, b4.trans a4, b5.trans a5, b6.trans a6, b7.trans a7⟩
theorem Slots.of {σ τ : Mem} (h1 : τ 13 = σ 13) (h2 : τ 75 = σ 75) (h3 : τ 77 = σ 77) : Slots σ τ := by
  unfold Slots; rw [h1, h2, h3]; exact ⟨rfl, rfl, rfl, rfl, rfl, rfl, rfl⟩
theorem Inv.keep {σ τ : Mem} (h : Inv σ) (hs : Same pKeep σ τ) (hl : Slots σ τ) (h0 : ISta τ) : Inv τ := by
  obtain ⟨h1, -, h3, h4, h5, h6, h7⟩ := h
  obtain ⟨e1, e2, e3, e4, e5, e6, e7⟩ := hl
  exact ⟨h1.congr (hs.mono kRow), h0, h3.congr (hs.mono kTap) e1 e2 e4 e5, h4.congr (hs.mono kTow), h5.congr (hs.mono kImg), h6.congr (hs.mono kAct) (by rw [hs 35 rfl]) (by rw [hs 35 rfl]) e6, h7.congr (hs.mono kTrc) e3 e7⟩
theorem Inv.many {σ : Mem} (h : Inv σ) : ∃ m, Mny (σ 82) m := h.2.2.2.1.1.1
theorem Inv.tw {σ : Mem} (h : Inv σ) : TwR σ 15 (σ 82) := h.2.2.2.1.2
