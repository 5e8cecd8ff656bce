/-! ===== best: the class ===== -/
def KO (σ : Mem) : Option (Int32 × List Nat) → Prop
  | none => σ 61 7 = 0
  | some b => σ 61 7 = 1 ∧ σ 61 8 = b.1 ∧ σ 61 6 = nI b.2.length ∧ b.2.length ≤ 6 ∧ ∀ j (hj : j < b.2.length), σ 68 j = nI b.2[j]
theorem KO.congr {σ τ : Mem} {b : Option (Int32 × List Nat)} (h : KO σ b) (h1 : τ 61 = σ 61) (h2 : τ 68 = σ 68) : KO τ b := by
  cases b <;> simp only [KO, h1, h2] at h ⊢ <;> exact h
def KA (aim A e0 : Int32) (b : Option (Int32 × List Nat)) (σ : Mem) : Prop := σ 61 2 = aim ∧ σ 61 3 = A ∧ σ 61 4 = e0 ∧ KO σ b
theorem KA.keep {aim A e0 v : Int32} {b : Option (Int32 × List Nat)} {σ : Mem} {p : List Nat} (h : KA aim A e0 b σ) (hp : p.length ≤ 6) (hpre : Pre σ p) : ∃ τ, f_X3_keepRow (nI p.length) v σ = some τ ∧ KA aim A e0 (some (v, p)) τ ∧ ∀ a, a ≠ 61 → a ≠ 68 → a ≠ 69 → τ a = σ a := by
  obtain ⟨τ, t1, t2, t3, t4, t5, t6, t7⟩ := c_keepRow (v := v) hp hpre
  obtain ⟨k1, k2, k3, -⟩ := h
  exact ⟨τ, t1, ⟨by rw [t6 2 (by decide)]; exact k1, by rw [t6 3 (by decide)]; exact k2, by rw [t6 4 (by decide)]; exact k3, t3, t4, t5, hp, t2⟩, fun a h1 h2 _ => t7 a h1 h2⟩
def stM (e0 : Int32) (b : Option (Int32 × List Nat)) (p : List Nat) (g : Nat → Int32) : Option (Int32 × List Nat) := match b with
  | none => some (g 3 - e0, p)
  | some b => if b.1 < g 3 - e0 ∨ (g 3 - e0 = b.1 ∧ p.length < b.2.length) then some (g 3 - e0, p) else some b
theorem c_weighM {A e0 : Int32} {m : Nat} (b : Option (Int32 × List Nat)) (σ : Mem) (p : List Nat) (g : Nat → Int32) (h : KA 0 A e0 b σ) (hT : TwR σ 62 g) (hm : Mny g m) (hp : p.length ≤ 6) (hpre : Pre σ p) : ∃ τ, f_X3_weigh (nI p.length) σ = some τ ∧ KA 0 A e0 (stM e0 b p g) τ ∧ ∀ a, a ≠ 61 → a ≠ 68 → a ≠ 69 → τ a = σ a := by
  have e12 : σ 62 12 = g 3 := hT.1.2.2.2.2.2.2.2.2
  obtain ⟨τ, t1, t2, t3⟩ := h.keep (v := g 3 - e0) hp hpre
  have kp : f_X3_weigh_b51 (nI p.length) (g 3 - e0) σ = some τ := by
    unfold f_X3_weigh_b51 f_X3_weigh_b57
    rw [t1]; rfl
  unfold f_X3_weigh
  rw [if_pos h.1, e12, h.2.2.1, Option.bind_some, kp]
  cases b with
  | none =>
    have h7 : σ 61 7 = 0 := h.2.2.2
    rw [if_pos h7]
    exact ⟨τ, rfl, t2, t3⟩
  | some b =>
    obtain ⟨k1, k2, k3, k4, k5, k6, k7⟩ := id h
    have k4 : σ 61 7 = 1 := k4
    rw [if_neg (by rw [k4]; decide), k5, k6]
    unfold f_X3_weigh_b57
    by_cases q1 : b.1 < g 3 - e0
    · rw [if_pos q1]
      refine ⟨τ, rfl, ?_, t3⟩
      have : stM e0 (some b) p g = some (g 3 - e0, p) := if_pos (Or.inl q1)
      rw [this]; exact t2
    rw [if_neg q1]
    by_cases q2 : g 3 - e0 = b.1
    · rw [if_pos q2]
      by_cases q3 : p.length < b.2.length
      · rw [if_neg (fun w => by have := (nI_le_lit (by have := k7.1; omega) (by omega)).mp w; omega)]
        refine ⟨τ, rfl, ?_, t3⟩
        have : stM e0 (some b) p g = some (g 3 - e0, p) := if_pos (Or.inr ⟨q2, q3⟩)
        rw [this]; exact t2
      · rw [if_pos ((nI_le_lit (by have := k7.1; omega) (by omega)).mpr (by omega))]
        refine ⟨σ, rfl, ?_, fun _ _ _ _ => rfl⟩
        have : stM e0 (some b) p g = some b := if_neg (fun w => by rcases w with w | w; exact q1 w; exact q3 w.2)
        rw [this]; exact h
    · rw [if_neg q2]
      refine ⟨σ, rfl, ?_, fun _ _ _ _ => rfl⟩
      have : stM e0 (some b) p g = some b := if_neg (fun w => by rcases w with w | w; exact q1 w; exact q2 w.1)
      rw [this]; exact h
theorem obs {α : Type} (o : Option α) : (o.bind fun x => some x) = o := by cases o <;> rfl
theorem c_seek {n : Nat} {σ : Mem} (aim A : Int32) : ∃ σ6, f_X3_seek n aim A σ = f_X3_tryRows_r n 8 (nI 0) σ6 ∧ σ6 61 2 = aim ∧ σ6 61 3 = A ∧ σ6 61 4 = σ 62 12 ∧ σ6 61 7 = 0 ∧ ∀ a, a ≠ 61 → σ6 a = σ a := by
  refine ⟨mset (mset (mset (mset (mset (mset σ 61 2 aim) 61 3 A) 61 4 (σ 62 12)) 61 7 0) 61 6 0) 61 8 0, ?_, rfl, rfl, rfl, rfl, fun a ha => by rw [ms_cell ha, ms_cell ha, ms_cell ha, ms_cell ha, ms_cell ha, ms_cell ha]⟩
  unfold f_X3_seek
  simp only [Option.bind_some, eq_true (show isBv 0 = true from rfl), if_true, ms_cell (show (62 : Nat) ≠ 61 by decide), f_X3_tryRows]
  exact obs _
theorem everyb {σ : Mem} {m : Nat} {g : Nat → Int32} (hT : TwR σ 15 g) (hm : Mny g m) : f_X6_everybody σ 15 = some ((1 <<< (nI m &&& 31)) - 1) := by
  unfold f_X6_everybody
  rw [if_pos (show isTown 15 = true from rfl), hT.1.2.2.2.2.1, hm.2]
/-- the best row: what it brings, and who -/
def bestR (m : Nat) (g : Nat → Int32) : Row := ((List.range' 1 m).flatMap fun k => Wl (amAll m) m k g []).foldl (rsR (g 3)) ([], g)
theorem c_forMost {σ : Mem} {n m : Nat} (h : Inv σ) (hn : 2000 ≤ n) (hm : Mny (σ 82) m) : ∃ τ, f_X3_forMost n 15 σ = some τ ∧ KO τ (some (vR (G0 σ 3) (bestR m (G0 σ)), (bestR m (G0 σ)).1)) ∧ ∀ a, a < 61 ∨ 70 ≤ a → τ a = σ a := by
  obtain ⟨σ2, e1, e2, e3⟩ := c_trial h (t := 62) rfl (by decide)
  have hm0 := G0_many hm
  have hT15 : TwR σ2 15 (G0 σ) := (h.tw.eqT (G0_eq σ)).congr (e3 15 (by omega)) (e3 16 (by omega)) (e3 17 (by omega)) (e3 18 (by omega)) (e3 19 (by omega))
  obtain ⟨σ6, s1, s2, s3, s4, s5, s6⟩ := c_seek (n := n) (σ := σ2) 0 ((1 <<< (nI m &&& 31)) - 1)
  have hT6 : TwR σ6 62 (G0 σ) := e2.congr (s6 62 (by decide)) (s6 63 (by decide)) (s6 64 (by decide)) (s6 65 (by decide)) (s6 66 (by decide))
  have e12 : σ2 62 12 = G0 σ 3 := e2.1.2.2.2.2.2.2.2.2
  rw [e12] at s4
  obtain ⟨τ, t1, t2, -, -, t5⟩ := c_dfs (n := n) (m := m) (A := (1 <<< (nI m &&& 31)) - 1) (am := amAll m) (K := KA 0 ((1 <<< (nI m &&& 31)) - 1) (G0 σ 3)) (step := stM (G0 σ 3)) (P := fun _ _ => True) hn hm.1 (fun r hr => all_bits m (by have := hm.1; omega) r hr)
    (fun b σ τ q1 q2 _ hk => ⟨by rw [q1]; exact hk.1, by rw [q1]; exact hk.2.1, by rw [q1]; exact hk.2.2.1, hk.2.2.2.congr q1 q2⟩) (fun b σ hk => hk.2.1) (fun _ _ _ _ _ _ _ => trivial)
    (fun b σ p g q1 q2 q3 q4 q5 _ => c_weighM b σ p g q1 q2 q3 q4 q5) 6 8 [] (G0 σ) none σ6 rfl (by decide) ⟨s2, s3, s4, s5⟩ hT6 hm0 (fun j hj => absurd hj (Nat.not_lt_zero _)) trivial
  refine ⟨τ, ?_, ?_, fun a ha => by rw [t5 a (by omega) (by omega) (by omega) (by omega) (by omega), s6 a (by omega), e3 a (by omega)]⟩
  · unfold f_X3_forMost
    rw [e1, Option.bind_some, if_pos (show isTown 15 = true from rfl), everyb hT15 hm0, Option.bind_some, s1]
    have t1' : f_X3_tryRows_r n 8 (nI 0) σ6 = some τ := t1
    rw [t1']; rfl
  · obtain ⟨D', d1, d2⟩ := best_same (m := m) (g := G0 σ) hm.1
    have key : (Dl (amAll m) m 6 (G0 σ) []).foldl (fun b x => stM (G0 σ 3) b x.1 x.2) none = some (vR (G0 σ 3) (bestR m (G0 σ)), (bestR m (G0 σ)).1) := by
      rw [d1, List.foldl_cons]
      have e0 : stM (G0 σ 3) none ([], G0 σ).1 ([], G0 σ).2 = (fun x : Row => some (vR (G0 σ 3) x, x.1)) ([], G0 σ) := rfl
      rw [e0, List.foldl_hom (fun x : Row => some (vR (G0 σ 3) x, x.1)) (g₁ := csR (G0 σ 3))]
      · rw [d2]; rfl
      · intro x y
        show (if _ then _ else _) = some (vR (G0 σ 3) (csR (G0 σ 3) x y), (csR (G0 σ 3) x y).1)
        unfold csR vR
        by_cases q : x.2 3 - G0 σ 3 < y.2 3 - G0 σ 3 ∨ (y.2 3 - G0 σ 3 = x.2 3 - G0 σ 3 ∧ y.1.length < x.1.length)
        · rw [if_pos q, if_pos q]
        · rw [if_neg q, if_neg q]
    rw [key] at t2
    exact t2.2.2.2
