/-! ===== the reference's towns ===== -/
theorem tl0 : (0 : Int32).toNatClampNeg = 0 := rfl
theorem tl1 : (1 : Int32).toNatClampNeg = 1 := rfl
theorem tl2 : (2 : Int32).toNatClampNeg = 2 := rfl
theorem tl3 : (3 : Int32).toNatClampNeg = 3 := rfl
theorem tl4 : (4 : Int32).toNatClampNeg = 4 := rfl
theorem tl5 : (5 : Int32).toNatClampNeg = 5 := rfl
theorem tl6 : (6 : Int32).toNatClampNeg = 6 := rfl
theorem tl7 : (7 : Int32).toNatClampNeg = 7 := rfl
theorem tl8 : (8 : Int32).toNatClampNeg = 8 := rfl
theorem inL {k : Int32} {n : Nat} (h : inB k n = true) : (inB k n = true) = True := eq_true h
theorem r_in (σ : Mem) (x a b : Int32) : f_X8_in σ x a b = some (b2i (!decide (x < a) && !decide (b < x))) := by
  unfold f_X8_in
  by_cases h : x < a <;> by_cases h2 : b < x <;> simp [h, h2, b2i]
theorem r_isIn (σ : Mem) (x k : Int32) : f_X8_isIn σ x k = some (b2i (!decide ((x >>> (k &&& 31)) &&& 1 = 0))) := by
  unfold f_X8_isIn
  rcases bit01 (x >>> (k &&& 31)) with h | h <;> rw [h] <;> rfl
theorem nIa (a b : Nat) : nI a + nI b = nI (a + b) := nI_add a b
theorem nI15 (r : Nat) : (15 : Int32) + nI r = nI (15 + r) := nIa 15 r
theorem nI9 (r : Nat) : (9 : Int32) + nI r = nI (9 + r) := nIa 9 r
theorem nI21 (r : Nat) : (21 : Int32) + nI r = nI (21 + r) := nIa 21 r
theorem nI27 (r : Nat) : (27 : Int32) + nI r = nI (27 + r) := nIa 27 r
/-- an array of 33 numbers -/
def A33 (s : Nat) : Prop := isIA s = true ∧ alen s = 33
theorem a82 : A33 82 := ⟨rfl, rfl⟩
theorem a83 : A33 83 := ⟨rfl, rfl⟩
theorem a84 : A33 84 := ⟨rfl, rfl⟩
section LAY
variable {σ : Mem} {n : Nat}
theorem mcpy_0 {a fr b to : Nat} : mcpy σ a fr b to 0 = σ := by
  funext c j
  rw [mc_if, if_neg (by omega)]
theorem mcpy_s {a fr b to k : Nat} (hab : a ≠ b) : mset (mcpy σ a fr b to k) b (to + k) (mcpy σ a fr b to k a (fr + k)) = mcpy σ a fr b to (k + 1) := by
  funext c j
  simp only [ms_if, mc_if, if_neg (show ¬ (a = b ∧ to ≤ fr + k ∧ fr + k < to + k) from fun q => hab q.1)]
  by_cases h1 : c = b ∧ j = to + k
  · rw [if_pos h1, if_pos ⟨h1.1, by omega, by omega⟩, h1.2]
    congr 1; omega
  · rw [if_neg h1]
    by_cases h2 : c = b ∧ to ≤ j ∧ j < to + k
    · rw [if_pos h2, if_pos ⟨h2.1, h2.2.1, by omega⟩]
    · rw [if_neg h2, if_neg (fun q => by
        rcases Nat.lt_or_ge j (to + k) with w | w
        · exact h2 ⟨q.1, q.2.1, w⟩
        · exact h1 ⟨q.1, by omega⟩)]
theorem r_lay_l {a fr b to : Nat} (ha : isIA a = true) (hb : isIA b = true) (hab : a ≠ b) (h1 : fr + 33 ≤ alen a) (h2 : to + 33 ≤ alen b) (h3 : alen a < 2 ^ 20) (h4 : alen b < 2 ^ 20) : ∀ (k i f : Nat), i + k = 33 → k < f → f_X8_lay_l3 n f a (nI fr) b (nI to) (nI i) (mcpy σ a fr b to i) = some (mcpy σ a fr b to 33) := by
  intro k
  induction k with
  | zero =>
    intro i f hi hf
    obtain ⟨f, rfl⟩ : ∃ f', f = f' + 1 := ⟨f - 1, by omega⟩
    show f_X8_lay_b3 n _ a _ b _ (nI i) _ = _
    unfold f_X8_lay_b3
    have e : i = 33 := by omega
    subst e
    rw [if_pos (by decide)]
  | succ k ih =>
    intro i f hi hf
    obtain ⟨f, rfl⟩ : ∃ f', f = f' + 1 := ⟨f - 1, by omega⟩
    show f_X8_lay_b3 n (f_X8_lay_l3 n f) a _ b _ (nI i) _ = _
    unfold f_X8_lay_b3
    rw [if_neg (fun q => by have := (nI_le_lit (n := 33) (by omega) (by omega)).mp q; omega), if_pos ha, if_pos hb, nIa, nIa, if_pos (inB_nI (by omega) (by omega)), if_pos (inB_nI (by omega) (by omega)), tn_nI (by omega), tn_nI (by omega), Option.bind_some, mcpy_s hab, nI_1]
    exact ih (i + 1) f (by omega) (by omega)
theorem r_lay {a fr b to : Nat} (ha : isIA a = true) (hb : isIA b = true) (hab : a ≠ b) (h1 : fr + 33 ≤ alen a) (h2 : to + 33 ≤ alen b) (h3 : alen a < 2 ^ 20) (h4 : alen b < 2 ^ 20) (hn : 100 ≤ n) : f_X8_lay n a (nI fr) b (nI to) σ = some (mcpy σ a fr b to 33) := by
  have := r_lay_l (σ := σ) (n := n) ha hb hab h1 h2 h3 h4 33 0 n (by omega) (by omega)
  rw [mcpy_0] at this
  exact this
end LAY
section TM
variable {σ : Mem} {s n m : Nat}
theorem r_comesTo (hs : A33 s) {r : Nat} (hr : r < 6) : f_X8_comesTo σ s (nI r) = some (sComes (σ s) r) := by
  unfold f_X8_comesTo
  simp only [if_pos hs.1, hs.2, nI15, inL (show inB 0 33 = true by decide), inL (show inB 1 33 = true by decide), inL (inB_nI (show 15 + r < 33 by omega) (by decide)), if_true, tn_nI (show 15 + r < 2 ^ 31 by omega), tl0, tl1, Option.bind_some]
  unfold sComes iabs
  by_cases h : 0 ≤ σ s 0 - σ s (15 + r)
  · rw [if_pos h, if_pos h]
  · rw [if_neg h, if_neg h, Int32.zero_sub]
theorem r_canBe (hs : A33 s) (hm : Mny (σ s) m) (x : Int32) : f_X8_canBe σ s x = some (b2i (sCanX (σ s) x)) := by
  have h6 := hm.1
  unfold f_X8_canBe
  simp only [if_pos hs.1, hs.2, inL (show inB 4 33 = true by decide), inL (show inB 2 33 = true by decide), inL (show inB 7 33 = true by decide), if_true, tl4, tl2, tl7, r_in, Option.bind_some, r_isIn]
  unfold sCanX
  have hsub : ∀ y : Int32, ¬ y < 0 → (σ s 4 - 1 < y ↔ σ s 4 ≤ y) := by
    intro y hy
    rw [hm.2, i32_lt, i32_le]
    rw [i32_lt] at hy
    have e1 : (nI m).toInt = m := nI_toInt (by omega)
    have e2 : (nI m - 1).toInt = (m : Int) - 1 := by
      rw [i32_sub (by rw [e1]; show _ ≤ (m : Int) - 1; omega) (by rw [e1]; show (m : Int) - 1 < _; omega), e1]; rfl
    rw [e1, e2]
    have : (0 : Int32).toInt = 0 := rfl
    omega
  by_cases h : x < 0
  · simp [h, b2i]
  by_cases h2 : σ s 4 ≤ x
  · have h3 := (hsub x h).mpr h2
    simp [h, h2, h3, b2i]
  have h3 : ¬ σ s 4 - 1 < x := fun q => h2 ((hsub x h).mp q)
  obtain ⟨r, hr, rfl⟩ := ix_of (n := m) (by omega) h (by rw [hm.2] at h2; exact h2)
  rw [r_comesTo hs (by omega), tn_nI (by omega)]
  unfold sCan
  by_cases h4 : (σ s 2 >>> (nI r &&& 31)) &&& 1 = 0 <;> by_cases h5 : σ s 7 < sComes (σ s) r <;> simp [h, h2, h3, h4, h5, b2i]
theorem r_br_end (hs : A33 s) {r : Nat} (hr : r < 6) {k38} {acc fr : Int32} {o : Nat} (hm : Mny (σ s) m) (ho : o = m) : f_X8_bringsBy_b38 n σ k38 s (nI r) (σ s (21 + r)) fr acc (nI o) = some (if σ s (9 + r) = 1 then fr else if σ s (9 + r) = 2 then (if σ s 2 = 0 then fr else 0) else if σ s (9 + r) = 3 then fr + acc else σ s (21 + r)) := by
  have h6 := hm.1
  unfold f_X8_bringsBy_b38
  rw [if_pos hs.1, hs.2, if_pos (by decide), tl4, hm.2, if_pos ((nI_le_lit (by omega) (by omega)).mpr (by omega)), nI9, if_pos (inB_nI (by omega) (by decide)), tn_nI (by omega), if_pos (by decide), tl2, Option.bind_some]
  by_cases h1 : σ s (9 + r) = 1
  · simp only [if_pos h1]
  by_cases h2 : σ s (9 + r) = 2
  · simp only [if_neg h1, if_pos h2]
    by_cases h3 : σ s 2 = 0
    · simp only [if_pos h3]
    · simp only [if_neg h3]
  by_cases h3 : σ s (9 + r) = 3
  · simp only [if_neg h1, if_neg h2, if_pos h3]
  · simp only [if_neg h1, if_neg h2, if_neg h3]
theorem r_br_l (hs : A33 s) (hm : Mny (σ s) m) {r : Nat} (hr : r < m) (fr : Int32) : ∀ (k o : Nat) (acc : Int32) (f : Nat), o + k = m → k < f → f_X8_bringsBy_l38 n σ f s (nI r) (σ s (21 + r)) fr acc (nI o) = some (if σ s (9 + r) = 1 then fr else if σ s (9 + r) = 2 then (if σ s 2 = 0 then fr else 0) else if σ s (9 + r) = 3 then fr + sNr (σ s) r o k acc else σ s (21 + r)) := by
  have h6 := hm.1
  intro k
  induction k with
  | zero =>
    intro o acc f ho hf
    obtain ⟨f, rfl⟩ : ∃ f', f = f' + 1 := ⟨f - 1, by omega⟩
    exact r_br_end hs (by omega) hm (by omega)
  | succ k ih =>
    intro o acc f ho hf
    obtain ⟨f, rfl⟩ : ∃ f', f = f' + 1 := ⟨f - 1, by omega⟩
    show f_X8_bringsBy_b38 n σ (f_X8_bringsBy_l38 n σ f) s (nI r) _ fr acc (nI o) = _
    unfold f_X8_bringsBy_b38 f_X8_bringsBy_b74 f_X8_bringsBy_b75
    rw [if_pos hs.1, hs.2, if_pos (by decide), tl4, hm.2, if_neg (fun q => by have := (nI_le_lit (by omega) (by omega)).mp q; omega), nI15, nI15, if_pos (inB_nI (by omega) (by decide)), if_pos (inB_nI (by omega) (by decide)), tn_nI (by omega), tn_nI (by omega), nI_1]
    simp only [Option.bind_some, Int32.add_zero]
    rw [sNr]
    by_cases h1 : o = r
    · rw [if_pos (by rw [h1]), if_pos h1]
      exact ih (o + 1) _ f (by omega) (by omega)
    · rw [if_neg (fun q => h1 ((nI_inj (by omega) (by omega)).mp q)), if_neg h1]
      by_cases h2 : σ s (15 + o) = σ s (15 + r)
      · rw [if_pos h2, if_pos h2]
        exact ih (o + 1) _ f (by omega) (by omega)
      · rw [if_neg h2, if_neg h2]
        exact ih (o + 1) _ f (by omega) (by omega)
theorem r_bringsBy (hs : A33 s) (hm : Mny (σ s) m) (hn : 100 ≤ n) {r : Nat} (hr : r < m) : f_X8_bringsBy n σ s (nI r) = some (sBr (σ s) r) := by
  have h6 := hm.1
  unfold f_X8_bringsBy f_X8_bringsBy_b31
  simp only [if_pos hs.1, hs.2, nI21, nI27, inL (inB_nI (show 21 + r < 33 by omega) (by decide)), inL (inB_nI (show 27 + r < 33 by omega) (by decide)), if_true, tn_nI (show 21 + r < 2 ^ 31 by omega), tn_nI (show 27 + r < 2 ^ 31 by omega), r_comesTo hs (show r < 6 by omega), Option.bind_some]
  have key := fun fr => r_br_l (σ := σ) (n := n) hs hm hr fr m 0 0 n (by omega) (by omega)
  have k0 : (0 : Int32) = nI 0 := rfl
  unfold sBr sFresh sNear imax
  rw [hm.2, tn_nI (by omega)]
  by_cases h : 0 ≤ σ s (21 + r) - sComes (σ s) r * σ s (27 + r)
  · rw [if_pos h]
    refine (key _).trans ?_
    have : (if 0 < σ s (21 + r) - sComes (σ s) r * σ s (27 + r) then σ s (21 + r) - sComes (σ s) r * σ s (27 + r) else 0) = σ s (21 + r) - sComes (σ s) r * σ s (27 + r) := by
      by_cases h2 : 0 < σ s (21 + r) - sComes (σ s) r * σ s (27 + r)
      · rw [if_pos h2]
      · rw [if_neg h2]
        rw [i32_le] at h; rw [i32_lt] at h2
        exact (i32_eq _ _).mpr (by omega)
    rw [this]
  · rw [if_neg h]
    refine (key _).trans ?_
    have h2 : ¬ 0 < σ s (21 + r) - sComes (σ s) r * σ s (27 + r) := fun q => h (by rw [i32_le]; rw [i32_lt] at q; omega)
    rw [if_neg h2]
theorem r_gives (hs : A33 s) (hm : Mny (σ s) m) (hn : 100 ≤ n) {r : Nat} (hr : r < m) : ∃ τ, f_X8_gives n s (nI r) σ = some (sBr (σ s) r, τ) ∧ τ s = sGive (σ s) r ∧ ∀ a, a ≠ s → τ a = σ a := by
  have h6 := hm.1
  refine ⟨fun b => if b = s then sGive (σ s) r else σ b, ?_, if_pos rfl, ?_⟩
  · unfold f_X8_gives f_X8_gives_b28
    simp only [if_pos hs.1, hs.2, nI9, nI15, inL (inB_nI (show 9 + r < 33 by omega) (by decide)), inL (inB_nI (show 15 + r < 33 by omega) (by decide)), tn_nI (show 9 + r < 2 ^ 31 by omega), tn_nI (show 15 + r < 2 ^ 31 by omega), r_comesTo hs (show r < 6 by omega), r_bringsBy hs hm hn hr, Option.bind_some, inL (show inB 0 33 = true by decide), inL (show inB 1 33 = true by decide), inL (show inB 2 33 = true by decide), inL (show inB 3 33 = true by decide), if_true, tl0, tl1, tl2, tl3]
    have fin : ∀ w : Int32, mset (mset (mset (mset σ s 1 (sComes (σ s) r + w)) s 3 (mset σ s 1 (sComes (σ s) r + w) s 3 + sBr (σ s) r)) s 2 (mset (mset σ s 1 (sComes (σ s) r + w)) s 3 (mset σ s 1 (sComes (σ s) r + w) s 3 + sBr (σ s) r) s 2 ||| (1 <<< (nI r &&& 31)))) s 0 (mset (mset (mset σ s 1 (sComes (σ s) r + w)) s 3 (mset σ s 1 (sComes (σ s) r + w) s 3 + sBr (σ s) r)) s 2 (mset (mset σ s 1 (sComes (σ s) r + w)) s 3 (mset σ s 1 (sComes (σ s) r + w) s 3 + sBr (σ s) r) s 2 ||| (1 <<< (nI r &&& 31))) s (15 + r)) = fun b => if b = s then (fun i => if i = 0 then σ s (15 + r) else if i = 2 then σ s 2 ||| (1 <<< (nI r &&& 31)) else if i = 3 then σ s 3 + sBr (σ s) r else if i = 1 then sComes (σ s) r + w else σ s i) else σ b := by
      intro w
      funext b i
      simp only [ms_if, true_and]
      by_cases hb : b = s
      · subst hb
        simp [show ¬ (15 + r = 2) by omega, show ¬ (15 + r = 3) by omega, show ¬ (15 + r = 1) by omega]
      · simp [hb]
    unfold sGive
    by_cases h : σ s (9 + r) = 5
    · simp only [if_pos h]
      rw [fin 2]
    · simp only [if_neg h]
      rw [fin 1]
  · intro a ha
    simp [ha]
end TM
