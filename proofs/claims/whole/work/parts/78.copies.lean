/-! ===== copies: the reference, and both ===== -/
section COPIES
variable {n M R : Nat} {V : Nat → Option Int32}
theorem shV_btw (hV : Vok V) {w : List Nat} (hw : w.length ≤ 6) : ∀ (k c : Nat) (acc v : Int32), 0 ≤ acc.toInt → acc.toInt + 216 * (k : Int) ≤ 1000000 → shV V w k c acc = some v → 0 ≤ v.toInt ∧ v.toInt ≤ acc.toInt + 216 * (k : Int) := by
  intro k
  induction k with
  | zero => intro c acc v h0 _ h; cases h; omega
  | succ k ih =>
    intro c acc v h0 hb h
    rw [shV] at h
    cases hv : V (setP c 0 w) with
    | none => rw [hv] at h; cases h
    | some u =>
      rw [hv] at h
      obtain ⟨b1, b2⟩ := hV _ (setP_64 hw) u hv
      have e : (acc + u).toInt = acc.toInt + u.toInt := i32_add (by omega) (by omega)
      have := ih (c + 1) (acc + u) v (by omega) (by omega) h
      omega
/-- a code becomes a row of copies -/
theorem r_eb1 (hM1 : 1 ≤ M) (hM : M ≤ 3) : ∀ (k c f : Nat) (σ : Mem), k ≤ 6 → c < 2 ^ 20 → k < f → ∃ τ, f_X8_earnedBy_l12 n f (nI M) (nI c) (nI k + (-1)) σ = f_X8_earnedBy_l76 n n (nI M) 0 0 τ ∧ (∀ j (hj : j < (dgs (M + 1) k c).length), τ 93 j = nI (adjM M (dgs (M + 1) k c)[j])) ∧ (∀ j, k ≤ j → τ 93 j = σ 93 j) ∧ ∀ a, a ≠ 93 → τ a = σ a := by
  intro k
  induction k with
  | zero =>
    intro c f σ hk hc hf
    obtain ⟨f, rfl⟩ : ∃ f', f = f' + 1 := ⟨f - 1, by omega⟩
    refine ⟨σ, ?_, fun j hj => absurd hj (Nat.not_lt_zero _), fun _ _ => rfl, fun _ _ => rfl⟩
    show f_X8_earnedBy_b12 n _ (nI M) (nI c) _ σ = _
    unfold f_X8_earnedBy_b12
    rw [if_pos (by decide)]
  | succ k ih =>
    intro c f σ hk hc hf
    obtain ⟨f, rfl⟩ : ∃ f', f = f' + 1 := ⟨f - 1, by omega⟩
    have hcm : c % (M + 1) < M + 1 := Nat.mod_lt _ (by omega)
    have hcd : c / (M + 1) ≤ c := Nat.div_le_self _ _
    have hM31 : M + 1 < 2 ^ 31 := by omega
    generalize hσ4 : mset (mset σ 93 k (nI (c % (M + 1)))) 93 k (nI (adjM M (c % (M + 1)))) = σ4
    obtain ⟨τ, t1, t2, t3, t4⟩ := ih (c / (M + 1)) f σ4 (by omega) (by omega) (by omega)
    have e93 : σ4 93 k = nI (adjM M (c % (M + 1))) := by rw [← hσ4]; exact ms_at
    refine ⟨τ, ?_, fun j hj => ?_, fun j hj => ?_, fun a ha => by rw [t4 a ha, ← hσ4, ms_cell ha, ms_cell ha]⟩
    · have u : f_X8_earnedBy_l12 n (f + 1) (nI M) (nI c) (nI (k + 1) + (-1)) σ = f_X8_earnedBy_b12 n (f_X8_earnedBy_l12 n f) (nI M) (nI c) (nI (k + 1) + (-1)) σ := rfl
      rw [u, pk_m1]
      unfold f_X8_earnedBy_b12 f_X8_earnedBy_b57
      have I := inB_nI (show k < 6 by omega) (show 6 < 2 ^ 31 by decide)
      have nz : ¬ nI (M + 1) = 0 := nI_ne0 (by omega) hM31
      rw [if_neg (nI_nn (by omega)), Option.bind_some, nI_1, if_neg nz, if_pos I, tn_nI (by omega), pk_rem (by omega) (by omega) hM31, Option.bind_some]
      simp only [inL I, if_true, ms_at, if_neg nz, pk_div (show c < 2 ^ 31 by omega) (show 0 < M + 1 by omega) hM31, Option.bind_some]
      by_cases q : c % (M + 1) = M
      · have a3 : adjM M (c % (M + 1)) = 3 := if_neg (by omega)
        rw [if_pos (by rw [q])]
        rw [a3] at hσ4
        have h3 : mset (mset σ 93 k (nI (c % (M + 1)))) 93 k 3 = σ4 := hσ4
        rw [h3, t1]
      · have a3 : adjM M (c % (M + 1)) = c % (M + 1) := if_pos (by omega)
        rw [if_neg (fun z => q ((nI_inj (by omega) (by omega)).mp z))]
        rw [a3] at hσ4
        rw [hσ4, t1]
    · rw [dgs_len] at hj
      by_cases q : j < k
      · rw [t2 j (by rw [dgs_len]; exact q)]
        congr 2
        simp only [dgs]
        rw [List.getElem_append_left (by rw [dgs_len]; exact q)]
      · obtain rfl : j = k := by omega
        rw [t3 j (Nat.le_refl _), e93]
        congr 2
        simp only [dgs]
        rw [List.getElem_append_right (by rw [dgs_len]; exact Nat.le_refl _)]
        simp
    · rw [t3 j (by omega), ← hσ4, ms_off (Or.inr (by omega)), ms_off (Or.inr (by omega))]
/-- who has copy c -/
theorem r_eb3 {σ : Mem} {w : List Nat} {x4 : Int32} {c : Nat} (k76 : Int32 → Int32 → Int32 → Mem → Option (Int32 × Mem)) (hM : M ≤ 3) (hR : R ≤ 6) (hw : w.length = R) (h4 : σ 82 4 = nI R) (h93 : ∀ j (hj : j < w.length), σ 93 j = nI (adjM M w[j])) (hc : c < M) : ∀ (k r s f : Nat), r + k = R → k < f → s < 64 → (s ||| setP c r (w.drop r) = setP c 0 w) → f_X8_earnedBy_l88 n k76 f (nI M) x4 (nI c) (nI s) (nI r) σ = if x4 < 0 then k76 (nI M) (-1) (nI (c + 1)) σ else if 0 ≤ σ 92 (setP c 0 w) then k76 (nI M) (x4 + σ 92 (setP c 0 w)) (nI (c + 1)) σ else k76 (nI M) (-1) (nI (c + 1)) σ := by
  intro k
  induction k with
  | zero =>
    intro r s f hr hf hs he
    obtain ⟨f, rfl⟩ : ∃ f', f = f' + 1 := ⟨f - 1, by omega⟩
    have hsz : s = setP c 0 w := by
      rw [List.drop_of_length_le (by omega)] at he
      rw [← he]; simp [setP]
    show f_X8_earnedBy_b88 n _ _ (nI M) x4 (nI c) (nI s) (nI r) σ = _
    unfold f_X8_earnedBy_b88 f_X8_earnedBy_b145 f_X8_earnedBy_b159
    have I := inB_nI hs (show 64 < 2 ^ 31 by decide)
    rw [if_pos (by decide), tl4, h4, if_pos ((nI_le_lit (by omega) (by omega)).mpr (by omega)), if_pos I, if_pos I, tn_nI (by omega), nI_1, hsz]
  | succ k ih =>
    intro r s f hr hf hs he
    obtain ⟨f, rfl⟩ : ∃ f', f = f' + 1 := ⟨f - 1, by omega⟩
    have hrw : r < w.length := by omega
    have u : f_X8_earnedBy_l88 n k76 (f + 1) (nI M) x4 (nI c) (nI s) (nI r) σ = f_X8_earnedBy_b88 n k76 (f_X8_earnedBy_l88 n k76 f) (nI M) x4 (nI c) (nI s) (nI r) σ := rfl
    rw [u]
    unfold f_X8_earnedBy_b88 f_X8_earnedBy_b121
    rw [if_pos (by decide), tl4, h4, if_neg (fun q => by have := (nI_le_lit (by omega) (by omega)).mp q; omega), if_pos (inB_nI (by omega) (by decide)), tn_nI (by omega), h93 r hrw, nI_bit r (by omega), nI_1, Option.bind_some, Option.bind_some, nI_or s hs _ (pow_lt64 (by omega)), Int32.or_zero]
    rw [List.drop_eq_getElem_cons hrw, setP, ← Nat.or_assoc] at he
    have ha : nI (adjM M w[r]) = nI c ↔ w[r] = c := by
      rw [nI_inj (by unfold adjM; split <;> omega) (by omega)]
      unfold adjM
      split <;> omega
    by_cases q : w[r] = c
    · rw [if_pos (ha.mpr q)]
      rw [if_pos q] at he
      exact ih (r + 1) _ f (by omega) (by omega) (or_lt64 hs (pow_lt64 (by omega))) he
    · rw [if_neg (fun z => q (ha.mp z))]
      rw [if_neg q, Nat.or_zero] at he
      exact ih (r + 1) s f (by omega) (by omega) hs he
theorem r_eb2 {σ : Mem} {w : List Nat} (hn : 2000 ≤ n) (hM : M ≤ 3) (hR : R ≤ 6) (hV : Vok V) (hw : w.length = R) (h4 : σ 82 4 = nI R) (h92 : ∀ s, s < 2 ^ R → σ 92 s = (V s).getD (-1)) (h93 : ∀ j (hj : j < w.length), σ 93 j = nI (adjM M w[j])) : ∀ (k c f : Nat) (o : Option Int32), c + k = M → k < f → (∀ a, o = some a → 0 ≤ a.toInt ∧ a.toInt ≤ 216 * (c : Int)) → f_X8_earnedBy_l76 n f (nI M) (o.getD (-1)) (nI c) σ = some ((o.bind fun a => shV V w k c a).getD (-1), σ) := by
  intro k
  induction k with
  | zero =>
    intro c f o hc hf ho
    obtain ⟨f, rfl⟩ : ∃ f', f = f' + 1 := ⟨f - 1, by omega⟩
    show f_X8_earnedBy_b76 n _ (nI M) _ (nI c) σ = _
    unfold f_X8_earnedBy_b76
    rw [if_pos ((nI_le_lit (by omega) (by omega)).mpr (by omega))]
    cases o <;> rfl
  | succ k ih =>
    intro c f o hc hf ho
    obtain ⟨f, rfl⟩ : ∃ f', f = f' + 1 := ⟨f - 1, by omega⟩
    have u : f_X8_earnedBy_l76 n (f + 1) (nI M) (o.getD (-1)) (nI c) σ = f_X8_earnedBy_b76 n (f_X8_earnedBy_l76 n f) (nI M) (o.getD (-1)) (nI c) σ := rfl
    rw [u]
    unfold f_X8_earnedBy_b76
    have k3 := r_eb3 (n := n) (σ := σ) (w := w) (x4 := o.getD (-1)) (c := c) (f_X8_earnedBy_l76 n f) hM hR hw h4 h93 (by omega) R 0 0 n (by omega) (by omega) (by decide) (by rw [Nat.zero_or]; rfl)
    have k3' : f_X8_earnedBy_l88 n (f_X8_earnedBy_l76 n f) n (nI M) (o.getD (-1)) (nI c) 0 0 σ = _ := k3
    rw [if_neg (fun q => by have := (nI_le_lit (by omega) (by omega)).mp q; omega), k3']
    have hlt : setP c 0 w < 2 ^ R := by
      have := setP_lt (c := c) w 0
      rw [Nat.zero_add, hw] at this
      exact this
    have hs64 := setP_64 (c := c) (show w.length ≤ 6 by omega)
    have none' : f_X8_earnedBy_l76 n f (nI M) (-1) (nI (c + 1)) σ = some (-1, σ) := ih (c + 1) f none (by omega) (by omega) (fun a h => by cases h)
    cases o with
    | none =>
      rw [if_pos (show (none : Option Int32).getD (-1) < 0 by decide), none']; rfl
    | some a =>
      obtain ⟨b1, b2⟩ := ho a rfl
      rw [if_neg (show ¬ (some a).getD (-1) < 0 from fun z => by
        have z' : a < 0 := z
        rw [i32_lt] at z'
        have z0 : (0 : Int32).toInt = 0 := rfl
        omega), h92 _ hlt]
      show _ = some ((shV V w (k + 1) c a).getD (-1), σ)
      rw [shV]
      cases hv : V (setP c 0 w) with
      | none => rw [if_neg (show ¬ (0 : Int32) ≤ (none : Option Int32).getD (-1) by decide), none']; rfl
      | some v =>
        obtain ⟨d1, d2⟩ := hV _ hs64 v hv
        rw [if_pos (show (0 : Int32) ≤ (some v).getD (-1) from by
          show 0 ≤ v
          rw [i32_le]
          have z0 : (0 : Int32).toInt = 0 := rfl
          omega)]
        have e : (a + v).toInt = a.toInt + v.toInt := i32_add (by omega) (by omega)
        exact ih (c + 1) f (some (a + v)) (by omega) (by omega) (fun y hy => by cases hy; rw [e]; omega)
/-- a code is weighed -/
theorem r_earned {σ : Mem} {c : Nat} (hn : 2000 ≤ n) (hM1 : 1 ≤ M) (hM : M ≤ 3) (hR : R ≤ 6) (hV : Vok V) (hc : c < 2 ^ 20) (h4 : σ 82 4 = nI R) (h92 : ∀ s, s < 2 ^ R → σ 92 s = (V s).getD (-1)) : ∃ τ, f_X8_earnedBy n (nI c) (nI M) σ = some ((shV V (dgs (M + 1) R c) M 0 0).getD (-1), τ) ∧ (∀ j (hj : j < (dgs (M + 1) R c).length), τ 93 j = nI (adjM M (dgs (M + 1) R c)[j])) ∧ ∀ a, a ≠ 93 → τ a = σ a := by
  obtain ⟨τ, t1, t2, -, t4⟩ := r_eb1 (n := n) hM1 hM R c n σ hR hc (by omega)
  refine ⟨τ, ?_, t2, t4⟩
  unfold f_X8_earnedBy
  rw [if_pos (by decide), tl4, h4, Option.bind_some, Int32.sub_eq_add_neg]
  have e := r_eb2 (n := n) (M := M) (R := R) (V := V) (σ := τ) (w := dgs (M + 1) R c) hn hM hR hV (dgs_len _ _) (by rw [t4 82 (by decide)]; exact h4) (fun s hs => by rw [t4 92 (by decide)]; exact h92 s hs) t2 M 0 n (some 0) (by omega) (by omega) (fun a h => by cases h; exact ⟨by decide, by decide⟩)
  exact t1.trans e
def KC (M R : Nat) (x5 x6 : Int32) : Option (Int32 × List Nat) → Prop
  | none => x5 = -1 ∧ x6 = -1
  | some b => x6 = b.1 ∧ 0 ≤ b.1.toInt ∧ ∃ cb, cb < (M + 1) ^ R ∧ x5 = nI cb ∧ dgs (M + 1) R cb = b.2
theorem r_cp_l {ρ : Mem} {x2 : Int32} (hn : 100000 ≤ n) (hM1 : 1 ≤ M) (hM : M ≤ 3) (hR : R ≤ 6) (hV : Vok V) (h4 : ρ 82 4 = nI R) (h92 : ∀ s, s < 2 ^ R → ρ 92 s = (V s).getD (-1)) : ∀ (r c f : Nat) (x5 x6 : Int32) (b : Option (Int32 × List Nat)) (σ : Mem), c + r = (M + 1) ^ R → r < f → KC M R x5 x6 b → (∀ a, a ≠ 93 → σ a = ρ a) → ∃ x5' x6' σ' g, f_X8_copies_l77 n f (nI M) x2 (nI R) (nI ((M + 1) ^ R)) x5 x6 (nI c) σ = f_X8_copies_b77 n g (nI M) x2 (nI R) (nI ((M + 1) ^ R)) x5' x6' (nI ((M + 1) ^ R)) σ' ∧ KC M R x5' x6' (rfold (stH V M) (M + 1) R r c b) ∧ ∀ a, a ≠ 93 → σ' a = ρ a := by
  have hmk : (M + 1) ^ R ≤ 4096 := Nat.le_trans (Nat.pow_le_pow_left (show M + 1 ≤ 4 by omega) R) (show 4 ^ R ≤ 4 ^ 6 from Nat.pow_le_pow_right (by decide) hR)
  intro r
  induction r with
  | zero =>
    intro c f x5 x6 b σ hc hf hK ho
    obtain ⟨f, rfl⟩ : ∃ f', f = f' + 1 := ⟨f - 1, by omega⟩
    rw [Nat.add_zero] at hc
    subst hc
    exact ⟨x5, x6, σ, _, rfl, hK, ho⟩
  | succ r ih =>
    intro c f x5 x6 b σ hc hf hK ho
    obtain ⟨f, rfl⟩ : ∃ f', f = f' + 1 := ⟨f - 1, by omega⟩
    obtain ⟨σ1, e1, e2, e3⟩ := r_earned (n := n) (M := M) (R := R) (V := V) (σ := σ) (c := c) (by omega) hM1 hM hR hV (by omega) (by rw [ho 82 (by decide)]; exact h4) (fun s hs => by rw [ho 92 (by decide)]; exact h92 s hs)
    have o1 : ∀ a, a ≠ 93 → σ1 a = ρ a := fun a ha => (e3 a ha).trans (ho a ha)
    have u : f_X8_copies_l77 n (f + 1) (nI M) x2 (nI R) (nI ((M + 1) ^ R)) x5 x6 (nI c) σ = f_X8_copies_b77 n (f_X8_copies_l77 n f) (nI M) x2 (nI R) (nI ((M + 1) ^ R)) x5 x6 (nI c) σ := rfl
    rw [u]
    have v : ∀ y, (shV V (dgs (M + 1) R c) M 0 0).getD (-1) = y → f_X8_copies_b77 n (f_X8_copies_l77 n f) (nI M) x2 (nI R) (nI ((M + 1) ^ R)) x5 x6 (nI c) σ = if y ≤ x6 then f_X8_copies_l77 n f (nI M) x2 (nI R) (nI ((M + 1) ^ R)) x5 x6 (nI (c + 1)) σ1 else f_X8_copies_l77 n f (nI M) x2 (nI R) (nI ((M + 1) ^ R)) (nI c) y (nI (c + 1)) σ1 := fun y hy => by
      unfold f_X8_copies_b77 f_X8_copies_b107 f_X8_copies_b123
      rw [if_neg (fun q => by have := (nI_le_lit (by omega) (by omega)).mp q; omega), e1, Option.bind_some]
      dsimp only
      rw [hy, nI_1]
      by_cases q : y ≤ x6
      · rw [if_pos q, if_pos q, if_pos q]
      · rw [if_neg q, if_neg q, if_neg q]
    rw [rfold]
    have hl : (dgs (M + 1) R c).length = R := dgs_len _ _
    have z1 : (-1 : Int32).toInt = -1 := by decide
    cases hs : shV V (dgs (M + 1) R c) M 0 0 with
    | none =>
      have e : stH V M b (dgs (M + 1) R c) = b := by unfold stH; rw [hs]
      rw [e, v (-1) (by rw [hs]; rfl), if_pos (by
        cases b with
        | none => rw [hK.2]; decide
        | some b => rw [hK.1, i32_le, z1]; have := hK.2.1; omega)]
      exact ih (c + 1) f x5 x6 b σ1 (by omega) (by omega) hK o1
    | some y =>
      have hy := shV_btw hV (w := dgs (M + 1) R c) (by omega) M 0 0 y (by decide) (by have z : (0 : Int32).toInt = 0 := rfl; rw [z]; omega) hs
      rw [v y (by rw [hs]; rfl)]
      have new : KC M R (nI c) y (some (y, dgs (M + 1) R c)) := ⟨rfl, hy.1, c, by omega, rfl, rfl⟩
      cases b with
      | none =>
        have e : stH V M none (dgs (M + 1) R c) = some (y, dgs (M + 1) R c) := by unfold stH; rw [hs]
        rw [e, if_neg (by rw [hK.2, i32_le, z1]; omega)]
        exact ih (c + 1) f (nI c) y _ σ1 (by omega) (by omega) new o1
      | some b =>
        by_cases q : y ≤ b.1
        · have e : stH V M (some b) (dgs (M + 1) R c) = some b := by unfold stH; rw [hs]; exact if_pos q
          rw [e, if_pos (by rw [hK.1]; exact q)]
          exact ih (c + 1) f x5 x6 (some b) σ1 (by omega) (by omega) hK o1
        · have e : stH V M (some b) (dgs (M + 1) R c) = some (y, dgs (M + 1) R c) := by unfold stH; rw [hs]; exact if_neg q
          rw [e, if_neg (by rw [hK.1]; exact q)]
          exact ih (c + 1) f (nI c) y _ σ1 (by omega) (by omega) new o1
theorem r_ways {x2 : Int32} {σ : Mem} (hn : 2000 ≤ n) (hM : M ≤ 3) (hR : R ≤ 6) : ∀ (k i p f : Nat), i + k = R → k < f → f_X8_copies_l48 n f (nI M) x2 (nI R) (nI p) (nI i) σ = f_X8_copies_l77 n n (nI M) x2 (nI R) (nI (p * (M + 1) ^ k)) (-1) (-1) 0 σ := by
  intro k
  induction k with
  | zero =>
    intro i p f hi hf
    obtain ⟨f, rfl⟩ : ∃ f', f = f' + 1 := ⟨f - 1, by omega⟩
    show f_X8_copies_b48 n _ (nI M) x2 (nI R) (nI p) (nI i) σ = _
    unfold f_X8_copies_b48
    rw [if_pos ((nI_le_lit (by omega) (by omega)).mpr (by omega)), Nat.pow_zero, Nat.mul_one]
  | succ k ih =>
    intro i p f hi hf
    obtain ⟨f, rfl⟩ : ∃ f', f = f' + 1 := ⟨f - 1, by omega⟩
    show f_X8_copies_b48 n (f_X8_copies_l48 n f) (nI M) x2 (nI R) (nI p) (nI i) σ = _
    unfold f_X8_copies_b48
    rw [if_neg (fun q => by have := (nI_le_lit (by omega) (by omega)).mp q; omega), nI_1, pk_mul, Option.bind_some, nI_1, ih (i + 1) (p * (M + 1)) f (by omega) (by omega), Nat.pow_succ, Nat.mul_assoc, Nat.mul_comm (M + 1)]
theorem mem_wds {m : Nat} : ∀ (k : Nat) (w : List Nat), w.length = k → (∀ d ∈ w, d < m) → w ∈ wds m k := by
  intro k
  induction k with
  | zero => intro w h _; rw [List.length_eq_zero_iff] at h; subst h; simp [wds]
  | succ k ih =>
    intro w h hd
    cases w with
    | nil => cases h
    | cons a w =>
      rw [wds]
      refine List.mem_flatMap.mpr ⟨a, List.mem_range.mpr (hd a List.mem_cons_self), List.mem_map.mpr ⟨w, ih w (by simpa using h) fun d h => hd d (List.mem_cons_of_mem _ h), rfl⟩⟩
/-- some sharing there is: nobody has any -/
theorem sh_some (h0 : V 0 = some 0) : ∃ b, (wds (M + 1) R).foldl (stH V M) none = some b := by
  have keep : ∀ (L : List (List Nat)) (b : Int32 × List Nat), ∃ b', L.foldl (stH V M) (some b) = some b' := by
    intro L
    induction L with
    | nil => intro b; exact ⟨b, rfl⟩
    | cons x L ih =>
      intro b
      rw [List.foldl_cons]
      have : ∃ b', stH V M (some b) x = some b' := by
        unfold stH
        cases shV V x M 0 0 with
        | none => exact ⟨b, rfl⟩
        | some v =>
          dsimp only
          by_cases q : v ≤ b.1
          · rw [if_pos q]; exact ⟨_, rfl⟩
          · rw [if_neg q]; exact ⟨_, rfl⟩
      obtain ⟨b', hb'⟩ := this
      rw [hb']
      exact ih b'
  have nob : ∀ (k c : Nat) (acc : Int32), c + k ≤ M → ∃ v, shV V (List.replicate R M) k c acc = some v := by
    intro k
    induction k with
    | zero => intro c acc _; exact ⟨acc, rfl⟩
    | succ k ih =>
      intro c acc hc
      rw [shV, setP_not _ _ (fun d hd => by rw [List.eq_of_mem_replicate hd]; omega), h0]
      exact ih (c + 1) _ (by omega)
  have go : ∀ (L : List (List Nat)) (o : Option (Int32 × List Nat)), List.replicate R M ∈ L → ∃ b', L.foldl (stH V M) o = some b' := by
    intro L
    induction L with
    | nil => intro o h; cases h
    | cons x L ih =>
      intro o h
      rw [List.foldl_cons]
      rcases List.mem_cons.mp h with h | h
      · subst h
        obtain ⟨v, hv⟩ := nob M 0 0 (by omega)
        have : ∃ b', stH V M o (List.replicate R M) = some b' := by
          unfold stH
          rw [hv]
          cases o with
          | none => exact ⟨_, rfl⟩
          | some b =>
            dsimp only
            by_cases q : v ≤ b.1
            · rw [if_pos q]; exact ⟨_, rfl⟩
            · rw [if_neg q]; exact ⟨_, rfl⟩
        obtain ⟨b', hb'⟩ := this
        rw [hb']
        exact keep L b'
      · exact ih _ h
  exact go _ _ (mem_wds R _ (List.length_replicate) fun d hd => by rw [List.eq_of_mem_replicate hd]; omega)
theorem sh_len {b : Int32 × List Nat} (h : (wds (M + 1) R).foldl (stH V M) none = some b) : b.2.length = R := by
  have l : ∀ (L : List (List Nat)) (o : Option (Int32 × List Nat)), (∀ w ∈ L, w.length = R) → (∀ b, o = some b → b.2.length = R) → ∀ b, L.foldl (stH V M) o = some b → b.2.length = R := by
    intro L
    induction L with
    | nil => intro o _ ho b hb; exact ho b hb
    | cons x L ih =>
      intro o hL ho b hb
      refine ih _ (fun y hy => hL y (List.mem_cons_of_mem _ hy)) (fun b' hb' => ?_) b hb
      have hx := hL x List.mem_cons_self
      unfold stH at hb'
      cases hs : shV V x M 0 0 with
      | none => rw [hs] at hb'; exact ho b' hb'
      | some v =>
        rw [hs] at hb'
        cases o with
        | none => cases hb'; exact hx
        | some b1 =>
          dsimp only at hb'
          by_cases y : v ≤ b1.1
          · rw [if_pos y] at hb'; exact ho b' hb'
          · rw [if_neg y] at hb'; cases hb'; exact hx
  exact l _ none (fun w hw => (wds_len _ w hw).1) (fun b h => by cases h) b h
end COPIES
theorem ans_copies (v t : Int32) : v - t + 1000 = 1000 + v - t := by
  rw [Int32.sub_eq_add_neg, Int32.sub_eq_add_neg, Int32.add_assoc, Int32.add_comm (-t) 1000, ← Int32.add_assoc, Int32.add_comm v 1000]
theorem Inv.lfr {σ ρ τ : Mem} (h : Inv σ) (h1 : ∀ a, a < 61 ∨ 74 ≤ a → ρ a = σ a) (h2 : ∀ a, a ≠ 84 → a ≠ 90 → a ≠ 92 → a ≠ 93 → τ a = ρ a) : Inv τ := by
  have o : ∀ a, (a < 61 ∨ 74 ≤ a) → a ≠ 84 → a ≠ 90 → a ≠ 92 → a ≠ 93 → τ a = σ a := fun a q q1 q2 q3 q4 => (h2 a q1 q2 q3 q4).trans (h1 a q)
  have e77 : τ 77 = σ 77 := o 77 (by decide) (by decide) (by decide) (by decide) (by decide)
  refine h.scr (fun a p1 p2 p3 => o a ?_ ?_ ?_ ?_ ?_) (fun j p1 p2 => by rw [e77]) (by rw [o 0 (by decide) (by decide) (by decide) (by decide) (by decide), e77]; exact h.2.1)
  · simp [pScr] at p1; omega
  · intro w; rw [w] at p1; cases p1
  · intro w; rw [w] at p1; cases p1
  · intro w; rw [w] at p1; cases p1
  · intro w; rw [w] at p1; cases p1
theorem s_copies {σ : Mem} {n : Nat} (h : Inv σ) (hn : 100000 ≤ n) (x y : Int32) : Both σ (f_X7_copies n x y) (f_X8_copies n x y) := by
  have N1 : ¬ (1 : Int32) = 0 := by decide
  rcases twn h with ⟨t1, t2⟩ | ⟨t1, t2⟩
  · exact Both.same h (-1000002) (by simp only [f_X7_copies, if_pos t1]) (by simp [f_X8_copies, r_isTown, t2])
  have T1 : ¬ σ 15 0 = 0 := by rw [t1]; decide
  have T2 : ∀ τ : Mem, τ 82 = σ 82 → f_X8_isTown τ = some 1 := fun τ e => by rw [r_isTown, e, if_pos t2]
  obtain ⟨R, hm⟩ := h.many
  have h6 := hm.1
  by_cases a1 : x < 1
  · exact Both.same h (-1000001) (by simp only [f_X7_copies, if_neg T1, if_pos a1]) (by simp only [f_X8_copies, T2 σ rfl, Option.bind_some, if_neg N1, in_no (σ := σ) (b := 3) (Or.inl a1), if_true])
  by_cases a2 : 3 < x
  · exact Both.same h (-1000001) (by simp only [f_X7_copies, if_neg T1, if_neg a1, if_pos a2]) (by simp only [f_X8_copies, T2 σ rfl, Option.bind_some, if_neg N1, in_no (σ := σ) (a := 1) (b := 3) (Or.inr a2), if_true])
  have i1 : ∀ τ, f_X8_in τ x 1 3 = some 1 := fun τ => in_yes a1 a2
  by_cases b1 : y < -1
  · exact Both.same h (-1000001) (by simp only [f_X7_copies, if_neg T1, if_neg a1, if_neg a2, if_pos b1]) (by simp only [f_X8_copies, T2 σ rfl, i1, Option.bind_some, if_neg N1, in_no (σ := σ) (b := 5) (Or.inl b1), if_true])
  by_cases b2 : y < 6
  rotate_left
  · have b3 : (5 : Int32) < y := by rw [i32_lt] at b2 ⊢; have z : (6 : Int32).toInt = 6 := rfl; have z5 : (5 : Int32).toInt = 5 := rfl; omega
    exact Both.same h (-1000001) (by simp only [f_X7_copies, if_neg T1, if_neg a1, if_neg a2, if_neg b1, if_neg b2]) (by simp only [f_X8_copies, T2 σ rfl, i1, Option.bind_some, if_neg N1, in_no (σ := σ) (a := -1) (b := 5) (Or.inr b3), if_true])
  have i2 : ∀ τ, f_X8_in τ y (-1) 5 = some 1 := fun τ => in_yes b1 (fun w => by rw [i32_lt] at b2 w; have z : (6 : Int32).toInt = 6 := rfl; have z5 : (5 : Int32).toInt = 5 := rfl; omega)
  obtain ⟨M, hM1, hM, rfl⟩ : ∃ M, 1 ≤ M ∧ M ≤ 3 ∧ x = nI M := by
    obtain ⟨j, hj, rfl⟩ := okI (k := 3) (x := x) (fun w => a1 (by rw [i32_lt] at w ⊢; have z : (1 : Int32).toInt = 1 := rfl; have z0 : (0 : Int32).toInt = 0 := rfl; omega)) (by rw [i32_lt] at a2; rw [i32_le]; show _ ≤ (3 : Int32).toInt; omega) (by decide)
    refine ⟨j, ?_, hj, rfl⟩
    rcases Nat.eq_zero_or_pos j with z | z
    · subst z; exact absurd (show nI 0 < 1 by decide) a1
    · exact z
  have hO : Okt (G0 σ) := h.2.2.2.1.1.eqT (G0_eq σ)
  have hm0 := G0_many hm
  -- the reference, from a memory that keeps what is now
  have hV : Vok (setV R (G0 σ)) := fun s hs v hv => setV_btw hO hm0 hs hv
  obtain ⟨b, hb⟩ := sh_some (M := M) (R := R) (V := setV R (G0 σ)) setV_0
  have hbl := sh_len hb
  have e15 : σ 15 4 = nI R := by rw [h.tw.1.2.2.2.2.1]; exact hm.2
  have rf : ∀ ρ : Mem, (∀ a, a < 61 ∨ 74 ≤ a → ρ a = σ a) → ∃ τ, f_X8_copies n (nI M) y ρ = some (if y = -1 then 1000 + b.1 - nI M * σ 82 6 else if nI R ≤ y then -1000000 else nI (adjM M (b.2.getD y.toNatClampNeg 0)), τ) ∧ Inv τ := by
    intro ρ hρ
    have hmρ : Mny (ρ 82) R := by rw [hρ 82 (by decide)]; exact hm
    have gE : G0 ρ = G0 σ := G0_congr (hρ 82 (by decide)) (fun j _ => by rw [hρ 84 (by decide)])
    obtain ⟨ρ1, l1, l2, l3⟩ := r_laySets hn hmρ (by rw [gE]; exact hO)
    rw [gE] at l2
    have r82 : ρ1 82 = σ 82 := (l3.1 82 (by decide) (by decide) (by decide) (by decide)).trans (hρ 82 (by decide))
    have h4 : ρ1 82 4 = nI R := by rw [r82]; exact hm.2
    have hmk : (M + 1) ^ R ≤ 4096 := Nat.le_trans (Nat.pow_le_pow_left (show M + 1 ≤ 4 by omega) R) (show 4 ^ R ≤ 4 ^ 6 from Nat.pow_le_pow_right (by decide) h6)
    obtain ⟨x5, x6, σ', g, c1, c2, c3⟩ := r_cp_l (n := n) (M := M) (R := R) (V := setV R (G0 σ)) (ρ := ρ1) (x2 := y) hn hM1 hM h6 hV h4 l2 ((M + 1) ^ R) 0 n (-1) (-1) none ρ1 (by omega) (by omega) ⟨rfl, rfl⟩ (fun _ _ => rfl)
    rw [rfold_all (by omega), hb] at c2
    obtain ⟨k1, k2, cb, k3, k4, k5⟩ := c2
    have w := r_ways (n := n) (M := M) (R := R) (x2 := y) (σ := ρ1) (by omega) hM h6 R 0 1 n (by omega) (by omega)
    rw [Nat.one_mul] at w
    have e0 : f_X8_copies n (nI M) y ρ = f_X8_copies_b77 n g (nI M) y (nI R) (nI ((M + 1) ^ R)) x5 x6 (nI ((M + 1) ^ R)) σ' := by
      rw [← c1]
      have w' : f_X8_copies_l48 n n (nI M) y (nI R) 1 0 ρ1 = f_X8_copies_l77 n n (nI M) y (nI R) (nI ((M + 1) ^ R)) (-1) (-1) (nI 0) ρ1 := w
      rw [← w']
      unfold f_X8_copies
      rw [T2 ρ (hρ 82 (by decide)), Option.bind_some, if_neg N1, i1, Option.bind_some, if_neg N1, i2, Option.bind_some, if_neg N1, l1, Option.bind_some, if_pos (by decide), tl4, h4, Option.bind_some]
    rw [e0]
    unfold f_X8_copies_b77
    rw [if_pos ((nI_le_lit (by omega) (by omega)).mpr (Nat.le_refl _))]
    have inv' : ∀ τ : Mem, (∀ a, a ≠ 93 → τ a = σ' a) → Inv τ := fun τ q => h.lfr hρ fun a q1 q2 q3 q4 => by rw [q a q4, c3 a q4]; exact l3.1 a q1 q2 q3 q4
    by_cases q1 : y = -1
    · rw [if_pos q1, if_pos q1, if_pos (by decide), k1, c3 82 (by decide), r82]
      exact ⟨σ', rfl, inv' σ' fun _ _ => rfl⟩
    rw [if_neg q1, if_neg q1]
    obtain ⟨τ, e1, e2, e3⟩ := r_earned (n := n) (M := M) (R := R) (V := setV R (G0 σ)) (σ := σ') (c := cb) (by omega) hM1 hM h6 hV (by omega) (by rw [c3 82 (by decide)]; exact h4) (fun s hs => by rw [c3 92 (by decide)]; exact l2 s hs)
    rw [k4, e1, Option.bind_some]
    dsimp only
    by_cases q3 : nI R ≤ y
    · rw [if_pos q3, if_pos q3]
      exact ⟨τ, rfl, inv' τ e3⟩
    rw [if_neg q3, if_neg q3]
    have h0 : ¬ y < 0 := by
      intro w
      rw [i32_lt] at b1 w
      rw [i32_eq] at q1
      have z1 : (-1 : Int32).toInt = -1 := by decide
      have z0 : (0 : Int32).toInt = 0 := rfl
      omega
    obtain ⟨j, hj, rfl⟩ := ix_of (n := R) (by omega) h0 q3
    rw [if_pos (inB_nI (by omega) (by decide)), tn_nI (by omega)]
    have := e2 j (by rw [dgs_len]; exact hj)
    rw [this]
    refine ⟨τ, ?_, inv' τ e3⟩
    congr 3
    rw [← k5, List.getD_eq_getElem?_getD, List.getElem?_eq_getElem (by rw [dgs_len]; exact hj), Option.getD_some]
  by_cases q5 : y < nI R
  rotate_left
  · -- no such reader
    have q6 : nI R ≤ y := by rw [i32_lt] at q5; rw [i32_le]; omega
    have q1 : ¬ y = -1 := by
      intro z
      rw [z] at q5
      exact q5 (by rw [i32_lt, nI_toInt (by omega)]; have z1 : (-1 : Int32).toInt = -1 := by decide
                   omega)
    obtain ⟨τ, e1, e2⟩ := rf σ (fun _ _ => rfl)
    rw [if_neg q1, if_pos q6] at e1
    exact ⟨-1000000, σ, τ, by simp only [f_X7_copies, if_neg T1, if_neg a1, if_neg a2, if_neg b1, if_pos b2, e15, if_neg q5], e1, e2⟩
  · obtain ⟨σ8, c1, c2, c3⟩ := c_forSets (n := n) h (by omega) hm
    generalize hσa : mset (mset (mset (mset (mset σ8 70 4 (nI M)) 70 5 (σ8 15 4)) 70 3 (nI 69)) 70 7 0) 70 6 0 = σa
    have oa : ∀ a, a ≠ 70 → σa a = σ8 a := fun a ha => by rw [← hσa, ms_cell ha, ms_cell ha, ms_cell ha, ms_cell ha, ms_cell ha]
    have fl : f_J7_fill_53178 n 72 0 σa = some (fillm σa 72 4 0) := by
      have a72 : alen 72 = 4 := by decide +kernel
      have := c_fill (σ := σa) (a := 72) (n := n) (v := 0) (by decide +kernel) (by rw [a72]; decide) (by omega)
      rw [a72] at this
      exact this
    generalize hσb : fillm σa 72 4 0 = σb at fl
    have ob : ∀ a, a ≠ 72 → σb a = σa a := fun a ha => by rw [← hσb]; exact fillm_ne ha
    have s72 : ∀ j, j < 4 → σb 72 j = 0 := fun j hj => by rw [← hσb]; exact if_pos ⟨rfl, hj⟩
    have e8 : σ8 15 4 = nI R := by rw [c3 15 (by decide)]; exact e15
    have S0 : SI M R (setV R (G0 σ)) σb := by
      refine ⟨?_, ?_, ?_, fun s hs => by rw [ob 69 (by decide), oa 69 (by decide)]; exact c2 s hs⟩
      · rw [ob 70 (by decide), ← hσa, ms_off (Or.inr (by decide)), ms_off (Or.inr (by decide)), ms_off (Or.inr (by decide)), ms_off (Or.inr (by decide))]; exact ms_at
      · rw [ob 70 (by decide), ← hσa, ms_off (Or.inr (by decide)), ms_off (Or.inr (by decide)), ms_off (Or.inr (by decide)), ms_at]; exact e8
      · rw [ob 70 (by decide), ← hσa, ms_off (Or.inr (by decide)), ms_off (Or.inr (by decide))]; exact ms_at
    have P0 : SP M [] σb := ⟨fun c hc => s72 c (by omega), s72 3 (by decide), fun j hj => absurd hj (Nat.not_lt_zero _)⟩
    have K0 : KH M σb none := by
      show σb 70 7 = 0
      rw [ob 70 (by decide), ← hσa, ms_off (Or.inr (by decide))]; exact ms_at
    obtain ⟨ρ, d1, d2, -, -, d5⟩ := c_share (n := n) (M := M) (R := R) (V := setV R (G0 σ)) (by omega) hM1 hM h6 hV R 8 [] none σb (by simp) (by omega) S0 P0 K0
    have em : (wds (M + 1) R).map (fun w => [] ++ w) = wds (M + 1) R := by
      have : (fun w : List Nat => [] ++ w) = id := rfl
      rw [this, List.map_id]
    rw [em, hb] at d2
    obtain ⟨k1, k2, k3⟩ := d2
    have oρ : ∀ a, a < 61 ∨ 74 ≤ a → ρ a = σ a := fun a ha => by rw [d5 a (by omega) (by omega) (by omega) (by omega), ob a (by omega), oa a (by omega), c3 a (by omega)]
    have of' : f_X4_of n (nI M) 15 69 σ8 = some ρ := by
      unfold f_X4_of
      have e1 : mset σ8 70 4 (nI M) 15 4 = σ8 15 4 := by rw [ms_cell (by decide)]
      rw [Option.bind_some, if_pos (show isTown 15 = true from rfl), e1, Option.bind_some, if_pos (by decide), Option.bind_some, if_pos (by decide)]
      simp only [Option.bind_some]
      have e2 : mset (mset (mset (mset (mset σ8 70 4 (nI M)) 70 5 (σ8 15 4)) 70 3 (Int32.ofNat 69)) 70 7 0) 70 6 0 = σa := hσa
      rw [e2, fl, Option.bind_some]
      have d1' : f_X4_share n 0 σb = some ρ := d1
      rw [d1']; rfl
    obtain ⟨τ, r1, r2⟩ := rf ρ oρ
    refine ⟨_, ρ, τ, ?_, r1, r2⟩
    unfold f_X7_copies
    rw [if_neg T1, if_neg a1, if_neg a2, if_neg b1, if_pos b2, e15, if_pos q5, c1, Option.bind_some, of', Option.bind_some]
    by_cases q1 : y = -1
    · rw [if_pos q1, if_pos q1, k2, oρ 15 (by decide), h.tw.1.2.2.1, ans_copies]
    rw [if_neg q1, if_neg q1, if_neg (show ¬ nI R ≤ y from fun z => by rw [i32_lt] at q5; rw [i32_le] at z; omega)]
    have h0 : ¬ y < 0 := by
      intro w
      rw [i32_lt] at b1 w
      rw [i32_eq] at q1
      have z1 : (-1 : Int32).toInt = -1 := by decide
      have z0 : (0 : Int32).toInt = 0 := rfl
      omega
    obtain ⟨j, hj, rfl⟩ := ix_of (n := R) (by omega) h0 (fun z => by rw [i32_lt] at q5; rw [i32_le] at z; omega)
    rw [if_pos (inB_nI (by omega) (by decide)), tn_nI (by omega), k3 j (by omega)]
    congr 3
    rw [List.getD_eq_getElem?_getD, List.getElem?_eq_getElem (by omega), Option.getD_some]
