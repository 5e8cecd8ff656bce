/-! ===== best: the reference ===== -/
theorem dgs_len {m : Nat} : ∀ (k c : Nat), (dgs m k c).length = k := by
  intro k
  induction k with
  | zero => intro c; rfl
  | succ k ih => intro c; rw [dgs, List.length_append, ih]; rfl
theorem dgs_lt {m : Nat} (hm : 0 < m) : ∀ (k c : Nat), ∀ r ∈ dgs m k c, r < m := by
  intro k
  induction k with
  | zero => intro c r hr; cases hr
  | succ k ih =>
    intro c r hr
    rw [dgs] at hr
    rcases List.mem_append.mp hr with h | h
    · exact ih _ r h
    · rw [List.mem_singleton] at h; subst h; exact Nat.mod_lt _ hm
def Rw (σ : Mem) (w : List Nat) : Prop := ∀ j (hj : j < w.length), σ 90 j = nI w[j]
theorem r_layRow_l {n m : Nat} (hm0 : 0 < m) (hm6 : m ≤ 6) : ∀ (k c s f : Nat) (σ : Mem), k ≤ 6 → c < 2 ^ 20 → s < 64 → k < f → σ 82 4 = nI m → ∃ τ, f_X8_layRow_l10 n f (nI c) (nI s) (nI k + (-1)) σ = some (nI (s ||| setN (dgs m k c)), τ) ∧ Rw τ (dgs m k c) ∧ (∀ j, k ≤ j → τ 90 j = σ 90 j) ∧ ∀ a, a ≠ 90 → τ a = σ a := by
  intro k
  induction k with
  | zero =>
    intro c s f σ hk hc hs hf h4
    obtain ⟨f, rfl⟩ : ∃ f', f = f' + 1 := ⟨f - 1, by omega⟩
    refine ⟨σ, ?_, fun j hj => absurd hj (Nat.not_lt_zero _), fun _ _ => rfl, fun _ _ => rfl⟩
    show f_X8_layRow_b10 n _ (nI c) (nI s) _ σ = _
    unfold f_X8_layRow_b10
    rw [if_pos (by decide), dgs, setN, Nat.or_zero]
  | succ k ih =>
    intro c s f σ hk hc hs hf h4
    obtain ⟨f, rfl⟩ : ∃ f', f = f' + 1 := ⟨f - 1, by omega⟩
    have hcm : c % m < m := Nat.mod_lt _ hm0
    have hcd : c / m ≤ c := Nat.div_le_self _ _
    have hm31 : m < 2 ^ 31 := by omega
    generalize hσ4 : mset σ 90 k (nI (c % m)) = σ4
    obtain ⟨τ, t1, t2, t3, t4⟩ := ih (c / m) (s ||| 2 ^ (c % m)) f σ4 (by omega) (by omega) (or_lt64 hs (pow_lt64 (by omega))) (by omega) (by rw [← hσ4, ms_cell (by decide)]; exact h4)
    have e90 : σ4 90 k = nI (c % m) := by rw [← hσ4]; exact ms_at
    have e82 : σ4 82 4 = nI m := by rw [← hσ4, ms_cell (by decide)]; exact h4
    refine ⟨τ, ?_, fun j hj => ?_, fun j hj => ?_, fun a ha => by rw [t4 a ha, ← hσ4, ms_cell ha]⟩
    · have u : f_X8_layRow_l10 n (f + 1) (nI c) (nI s) (nI (k + 1) + (-1)) σ = f_X8_layRow_b10 n (f_X8_layRow_l10 n f) (nI c) (nI s) (nI (k + 1) + (-1)) σ := rfl
      rw [u, pk_m1]
      unfold f_X8_layRow_b10
      rw [if_neg (nI_nn (by omega)), if_pos (by decide), tl4, h4, Option.bind_some, if_neg (nI_ne0 hm0 hm31), if_pos (inB_nI (by omega) (by decide)), tn_nI (by omega), pk_rem (by omega) hm0 hm31, Option.bind_some, hσ4, if_pos (by decide), e82, if_neg (nI_ne0 hm0 hm31), pk_div (by omega) hm0 hm31, Option.bind_some, if_pos (inB_nI (by omega) (by decide)), e90, Option.bind_some, nI_bit _ (by omega), nI_or _ hs _ (pow_lt64 (by omega)), t1]
      have es : s ||| 2 ^ (c % m) ||| setN (dgs m k (c / m)) = s ||| setN (dgs m (k + 1) c) := by rw [dgs, setN_snoc, Nat.or_assoc, Nat.or_comm (2 ^ (c % m))]
      rw [es]
    · rw [dgs_len] at hj
      by_cases q : j < k
      · rw [t2 j (by rw [dgs_len]; exact q)]
        congr 1
        simp only [dgs]
        rw [List.getElem_append_left (by rw [dgs_len]; exact q)]
      · obtain rfl : j = k := by omega
        rw [t3 j (Nat.le_refl _), e90]
        congr 1
        simp only [dgs]
        rw [List.getElem_append_right (by rw [dgs_len]; exact Nat.le_refl _)]
        simp
    · rw [t3 j (by omega), ← hσ4, ms_off (Or.inr (by omega))]
theorem r_layRow {n m k c : Nat} {σ : Mem} (hn : 2000 ≤ n) (hm0 : 0 < m) (hm6 : m ≤ 6) (hk : k ≤ 6) (hc : c < 2 ^ 20) (h4 : σ 82 4 = nI m) : ∃ τ, f_X8_layRow n (nI c) (nI k) σ = some (nI (setN (dgs m k c)), τ) ∧ Rw τ (dgs m k c) ∧ ∀ a, a ≠ 90 → τ a = σ a := by
  obtain ⟨τ, t1, t2, -, t4⟩ := r_layRow_l (n := n) hm0 hm6 k c 0 n σ hk hc (by decide) (by omega) h4
  rw [Nat.zero_or] at t1
  refine ⟨τ, ?_, t2, t4⟩
  unfold f_X8_layRow
  rw [Option.bind_some, Int32.sub_eq_add_neg]
  exact t1
theorem r_rowsOf {n m k : Nat} {σ : Mem} (hn : 2000 ≤ n) (hk : k ≤ 6) (h4 : σ 82 4 = nI m) : f_X8_rowsOf n σ (nI k) = some (nI (m ^ k)) := by
  have l : ∀ (r i p f : Nat), i + r = k → r < f → f_X8_rowsOf_l4 n σ f (nI k) (nI p) (nI i) = some (nI (p * m ^ r)) := by
    intro r
    induction r with
    | zero =>
      intro i p f hi hf
      obtain ⟨f, rfl⟩ : ∃ f', f = f' + 1 := ⟨f - 1, by omega⟩
      show f_X8_rowsOf_b4 n σ _ (nI k) (nI p) (nI i) = _
      unfold f_X8_rowsOf_b4
      rw [if_pos ((nI_le_lit (by omega) (by omega)).mpr (by omega)), Nat.pow_zero, Nat.mul_one]
    | succ r ih =>
      intro i p f hi hf
      obtain ⟨f, rfl⟩ : ∃ f', f = f' + 1 := ⟨f - 1, by omega⟩
      show f_X8_rowsOf_b4 n σ (f_X8_rowsOf_l4 n σ f) (nI k) (nI p) (nI i) = _
      unfold f_X8_rowsOf_b4
      rw [if_neg (fun q => by have := (nI_le_lit (by omega) (by omega)).mp q; omega), if_pos (by decide), tl4, h4, pk_mul, Option.bind_some, nI_1, ih (i + 1) (p * m) f (by omega) (by omega), Nat.pow_succ, Nat.mul_assoc, Nat.mul_comm m]
  have := l k 0 1 n (by omega) (by omega)
  rw [Nat.one_mul] at this
  exact this
def bsN (s : Nat) : Nat → Nat → Nat
  | _, 0 => 0
  | i, k + 1 => (if s.testBit i then 1 else 0) + bsN s (i + 1) k
theorem nI_bitv : ∀ s, s < 64 → ∀ i, i < 6 → (nI s >>> (nI i &&& 31)) &&& 1 = nI (if s.testBit i then 1 else 0) := by decide +kernel
theorem r_bits {n s : Nat} {σ : Mem} (hn : 2000 ≤ n) (hs : s < 64) : f_X8_bits n σ (nI s) = some (nI (cnt s)) := by
  have l : ∀ (k i a f : Nat), i + k = 6 → k < f → f_X8_bits_l4 n σ f (nI s) (nI a) (nI i) = some (nI (a + bsN s i k)) := by
    intro k
    induction k with
    | zero =>
      intro i a f hi hf
      obtain ⟨f, rfl⟩ : ∃ f', f = f' + 1 := ⟨f - 1, by omega⟩
      show f_X8_bits_b4 n σ _ (nI s) (nI a) (nI i) = _
      unfold f_X8_bits_b4
      rw [if_pos (show (6 : Int32) ≤ nI i from (nI_le_lit (n := 6) (by decide) (by omega)).mpr (by omega))]; rfl
    | succ k ih =>
      intro i a f hi hf
      obtain ⟨f, rfl⟩ : ∃ f', f = f' + 1 := ⟨f - 1, by omega⟩
      show f_X8_bits_b4 n σ (f_X8_bits_l4 n σ f) (nI s) (nI a) (nI i) = _
      unfold f_X8_bits_b4
      rw [if_neg (fun q => by have := (nI_le_lit (n := 6) (by decide) (by omega)).mp q; omega), Option.bind_some, nI_bitv s hs i (by omega), nIa, nI_1, ih (i + 1) _ f (by omega) (by omega), bsN, Nat.add_assoc]
  have := l 6 0 0 n (by omega) (by omega)
  have e : 0 + bsN s 0 6 = cnt s := by
    unfold cnt
    simp only [bsN, Nat.zero_add, Nat.reduceAdd]
    omega
  rw [e] at this
  exact this
def KR (b : Int32 × List Nat) (σ : Mem) : Prop := σ 77 24 = b.1 ∧ σ 77 25 = nI b.2.length ∧ b.2.length ≤ 6 ∧ ∀ j (hj : j < b.2.length), σ 91 j = nI b.2[j]
def RFr (ρ σ : Mem) : Prop := (∀ a, a ≠ 77 → a ≠ 84 → a ≠ 90 → a ≠ 91 → σ a = ρ a) ∧ (∀ j, 33 ≤ j → σ 84 j = ρ 84 j) ∧ ∀ j, j ≠ 24 → j ≠ 25 → σ 77 j = ρ 77 j
theorem RFr.rf {ρ : Mem} : RFr ρ ρ := ⟨fun _ _ _ _ _ => rfl, fun _ _ => rfl, fun _ _ _ => rfl⟩
theorem RFr.tr {ρ σ τ : Mem} (h : RFr ρ σ) (k : RFr σ τ) : RFr ρ τ := ⟨fun a h1 h2 h3 h4 => (k.1 a h1 h2 h3 h4).trans (h.1 a h1 h2 h3 h4), fun j hj => (k.2.1 j hj).trans (h.2.1 j hj), fun j h1 h2 => (k.2.2 j h1 h2).trans (h.2.2 j h1 h2)⟩
theorem RFr.g0 {ρ σ : Mem} (h : RFr ρ σ) : G0 σ = G0 ρ := G0_congr (h.1 82 (by decide) (by decide) (by decide) (by decide)) h.2.1
theorem r_kp_l {σ : Mem} {n k : Nat} (hk : k ≤ 6) : ∀ (r i f : Nat), i + r = k → r < f → f_X8_keepRow_l12 n f (nI k) (nI i) (mcpy σ 90 0 91 0 i) = some (mcpy σ 90 0 91 0 k) := by
  intro r
  induction r with
  | zero =>
    intro i f hi hf
    obtain ⟨f, rfl⟩ : ∃ f', f = f' + 1 := ⟨f - 1, by omega⟩
    show f_X8_keepRow_b12 n _ _ (nI i) _ = _
    unfold f_X8_keepRow_b12
    rw [if_pos ((nI_le_lit (by omega) (by omega)).mpr (by omega)), show i = k by omega]
  | succ r ih =>
    intro i f hi hf
    obtain ⟨f, rfl⟩ : ∃ f', f = f' + 1 := ⟨f - 1, by omega⟩
    show f_X8_keepRow_b12 n (f_X8_keepRow_l12 n f) _ (nI i) _ = _
    unfold f_X8_keepRow_b12
    have e := mcpy_s (σ := σ) (a := 90) (fr := 0) (b := 91) (to := 0) (k := i) (by decide)
    rw [Nat.zero_add] at e
    rw [if_neg (fun q => by have := (nI_le_lit (by omega) (by omega)).mp q; omega), if_pos (inB_nI (by omega) (by decide)), if_pos (inB_nI (by omega) (by decide)), tn_nI (by omega), Option.bind_some, e, nI_1]
    exact ih (i + 1) f (by omega) (by omega)
theorem r_keepRow {σ : Mem} {n : Nat} {v : Int32} {w : List Nat} (hn : 2000 ≤ n) (hw : w.length ≤ 6) (h : Rw σ w) : ∃ τ, f_X8_keepRow n v (nI w.length) σ = some τ ∧ KR (v, w) τ ∧ RFr σ τ ∧ (∀ a, a ≠ 77 → a ≠ 91 → τ a = σ a) := by
  refine ⟨mcpy (mset (mset σ 77 24 v) 77 25 (nI w.length)) 90 0 91 0 w.length, ?_, ⟨?_, ?_, hw, fun j hj => ?_⟩, ⟨fun a h1 h2 h3 h4 => ?_, fun j hj => ?_, fun j h1 h2 => ?_⟩, fun a h1 h2 => ?_⟩
  · have := r_kp_l (σ := mset (mset σ 77 24 v) 77 25 (nI w.length)) (n := n) hw w.length 0 n (by omega) (by omega)
    rw [mcpy_0] at this
    unfold f_X8_keepRow
    simp only [Option.bind_some]
    exact this
  · rw [mcpy_ne 77 (by decide), ms_off (Or.inr (by decide))]; exact ms_at
  · rw [mcpy_ne 77 (by decide)]; exact ms_at
  · have hj' : j < w.length := hj
    rw [mc_if, if_pos ⟨rfl, by omega, by omega⟩, ms_cell (by decide), ms_cell (by decide), Nat.zero_add, Nat.sub_zero]
    exact h j hj
  · rw [mcpy_ne a h4, ms_cell h1, ms_cell h1]
  · rw [mcpy_ne 84 (by decide), ms_cell (by decide), ms_cell (by decide)]
  · rw [mcpy_ne 77 (by decide), ms_off (Or.inr h2), ms_off (Or.inr h1)]
  · rw [mcpy_ne a h2, ms_cell h1, ms_cell h1]
/-- the reference tries the row that it has laid, from what is now -/
theorem r_try {σ ρ : Mem} {n m : Nat} {w : List Nat} (hn : 2000 ≤ n) (hm : Mny (ρ 82) m) (hw : w.length ≤ 6) (hl : ∀ r ∈ w, r < m) (hR : RFr ρ σ) (h : Rw σ w) : ∃ τ, f_X8_goesOn n 90 (nI w.length) (mcpy σ 82 0 84 0 33) = some (if (wA (amAll m) w (G0 ρ)).isSome = true then 1 else 0, τ) ∧ (∀ a, a ≠ 84 → τ a = σ a) ∧ RFr ρ τ ∧ ∀ g', wA (amAll m) w (G0 ρ) = some g' → τ 84 = g' := by
  have e84 : mcpy σ 82 0 84 0 33 84 = G0 ρ := by rw [begin84, hR.g0]
  have hm0 := G0_many hm
  obtain ⟨τ, t1, t2, t3, t4⟩ := r_go (n := n) (a := 90) (N := w.length) rfl (by decide) (by decide) (by omega) (w.map nI) 0 m n (mcpy σ 82 0 84 0 33) (by rw [e84]; exact hm0) (by simp) (by rw [show alen 90 = 6 from by decide +kernel]; exact hw) (by simp; omega) (fun j hj => by
    rw [List.length_map] at hj
    rw [begin_ne (by decide), Nat.zero_add, h j hj, List.getElem_map])
  rw [e84, wlk_wA w _ hm0 hl] at t1 t4
  refine ⟨τ, t1, fun a ha => by rw [t2 a ha, begin_ne ha], ⟨fun a h1 h2 h3 h4 => by rw [t2 a h2, begin_ne h2]; exact hR.1 a h1 h2 h3 h4, fun j hj => ?_, fun j h1 h2 => by rw [t2 77 (by decide), begin_ne (by decide)]; exact hR.2.2 j h1 h2⟩, t4⟩
  rw [t3 j (by omega), e84]
  exact if_neg (by omega)
/-- a row that the reference weighs -/
def rsB (m : Nat) (g : Nat → Int32) (b : Int32 × List Nat) (w : List Nat) : Int32 × List Nat := match wA (amAll m) w g with
  | some g' => if b.1 < g' 3 - g 3 then (g' 3 - g 3, w) else b
  | none => b
theorem r_best_in {ρ : Mem} {n m k : Nat} {x1 : Int32} (k31 : Int32 → Int32 → Mem → Option (Int32 × Mem)) (hn : 100000 ≤ n) (hm : Mny (ρ 82) m) (hm0 : 0 < m) (hk : k ≤ 6) : ∀ (r c f : Nat) (b : Int32 × List Nat) (σ : Mem), c + r = m ^ k → r < f → KR b σ → RFr ρ σ → ∃ τ, f_X8_best_l43 n k31 f x1 (nI k) (nI c) σ = k31 x1 (nI (k + 1)) τ ∧ KR (rfold (rsB m (G0 ρ)) m k r c b) τ ∧ RFr ρ τ := by
  have h6 := hm.1
  have hmk : m ^ k ≤ 46656 := Nat.le_trans (Nat.pow_le_pow_left h6 k) (Nat.pow_le_pow_right (n := 6) (by decide) hk)
  intro r
  induction r with
  | zero =>
    intro c f b σ hc hf hK hR
    obtain ⟨f, rfl⟩ : ∃ f', f = f' + 1 := ⟨f - 1, by omega⟩
    have h4 : σ 82 4 = nI m := by rw [hR.1 82 (by decide) (by decide) (by decide) (by decide)]; exact hm.2
    refine ⟨σ, ?_, hK, hR⟩
    show f_X8_best_b43 n _ _ x1 (nI k) (nI c) σ = _
    unfold f_X8_best_b43
    rw [r_rowsOf (by omega) hk h4, Option.bind_some, if_pos ((nI_le_lit (by omega) (by omega)).mpr (by omega)), nI_1]
  | succ r ih =>
    intro c f b σ hc hf hK hR
    obtain ⟨f, rfl⟩ : ∃ f', f = f' + 1 := ⟨f - 1, by omega⟩
    have h4 : σ 82 4 = nI m := by rw [hR.1 82 (by decide) (by decide) (by decide) (by decide)]; exact hm.2
    obtain ⟨σ1, l1, l2, l3⟩ := r_layRow (n := n) (k := k) (c := c) (by omega) hm0 h6 hk (by omega) h4
    generalize hw : dgs m k c = w at l1 l2
    have hwl : w.length = k := by rw [← hw]; exact dgs_len k c
    have hwm : ∀ r ∈ w, r < m := by rw [← hw]; exact dgs_lt hm0 k c
    have hR1 : RFr ρ σ1 := hR.tr ⟨fun a _ _ h3 _ => l3 a h3, fun j _ => by rw [l3 84 (by decide)], fun j _ _ => by rw [l3 77 (by decide)]⟩
    have hK1 : KR b σ1 := ⟨by rw [l3 77 (by decide)]; exact hK.1, by rw [l3 77 (by decide)]; exact hK.2.1, hK.2.2.1, fun j hj => by rw [l3 91 (by decide)]; exact hK.2.2.2 j hj⟩
    have u : f_X8_best_l43 n k31 (f + 1) x1 (nI k) (nI c) σ = f_X8_best_b43 n k31 (f_X8_best_l43 n k31 f) x1 (nI k) (nI c) σ := rfl
    rw [u]
    unfold f_X8_best_b43 f_X8_best_b119
    have hs64 : setN w < 64 := setN_lt fun r hr => Nat.lt_of_lt_of_le (hwm r hr) h6
    have hcw : cnt (setN w) < 2 ^ 31 := by
      have := cnt_le 6 (by decide) _ (show setN w < 2 ^ 6 from hs64)
      omega
    rw [r_rowsOf (by omega) hk h4, Option.bind_some, if_neg (fun q => by have := (nI_le_lit (by omega) (by omega)).mp q; omega), l1, Option.bind_some]
    dsimp only
    rw [r_bits (by omega) hs64, Option.bind_some, nI_1, rfold, hw]
    by_cases q : cnt (setN w) = k
    · rw [if_pos (by rw [q])]
      rw [r_begin (by omega), Option.bind_some]
      obtain ⟨σ2, t1, t2, t3, t4⟩ := r_try (n := n) (w := w) (by omega) hm (by omega) hwm hR1 l2
      rw [hwl] at t1
      rw [t1, Option.bind_some]
      dsimp only
      have hK2 : KR b σ2 := ⟨by rw [t2 77 (by decide)]; exact hK1.1, by rw [t2 77 (by decide)]; exact hK1.2.1, hK1.2.2.1, fun j hj => by rw [t2 91 (by decide)]; exact hK1.2.2.2 j hj⟩
      cases hA : wA (amAll m) w (G0 ρ) with
      | none =>
        have e : rsB m (G0 ρ) b w = b := by unfold rsB; rw [hA]
        rw [e]
        exact ih (c + 1) f b σ2 (by omega) (by omega) hK2 t3
      | some g' =>
        have e82 : σ2 82 3 = G0 ρ 3 := t3.1 82 (by decide) (by decide) (by decide) (by decide) ▸ rfl
        simp only [Option.isSome_some, if_true, if_neg (show ¬ (1 : Int32) = 0 by decide), inL (show inB 3 33 = true by decide), tl3, t4 g' hA, e82, hK2.1]
        by_cases z : b.1 < g' 3 - G0 ρ 3
        · have e : rsB m (G0 ρ) b w = (g' 3 - G0 ρ 3, w) := by unfold rsB; rw [hA]; exact if_pos z
          rw [if_neg (fun y => by rw [i32_le] at y; rw [i32_lt] at z; omega), e]
          have hRw : Rw σ2 w := fun j hj => by rw [t2 90 (by decide)]; exact l2 j hj
          obtain ⟨σ3, k1, k2, k3, -⟩ := r_keepRow (n := n) (v := g' 3 - G0 ρ 3) (by omega) (show w.length ≤ 6 by omega) hRw
          rw [hwl] at k1
          rw [k1, Option.bind_some]
          exact ih (c + 1) f _ σ3 (by omega) (by omega) k2 (t3.tr k3)
        · have e : rsB m (G0 ρ) b w = b := by unfold rsB; rw [hA]; exact if_neg z
          rw [if_pos (by rw [i32_le]; rw [i32_lt] at z; omega), e]
          exact ih (c + 1) f b σ2 (by omega) (by omega) hK2 t3
    · rw [if_neg (fun y => q ((nI_inj hcw (by omega)).mp y))]
      have hA : wA (amAll m) w (G0 ρ) = none := by
        cases hA : wA (amAll m) w (G0 ρ) with
        | none => rfl
        | some g' => exact absurd ((wA_read w _ _ (fun r hr => Nat.lt_of_lt_of_le (hwm r hr) h6) hA).2.1.trans hwl) q
      have e : rsB m (G0 ρ) b w = b := by unfold rsB; rw [hA]
      rw [e]
      exact ih (c + 1) f b σ1 (by omega) (by omega) hK1 hR1
/-- what is told of a best row -/
def ansB (b : Int32 × List Nat) (x : Int32) : Int32 := if x = -1 then b.1 else if x = -2 then nI b.2.length else if nI b.2.length ≤ x then -1000000 else nI (b.2.getD x.toNatClampNeg 0)
theorem getD_nI {w : List Nat} {f : Nat → Int32} {x : Int32} (hw : w.length ≤ 6) (h : ∀ j (hj : j < w.length), f j = nI w[j]) (h0 : ¬ x < 0) (h1 : ¬ nI w.length ≤ x) : inB x 6 = true ∧ f x.toNatClampNeg = nI (w.getD x.toNatClampNeg 0) := by
  obtain ⟨j, hj, rfl⟩ := ix_of (n := w.length) (by omega) h0 h1
  rw [tn_nI (by omega)]
  refine ⟨inB_nI (by omega) (by decide), ?_⟩
  rw [h j hj, List.getD_eq_getElem?_getD, List.getElem?_eq_getElem hj, Option.getD_some]
theorem r_best_out {ρ : Mem} {n m : Nat} {x1 : Int32} (hn : 100000 ≤ n) (hm : Mny (ρ 82) m) (hx1 : ¬ x1 < -2) (hx2 : x1 < 6) : ∀ (r k f : Nat) (b : Int32 × List Nat) (σ : Mem), k + r = m + 1 → 1 ≤ k → r < f → KR b σ → RFr ρ σ → ∃ τ, f_X8_best_l31 n f x1 (nI k) σ = some (ansB ((List.range' k r).foldl (fun b k => (wds m k).foldl (rsB m (G0 ρ)) b) b) x1, τ) ∧ RFr ρ τ := by
  have h6 := hm.1
  intro r
  induction r with
  | zero =>
    intro k f b σ hk hk1 hf hK hR
    obtain ⟨f, rfl⟩ : ∃ f', f = f' + 1 := ⟨f - 1, by omega⟩
    have h4 : σ 82 4 = nI m := by rw [hR.1 82 (by decide) (by decide) (by decide) (by decide)]; exact hm.2
    refine ⟨σ, ?_, hR⟩
    show f_X8_best_b31 n _ x1 (nI k) σ = _
    unfold f_X8_best_b31
    rw [if_pos (by decide), tl4, h4, if_pos ((nI_lt_lit (by omega) (by omega)).mpr (by omega)), hK.1, hK.2.1]
    show _ = some (ansB b x1, σ)
    unfold ansB
    by_cases q1 : x1 = -1
    · rw [if_pos q1, if_pos q1]
    rw [if_neg q1, if_neg q1]
    by_cases q2 : x1 = -2
    · rw [if_pos q2, if_pos q2]
    rw [if_neg q2, if_neg q2]
    by_cases q3 : nI b.2.length ≤ x1
    · rw [if_pos q3, if_pos q3]
    rw [if_neg q3, if_neg q3]
    have h0 : ¬ x1 < 0 := by
      intro w
      rw [i32_lt] at hx1 w
      rw [i32_eq] at q1 q2
      have z1 : (-1 : Int32).toInt = -1 := by decide
      have z2 : (-2 : Int32).toInt = -2 := by decide
      have z0 : (0 : Int32).toInt = 0 := rfl
      omega
    obtain ⟨i1, i2⟩ := getD_nI hK.2.2.1 hK.2.2.2 h0 q3
    rw [if_pos i1, i2]
  | succ r ih =>
    intro k f b σ hk hk1 hf hK hR
    obtain ⟨f, rfl⟩ : ∃ f', f = f' + 1 := ⟨f - 1, by omega⟩
    have h4 : σ 82 4 = nI m := by rw [hR.1 82 (by decide) (by decide) (by decide) (by decide)]; exact hm.2
    have u : f_X8_best_l31 n (f + 1) x1 (nI k) σ = f_X8_best_b31 n (f_X8_best_l31 n f) x1 (nI k) σ := rfl
    rw [u]
    unfold f_X8_best_b31
    rw [if_pos (by decide), tl4, h4, if_neg (fun q => by have := (nI_lt_lit (by omega) (by omega)).mp q; omega)]
    have hmk : m ^ k ≤ 46656 := Nat.le_trans (Nat.pow_le_pow_left h6 k) (show 6 ^ k ≤ 6 ^ 6 from Nat.pow_le_pow_right (by decide) (by omega))
    obtain ⟨τ, a1, a2, a3⟩ := r_best_in (n := n) (m := m) (k := k) (x1 := x1) (f_X8_best_l31 n f) hn hm (by omega) (by omega) (m ^ k) 0 n b σ (by omega) (by omega) hK hR
    rw [rfold_all (by omega)] at a2
    have a1' : f_X8_best_l43 n (f_X8_best_l31 n f) n x1 (nI k) 0 σ = f_X8_best_l31 n f x1 (nI (k + 1)) τ := a1
    rw [a1', List.range'_succ, List.foldl_cons]
    exact ih (k + 1) f _ τ (by omega) (by omega) (by omega) a2 a3
theorem r_best_is {ρ : Mem} {m : Nat} : (List.range' 1 m).foldl (fun b k => (wds m k).foldl (rsB m (G0 ρ)) b) (0, []) = (vR (G0 ρ 3) (bestR m (G0 ρ)), (bestR m (G0 ρ)).1) := by
  have e1 : (fun (b : Int32 × List Nat) k => (wds m k).foldl (rsB m (G0 ρ)) b) = fun b k => (Wl (amAll m) m k (G0 ρ) []).foldl (fun b x => if b.1 < x.2 3 - G0 ρ 3 then (x.2 3 - G0 ρ 3, x.1) else b) b := by
    funext b k
    rw [← fold_Wl (step := fun b w g' => if b.1 < g' 3 - G0 ρ 3 then (g' 3 - G0 ρ 3, w) else b)]
    congr 1
  rw [e1, ← List.foldl_flatMap]
  have e0 : ((0 : Int32), ([] : List Nat)) = (fun x : Row => (vR (G0 ρ 3) x, x.1)) ([], G0 ρ) := by
    show _ = (G0 ρ 3 - G0 ρ 3, [])
    rw [Int32.sub_self]
  rw [e0, List.foldl_hom (fun x : Row => (vR (G0 ρ 3) x, x.1)) (g₁ := rsR (G0 ρ 3))]
  · rfl
  · intro x y
    show (if x.2 3 - G0 ρ 3 < y.2 3 - G0 ρ 3 then (y.2 3 - G0 ρ 3, y.1) else (x.2 3 - G0 ρ 3, x.1)) = (vR (G0 ρ 3) (rsR (G0 ρ 3) x y), (rsR (G0 ρ 3) x y).1)
    unfold rsR vR
    by_cases q : x.2 3 - G0 ρ 3 < y.2 3 - G0 ρ 3
    · rw [if_pos q, if_pos q]
    · rw [if_neg q, if_neg q]
theorem Inv.rfr {σ ρ τ : Mem} (h : Inv σ) (h1 : ∀ a, a < 61 ∨ 70 ≤ a → ρ a = σ a) (h2 : RFr ρ τ) : Inv τ := by
  have o : ∀ a, (a < 61 ∨ 70 ≤ a) → a ≠ 77 → a ≠ 84 → a ≠ 90 → a ≠ 91 → τ a = σ a := fun a q q1 q2 q3 q4 => (h2.1 a q1 q2 q3 q4).trans (h1 a q)
  have j77 : ∀ j, j ≠ 24 → j ≠ 25 → τ 77 j = σ 77 j := fun j q1 q2 => by rw [h2.2.2 j q1 q2, h1 77 (by decide)]
  refine h.scr (fun a p1 p2 p3 => o a ?_ p3 ?_ ?_ ?_) (fun j p1 p2 => j77 j (by omega) (by omega)) (by rw [o 0 (by decide) (by decide) (by decide) (by decide) (by decide), j77 3 (by decide) (by decide)]; exact h.2.1)
  · simp [pScr] at p1; omega
  · intro w; rw [w] at p1; cases p1
  · intro w; rw [w] at p1; cases p1
  · intro w; rw [w] at p1; cases p1
theorem s_best {σ : Mem} {n : Nat} (h : Inv σ) (hn : 100000 ≤ n) (x : Int32) : Both σ (f_X7_best n x) (f_X8_best n x) := by
  have N1 : ¬ (1 : Int32) = 0 := by decide
  rcases twn h with ⟨t1, t2⟩ | ⟨t1, t2⟩
  · exact Both.same h (-1000002) (by simp only [f_X7_best, if_pos t1]) (by simp [f_X8_best, r_isTown, t2])
  have T1 : ¬ σ 15 0 = 0 := by rw [t1]; decide
  have T2 : ∀ τ : Mem, τ 82 = σ 82 → f_X8_isTown τ = some 1 := fun τ e => by rw [r_isTown, e, if_pos t2]
  obtain ⟨m, hm⟩ := h.many
  have h6 := hm.1
  by_cases a1 : x < -2
  · exact Both.same h (-1000001) (by simp only [f_X7_best, if_neg T1, if_pos a1]) (by simp only [f_X8_best, T2 σ rfl, Option.bind_some, if_neg N1, in_no (σ := σ) (b := 5) (Or.inl a1), if_true])
  by_cases a2 : x < 6
  rotate_left
  · have a3 : (5 : Int32) < x := by rw [i32_lt] at a2 ⊢; have z : (6 : Int32).toInt = 6 := rfl; have z5 : (5 : Int32).toInt = 5 := rfl; omega
    exact Both.same h (-1000001) (by simp only [f_X7_best, if_neg T1, if_neg a1, if_neg a2]) (by simp only [f_X8_best, T2 σ rfl, Option.bind_some, if_neg N1, in_no (σ := σ) (a := -2) (b := 5) (Or.inr a3), if_true])
  have i1 : ∀ τ, f_X8_in τ x (-2) 5 = some 1 := fun τ => in_yes a1 (fun w => by rw [i32_lt] at a2 w; have z : (6 : Int32).toInt = 6 := rfl; have z5 : (5 : Int32).toInt = 5 := rfl; omega)
  obtain ⟨ρ, c1, ⟨k1, k2, k3, k4, k5⟩, c3⟩ := c_forMost (n := n) h (by omega) hm
  have hmρ : Mny (ρ 82) m := by rw [c3 82 (by decide)]; exact hm
  have gE : G0 ρ = G0 σ := G0_congr (c3 82 (by decide)) (fun j _ => by rw [c3 84 (by decide)])
  have k2' : ρ 61 8 = vR (G0 σ 3) (bestR m (G0 σ)) := k2
  have k3' : ρ 61 6 = nI (bestR m (G0 σ)).1.length := k3
  have cE : f_X7_best n x σ = some (ansB (vR (G0 σ 3) (bestR m (G0 σ)), (bestR m (G0 σ)).1) x, ρ) := by
    unfold f_X7_best
    rw [if_neg T1, if_neg a1, if_pos a2, c1, Option.bind_some, k2', k3']
    unfold ansB
    by_cases q2 : x = -2
    · rw [if_pos q2, if_neg (by rw [q2]; decide), if_pos q2]
    rw [if_neg q2]
    by_cases q1 : x = -1
    · rw [if_pos q1, if_pos q1]
    rw [if_neg q1, if_neg q1, if_neg q2]
    have h0 : ¬ x < 0 := by
      intro w
      rw [i32_lt] at a1 w
      rw [i32_eq] at q1 q2
      have z1 : (-1 : Int32).toInt = -1 := by decide
      have z2 : (-2 : Int32).toInt = -2 := by decide
      have z0 : (0 : Int32).toInt = 0 := rfl
      omega
    unfold f_X3_told
    rw [if_neg h0, k3']
    by_cases q3 : nI (bestR m (G0 σ)).1.length ≤ x
    · rw [if_pos q3, if_pos q3]; rfl
    · rw [if_neg q3, if_neg q3]
      obtain ⟨i1, i2⟩ := getD_nI k4 k5 h0 q3
      rw [if_pos i1, Option.bind_some]
      have i2' : ρ 68 x.toNatClampNeg = nI ((bestR m (G0 σ)).1.getD x.toNatClampNeg 0) := i2
      rw [i2']
  obtain ⟨ρ1, b1, b2, b3, -⟩ := r_keepRow (σ := ρ) (n := n) (v := 0) (w := []) (by omega) (by decide) (fun j hj => absurd hj (Nat.not_lt_zero _))
  obtain ⟨τ, d1, d2⟩ := r_best_out (ρ := ρ) (n := n) (m := m) (x1 := x) hn hmρ a1 a2 m 1 n (0, []) ρ1 (by omega) (by decide) (by omega) b2 b3
  rw [r_best_is, gE] at d1
  refine ⟨_, ρ, τ, cE, ?_, h.rfr c3 d2⟩
  rw [← d1]
  have b1' : f_X8_keepRow n 0 0 ρ = some ρ1 := b1
  simp only [f_X8_best, T2 ρ (c3 82 (by decide)), i1, Option.bind_some, if_neg N1, b1']
  rfl
