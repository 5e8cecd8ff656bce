/-! ===== give, pause, value, move, undo ===== -/
theorem unap0 {s g : Nat → Int32} : unap s g 0 = s 3 := if_pos rfl
theorem unap1 {s g : Nat → Int32} : unap s g 1 = s 4 := (if_neg (by decide)).trans (if_pos rfl)
theorem unap2 {s g : Nat → Int32} : unap s g 2 = s 5 := (if_neg (by decide)).trans ((if_neg (by decide)).trans (if_pos rfl))
theorem unap3 {s g : Nat → Int32} : unap s g 3 = s 6 := (if_neg (by decide)).trans ((if_neg (by decide)).trans ((if_neg (by decide)).trans (if_pos rfl)))
theorem unap_congr {s g h : Nat → Int32} (e : EqT g h) : EqT (unap s g) (unap s h) := by
  obtain ⟨⟨e0, e1, e2, e3, e4, e5, e6, e7, e8⟩, f⟩ := e
  have big : ∀ i, 4 ≤ i → g i = h i → unap s g i = unap s h i := by
    intro i hi q
    unfold unap
    rw [q, e4]
  have g4 : unap s g 4 = g 4 := by
    unfold unap
    rw [if_neg (by decide), if_neg (by decide), if_neg (by decide), if_neg (by decide)]
    split
    · rfl
    · split
      · rfl
      · rw [if_neg (by omega), if_neg (by omega)]
  refine ⟨⟨unap0.trans unap0.symm, unap1.trans unap1.symm, unap2.trans unap2.symm, unap3.trans unap3.symm, big 4 (by decide) e4, big 5 (by decide) e5, big 6 (by decide) e6, big 7 (by decide) e7, big 8 (by decide) e8⟩, fun r hr hlt => ?_⟩
  rw [g4] at hlt
  obtain ⟨a, b, c, d⟩ := f r hr hlt
  exact ⟨big _ (by omega) a, big _ (by omega) b, big _ (by omega) c, big _ (by omega) d⟩
theorem ia_act {q : Nat} (hq : q < 24) : isIA (37 + q) = true ∧ alen (37 + q) = 7 := by
  unfold isIA alen
  rw [shp_acts hq]; exact ⟨rfl, rfl⟩
theorem mod24 {a b : Nat} (ha : a < 24) (hb : b ≤ 24) : (nI a + nI b) - (nI a + nI b) / 24 * 24 = nI ((a + b) % 24) := by
  rw [nIa]
  exact pk_rem (d := 24) (by omega) (by decide) (by decide)
/-- what keep writes into a slot -/
def snap (σ : Mem) (x : Int32) (has : Bool) (r : Nat) : Nat → Int32 := fun j => if j = 0 then (if has then x else -1) else if j = 1 then (if has then σ 17 r else 0) else if j = 2 then (if has then σ 18 r else 0) else if j = 3 then σ 15 9 else if j = 4 then σ 15 10 else if j = 5 then σ 15 11 else σ 15 12
theorem c_keep53 {ρ : Mem} {g : Nat → Int32} {m q : Nat} {x : Int32} (hq : q < 24) (hT : TwR ρ 15 g) (hm : Mny g m) (hx : x = -1 ∨ ∃ r, r < m ∧ x = nI r) : ∃ τ has, f_X0_keep_b53 15 x (37 + q) ρ = some τ ∧ (x = -1 → has = false) ∧ (∀ r, r < m → x = nI r → has = true) ∧ (∀ j, j < 7 → τ (37 + q) j = snap ρ x has x.toNatClampNeg j) ∧ ∀ a, a ≠ 37 + q → τ a = ρ a := by
  obtain ⟨i1, i2⟩ := ia_act hq
  have h6 := hm.1
  have hne : ∀ b, b ≤ 19 → b ≠ 37 + q := fun b hb => by omega
  have B : ∀ k : Nat, k < 7 → (inB (nI k) 7 = true) = True := fun k hk => inL (inB_nI hk (by decide))
  have b0 : (inB 0 7 = true) = True := B 0 (by decide)
  have b1 : (inB 1 7 = true) = True := B 1 (by decide)
  have b2 : (inB 2 7 = true) = True := B 2 (by decide)
  have b3 : (inB 3 7 = true) = True := B 3 (by decide)
  have b4 : (inB 4 7 = true) = True := B 4 (by decide)
  have b5 : (inB 5 7 = true) = True := B 5 (by decide)
  have b6 : (inB 6 7 = true) = True := B 6 (by decide)
  have it : (isTown 15 = true) = True := eq_true rfl
  rcases hx with rfl | ⟨r, hr, rfl⟩
  · have e : f_X6_has ρ 15 (-1) = some 0 := by rw [c_has rfl hT]; rfl
    refine ⟨_, false, by simp only [f_X0_keep_b53, e, it, Option.bind_some, if_true, f_X0_keep_b72, f_X0_keep_b90, f_X0_keep_b108, eq_true i1, i2, b0, b1, b2, b3, b4, b5, b6, tl0, tl1, tl2, tl3, tl4, tl5, tl6]; rfl, fun _ => rfl, fun r hr q => absurd q (fun q => by have := congrArg Int32.toInt q; rw [nI_toInt (by omega)] at this; exact absurd this (by show ¬ ((-1 : Int) = r); omega)), fun j hj => ?_, fun a ha => ?_⟩
    · simp only [ms_if]
      rcases (show j = 0 ∨ j = 1 ∨ j = 2 ∨ j = 3 ∨ j = 4 ∨ j = 5 ∨ j = 6 by omega) with rfl | rfl | rfl | rfl | rfl | rfl | rfl <;> simp [snap, show ¬ (15 = 37 + q) by omega]
    · rw [ms_cell ha, ms_cell ha, ms_cell ha, ms_cell ha, ms_cell ha, ms_cell ha, ms_cell ha]
  · have e : f_X6_has ρ 15 (nI r) = some 1 := by
      rw [c_has rfl hT, hm.2, if_neg (nI_nn (by omega)), if_neg (fun q => by have := (nI_le_lit (by omega) (by omega)).mp q; omega)]; rfl
    have br := inL (inB_nI (show r < 6 by omega) (show 6 < 2 ^ 31 by decide))
    have tr := tn_nI (show r < 2 ^ 31 by omega)
    have n10 : ¬ (1 : Int32) = 0 := by decide
    refine ⟨_, true, by simp only [f_X0_keep_b53, e, it, Option.bind_some, if_true, if_neg n10, f_X0_keep_b72, f_X0_keep_b90, f_X0_keep_b108, eq_true i1, i2, b0, b1, b2, b3, b4, b5, b6, br, tr, tl0, tl1, tl2, tl3, tl4, tl5, tl6]; rfl, fun q => absurd q (fun q => by have := congrArg Int32.toInt q; rw [nI_toInt (by omega)] at this; exact absurd this (by show ¬ ((r : Int) = -1); omega)), fun _ _ _ => rfl, fun j hj => ?_, fun a ha => ?_⟩
    · simp only [ms_if]
      rcases (show j = 0 ∨ j = 1 ∨ j = 2 ∨ j = 3 ∨ j = 4 ∨ j = 5 ∨ j = 6 by omega) with rfl | rfl | rfl | rfl | rfl | rfl | rfl <;> simp [snap, show ¬ (15 = 37 + q) by omega, show ¬ (17 = 37 + q) by omega, show ¬ (18 = 37 + q) by omega, tr]
    · rw [ms_cell ha, ms_cell ha, ms_cell ha, ms_cell ha, ms_cell ha, ms_cell ha, ms_cell ha]
/-- how the ring moves -/
def ringO (o k : Nat) : Nat := if k < 24 then o else (o + 1) % 24
def ringK (k : Nat) : Nat := if k < 24 then k + 1 else 24
def ringD (k : Nat) : Nat := if k < 24 then 0 else 1
theorem c_keep {σ : Mem} {o k m : Nat} {x : Int32} {g : Nat → Int32} (ho : o < 24) (hk : k ≤ 24) (e1 : σ 35 1 = nI o) (e2 : σ 35 2 = nI k) (hT : TwR σ 15 g) (hm : Mny g m) (hx : x = -1 ∨ ∃ r, r < m ∧ x = nI r) : ∃ τ has, f_X0_keep 15 x σ = some τ ∧ (x = -1 → has = false) ∧ (∀ r, r < m → x = nI r → has = true) ∧ (∀ j, j < 7 → τ (37 + (o + k) % 24) j = snap σ x has x.toNatClampNeg j) ∧ τ 35 1 = nI (ringO o k) ∧ τ 35 2 = nI (ringK k) ∧ ∀ a, a ≠ 35 → a ≠ 37 + (o + k) % 24 → τ a = σ a := by
  have hq : (o + k) % 24 < 24 := Nat.mod_lt _ (by decide)
  unfold f_X0_keep
  rw [e1, e2, mod24 ho hk, if_pos (inB_nI hq (by decide)), tn_nI (by omega)]
  by_cases hk24 : k < 24
  · rw [if_neg (fun q => by have := (nI_le_lit (n := 24) (by omega) (by omega)).mp q; omega), Option.bind_some, nI_1]
    obtain ⟨τ, has, a1, a2, a3, a4, a5⟩ := c_keep53 (ρ := mset σ 35 2 (nI (k + 1))) (g := g) (m := m) (x := x) hq (hT.congr (by rw [ms_cell (by decide)]) (by rw [ms_cell (by decide)]) (by rw [ms_cell (by decide)]) (by rw [ms_cell (by decide)]) (by rw [ms_cell (by decide)])) hm hx
    refine ⟨τ, has, a1, a2, a3, a4, ?_, ?_, fun a p1 p2 => ?_⟩
    · rw [a5 35 (by omega), ringO, if_pos hk24, ms_off (Or.inr (by decide)), e1]
    · rw [a5 35 (by omega), ringK, if_pos hk24, ms_at]
    · rw [a5 a p2, ms_cell p1]
  · have e24 : k = 24 := by omega
    subst e24
    have e9 : (nI o + 1) - (nI o + 1) / 24 * 24 = nI ((o + 1) % 24) := mod24 (b := 1) ho (by decide)
    rw [if_pos (by decide), Option.bind_some, e9]
    obtain ⟨τ, has, a1, a2, a3, a4, a5⟩ := c_keep53 (ρ := mset σ 35 1 (nI ((o + 1) % 24))) (g := g) (m := m) (x := x) hq (hT.congr (by rw [ms_cell (by decide)]) (by rw [ms_cell (by decide)]) (by rw [ms_cell (by decide)]) (by rw [ms_cell (by decide)]) (by rw [ms_cell (by decide)])) hm hx
    refine ⟨τ, has, a1, a2, a3, a4, ?_, ?_, fun a p1 p2 => ?_⟩
    · rw [a5 35 (by omega), ms_at]; rfl
    · rw [a5 35 (by omega), ms_off (Or.inr (by decide)), e2]; rfl
    · rw [a5 a p2, ms_cell p1]
/-- the reference's states moved down by one -/
def shm (σ : Mem) (i : Nat) : Mem := fun c x => if c = 87 ∧ x < i then σ 87 (x + 33) else σ c x
theorem r_note_l {σ : Mem} {n : Nat} : ∀ (k i f : Nat), i + k = 759 → k < f → f_X8_note_l11 n f (nI i) (shm σ i) = f_X8_note_b49 n (mset (shm σ 759) 77 18 (shm σ 759 77 18 - 1)) := by
  intro k
  induction k with
  | zero =>
    intro i f hi hf
    obtain ⟨f, rfl⟩ : ∃ f', f = f' + 1 := ⟨f - 1, by omega⟩
    show f_X8_note_b11 n _ (nI i) _ = _
    unfold f_X8_note_b11
    have e : i = 759 := by omega
    subst e
    rw [if_pos (by decide), Option.bind_some]
  | succ k ih =>
    intro i f hi hf
    obtain ⟨f, rfl⟩ : ∃ f', f = f' + 1 := ⟨f - 1, by omega⟩
    show f_X8_note_b11 n (f_X8_note_l11 n f) (nI i) _ = _
    unfold f_X8_note_b11
    have e : mset (shm σ i) 87 i (shm σ i 87 (i + 33)) = shm σ (i + 1) := by
      funext c x
      have e9 : shm σ i 87 (i + 33) = σ 87 (i + 33) := by unfold shm; rw [if_neg (by omega)]
      rw [ms_if, e9]
      unfold shm
      by_cases h1 : c = 87 ∧ x = i
      · rw [if_pos h1, if_pos ⟨h1.1, by omega⟩, h1.2]
      · rw [if_neg h1]
        by_cases h2 : c = 87 ∧ x < i
        · rw [if_pos h2, if_pos ⟨h2.1, by omega⟩]
        · rw [if_neg h2, if_neg (fun q => by
            rcases Nat.lt_or_ge x i with w | w
            · exact h2 ⟨q.1, w⟩
            · exact h1 ⟨q.1, by omega⟩)]
    have e33 : nI i + 33 = nI (i + 33) := nIa i 33
    rw [if_neg (fun q => by have := (nI_le_lit (n := 759) (by omega) (by omega)).mp q; omega), e33, if_pos (inB_nI (by omega) (by decide)), if_pos (inB_nI (by omega) (by decide)), tn_nI (by omega), tn_nI (by omega), Option.bind_some, e, nI_1]
    exact ih (i + 1) f (by omega) (by omega)
theorem r_note49 {ρ : Mem} {n k : Nat} (hn : 2000 ≤ n) (hk : k < 24) (e : ρ 77 18 = nI k) : f_X8_note_b49 n ρ = some (mset (mcpy ρ 82 0 87 (33 * k) 33) 77 18 (nI (k + 1))) := by
  have g33 : (33 : Int32) * nI k = nI (33 * k) := pk_mul 33 k
  have hl := r_lay (σ := ρ) (n := n) (a := 82) (fr := 0) (b := 87) (to := 33 * k) rfl rfl (by decide) (by decide) (show 33 * k + 33 ≤ 792 by omega) (by decide) (by decide) (by omega)
  have hl' : f_X8_lay n 82 0 87 (33 * nI k) ρ = some (mcpy ρ 82 0 87 (33 * k) 33) := by rw [g33]; exact hl
  unfold f_X8_note_b49
  rw [e, hl', Option.bind_some, mcpy_ne 77 (by decide), e, nI_1]
  rfl
theorem r_note {σ : Mem} {n k : Nat} (hn : 2000 ≤ n) (hk : k ≤ 24) (e : σ 77 18 = nI k) : ∃ τ, f_X8_note n σ = some τ ∧ τ 77 18 = nI (ringK k) ∧ (∀ i x, i < k - ringD k → x < 33 → τ 87 (33 * i + x) = σ 87 (33 * (i + ringD k) + x)) ∧ (∀ x, x < 33 → τ 87 (33 * (k - ringD k) + x) = σ 82 x) ∧ (∀ a, a ≠ 87 → a ≠ 77 → τ a = σ a) ∧ ∀ j, j ≠ 18 → τ 77 j = σ 77 j := by
  unfold f_X8_note
  rw [e]
  by_cases hk24 : k < 24
  · rw [if_neg (fun q => by have := (nI_inj (b := 24) (by omega) (by decide)).mp q; omega), r_note49 hn hk24 e]
    have hd : ringD k = 0 := by unfold ringD; rw [if_pos hk24]
    refine ⟨_, rfl, by rw [ringK, if_pos hk24]; exact ms_at, fun i x hi hx => ?_, fun x hx => ?_, fun a p1 p2 => ?_, fun j hj => ?_⟩
    · rw [hd] at hi ⊢
      rw [ms_cell (by decide), mc_if, if_neg (by omega)]; rfl
    · rw [hd, Nat.sub_zero, ms_cell (by decide), lay_at hx, Nat.zero_add]
    · rw [ms_cell p2, mcpy_ne a p1]
    · rw [ms_off (Or.inr hj), mcpy_ne 77 (by decide)]
  · have e24 : k = 24 := by omega
    subst e24
    rw [if_pos (by decide)]
    have h0 : shm σ 0 = σ := by funext c x; unfold shm; rw [if_neg (by omega)]
    have hl := r_note_l (σ := σ) (n := n) 759 0 n (by omega) (by omega)
    rw [h0] at hl
    have e77 : ∀ j, shm σ 759 77 j = σ 77 j := fun j => by unfold shm; rw [if_neg (by omega)]
    have e23 : mset (shm σ 759) 77 18 (shm σ 759 77 18 - 1) 77 18 = nI 23 := by rw [ms_at, e77, e]; rfl
    rw [show (0 : Int32) = nI 0 from rfl, hl, r_note49 hn (by decide) e23]
    refine ⟨_, rfl, ms_at, fun i x hi hx => ?_, fun x hx => ?_, fun a p1 p2 => ?_, fun j hj => ?_⟩
    · have hi : i < 23 := hi
      show _ = σ 87 (33 * (i + 1) + x)
      rw [ms_cell (by decide), mc_if, if_neg (by omega), ms_cell (by decide)]
      unfold shm
      rw [if_pos ⟨rfl, by omega⟩]
      congr 1; omega
    · show mset _ 77 18 _ 87 (33 * 23 + x) = _
      rw [ms_cell (by decide), lay_at hx, Nat.zero_add, ms_cell (by decide)]
      unfold shm
      rw [if_neg (by omega)]
    · rw [ms_cell p2, mcpy_ne a p1, ms_cell p2]
      funext x
      unfold shm
      rw [if_neg (fun q => p1 q.1)]
    · rw [ms_off (Or.inr hj), mcpy_ne 77 (by decide), ms_off (Or.inr hj), e77]
theorem acts_push {σ τ : Mem} {o k : Nat} (ho : o < 24) (hk : k ≤ 24) (hC : Chain σ o k) (hO : Okt (σ 82)) (e1 : τ 35 1 = nI (ringO o k)) (e2 : τ 35 2 = nI (ringK k)) (e3 : τ 77 18 = nI (ringK k)) (e4 : ∀ q, q < 24 → q ≠ (o + k) % 24 → τ (37 + q) = σ (37 + q))
    (e5 : ∀ i x, i < k - ringD k → x < 33 → τ 87 (33 * i + x) = σ 87 (33 * (i + ringD k) + x)) (e6 : ∀ x, x < 33 → τ 87 (33 * (k - ringD k) + x) = σ 82 x) (e7 : EqT (σ 82) (unap (τ (37 + (o + k) % 24)) (τ 82))) : IAct τ := by
  have hK : ringK k = k - ringD k + 1 := by unfold ringK ringD; split <;> omega
  have hO2 : ringO o k = (o + ringD k) % 24 := by unfold ringO ringD; split <;> omega
  have hd1 : ringD k ≤ 1 := by unfold ringD; split <;> omega
  refine ⟨ringO o k, ringK k, by rw [hO2]; exact Nat.mod_lt _ (by decide), by unfold ringK; split <;> omega, e1, e2, e3, fun i hi => ?_⟩
  have slot : ∀ i, (ringO o k + i) % 24 = (o + (i + ringD k)) % 24 := fun i => by rw [hO2]; omega
  rw [slot]
  have st : ∀ i, i ≤ k - ringD k → EqT (stOf τ (ringK k) i) (stOf σ k (i + ringD k)) := by
    intro i hi
    apply EqT.of33
    intro x hx
    unfold stOf
    rw [if_pos (by omega)]
    by_cases hik : i < k - ringD k
    · rw [if_pos (by omega)]; exact e5 i x hik hx
    · have : i = k - ringD k := by omega
      rw [if_neg (by omega), this]; exact e6 x hx
  by_cases hik : i < k - ringD k
  · obtain ⟨c1, c2⟩ := hC (i + ringD k) (by omega)
    refine ⟨c1.eqT (st i (by omega)), ?_⟩
    have hdk : k - ringD k ≤ 23 := by unfold ringD; split <;> omega
    have hne : (o + (i + ringD k)) % 24 ≠ (o + k) % 24 := by omega
    rw [e4 _ (Nat.mod_lt _ (by decide)) hne]
    refine (st i (by omega)).trans (c2.trans (unap_congr ?_))
    have := st (i + 1) (by omega)
    rw [show i + 1 + ringD k = i + ringD k + 1 by omega] at this
    exact this.symm
  · have hi2 : i = k - ringD k := by omega
    have hkd : ringD k ≤ k := by unfold ringD; split <;> omega
    have s1 := st i (by omega)
    have s2 : stOf σ k (i + ringD k) = σ 82 := by unfold stOf; rw [if_neg (by omega)]
    rw [s2] at s1
    have s3 : stOf τ (ringK k) (i + 1) = τ 82 := by unfold stOf; rw [if_neg (by omega)]
    rw [s3, show o + (i + ringD k) = o + k by omega]
    exact ⟨hO.eqT s1, s1.trans e7⟩
