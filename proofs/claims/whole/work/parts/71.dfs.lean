/-! ===== the class tries the rows, depth first ===== -/
theorem TwR.back {σ : Mem} {t r : Nat} {g : Nat → Int32} (hT : TwR σ t (sGive g r)) : TwR (cStands σ t (g 0) (g 1) (g 2) (g 3)) t g := by
  have h := hT.stands (g 0) (g 1) (g 2) (g 3)
  have e : (fun i => if i = 0 then g 0 else if i = 2 then g 2 else if i = 3 then g 3 else if i = 1 then g 1 else sGive g r i) = g := by
    funext i
    by_cases h0 : i = 0
    · rw [if_pos h0, h0]
    by_cases h2 : i = 2
    · rw [if_neg h0, if_pos h2, h2]
    by_cases h3 : i = 3
    · rw [if_neg h0, if_neg h2, if_pos h3, h3]
    by_cases h1 : i = 1
    · rw [if_neg h0, if_neg h2, if_neg h3, if_pos h1, h1]
    · rw [if_neg h0, if_neg h2, if_neg h3, if_neg h1, sGive_hi (by omega)]
  rw [e] at h
  exact h
def Pre (σ : Mem) (p : List Nat) : Prop := ∀ j (hj : j < p.length), σ 67 j = nI p[j]
theorem Pre.snoc {σ : Mem} {p : List Nat} {r : Nat} (h : Pre σ p) : Pre (mset σ 67 p.length (nI r)) (p ++ [r]) := by
  intro j hj
  rw [List.length_append, List.length_singleton] at hj
  by_cases q : j = p.length
  · subst q
    rw [ms_at]; simp
  · rw [ms_off (Or.inr q), h j (by omega), List.getElem_append_left (by omega)]
theorem Pre.left {σ : Mem} {p : List Nat} {r : Nat} (h : Pre σ (p ++ [r])) : Pre σ p := by
  intro j hj
  have := h j (by rw [List.length_append]; omega)
  rw [List.getElem_append_left hj] at this
  exact this
theorem Pre.congr {σ τ : Mem} {p : List Nat} (h : Pre σ p) (e : τ 67 = σ 67) : Pre τ p := fun j hj => by rw [e]; exact h j hj
theorem c_dfs {β : Type} {n m : Nat} {A : Int32} {am : Nat → Bool} {K : β → Mem → Prop} {step : β → List Nat → (Nat → Int32) → β} {P : List Nat → (Nat → Int32) → Prop}
    (hn : 2000 ≤ n) (hm6 : m ≤ 6) (hA : ∀ r, r < 6 → (am r = true ↔ ¬ (A >>> (nI r &&& 31)) &&& 1 = 0))
    (hK : ∀ b σ τ, τ 61 = σ 61 → τ 68 = σ 68 → τ 69 = σ 69 → K b σ → K b τ) (hK3 : ∀ b σ, K b σ → σ 61 3 = A)
    (hP : ∀ p g r, P p g → r < m → am r = true → sCan g r = true → P (p ++ [r]) (sGive g r))
    (hw : ∀ b σ p g, K b σ → TwR σ 62 g → Mny g m → p.length ≤ 6 → Pre σ p → P p g → ∃ τ, f_X3_weigh (nI p.length) σ = some τ ∧ K (step b p g) τ ∧ ∀ a, a ≠ 61 → a ≠ 68 → a ≠ 69 → τ a = σ a) :
    ∀ (f F : Nat) (p : List Nat) (g : Nat → Int32) (b : β) (σ : Mem), f + p.length = 6 → f < F → K b σ → TwR σ 62 g → Mny g m → Pre σ p → P p g →
    ∃ τ, f_X3_tryRows_r n F (nI p.length) σ = some τ ∧ K ((Dl am m f g p).foldl (fun b x => step b x.1 x.2) b) τ ∧ TwR τ 62 g ∧ Pre τ p ∧ ∀ a, a ≠ 61 → a ≠ 62 → a ≠ 67 → a ≠ 68 → a ≠ 69 → τ a = σ a := by
  intro f
  induction f with
  | zero =>
    intro F p g b σ hp hF hKb hT hm hpre hPp
    obtain ⟨F, rfl⟩ : ∃ F', F = F' + 1 := ⟨F - 1, by omega⟩
    obtain ⟨τ, w1, w2, w3⟩ := hw b σ p g hKb hT hm (by omega) hpre hPp
    refine ⟨τ, ?_, w2, hT.congr (w3 62 (by decide) (by decide) (by decide)) (w3 63 (by decide) (by decide) (by decide)) (w3 64 (by decide) (by decide) (by decide)) (w3 65 (by decide) (by decide) (by decide)) (w3 66 (by decide) (by decide) (by decide)), hpre.congr (w3 67 (by decide) (by decide) (by decide)), fun a h1 _ _ h2 h3 => w3 a h1 h2 h3⟩
    show f_X3_tryRows_s n _ _ σ = _
    unfold f_X3_tryRows_s
    rw [w1, Option.bind_some, if_neg (show ¬ nI p.length < 6 from fun w => by have := (nI_lt_lit (k := 6) (by omega) (by decide)).mp w; omega)]
  | succ f ih =>
    intro F p g b σ hp hF hKb hT hm hpre hPp
    obtain ⟨F, rfl⟩ : ∃ F', F = F' + 1 := ⟨F - 1, by omega⟩
    obtain ⟨σ0, w1, w2, w3⟩ := hw b σ p g hKb hT hm (by omega) hpre hPp
    have hT0 : TwR σ0 62 g := hT.congr (w3 62 (by decide) (by decide) (by decide)) (w3 63 (by decide) (by decide) (by decide)) (w3 64 (by decide) (by decide) (by decide)) (w3 65 (by decide) (by decide) (by decide)) (w3 66 (by decide) (by decide) (by decide))
    have hp0 : Pre σ0 p := hpre.congr (w3 67 (by decide) (by decide) (by decide))
    have inner : ∀ (k i fu : Nat) (b : β) (σ : Mem), i + k = m → k < fu → K b σ → TwR σ 62 g → Pre σ p → ∃ τ, f_X3_tryRows_l43 n (f_X3_tryRows_r n F) fu (nI p.length) (g 0) (g 1) (g 2) (g 3) (nI i) σ = some τ ∧ K (((List.range' i k).flatMap fun r => if (am r && sCan g r) = true then Dl am m f (sGive g r) (p ++ [r]) else []).foldl (fun b x => step b x.1 x.2) b) τ ∧ TwR τ 62 g ∧ Pre τ p ∧ ∀ a, a ≠ 61 → a ≠ 62 → a ≠ 67 → a ≠ 68 → a ≠ 69 → τ a = σ a := by
      intro k
      induction k with
      | zero =>
        intro i fu b σ hi hfu hKb hT hpre
        obtain ⟨fu, rfl⟩ : ∃ F', fu = F' + 1 := ⟨fu - 1, by omega⟩
        refine ⟨σ, ?_, hKb, hT, hpre, fun _ _ _ _ _ _ => rfl⟩
        show f_X3_tryRows_b43 n _ _ _ _ _ _ _ _ σ = _
        unfold f_X3_tryRows_b43
        rw [hT.1.2.2.2.2.1, hm.2, if_pos ((nI_le_lit (by omega) (by omega)).mpr (by omega))]
      | succ k ihk =>
        intro i fu b σ hi hfu hKb hT hpre
        obtain ⟨fu, rfl⟩ : ∃ F', fu = F' + 1 := ⟨fu - 1, by omega⟩
        have u : f_X3_tryRows_l43 n (f_X3_tryRows_r n F) (fu + 1) (nI p.length) (g 0) (g 1) (g 2) (g 3) (nI i) σ = f_X3_tryRows_b43 n (f_X3_tryRows_r n F) (f_X3_tryRows_l43 n (f_X3_tryRows_r n F) fu) (nI p.length) (g 0) (g 1) (g 2) (g 3) (nI i) σ := rfl
        rw [u, List.range'_succ, List.flatMap_cons, List.foldl_append]
        unfold f_X3_tryRows_b43 f_X3_tryRows_b106
        rw [hT.1.2.2.2.2.1, hm.2, if_neg (fun w => by have := (nI_le_lit (by omega) (by omega)).mp w; omega), hK3 b σ hKb, c_canHave (t := 62) rfl hT hm, canX_nI hm (by omega), nI_1]
        by_cases a1 : (A >>> (nI i &&& 31)) &&& 1 = 0
        · have a2 : am i = false := by
            cases hh : am i with
            | false => rfl
            | true => exact absurd a1 ((hA i (by omega)).mp hh)
          rw [if_pos a1, a2, Bool.false_and, if_neg (by decide)]
          exact ihk (i + 1) fu b σ (by omega) (by omega) hKb hT hpre
        have a2 : am i = true := (hA i (by omega)).mpr a1
        rw [if_neg a1, a2, Bool.true_and, Option.bind_some]
        by_cases c1 : sCan g i = true
        · rw [c1, b2i_t, if_neg (by decide), if_pos rfl, if_pos (inB_nI (by omega) (by decide)), tn_nI (by omega), Option.bind_some]
          have hT1 : TwR (mset σ 67 p.length (nI i)) 62 g := hT.congr (ms_cell (by decide)) (ms_cell (by decide)) (ms_cell (by decide)) (ms_cell (by decide)) (ms_cell (by decide))
          obtain ⟨τ, t1, t2, t3⟩ := c_hand (n := n) (t := 62) rfl hT1 hm (by omega) (show i < m by omega)
          have hp1 : Pre τ (p ++ [i]) := hpre.snoc.congr (t3 67 (by decide))
          have hK1 : K b τ := hK b σ τ (by rw [t3 61 (by decide), ms_cell (by decide)]) (by rw [t3 68 (by decide), ms_cell (by decide)]) (by rw [t3 69 (by decide), ms_cell (by decide)]) hKb
          obtain ⟨υ, u1, u2, u3, u4, u5⟩ := ih F (p ++ [i]) (sGive g i) b τ (by rw [List.length_append, List.length_singleton]; omega) (by omega) hK1 t2 hm.give hp1 (hP p g i hPp (by omega) a2 c1)
          rw [List.length_append, List.length_singleton] at u1
          rw [t1, Option.bind_some]
          dsimp only
          rw [nI_1, u1, Option.bind_some, c_copyStands (t := 62) rfl, Option.bind_some]
          have hK2 := hK _ υ (cStands υ 62 (g 0) (g 1) (g 2) (g 3)) (cStands_ne (by decide)) (cStands_ne (by decide)) (cStands_ne (by decide)) u2
          obtain ⟨ω, v1, v2, v3, v4, v5⟩ := ihk (i + 1) fu _ _ (by omega) (by omega) hK2 u3.back (u4.left.congr (cStands_ne (by decide)))
          exact ⟨ω, v1, v2, v3, v4, fun a h1 h2 h3 h4 h5 => by rw [v5 a h1 h2 h3 h4 h5, cStands_ne h2, u5 a h1 h2 h3 h4 h5, t3 a h2, ms_cell h3]⟩
        · have c2 : sCan g i = false := by simpa using c1
          rw [c2, b2i_f, if_pos rfl, if_neg (by decide)]
          exact ihk (i + 1) fu b σ (by omega) (by omega) hKb hT hpre
    obtain ⟨τ, v1, v2, v3, v4, v5⟩ := inner m 0 n (step b p g) σ0 (by omega) (by have := hm6; omega) w2 hT0 hp0
    refine ⟨τ, ?_, ?_, v3, v4, fun a h1 h2 h3 h4 h5 => (v5 a h1 h2 h3 h4 h5).trans (w3 a h1 h4 h5)⟩
    · show f_X3_tryRows_s n (f_X3_tryRows_r n F) _ σ = _
      unfold f_X3_tryRows_s
      rw [w1, Option.bind_some, if_pos (show nI p.length < 6 from (nI_lt_lit (k := 6) (by omega) (by decide)).mpr (by omega))]
      simp only [Option.bind_some, hT0.1.2.2.2.2.2.1, hT0.1.2.2.2.2.2.2.1, hT0.1.2.2.2.2.2.2.2.1, hT0.1.2.2.2.2.2.2.2.2]
      exact v1
    · rw [Dl, List.foldl_cons, List.range_eq_range']
      exact v2
/-- who is among all -/
def amAll (m r : Nat) : Bool := decide (r < m)
theorem all_bits : ∀ m, m < 7 → ∀ r, r < 6 → (amAll m r = true ↔ ¬ (((1 <<< (nI m &&& 31)) - 1 : Int32) >>> (nI r &&& 31)) &&& 1 = 0) := by decide +kernel
theorem c_keepRow {σ : Mem} {p : List Nat} {v : Int32} (hp : p.length ≤ 6) (h : Pre σ p) : ∃ τ, f_X3_keepRow (nI p.length) v σ = some τ ∧ (∀ j (hj : j < p.length), τ 68 j = nI p[j]) ∧ τ 61 7 = 1 ∧ τ 61 8 = v ∧ τ 61 6 = nI p.length ∧ (∀ j, j < 6 → τ 61 j = σ 61 j) ∧ ∀ a, a ≠ 61 → a ≠ 68 → τ a = σ a := by
  have ok : okCopy 6 6 0 0 (nI p.length) = true := by
    have : ∀ k, k < 7 → okCopy 6 6 0 0 (nI k) = true := by decide +kernel
    exact this _ (by omega)
  refine ⟨mcpy (mset (mset (mset σ 61 7 1) 61 8 v) 61 6 (nI p.length)) 67 0 68 0 p.length, ?_, fun j hj => ?_, ?_, ?_, ?_, fun j hj => ?_, fun a h1 h2 => ?_⟩
  · unfold f_X3_keepRow
    rw [if_pos (by decide)]
    simp only [Option.bind_some, eq_true ok, if_true, tl0, tn_nI (show p.length < 2 ^ 31 by omega)]
  · rw [mc_if, if_pos ⟨rfl, by omega, by omega⟩, ms_cell (by decide), ms_cell (by decide), ms_cell (by decide), Nat.zero_add, Nat.sub_zero]
    exact h j hj
  · rw [mcpy_ne 61 (by decide), ms_off (Or.inr (by decide)), ms_off (Or.inr (by decide))]; exact ms_at
  · rw [mcpy_ne 61 (by decide), ms_off (Or.inr (by decide))]; exact ms_at
  · rw [mcpy_ne 61 (by decide)]; exact ms_at
  · rw [mcpy_ne 61 (by decide), ms_off (Or.inr (by omega)), ms_off (Or.inr (by omega)), ms_off (Or.inr (by omega))]
  · rw [mcpy_ne a h2, ms_cell h1, ms_cell h1, ms_cell h1]
