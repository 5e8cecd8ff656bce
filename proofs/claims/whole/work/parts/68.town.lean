/-! ===== a text becomes a town ===== -/
section RPARSE3
variable {B : Nat → Int32} {L n : Nat} {σ : Mem}
theorem srt_tk {p : Nat} (hp : p ≤ L) : (if tkB B L p ≤ 0 then 0 else srt (tkB B L p)) = srt (pkB B L p) ∧ (¬ srt (pkB B L p) = 0 → tnB B L p = p + 1 ∧ p < L) := by
  unfold tkB pkB tnB
  have no : ∀ x : Int32, (isD x = true ∨ isLt x = false) → srt x = 0 := by
    intro x hx
    unfold srt
    by_cases a : x = 97
    · subst a; rcases hx with h | h <;> exact absurd h (by decide)
    by_cases b : x = 102
    · subst b; rcases hx with h | h <;> exact absurd h (by decide)
    by_cases c : x = 104
    · subst c; rcases hx with h | h <;> exact absurd h (by decide)
    by_cases d : x = 111
    · subst d; rcases hx with h | h <;> exact absurd h (by decide)
    by_cases e : x = 115
    · subst e; rcases hx with h | h <;> exact absurd h (by decide)
    rw [if_neg a, if_neg b, if_neg c, if_neg d, if_neg e]
  by_cases q : p = L
  · rw [if_pos q, if_neg (show ¬ p < L by omega), if_pos (show (-2 : Int32) ≤ 0 by decide)]
    exact ⟨by decide, fun w => absurd (show srt (-1) = 0 by decide) w⟩
  rw [if_neg q, if_pos (show p < L by omega), if_neg q]
  by_cases d : isD (B p) = true
  · rw [if_pos d, no (B p) (Or.inl d)]
    refine ⟨?_, fun w => absurd rfl w⟩
    by_cases z : dcB B (L - p) p ≤ 2
    · rw [if_pos z, if_pos (by decide)]
    · rw [if_neg z, if_pos (by decide)]
  · rw [if_neg d, if_neg d]
    by_cases l : isLt (B p) = true
    · rw [if_pos l]
      have : ¬ B p ≤ 0 := by
        intro w
        unfold isLt at l
        rw [i32_le] at w
        have z : (0 : Int32).toInt = 0 := rfl
        have z1 : (97 : Int32).toInt = 97 := rfl
        simp only [Bool.or_eq_true, Bool.and_eq_true, Bool.not_eq_true', decide_eq_false_iff_not, decide_eq_true_eq] at l
        rcases l with (⟨l, -⟩ | l) | l
        · rw [i32_lt] at l; omega
        · rw [l] at w; exact absurd w (by decide)
        · rw [l] at w; exact absurd w (by decide)
      rw [if_neg this]
      exact ⟨rfl, fun _ => ⟨rfl, by omega⟩⟩
    · rw [if_neg l, if_pos (by decide), no (B p) (Or.inr (by simpa using l))]
      exact ⟨rfl, fun w => absurd rfl w⟩
theorem r_sortBy (x : Int32) : f_X8_sortBy σ x = some (srt x) := by
  unfold f_X8_sortBy srt
  by_cases a : x = 97
  · subst a; rfl
  by_cases b : x = 102
  · subst b; rfl
  by_cases c : x = 104
  · subst c; rfl
  by_cases d : x = 111
  · subst d; rfl
  by_cases e : x = 115
  · subst e; rfl
  rw [if_neg a, if_neg a, if_neg b, if_neg b, if_neg c, if_neg c, if_neg d, if_neg d, if_neg e, if_neg e]
theorem r_rd {m p : Nat} (hn : 2000 ≤ n) (hm : m ≤ 6) (h : TK B L σ p) (h4 : σ 83 4 = nI m) : (∃ e τ, pReader B L m p = .inl e ∧ f_X8_isReader n σ = some (0, τ) ∧ FL τ e ∧ Fr σ τ) ∨ ∃ v p' τ, pReader B L m p = .inr (v, p') ∧ f_X8_isReader n σ = some (1, τ) ∧ RB B L τ p' ∧ Fr σ τ ∧ τ 83 = addR (σ 83) m (srt (pkB B L p)) v := by
  obtain ⟨k1, k2, k3, k4, k5⟩ := h
  obtain ⟨s1, s2⟩ := srt_tk (B := B) k5
  have e0 : f_X8_isReader n σ = f_X8_isReader_b18 n (srt (pkB B L p)) σ := by
    unfold f_X8_isReader
    rw [k4, ← s1]
    by_cases q : tkB B L p ≤ 0
    · rw [if_pos q, if_pos q]
    · rw [if_neg q, if_neg q, r_sortBy, Option.bind_some]
  have bad : ∀ x : Int32, f_X8_fails x σ = some (0, mset σ 77 10 x) ∧ FL (mset σ 77 10 x) (x, p) ∧ Fr σ (mset σ 77 10 x) := fun x =>
    ⟨rfl, ⟨ms_at, by rw [ms_off (Or.inr (by decide))]; exact k3⟩, Fr.ms77 (by omega)⟩
  rw [e0]
  unfold f_X8_isReader_b18 pReader
  by_cases s0 : srt (pkB B L p) = 0
  · obtain ⟨f1, f2, f3⟩ := bad 1
    rw [if_pos s0, if_pos s0, f1]
    exact Or.inl ⟨(1, p), _, rfl, rfl, f2, f3⟩
  obtain ⟨z1, z2⟩ := s2 s0
  rw [if_neg s0, if_neg s0, if_pos (show inB 4 33 = true by decide), tl4, h4, Option.bind_some]
  by_cases m6 : m = 6
  · subst m6
    obtain ⟨f1, f2, f3⟩ := bad 3
    rw [if_pos (show nI 6 = 6 from rfl), if_pos (show (6 : Nat) = 6 from rfl), f1]
    exact Or.inl ⟨(3, p), _, rfl, rfl, f2, f3⟩
  rw [if_neg (show ¬ nI m = 6 from fun w => m6 ((nI_inj (b := 6) (by omega) (by decide)).mp w)), if_neg m6, nI9, nI15, nI21, nI27, if_pos (inB_nI (by omega) (by decide)), tn_nI (by omega), Option.bind_some]
  have hb : RB B L (mset σ 83 (9 + m) (srt (pkB B L p))) (p + 1) := ⟨k1.fr Fr.ms83, by rw [ms_cell (by decide), k2, z1], by omega⟩
  rcases r_three (t1 := 9) (t2 := 30) (t3 := 9) hn (show 15 + m < 33 by omega) (show 21 + m < 33 by omega) (show 27 + m < 33 by omega) hb with ⟨e, τ, a1, a2, a3, a4⟩ | ⟨v, p', τ, a1, a2, a3, a4, a5⟩
  · rw [a1, a2]
    exact Or.inl ⟨e, τ, rfl, rfl, a3, Fr.ms83.tr a4⟩
  · rw [a1, a2, Option.bind_some]
    dsimp only
    have e4 : τ 83 4 = nI m := by
      rw [a5, pk_un (by omega), pk_un (by omega), pk_un (by omega), ms_off (Or.inr (by omega))]; exact h4
    rw [if_neg (by decide), if_pos (by decide), e4, nI_1, Option.bind_some]
    refine Or.inr ⟨v, p', mset τ 83 4 (nI (m + 1)), rfl, rfl, ⟨a3.1.fr Fr.ms83, by rw [ms_cell (by decide)]; exact a3.2.1, a3.2.2⟩, Fr.ms83.tr (a4.tr Fr.ms83), ?_⟩
    rw [mset_row, a5, mset_row]
    rfl
theorem tk_end {p : Nat} (hp : p ≤ L) : tkB B L p = -2 ↔ p = L := by
  unfold tkB
  by_cases q : p = L
  · rw [if_pos q]; exact ⟨fun _ => q, fun _ => rfl⟩
  · rw [if_neg q]
    refine ⟨fun w => ?_, fun w => absurd w q⟩
    exfalso
    by_cases d : isD (B p) = true
    · rw [if_pos d] at w
      by_cases z : dcB B (L - p) p ≤ 2
      · rw [if_pos z] at w; exact absurd w (by decide)
      · rw [if_neg z] at w; exact absurd w (by decide)
    · rw [if_neg d] at w
      by_cases l : isLt (B p) = true
      · rw [if_pos l] at w; rw [w] at l; exact absurd l (by decide)
      · rw [if_neg l] at w; exact absurd w (by decide)
theorem r_loop (hn : 2000 ≤ n) : ∀ (k m p f : Nat) (σ : Mem), k + m = 7 → m ≤ 6 → k < f → TK B L σ p → σ 83 4 = nI m → (∃ e τ, pLoop B L k p (σ 83) m = .inl e ∧ f_X8_isRead_l79 n f σ = some (0, τ) ∧ FL τ e ∧ Fr σ τ) ∨ ∃ g' τ, pLoop B L k p (σ 83) m = .inr g' ∧ f_X8_isRead_l79 n f σ = some (1, τ) ∧ τ 83 = g' ∧ Fr σ τ := by
  intro k
  induction k with
  | zero => intro m p f σ h1 h2; omega
  | succ k ih =>
    intro m p f σ hk hm hf h h4
    obtain ⟨f, rfl⟩ : ∃ f', f = f' + 1 := ⟨f - 1, by omega⟩
    have u : f_X8_isRead_l79 n (f + 1) σ = f_X8_isRead_b79 n (f_X8_isRead_l79 n f) σ := rfl
    rw [u]
    unfold f_X8_isRead_b79
    rw [h.2.2.2.1, pLoop]
    by_cases q : p = L
    · rw [if_pos ((tk_end h.2.2.2.2).mpr q), if_pos q]
      exact Or.inr ⟨σ 83, σ, rfl, rfl, rfl, Fr.rf⟩
    rw [if_neg (fun w => q ((tk_end h.2.2.2.2).mp w)), if_neg q]
    rcases r_rd hn hm h h4 with ⟨e, τ, a1, a2, a3, a4⟩ | ⟨v, p', τ, a1, a2, a3, a4, a5⟩
    · rw [a1, a2]
      exact Or.inl ⟨e, τ, rfl, rfl, a3, a4⟩
    · have hm6 : m ≠ 6 := by
        intro z
        subst z
        unfold pReader at a1
        by_cases s0 : srt (pkB B L p) = 0
        · rw [if_pos s0] at a1; cases a1
        · rw [if_neg s0, if_pos rfl] at a1; cases a1
      obtain ⟨υ, b1, b2, -, b4, b5⟩ := r_next hn a3
      have fr : Fr τ υ := ⟨fun a h1 _ => b5 a h1, fun j hj => b4 j (by omega)⟩
      have e83 : υ 83 = addR (σ 83) m (srt (pkB B L p)) v := (b5 83 (by decide)).trans a5
      rw [a1, a2, Option.bind_some]
      dsimp only
      rw [if_neg (by decide), b1, Option.bind_some]
      show (∃ e τ, pLoop B L k p' (addR (σ 83) m (srt (pkB B L p)) v) (m + 1) = _ ∧ _) ∨ ∃ g' τ, pLoop B L k p' (addR (σ 83) m (srt (pkB B L p)) v) (m + 1) = _ ∧ _
      rw [← e83]
      rcases ih (m + 1) p' f υ (by omega) (by omega) (by omega) b2 (by rw [e83]; exact addR_4) with ⟨e, ω, c1, c2, c3, c4⟩ | ⟨g', ω, c1, c2, c3, c4⟩
      · exact Or.inl ⟨e, ω, c1, c2, c3, a4.tr (fr.tr c4)⟩
      · exact Or.inr ⟨g', ω, c1, c2, c3, a4.tr (fr.tr c4)⟩
theorem r_zero {r : Nat} : ∀ (k i f : Nat), i + k = 33 → k < f → ∃ r, f_X8_isRead_l2 n f (nI i) (fillm σ 83 i 0) = f_X8_isRead_b2 n r (nI 33) (fillm σ 83 33 0) := by
  intro k
  induction k with
  | zero =>
    intro i f hi hf
    obtain ⟨f, rfl⟩ : ∃ f', f = f' + 1 := ⟨f - 1, by omega⟩
    have e : i = 33 := by omega
    subst e
    exact ⟨_, rfl⟩
  | succ k ih =>
    intro i f hi hf
    obtain ⟨f, rfl⟩ : ∃ f', f = f' + 1 := ⟨f - 1, by omega⟩
    obtain ⟨r, hr⟩ := ih (i + 1) f (by omega) (by omega)
    refine ⟨r, ?_⟩
    rw [← hr]
    show f_X8_isRead_b2 n (f_X8_isRead_l2 n f) (nI i) _ = _
    unfold f_X8_isRead_b2
    have e : mset (fillm σ 83 i 0) 83 i 0 = fillm σ 83 (i + 1) 0 := by
      funext c j
      unfold fillm
      rw [ms_if]
      by_cases h1 : c = 83 ∧ j = i
      · rw [if_pos h1, if_pos ⟨h1.1, by omega⟩]
      · rw [if_neg h1]
        by_cases h2 : c = 83 ∧ j < i
        · rw [if_pos h2, if_pos ⟨h2.1, by omega⟩]
        · rw [if_neg h2, if_neg (fun q => by
            rcases Nat.lt_or_ge j i with w | w
            · exact h2 ⟨q.1, w⟩
            · exact h1 ⟨q.1, by omega⟩)]
    rw [if_neg (fun w => by have := (nI_le_lit (n := 33) (by omega) (by omega)).mp w; omega), if_pos (inB_nI (by omega) (by decide)), tn_nI (by omega), Option.bind_some, e, nI_1]
def g00 (σ : Mem) : Nat → Int32 := fillm σ 83 33 0 83
theorem g00_lo {σ : Mem} {j : Nat} (h : j < 33) : g00 σ j = 0 := if_pos ⟨rfl, h⟩
theorem r_read (hn : 2000 ≤ n) (hb : RY B L σ) : (∃ e τ, pText B L (g00 σ) = .inl e ∧ f_X8_isRead n σ = some (0, τ) ∧ FL τ e ∧ Fr σ τ) ∨ ∃ g' τ, pText B L (g00 σ) = .inr g' ∧ f_X8_isRead n σ = some (1, τ) ∧ τ 83 = g' ∧ Fr σ τ := by
  obtain ⟨r, hr⟩ := r_zero (n := n) (σ := σ) (r := 0) 33 0 n (by omega) (by omega)
  have h0 : fillm σ 83 0 0 = σ := by funext c j; unfold fillm; rw [if_neg (by omega)]
  rw [h0] at hr
  have e0 : f_X8_isRead n σ = f_X8_isRead_b2 n r (nI 33) (fillm σ 83 33 0) := hr
  have fr0 : Fr σ (mset (fillm σ 83 33 0) 77 6 0) := Fr.tr (τ := fillm σ 83 33 0) ⟨fun a _ h => fillm_ne h, fun j _ => by rw [fillm_ne (by decide)]⟩ (Fr.ms77 (by omega))
  have hb0 : RB B L (mset (fillm σ 83 33 0) 77 6 0) 0 := ⟨hb.fr fr0, ms_at, Nat.zero_le _⟩
  have e83 : mset (fillm σ 83 33 0) 77 6 0 83 = g00 σ := ms_cell (by decide)
  rw [e0]
  unfold f_X8_isRead_b2 pText
  rw [if_pos (show (33 : Int32) ≤ nI 33 by decide), Option.bind_some]
  rcases r_sign (c := 112) hn (by decide) hb0 with ⟨e, τ, a1, a2, a3, a4, a5⟩ | ⟨p1, τ, a1, a2, a3, a4, a5⟩
  · rw [a1, a2]
    exact Or.inl ⟨e, τ, rfl, rfl, a3, fr0.tr a4⟩
  rw [a1, a2, Option.bind_some]
  dsimp only
  rw [if_neg (by decide)]
  show (∃ e τ, sb (pThree B L 9 20 60 p1) _ = _ ∧ _) ∨ ∃ g' τ, sb (pThree B L 9 20 60 p1) _ = _ ∧ _
  have key := r_three (t1 := 9) (t2 := 20) (t3 := 60) hn (show 5 < 33 by decide) (show 6 < 33 by decide) (show 7 < 33 by decide) a3
  have n5 : nI 5 = 5 := rfl
  have n6 : nI 6 = 6 := rfl
  have n7 : nI 7 = 7 := rfl
  rw [n5, n6, n7] at key
  rcases key with ⟨e, υ, b1, b2, b3, b4⟩ | ⟨v, p2, υ, b1, b2, b3, b4, b5⟩
  · rw [b1, b2]
    exact Or.inl ⟨e, υ, rfl, rfl, b3, fr0.tr (a4.tr b4)⟩
  rw [b1, b2, Option.bind_some]
  dsimp only
  rw [if_neg (by decide), if_pos (by decide), if_pos (by decide)]
  simp only [Option.bind_some, inL (show inB 8 33 = true by decide), if_true, tl0, tl5, tl8]
  have hv5 : υ 83 5 = v.1 := by rw [b5, pk_un (by decide), pk_un (by decide), pk_us]
  have fr2 : Fr υ (mset (mset υ 83 0 (υ 83 5)) 83 8 1) := Fr.ms83.tr Fr.ms83
  obtain ⟨ω, c1, c2, -, c4, c5⟩ := r_next (σ := mset (mset υ 83 0 (υ 83 5)) 83 8 1) hn ⟨b3.1.fr fr2, by rw [ms_cell (by decide), ms_cell (by decide)]; exact b3.2.1, b3.2.2⟩
  have fr3 : Fr (mset (mset υ 83 0 (υ 83 5)) 83 8 1) ω := ⟨fun a h1 _ => c5 a h1, fun j hj => c4 j (by omega)⟩
  have g83 : ω 83 = lawG (g00 σ) v := by
    rw [c5 83 (by decide), mset_row, mset_row, hv5, b5, a5, e83]; rfl
  rw [c1, Option.bind_some]
  show (∃ e τ, pLoop B L 7 p2 (lawG (g00 σ) v) 0 = _ ∧ _) ∨ ∃ g' τ, pLoop B L 7 p2 (lawG (g00 σ) v) 0 = _ ∧ _
  rw [← g83]
  have frA := fr0.tr (a4.tr (b4.tr (fr2.tr fr3)))
  rcases r_loop hn 7 0 p2 n ω (by omega) (by omega) (by omega) c2 (by rw [g83]; exact g00_lo (σ := σ) (j := 4) (by decide)) with ⟨e, κ, d1, d2, d3, d4⟩ | ⟨g', κ, d1, d2, d3, d4⟩
  · exact Or.inl ⟨e, κ, d1, d2, d3, frA.tr d4⟩
  · exact Or.inr ⟨g', κ, d1, d2, d3, frA.tr d4⟩
/-! what a text that has no fault is worth -/
def OkG (g : Nat → Int32) (m : Nat) : Prop := m ≤ 6 ∧ g 4 = nI m ∧ g 8 = 1 ∧ g 0 = g 5 ∧ g 1 = 0 ∧ g 2 = 0 ∧ g 3 = 0 ∧ Btw (g 5) 0 9 ∧ Btw (g 7) 0 60 ∧ ∀ r, r < m → Btw (g (15 + r)) 0 9 ∧ Btw (g (21 + r)) 0 30 ∧ Btw (g (27 + r)) 0 9 ∧ Btw (g (9 + r)) 1 5
theorem srt_rng {x : Int32} (h : ¬ srt x = 0) : Btw (srt x) 1 5 := by
  unfold srt at h ⊢
  unfold Btw
  by_cases a : x = 97
  · rw [if_pos a]; decide
  rw [if_neg a] at h ⊢
  by_cases b : x = 102
  · rw [if_pos b]; decide
  rw [if_neg b] at h ⊢
  by_cases c : x = 104
  · rw [if_pos c]; decide
  rw [if_neg c] at h ⊢
  by_cases d : x = 111
  · rw [if_pos d]; decide
  rw [if_neg d] at h ⊢
  by_cases e : x = 115
  · rw [if_pos e]; decide
  rw [if_neg e] at h
  exact absurd rfl h
theorem pThree_rng {t1 t2 t3 : Int32} {p p' : Nat} {v : Int32 × Int32 × Int32} (h : pThree B L t1 t2 t3 p = .inr (v, p')) : Btw v.1 0 t1.toInt ∧ Btw v.2.1 0 t2.toInt ∧ Btw v.2.2 0 t3.toInt := by
  obtain ⟨a, h1, h2⟩ := sb_inr h
  obtain ⟨b, h3, h4⟩ := sb_inr h2
  obtain ⟨c, h5, h6⟩ := sb_inr h4
  cases h6
  have one : ∀ {t ch : Int32} {q : Nat} {a : Int32 × Nat}, pOne B L t ch q = .inr a → Btw a.1 0 t.toInt := by
    intro t ch q a e
    obtain ⟨x, e1, e2⟩ := sb_inr e
    obtain ⟨y, e3, e4⟩ := sb_inr e2
    cases e4
    exact pNum_rng (p' := x.2) (v := x.1) e1
  exact ⟨one h1, one h3, one h5⟩
theorem OkG.add {g : Nat → Int32} {m p p' : Nat} {v : Int32 × Int32 × Int32} (h : OkG g m) (hr : pReader B L m p = .inr (v, p')) : m < 6 ∧ OkG (addR g m (srt (pkB B L p)) v) (m + 1) := by
  obtain ⟨h6, h4, h8, h0, h1, h2, h3, h5, h7, hq⟩ := h
  unfold pReader at hr
  by_cases s0 : srt (pkB B L p) = 0
  · rw [if_pos s0] at hr; cases hr
  by_cases m6 : m = 6
  · rw [if_neg s0, if_pos m6] at hr; cases hr
  rw [if_neg s0, if_neg m6] at hr
  obtain ⟨r1, r2, r3⟩ := pThree_rng hr
  refine ⟨by omega, by omega, addR_4, ?_, ?_, ?_, ?_, ?_, ?_, ?_, fun r hlt => ?_⟩
  · rw [addR_lo (by decide) (by decide)]; exact h8
  · rw [addR_lo (by decide) (by decide), addR_lo (by decide) (by decide)]; exact h0
  · rw [addR_lo (by decide) (by decide)]; exact h1
  · rw [addR_lo (by decide) (by decide)]; exact h2
  · rw [addR_lo (by decide) (by decide)]; exact h3
  · rw [addR_lo (by decide) (by decide)]; exact h5
  · rw [addR_lo (by decide) (by decide)]; exact h7
  · obtain ⟨w1, w2, w3, w4⟩ := addR_at (g := g) (s := srt (pkB B L p)) (v := v) (show r ≤ m by omega) (by omega)
    rw [w1, w2, w3, w4]
    by_cases q : r = m
    · rw [if_pos q, if_pos q, if_pos q, if_pos q]
      exact ⟨r1, r2, r3, srt_rng s0⟩
    · rw [if_neg q, if_neg q, if_neg q, if_neg q]
      exact hq r (by omega)
theorem pLoop_ok : ∀ (k m p : Nat) (g g' : Nat → Int32), k + m = 7 → m ≤ 6 → OkG g m → pLoop B L k p g m = .inr g' → ∃ m', OkG g' m' := by
  intro k
  induction k with
  | zero => intro m p g g' h1 h2; omega
  | succ k ih =>
    intro m p g g' hk hm h hp
    rw [pLoop] at hp
    by_cases q : p = L
    · rw [if_pos q] at hp; cases hp; exact ⟨m, h⟩
    rw [if_neg q] at hp
    obtain ⟨a, e1, e2⟩ := sb_inr hp
    obtain ⟨m6, ok⟩ := h.add (p' := a.2) (v := a.1) e1
    exact ih (m + 1) a.2 _ g' (by omega) (by omega) ok e2
theorem pText_ok {g g' : Nat → Int32} (h0 : ∀ j, j < 33 → g j = 0) (h : pText B L g = .inr g') : ∃ m', OkG g' m' := by
  obtain ⟨a, e1, e2⟩ := sb_inr h
  obtain ⟨p, e3, e4⟩ := sb_inr e1
  obtain ⟨r1, r2, r3⟩ := pThree_rng (p' := a.2) (v := a.1) e4
  have l0 : lawG g a.1 0 = a.1.1 := rfl
  have l5 : lawG g a.1 5 = a.1.1 := rfl
  have l7 : lawG g a.1 7 = a.1.2.2 := rfl
  have l8 : lawG g a.1 8 = 1 := rfl
  have lj : ∀ j, j = 1 ∨ j = 2 ∨ j = 3 ∨ j = 4 → lawG g a.1 j = 0 := fun j hj => by
    unfold lawG
    rw [pk_un (by omega), pk_un (by omega), pk_un (by omega), pk_un (by omega), pk_un (by omega)]
    exact h0 j (by omega)
  have ok : OkG (lawG g a.1) 0 := by
    refine ⟨by decide, lj 4 (by omega), l8, l0.trans l5.symm, lj 1 (by omega), lj 2 (by omega), lj 3 (by omega), ?_, ?_, fun r hr => by omega⟩
    · rw [l5]; exact r1
    · rw [l7]; exact r3
  exact pLoop_ok 7 0 a.2 _ g' rfl (by decide) ok e2
theorem OkG.okt {g : Nat → Int32} {m : Nat} (h : OkG g m) : Okt g := by
  obtain ⟨h6, h4, h8, h0, h1, h2, h3, h5, h7, hq⟩ := h
  refine ⟨⟨m, h6, h4⟩, Or.inr h8, by rw [h0]; exact h5, by rw [h1]; exact ⟨by decide, by decide⟩, h5, h7, fun r hr hlt => ?_⟩
  rw [h4] at hlt
  exact hq r ((nI_lt_lit (by omega) (by omega)).mp hlt)
end RPARSE3
theorem s_town {σ : Mem} {n : Nat} (h : Inv σ) (hn : 2000 ≤ n) : Both σ (f_X7_town n) (f_X8_town n) := by
  obtain ⟨⟨L, hL, e1, e2⟩, eb, ef⟩ := h.2.2.1
  have hcb : σ 13 1 = nI L ∧ L ≤ 100 ∧ ∀ i, i < 100 → σ 14 i = σ 81 i := ⟨e1, hL, eb⟩
  have g4 : g00 σ 4 = 0 := g00_lo (by decide)
  obtain ⟨y, τ, c1, c2, c3⟩ := c_into (n := n) (B := σ 81) (g0 := g00 σ) (fo := σ 13 3) hn hcb rfl g4
  have rd : ∀ ρ : Mem, ρ 77 = σ 77 → ρ 81 = σ 81 → ρ 83 = σ 83 → (∃ e ω, pText (σ 81) L (g00 σ) = .inl e ∧ f_X8_isRead n ρ = some (0, ω) ∧ FL ω e ∧ Fr ρ ω) ∨ ∃ g' ω, pText (σ 81) L (g00 σ) = .inr g' ∧ f_X8_isRead n ρ = some (1, ω) ∧ ω 83 = g' ∧ Fr ρ ω := by
    intro ρ q1 q2 q3
    have eg : g00 ρ = g00 σ := by
      funext j
      unfold g00 fillm
      rw [q3]
    have := r_read (n := n) (B := σ 81) (L := L) (σ := ρ) hn ⟨by rw [q1]; exact e2, hL, fun i _ => by rw [q2]⟩
    rw [eg] at this
    exact this
  rcases c3 with ⟨e, p1, rfl, p3⟩ | ⟨g', p', m', p0, p1, rfl, p3, p4⟩
  · -- a fault
    obtain ⟨b1, b5, b3, b4, -⟩ := p3
    generalize hρ : mset τ 13 1 0 = ρ
    have o1 : ∀ a, a ≠ 13 → (a < 20 ∨ 25 ≤ a) → ρ a = σ a := fun a h1 h2 => by rw [← hρ, ms_cell h1, c2 a h1 h2]
    have r3 : ρ 13 3 = e.1 := by rw [← hρ, ms_off (Or.inr (by decide))]; exact b3
    have r4 : ρ 13 4 = nI e.2 := by rw [← hρ, ms_off (Or.inr (by decide))]; exact b4
    have r1 : ρ 13 1 = 0 := by rw [← hρ]; exact ms_at
    rcases rd ρ (o1 77 (by decide) (by decide)) (o1 81 (by decide) (by decide)) (o1 83 (by decide) (by decide)) with ⟨e', ω, w1, w2, w3, w4⟩ | ⟨g', ω, w1, -⟩
    rotate_left
    · rw [p1] at w1; cases w1
    rw [p1] at w1
    cases w1
    generalize hκ : mset (mset ω 77 4 0) 77 11 e.1 = κ
    refine ⟨(-1000100) - nI e.2, ρ, κ, ?_, ?_, ?_⟩
    · unfold f_X7_town
      rw [c1, Option.bind_some]
      dsimp only
      rw [Option.bind_some, hρ, if_pos rfl, r4]
    · unfold f_X8_town
      rw [w2, Option.bind_some]
      dsimp only
      rw [Option.bind_some, if_pos rfl, ms_off (Or.inr (by decide)), w3.1, hκ, Option.bind_some]
      rw [← hκ, ms_off (Or.inr (by decide)), ms_off (Or.inr (by decide)), w3.2]
    · have k77 : ∀ j, (j < 6 ∨ 11 ≤ j) → j ≠ 4 → j ≠ 11 → κ 77 j = σ 77 j := fun j h1 h2 h3 => by
        rw [← hκ, ms_off (Or.inr h3), ms_off (Or.inr h2), w4.2 j h1, o1 77 (by decide) (by decide)]
      have ko : ∀ a, a ≠ 77 → a ≠ 83 → κ a = ρ a := fun a h1 h2 => by rw [← hκ, ms_cell h1, ms_cell h1, w4.1 a h1 h2]
      have kk : ∀ a, a ≠ 13 → (a < 20 ∨ 25 ≤ a) → a ≠ 77 → a ≠ 83 → κ a = σ a := fun a h1 h2 h3 h4 => (ko a h3 h4).trans (o1 a h1 h2)
      have sm : ∀ P : Nat → Bool, (∀ a, 20 ≤ a → a < 25 → P a = false) → P 13 = false → P 77 = false → P 83 = false → Same P σ κ := fun P q1 q2 q3 q4 a ha => by
        refine kk a (fun z => by rw [z, q2] at ha; cases ha) ?_ (fun z => by rw [z, q3] at ha; cases ha) (fun z => by rw [z, q4] at ha; cases ha)
        rcases Nat.lt_or_ge a 20 with z | z
        · exact Or.inl z
        rcases Nat.lt_or_ge a 25 with z2 | z2
        · rw [q1 a z z2] at ha; cases ha
        · exact Or.inr z2
      obtain ⟨hR, hS, hT, hW, hI, hA, hC⟩ := h
      refine ⟨hR.congr (sm _ (fun a p1 p2 => by simp [pRow]; omega) rfl rfl rfl), hS.congr (by rw [kk 0 (by decide) (by decide) (by decide) (by decide)]) (k77 3 (by decide) (by decide) (by decide)), ⟨⟨0, by decide, ?_, ?_⟩, fun i hi => ?_, ?_⟩, hW.congr (sm _ (fun a p1 p2 => by simp [pTow]; omega) rfl rfl rfl), hI.congr (sm _ (fun a p1 p2 => by simp [pImg]; omega) rfl rfl rfl), hA.congr (sm _ (fun a p1 p2 => by simp [pAct]; omega) rfl rfl rfl) (by rw [kk 35 (by decide) (by decide) (by decide) (by decide)]) (by rw [kk 35 (by decide) (by decide) (by decide) (by decide)]) (k77 18 (by decide) (by decide) (by decide)), hC.congr (sm _ (fun a p1 p2 => by simp [pTrc]; omega) rfl rfl rfl) (by rw [kk 75 (by decide) (by decide) (by decide) (by decide)]) (k77 20 (by decide) (by decide) (by decide))⟩
      · rw [ko 13 (by decide) (by decide)]; exact r1
      · rw [← hκ, ms_off (Or.inr (by decide))]; exact ms_at
      · rw [kk 14 (by decide) (by decide) (by decide) (by decide), kk 81 (by decide) (by decide) (by decide) (by decide)]; exact eb i hi
      · rw [ko 13 (by decide) (by decide), r3, ← hκ]; exact ms_at.symm
  · -- a town
    obtain ⟨m, ok⟩ := pText_ok (fun j hj => g00_lo hj) p1
    obtain ⟨b1, b5, b3, -, -⟩ := p3
    obtain ⟨⟨t1, t2, t3, t4, t5⟩, tr⟩ := p4
    obtain ⟨o6, o4, o8, o0, oo1, oo2, oo3, -, -, -⟩ := id ok
    have hT20 : TwR (cStands (mset (mset τ 13 1 0) 20 0 1) 20 (τ 20 1) 0 0 0) 20 g' := by
      refine ⟨?_, fun r hr hlt => ?_⟩
      · simp only [cStands_if]
        simp [ms_if, t1, t2, t3, t4, t5, o8, o0, oo1, oo2, oo3]
      · rw [t5] at hlt
        obtain ⟨z1, z2, z3, z4⟩ := tr r ((nI_lt_lit (by omega) (by omega)).mp hlt)
        rw [cStands_ne (by decide), cStands_ne (by decide), cStands_ne (by decide), cStands_ne (by decide)]
        exact ⟨z1, z2, z3, z4⟩
    generalize hρ0 : cStands (mset (mset τ 13 1 0) 20 0 1) 20 (τ 20 1) 0 0 0 = ρ0 at hT20
    have o00 : ∀ a, a ≠ 13 → (a < 20 ∨ 25 ≤ a) → ρ0 a = σ a := fun a h1 h2 => by rw [← hρ0, cStands_ne (by omega), ms_cell (by omega), ms_cell h1, c2 a h1 h2]
    have r13 : ρ0 13 1 = 0 ∧ ρ0 13 3 = σ 13 3 := by
      rw [← hρ0, cStands_ne (by decide), ms_cell (by decide)]
      exact ⟨ms_at, by rw [ms_off (Or.inr (by decide))]; exact b3⟩
    obtain ⟨ρ1, q1, q2, q3, q4⟩ := c_takeOver (σ := ρ0) (t := 15) (x := 20) rfl rfl (by decide) (by rw [hT20.1.1, o8]; rfl)
    have hT15 := q2 _ hT20
    generalize hρ : mset (mset ρ1 35 1 0) 35 2 0 = ρ
    have e15 : ∀ a, a < 35 → ρ a = ρ1 a := fun a ha => by rw [← hρ, ms_cell (by omega), ms_cell (by omega)]
    have cE : f_X7_town n σ = some (g' 4, ρ) := by
      unfold f_X7_town
      rw [c1, Option.bind_some]
      dsimp only
      rw [Option.bind_some, if_neg (by decide), if_pos (by decide), Option.bind_some]
      have bg : f_X6_begin 20 (mset (mset τ 13 1 0) 20 0 1) = some ρ0 := by
        unfold f_X6_begin
        rw [if_pos (show isTown 20 = true from rfl), c_copyStands (t := 20) rfl, ← hρ0]
        have : mset (mset τ 13 1 0) 20 0 1 20 1 = τ 20 1 := by rw [ms_off (Or.inr (by decide)), ms_cell (by decide)]
        rw [this]; rfl
      rw [bg, Option.bind_some, q1, Option.bind_some]
      have fg : f_X0_forget ρ1 = some ρ := by rw [← hρ]; rfl
      rw [fg, Option.bind_some, e15 15 (by decide)]
      rw [hT15.1.2.2.2.2.1]
    have oρ : ∀ a, a ≠ 13 → (a < 15 ∨ 25 ≤ a) → a ≠ 35 → ρ a = σ a := fun a h1 h2 h3 => by
      rw [← hρ, ms_cell h3, ms_cell h3, q4 a (by omega), o00 a h1 (by omega)]
    rcases rd ρ (oρ 77 (by decide) (by decide) (by decide)) (oρ 81 (by decide) (by decide) (by decide)) (oρ 83 (by decide) (by decide) (by decide)) with ⟨e', ω, w1, -⟩ | ⟨g2, ω, w1, w2, w3, w4⟩
    · rw [p1] at w1; cases w1
    rw [p1] at w1
    cases w1
    generalize hκ : mset (mcpy (mset ω 77 4 0) 83 0 82 0 33) 77 18 0 = κ
    have e82 : ∀ j, j < 33 → κ 82 j = g' j := fun j hj => by
      rw [← hκ, ms_cell (by decide)]
      have := lay_at (σ := mset ω 77 4 0) (a := 83) (fr := 0) (b := 82) (to := 0) hj
      rw [Nat.zero_add, ms_cell (by decide), w3] at this
      exact this
    refine ⟨g' 4, ρ, κ, cE, ?_, ?_⟩
    · unfold f_X8_town
      rw [w2, Option.bind_some]
      dsimp only
      have hl := r_lay (σ := mset ω 77 4 0) (n := n) (a := 83) (fr := 0) (b := 82) (to := 0) rfl rfl (by decide) (by decide) (by decide) (by decide) (by decide) (by omega)
      have hl' : f_X8_lay n 83 0 82 0 (mset ω 77 4 0) = some (mcpy (mset ω 77 4 0) 83 0 82 0 33) := hl
      rw [Option.bind_some, if_neg (by decide), hl', Option.bind_some, hκ, Option.bind_some, if_pos (by decide), tl4, e82 4 (by decide)]
    · have k77 : ∀ j, (j < 6 ∨ 11 ≤ j) → j ≠ 4 → j ≠ 18 → κ 77 j = σ 77 j := fun j h1 h2 h3 => by
        rw [← hκ, ms_off (Or.inr h3), mcpy_ne 77 (by decide), ms_off (Or.inr h2), w4.2 j h1, oρ 77 (by decide) (by decide) (by decide)]
      have ko : ∀ a, a ≠ 77 → a ≠ 82 → a ≠ 83 → κ a = ρ a := fun a h1 h2 h3 => by rw [← hκ, ms_cell h1, mcpy_ne a h2, ms_cell h1, w4.1 a h1 h3]
      have kk : ∀ a, a ≠ 13 → (a < 15 ∨ 25 ≤ a) → a ≠ 35 → a ≠ 77 → a ≠ 82 → a ≠ 83 → κ a = σ a := fun a h1 h2 h3 h4 h5 h6 => (ko a h4 h5 h6).trans (oρ a h1 h2 h3)
      have sm : ∀ P : Nat → Bool, (∀ a, 15 ≤ a → a < 25 → P a = false) → P 13 = false → P 35 = false → P 77 = false → P 82 = false → P 83 = false → Same P σ κ := fun P q1 q2 q3 q4 q5 q6 a ha => by
        refine kk a (fun z => by rw [z, q2] at ha; cases ha) ?_ (fun z => by rw [z, q3] at ha; cases ha) (fun z => by rw [z, q4] at ha; cases ha) (fun z => by rw [z, q5] at ha; cases ha) (fun z => by rw [z, q6] at ha; cases ha)
        rcases Nat.lt_or_ge a 15 with z | z
        · exact Or.inl z
        rcases Nat.lt_or_ge a 25 with z2 | z2
        · rw [q1 a z z2] at ha; cases ha
        · exact Or.inr z2
      have eq82 : EqT (κ 82) g' := EqT.of33 e82
      obtain ⟨hR, hS, hT, hW, hI, hA, hC⟩ := h
      refine ⟨hR.congr (sm _ (fun a p1 p2 => by simp [pRow]; omega) rfl rfl rfl rfl rfl), hS.congr (by rw [kk 0 (by decide) (by decide) (by decide) (by decide) (by decide) (by decide)]) (k77 3 (by decide) (by decide) (by decide)), ⟨⟨0, by decide, ?_, ?_⟩, fun i hi => ?_, ?_⟩, ⟨ok.okt.eqT eq82, ?_⟩, hI.congr (sm _ (fun a p1 p2 => by simp [pImg]; omega) rfl rfl rfl rfl rfl), ⟨0, 0, by decide, by decide, ?_, ?_, ?_, fun i hi => by omega⟩, hC.congr (sm _ (fun a p1 p2 => by simp [pTrc]; omega) rfl rfl rfl rfl rfl) (by rw [kk 75 (by decide) (by decide) (by decide) (by decide) (by decide) (by decide)]) (k77 20 (by decide) (by decide) (by decide))⟩
      · rw [ko 13 (by decide) (by decide) (by decide), e15 13 (by decide), q4 13 (by decide)]; exact r13.1
      · rw [← hκ, ms_off (Or.inr (by decide)), mcpy_ne 77 (by decide)]; exact ms_at
      · rw [kk 14 (by decide) (by decide) (by decide) (by decide) (by decide) (by decide), kk 81 (by decide) (by decide) (by decide) (by decide) (by decide) (by decide)]; exact eb i hi
      · rw [ko 13 (by decide) (by decide) (by decide), e15 13 (by decide), q4 13 (by decide), r13.2, k77 11 (by decide) (by decide) (by decide)]; exact ef
      · refine TwR.eqT ?_ eq82
        exact hT15.congr (by rw [ko 15 (by decide) (by decide) (by decide), e15 15 (by decide)]) (by rw [ko (15+1) (by decide) (by decide) (by decide), e15 (15+1) (by decide)]) (by rw [ko (15+2) (by decide) (by decide) (by decide), e15 (15+2) (by decide)]) (by rw [ko (15+3) (by decide) (by decide) (by decide), e15 (15+3) (by decide)]) (by rw [ko (15+4) (by decide) (by decide) (by decide), e15 (15+4) (by decide)])
      · rw [ko 35 (by decide) (by decide) (by decide), ← hρ, ms_off (Or.inr (by decide))]; exact ms_at
      · rw [ko 35 (by decide) (by decide) (by decide), ← hρ]; exact ms_at
      · rw [← hκ]; exact ms_at
