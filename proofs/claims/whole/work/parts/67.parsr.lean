/-! ===== the reference reads the text ===== -/
def isLt (x : Int32) : Bool := (!decide (x < 97) && !decide (122 < x)) || decide (x = 44) || decide (x = 59)
def tkB (B : Nat → Int32) (L p : Nat) : Int32 := if p = L then -2 else if isD (B p) = true then (if dcB B (L - p) p ≤ 2 then -1 else -3) else if isLt (B p) = true then B p else -3
def tnB (B : Nat → Int32) (L p : Nat) : Nat := if p = L then p else if isD (B p) = true then p + dcB B (L - p) p else p + 1
def RY (B : Nat → Int32) (L : Nat) (σ : Mem) : Prop := σ 77 4 = nI L ∧ L ≤ 100 ∧ ∀ i, i < 100 → σ 81 i = B i
def RB (B : Nat → Int32) (L : Nat) (σ : Mem) (p : Nat) : Prop := RY B L σ ∧ σ 77 6 = nI p ∧ p ≤ L
def TK (B : Nat → Int32) (L : Nat) (σ : Mem) (p : Nat) : Prop := RY B L σ ∧ σ 77 6 = nI (tnB B L p) ∧ σ 77 7 = nI p ∧ σ 77 8 = tkB B L p ∧ p ≤ L
def Fr (σ τ : Mem) : Prop := (∀ a, a ≠ 77 → a ≠ 83 → τ a = σ a) ∧ ∀ j, (j < 6 ∨ 11 ≤ j) → τ 77 j = σ 77 j
theorem Fr.tr {σ τ υ : Mem} (h : Fr σ τ) (k : Fr τ υ) : Fr σ υ := ⟨fun a h1 h2 => (k.1 a h1 h2).trans (h.1 a h1 h2), fun j hj => (k.2 j hj).trans (h.2 j hj)⟩
theorem Fr.rf {σ : Mem} : Fr σ σ := ⟨fun _ _ _ => rfl, fun _ _ => rfl⟩
theorem Fr.ms83 {σ : Mem} {k : Nat} {v : Int32} : Fr σ (mset σ 83 k v) := ⟨fun a _ h => ms_cell h, fun j _ => by rw [ms_cell (by decide)]⟩
theorem Fr.ms77 {σ : Mem} {k : Nat} {v : Int32} (h : 6 ≤ k ∧ k ≤ 10) : Fr σ (mset σ 77 k v) := ⟨fun a h _ => ms_cell h, fun j hj => ms_off (Or.inr (by omega))⟩
def FL (τ : Mem) (e : Int32 × Nat) : Prop := τ 77 10 = e.1 ∧ τ 77 7 = nI e.2
section RPARSE
variable {B : Nat → Int32} {L n : Nat} {σ : Mem}
theorem RY.fr {τ : Mem} (h : RY B L σ) (f : Fr σ τ) : RY B L τ := ⟨(f.2 4 (by omega)).trans h.1, h.2.1, fun i hi => by rw [f.1 81 (by decide) (by decide)]; exact h.2.2 i hi⟩
theorem tnB_le {p : Nat} (hp : p ≤ L) : tnB B L p ≤ L ∧ p ≤ tnB B L p := by
  unfold tnB
  have := dcB_le (B := B) (L - p) p
  by_cases q : p = L
  · rw [if_pos q]; omega
  · rw [if_neg q]
    by_cases w : isD (B p) = true
    · rw [if_pos w]; omega
    · rw [if_neg w]; omega
theorem r_b139 {p c : Nat} (hpc : p + c ≤ 100) (h6 : σ 77 6 = nI (p + c)) (h7 : σ 77 7 = nI p) : f_X8_nextToken_b139 n σ = some (mset σ 77 8 (if c ≤ 2 then -1 else -3)) := by
  unfold f_X8_nextToken_b139 f_X8_nextToken_b159
  rw [h6, h7, pk_sub (by omega), show p + c - p = c by omega]
  by_cases q : c ≤ 2
  · rw [if_pos (show nI c ≤ 2 from (nI_le_lit (k := 2) (by omega) (by decide)).mpr q), if_pos q]; rfl
  · rw [if_neg (show ¬ nI c ≤ 2 from fun w => q ((nI_le_lit (k := 2) (by omega) (by decide)).mp w)), if_neg q]; rfl
theorem r_nt_l {p : Nat} : ∀ (r k f : Nat) (σ : Mem), p + k + r = L → r < f → RY B L σ → σ 77 6 = nI (p + k) → σ 77 7 = nI p → σ 77 9 = vlB B p k → ∃ τ, f_X8_nextToken_l52 n f σ = some τ ∧ τ 77 6 = nI (p + (k + dcB B r (p + k))) ∧ τ 77 7 = nI p ∧ τ 77 8 = (if k + dcB B r (p + k) ≤ 2 then -1 else -3) ∧ τ 77 9 = vlB B p (k + dcB B r (p + k)) ∧ (∀ j, j < 6 ∨ 10 ≤ j → τ 77 j = σ 77 j) ∧ ∀ a, a ≠ 77 → τ a = σ a := by
  intro r
  induction r with
  | zero =>
    intro k f σ hr hf hb h6 h7 h9
    obtain ⟨f, rfl⟩ : ∃ f', f = f' + 1 := ⟨f - 1, by omega⟩
    have hL := hb.2.1
    refine ⟨mset σ 77 8 (if k ≤ 2 then -1 else -3), ?_, ?_, ?_, ms_at, ?_, fun j hj => ms_off (Or.inr (by omega)), fun a ha => ms_cell ha⟩
    · show f_X8_nextToken_b52 n _ σ = _
      unfold f_X8_nextToken_b52
      rw [hb.1, h6, if_pos ((nI_le_lit (by omega) (by omega)).mpr (by omega)), r_b139 (by omega) h6 h7]
    · rw [ms_off (Or.inr (by decide))]; exact h6
    · rw [ms_off (Or.inr (by decide))]; exact h7
    · rw [ms_off (Or.inr (by decide))]; exact h9
  | succ r ih =>
    intro k f σ hr hf hb h6 h7 h9
    obtain ⟨f, rfl⟩ : ∃ f', f = f' + 1 := ⟨f - 1, by omega⟩
    have hL := hb.2.1
    have u : f_X8_nextToken_l52 n (f + 1) σ = f_X8_nextToken_b52 n (f_X8_nextToken_l52 n f) σ := rfl
    rw [u]
    unfold f_X8_nextToken_b52 f_X8_nextToken_b123
    rw [hb.1, h6, h7, if_neg (fun w => by have := (nI_le_lit (by omega) (by omega)).mp w; omega), if_pos (inB_nI (by omega) (by decide)), tn_nI (by omega), hb.2.2 _ (by omega), r_in, Option.bind_some, dcB]
    have eD : (!decide (B (p + k) < 48) && !decide (57 < B (p + k))) = isD (B (p + k)) := rfl
    rw [eD]
    by_cases q : isD (B (p + k)) = true
    · rw [if_pos q, q, b2i_t, if_neg (by decide), pk_sub (by omega), show p + k - p = k by omega]
      have key : ∀ v, v = vlB B p (k + 1) → ∃ τ, ((some (mset σ 77 9 v)).bind fun σ1 => (some (mset σ1 77 6 (σ1 77 6 + 1))).bind fun σ2 => f_X8_nextToken_l52 n f σ2) = some τ ∧ τ 77 6 = nI (p + (k + (dcB B r (p + k + 1) + 1))) ∧ τ 77 7 = nI p ∧ τ 77 8 = (if k + (dcB B r (p + k + 1) + 1) ≤ 2 then -1 else -3) ∧ τ 77 9 = vlB B p (k + (dcB B r (p + k + 1) + 1)) ∧ (∀ j, j < 6 ∨ 10 ≤ j → τ 77 j = σ 77 j) ∧ ∀ a, a ≠ 77 → τ a = σ a := by
        intro v hv
        have e6 : mset σ 77 9 v 77 6 = nI (p + k) := by rw [ms_off (Or.inr (by decide))]; exact h6
        obtain ⟨τ, t1, t2, t3, t4, t5, t6, t7⟩ := ih (k + 1) f (mset (mset σ 77 9 v) 77 6 (nI (p + k + 1))) (by omega) (by omega) (hb.fr ((Fr.ms77 (by omega)).tr (Fr.ms77 (by omega)))) (by rw [show p + (k + 1) = p + k + 1 by omega]; exact ms_at) (by rw [ms_off (Or.inr (by decide)), ms_off (Or.inr (by decide))]; exact h7) (by rw [ms_off (Or.inr (by decide)), ← hv]; exact ms_at)
        rw [show p + (k + 1) = p + k + 1 by omega, show k + 1 + dcB B r (p + k + 1) = k + (dcB B r (p + k + 1) + 1) by omega] at t2 t4 t5
        refine ⟨τ, ?_, t2, t3, t4, t5, fun j hj => by rw [t6 j hj, ms_off (Or.inr (by omega)), ms_off (Or.inr (by omega))], fun a ha => by rw [t7 a ha, ms_cell ha, ms_cell ha]⟩
        simp only [Option.bind_some]
        rw [e6, nI_1]; exact t1
      by_cases w : (2 : Int32) ≤ nI k
      · have hk : 2 ≤ k := (nI_le_lit (n := 2) (by decide) (by omega)).mp w
        obtain ⟨k', rfl⟩ : ∃ k', k = k' + 2 := ⟨k - 2, by omega⟩
        rw [if_pos w]; exact key _ h9
      · have hk : ¬ 2 ≤ k := fun z => w ((nI_le_lit (n := 2) (by decide) (by omega)).mpr z)
        rw [if_neg w, if_pos (inB_nI (by omega) (by decide)), h9]
        rcases (show k = 0 ∨ k = 1 by omega) with rfl | rfl
        · exact key _ rfl
        · exact key _ rfl
    · have q' : isD (B (p + k)) = false := by simpa using q
      rw [if_neg q, q', b2i_f, if_pos rfl, r_b139 (by omega) h6 h7]
      refine ⟨_, rfl, ?_, ?_, ms_at, ?_, fun j hj => ms_off (Or.inr (by omega)), fun a ha => ms_cell ha⟩
      · rw [ms_off (Or.inr (by decide))]; exact h6
      · rw [ms_off (Or.inr (by decide))]; exact h7
      · rw [ms_off (Or.inr (by decide))]; exact h9
theorem r_next {p : Nat} (hn : 2000 ≤ n) (h : RB B L σ p) : ∃ τ, f_X8_nextToken n σ = some τ ∧ TK B L τ p ∧ (p < L → isD (B p) = true → τ 77 9 = vlB B p (dcB B (L - p) p)) ∧ (∀ j, j < 6 ∨ 10 ≤ j → τ 77 j = σ 77 j) ∧ ∀ a, a ≠ 77 → τ a = σ a := by
  obtain ⟨hb, h6, hp⟩ := h
  have hL := hb.2.1
  generalize hσ2 : mset (mset σ 77 7 (σ 77 6)) 77 9 0 = σ2
  have s6 : σ2 77 6 = nI p := by rw [← hσ2, ms_off (Or.inr (by decide)), ms_off (Or.inr (by decide))]; exact h6
  have s7 : σ2 77 7 = nI p := by rw [← hσ2, ms_off (Or.inr (by decide)), ms_at]; exact h6
  have s9 : σ2 77 9 = 0 := by rw [← hσ2]; exact ms_at
  have sj : ∀ j, j < 6 ∨ 10 ≤ j → σ2 77 j = σ 77 j := fun j hj => by rw [← hσ2, ms_off (Or.inr (by omega)), ms_off (Or.inr (by omega))]
  have sa : ∀ a, a ≠ 77 → σ2 a = σ a := fun a ha => by rw [← hσ2, ms_cell ha, ms_cell ha]
  have hb2 : RY B L σ2 := ⟨(sj 4 (by omega)).trans hb.1, hL, fun i hi => by rw [sa 81 (by decide)]; exact hb.2.2 i hi⟩
  have u : f_X8_nextToken n σ = (if (σ2 77 6) = (σ2 77 4) then
  ((some (mset σ2 77 8 (-2))).bind fun σ11 => some σ11)
  else
  (if inB (σ2 77 6) 100 = true then
  (some (σ2 81 (σ2 77 6).toNatClampNeg : Int32)).bind fun y4 =>
  (f_X8_in σ2 y4 48 57).bind fun y5 =>
  if y5 = 0 then
  ((f_X8_in σ2 y4 97 122).bind fun y7 =>
  if y7 = 0 then
  (if y4 = 44 then
  (f_X8_nextToken_b187 n y4 σ2)
  else
  (if y4 = 59 then
  (f_X8_nextToken_b187 n y4 σ2)
  else
  (f_X8_nextToken_b193 n (-3) σ2)))
  else
  (f_X8_nextToken_b187 n y4 σ2))
  else
  (f_X8_nextToken_l52 n n σ2)
  else none)) := by rw [← hσ2]; rfl
  rw [u, s6, hb2.1]
  unfold TK tkB tnB
  by_cases q : p = L
  · rw [if_pos (by rw [q]), if_pos q, if_pos q]
    refine ⟨mset σ2 77 8 (-2), rfl, ⟨hb2.fr (Fr.ms77 (by omega)), ?_, ?_, ms_at, hp⟩, fun w => by omega, fun j hj => by rw [ms_off (Or.inr (by omega)), sj j hj], fun a ha => by rw [ms_cell ha, sa a ha]⟩
    · rw [ms_off (Or.inr (by decide))]; exact s6
    · rw [ms_off (Or.inr (by decide))]; exact s7
  rw [if_neg (fun w => q ((nI_inj (by omega) (by omega)).mp w)), if_neg q, if_neg q, if_pos (inB_nI (by omega) (by decide)), tn_nI (by omega), hb2.2.2 p (by omega), Option.bind_some, r_in, Option.bind_some]
  have eD : (!decide (B p < 48) && !decide (57 < B p)) = isD (B p) := rfl
  rw [eD]
  by_cases d : isD (B p) = true
  · rw [d, b2i_t, if_neg (by decide), if_pos rfl, if_pos rfl]
    obtain ⟨τ, t1, t2, t3, t4, t5, t6, t7⟩ := r_nt_l (n := n) (p := p) (B := B) (L := L) (L - p) 0 n σ2 (by omega) (by omega) hb2 s6 s7 s9
    rw [Nat.zero_add, Nat.add_zero] at t2 t4 t5
    have fr : Fr σ2 τ := ⟨fun a h1 _ => t7 a h1, fun j hj => t6 j (by omega)⟩
    exact ⟨τ, t1, ⟨hb2.fr fr, t2, t3, t4, hp⟩, fun _ _ => t5, fun j hj => (t6 j hj).trans (sj j hj), fun a ha => (t7 a ha).trans (sa a ha)⟩
  · have d' : isD (B p) = false := by simpa using d
    have fin : ∀ v, ∃ τ, f_X8_nextToken_b193 n v σ2 = some τ ∧ (RY B L τ ∧ τ 77 6 = nI (p + 1) ∧ τ 77 7 = nI p ∧ τ 77 8 = v ∧ p ≤ L) ∧ (p < L → False → τ 77 9 = vlB B p (dcB B (L - p) p)) ∧ (∀ j, j < 6 ∨ 10 ≤ j → τ 77 j = σ 77 j) ∧ ∀ a, a ≠ 77 → τ a = σ a := by
      intro v
      have e6 : mset σ2 77 8 v 77 6 = nI p := by rw [ms_off (Or.inr (by decide))]; exact s6
      refine ⟨mset (mset σ2 77 8 v) 77 6 (nI (p + 1)), ?_, ⟨hb2.fr ((Fr.ms77 (by omega)).tr (Fr.ms77 (by omega))), ms_at, ?_, ?_, hp⟩, fun _ w => w.elim, fun j hj => by rw [ms_off (Or.inr (by omega)), ms_off (Or.inr (by omega)), sj j hj], fun a ha => by rw [ms_cell ha, ms_cell ha, sa a ha]⟩
      · unfold f_X8_nextToken_b193
        simp only [Option.bind_some]
        rw [e6, nI_1]
      · rw [ms_off (Or.inr (by decide)), ms_off (Or.inr (by decide))]; exact s7
      · rw [ms_off (Or.inr (by decide))]; exact ms_at
    rw [d', b2i_f, if_pos rfl, r_in, Option.bind_some]
    unfold f_X8_nextToken_b187 isLt
    simp only [Bool.false_eq_true, if_false]
    by_cases l1 : (!decide (B p < 97) && !decide (122 < B p)) = true
    · rw [l1, b2i_t, if_neg (by decide), Bool.true_or, Bool.true_or, if_pos rfl]
      exact fin _
    · have l1' : (!decide (B p < 97) && !decide (122 < B p)) = false := by simpa using l1
      rw [l1', b2i_f, if_pos rfl, Bool.false_or]
      by_cases l2 : B p = 44
      · rw [if_pos l2, decide_eq_true l2, Bool.true_or, if_pos rfl]
        exact fin _
      · rw [if_neg l2, decide_eq_false l2, Bool.false_or]
        by_cases l3 : B p = 59
        · rw [if_pos l3, if_pos (decide_eq_true l3)]
          exact fin _
        · rw [if_neg l3, if_neg (by simpa using l3)]
          exact fin _
theorem isD_iff {x : Int32} : isD x = true ↔ 48 ≤ x.toInt ∧ x.toInt ≤ 57 := by
  unfold isD
  have e1 : (48 : Int32).toInt = 48 := rfl
  have e2 : (57 : Int32).toInt = 57 := rfl
  rw [Bool.and_eq_true, Bool.not_eq_true', Bool.not_eq_true', decide_eq_false_iff_not, decide_eq_false_iff_not, i32_lt, i32_lt, e1, e2]
  omega
theorem vl1 {p : Nat} (h : isD (B p) = true) : (vlB B p 1).toInt = (B p).toInt - 48 := by
  have := isD_iff.mp h
  have z : (10 : Int32) * 0 = 0 := by decide
  show (10 * 0 + B p - 48).toInt = _
  have e : (48 : Int32).toInt = 48 := rfl
  rw [z, Int32.zero_add, i32_sub (by rw [e]; omega) (by rw [e]; omega), e]
theorem vl2 {p : Nat} (h : isD (B p) = true) (h2 : isD (B (p + 1)) = true) : (vlB B p 2).toInt = 10 * ((B p).toInt - 48) + (B (p + 1)).toInt - 48 := by
  have a := isD_iff.mp h
  have b := isD_iff.mp h2
  have v := vl1 h
  show (10 * vlB B p 1 + B (p + 1) - 48).toInt = _
  have e : (48 : Int32).toInt = 48 := rfl
  have t : (10 : Int32).toInt = 10 := rfl
  have m : (10 * vlB B p 1).toInt = 10 * ((B p).toInt - 48) := by rw [i32_mul (by rw [t, v]; omega) (by rw [t, v]; omega), t, v]
  have s : (10 * vlB B p 1 + B (p + 1)).toInt = 10 * ((B p).toInt - 48) + (B (p + 1)).toInt := by rw [i32_add (by rw [m]; omega) (by rw [m]; omega), m]
  rw [i32_sub (by rw [s, e]; omega) (by rw [s, e]; omega), s, e]
theorem dc_pos {k p : Nat} (h : 0 < dcB B k p) : isD (B p) = true ∧ ∃ k', k = k' + 1 ∧ dcB B k p = dcB B k' (p + 1) + 1 := by
  cases k with
  | zero => exact absurd h (Nat.lt_irrefl 0)
  | succ k =>
    rw [dcB] at h ⊢
    by_cases q : isD (B p) = true
    · rw [if_pos q]; exact ⟨q, k, rfl, rfl⟩
    · rw [if_neg q] at h; exact absurd h (by decide)
theorem vl_pos {p : Nat} (h1 : ¬ dcB B (L - p) p = 0) (h2 : ¬ 2 < dcB B (L - p) p) : 0 ≤ (vlB B p (dcB B (L - p) p)).toInt := by
  obtain ⟨a, k, -, e⟩ := dc_pos (show 0 < dcB B (L - p) p by omega)
  have a' := isD_iff.mp a
  rcases (show dcB B (L - p) p = 1 ∨ dcB B (L - p) p = 2 by omega) with q | q
  · rw [q, vl1 a]; omega
  · obtain ⟨b, -⟩ := dc_pos (show 0 < dcB B k (p + 1) by omega)
    have b' := isD_iff.mp b
    rw [q, vl2 a b]; omega
theorem pNum_rng {top : Int32} {p p' : Nat} {v : Int32} (h : pNum B L top p = .inr (v, p')) : Btw v 0 top.toInt := by
  unfold pNum at h
  by_cases a : dcB B (L - p) p = 0 ∨ 2 < dcB B (L - p) p
  · rw [if_pos a] at h; cases h
  · rw [if_neg a] at h
    by_cases b : vlB B p (dcB B (L - p) p) ≤ top
    · rw [if_pos b] at h; cases h
      exact ⟨vl_pos (fun q => a (Or.inl q)) (fun q => a (Or.inr q)), (i32_le _ _).mp b⟩
    · rw [if_neg b] at h; cases h
theorem tk_sign {p : Nat} {c : Int32} (hp : p ≤ L) (hc : c = 112 ∨ c = 44 ∨ c = 59) : (tkB B L p = c ↔ pkB B L p = c) ∧ (pkB B L p = c → tnB B L p = p + 1 ∧ p < L) := by
  unfold tkB pkB tnB
  have cc : ¬ (-1 : Int32) = c ∧ ¬ (-2 : Int32) = c ∧ ¬ (-3 : Int32) = c ∧ isD c = false ∧ isLt c = true := by rcases hc with rfl | rfl | rfl <;> decide
  obtain ⟨c1, c2, c3, c4, c5⟩ := cc
  by_cases q : p = L
  · rw [if_pos q, if_neg (by omega)]
    exact ⟨⟨fun w => absurd w c2, fun w => absurd w c1⟩, fun w => absurd w c1⟩
  rw [if_neg q, if_pos (show p < L by omega), if_neg q]
  by_cases d : isD (B p) = true
  · rw [if_pos d]
    have nB : ¬ B p = c := fun w => by rw [w, c4] at d; cases d
    refine ⟨⟨fun w => ?_, fun w => absurd w nB⟩, fun w => absurd w nB⟩
    by_cases z : dcB B (L - p) p ≤ 2
    · rw [if_pos z] at w; exact absurd w c1
    · rw [if_neg z] at w; exact absurd w c3
  · rw [if_neg d, if_neg d]
    by_cases l : isLt (B p) = true
    · rw [if_pos l]; exact ⟨Iff.rfl, fun _ => ⟨rfl, by omega⟩⟩
    · rw [if_neg l]
      have nB : ¬ B p = c := fun w => l (by rw [w]; exact c5)
      exact ⟨⟨fun w => absurd w c3, fun w => absurd w nB⟩, fun w => absurd w nB⟩
theorem r_sign {p : Nat} {c : Int32} (hn : 2000 ≤ n) (hc : c = 112 ∨ c = 44 ∨ c = 59) (h : RB B L σ p) : (∃ e τ, pSign B L c p = .inl e ∧ f_X8_isSign n c σ = some (0, τ) ∧ FL τ e ∧ Fr σ τ ∧ τ 83 = σ 83) ∨ ∃ p' τ, pSign B L c p = .inr p' ∧ f_X8_isSign n c σ = some (1, τ) ∧ RB B L τ p' ∧ Fr σ τ ∧ τ 83 = σ 83 := by
  obtain ⟨τ, t1, ⟨k1, k2, k3, k4, k5⟩, -, t3, t4⟩ := r_next hn h
  have fr : Fr σ τ := ⟨fun a h1 _ => t4 a h1, fun j hj => t3 j (by omega)⟩
  obtain ⟨s1, s2⟩ := tk_sign (B := B) k5 hc
  unfold f_X8_isSign pSign
  rw [t1, Option.bind_some, k4]
  by_cases q : pkB B L p = c
  · obtain ⟨z1, z2⟩ := s2 q
    rw [if_pos (s1.mpr q), if_pos q]
    exact Or.inr ⟨p + 1, τ, rfl, rfl, ⟨k1, by rw [k2, z1], by omega⟩, fr, t4 83 (by decide)⟩
  · rw [if_neg (fun w => q (s1.mp w)), if_neg q]
    refine Or.inl ⟨(1, p), mset τ 77 10 1, rfl, rfl, ⟨ms_at, ?_⟩, fr.tr (Fr.ms77 (by omega)), ?_⟩
    · rw [ms_off (Or.inr (by decide))]; exact k3
    · rw [ms_cell (by decide)]; exact t4 83 (by decide)
theorem r_num {p : Nat} {top : Int32} (hn : 2000 ≤ n) (h : RB B L σ p) : (∃ e τ, pNum B L top p = .inl e ∧ f_X8_isNumber n 0 top σ = some (0, τ) ∧ FL τ e ∧ Fr σ τ ∧ τ 83 = σ 83) ∨ ∃ v p' τ, pNum B L top p = .inr (v, p') ∧ f_X8_isNumber n 0 top σ = some (1, τ) ∧ RB B L τ p' ∧ τ 77 9 = v ∧ Fr σ τ ∧ τ 83 = σ 83 := by
  obtain ⟨τ, t1, ⟨k1, k2, k3, k4, k5⟩, t2, t3, t4⟩ := r_next hn h
  have fr : Fr σ τ := ⟨fun a h1 _ => t4 a h1, fun j hj => t3 j (by omega)⟩
  have bad : ∀ x : Int32, ∃ τ', (f_X8_fails x τ) = some (0, τ') ∧ FL τ' (x, p) ∧ Fr σ τ' ∧ τ' 83 = σ 83 := fun x =>
    ⟨mset τ 77 10 x, rfl, ⟨ms_at, by rw [ms_off (Or.inr (by decide))]; exact k3⟩, fr.tr (Fr.ms77 (by omega)), by rw [ms_cell (by decide)]; exact t4 83 (by decide)⟩
  unfold f_X8_isNumber
  rw [t1, Option.bind_some, k4]
  by_cases a : dcB B (L - p) p = 0 ∨ 2 < dcB B (L - p) p
  · have e1 : pNum B L top p = .inl (1, p) := by unfold pNum; rw [if_pos a]
    have nt : ¬ tkB B L p = -1 := by
      unfold tkB
      by_cases q : p = L
      · rw [if_pos q]; decide
      rw [if_neg q]
      by_cases d : isD (B p) = true
      · rw [if_pos d]
        have : ¬ dcB B (L - p) p = 0 := by
          obtain ⟨k, hk⟩ : ∃ k, L - p = k + 1 := ⟨L - p - 1, by omega⟩
          rw [hk, dcB, if_pos d]; omega
        rw [if_neg (by omega)]; decide
      · rw [if_neg d]
        by_cases l : isLt (B p) = true
        · rw [if_pos l]; intro w; rw [w] at l; exact absurd l (by decide)
        · rw [if_neg l]; decide
    rw [if_neg nt]
    obtain ⟨τ', f1, f2, f3, f4⟩ := bad 1
    rw [f1]
    exact Or.inl ⟨(1, p), τ', e1, rfl, f2, f3, f4⟩
  · have hpL : p ≠ L := fun w => a (Or.inl (by rw [w, Nat.sub_self]; rfl))
    obtain ⟨d, -⟩ := dc_pos (show 0 < dcB B (L - p) p by omega)
    have e0 : tkB B L p = -1 := by unfold tkB; rw [if_neg hpL, if_pos d, if_pos (by omega)]
    have e9 := t2 (by omega) d
    have etn : tnB B L p = p + dcB B (L - p) p := by unfold tnB; rw [if_neg hpL, if_pos d]
    have hge := vl_pos (B := B) (L := L) (p := p) (fun q => a (Or.inl q)) (fun q => a (Or.inr q))
    have hn0 : ¬ vlB B p (dcB B (L - p) p) < 0 := fun w => by rw [i32_lt] at w; have z : (0 : Int32).toInt = 0 := rfl; omega
    rw [if_pos e0, e9]
    by_cases b : vlB B p (dcB B (L - p) p) ≤ top
    · have e1 : pNum B L top p = .inr (vlB B p (dcB B (L - p) p), p + dcB B (L - p) p) := by unfold pNum; rw [if_neg a, if_pos b]
      rw [in_yes hn0 (fun w => by rw [i32_lt] at w; rw [i32_le] at b; omega), Option.bind_some, if_neg (by decide)]
      have := dcB_le (B := B) (L - p) p
      exact Or.inr ⟨_, _, τ, e1, rfl, ⟨k1, by rw [k2, etn], by omega⟩, e9, fr, t4 83 (by decide)⟩
    · have e1 : pNum B L top p = .inl (2, p) := by unfold pNum; rw [if_neg a, if_neg b]
      rw [in_no (Or.inr (by rw [i32_lt]; rw [i32_le] at b; omega)), Option.bind_some, if_pos rfl]
      obtain ⟨τ', f1, f2, f3, f4⟩ := bad 2
      rw [f1]
      exact Or.inl ⟨(2, p), τ', e1, rfl, f2, f3, f4⟩
def r1 (n : Nat) (t d ch : Int32) (K : Mem → Option (Int32 × Mem)) (σ : Mem) : Option (Int32 × Mem) :=
  (f_X8_isNumber n 0 t σ).bind fun (y1, σ2) =>
  if y1 = 0 then
  (some (0, σ2))
  else
  (if inB d 33 = true then
  (some (mset σ2 83 d.toNatClampNeg (σ2 77 9))).bind fun σ1 =>
  (f_X8_isSign n ch σ1).bind fun (y1, σ2) =>
  if y1 = 0 then
  (some (0, σ2))
  else
  (K σ2)
  else none)
theorem r1_ok {p d : Nat} {t ch : Int32} (hn : 2000 ≤ n) (hd : d < 33) (hc : ch = 112 ∨ ch = 44 ∨ ch = 59) (h : RB B L σ p) : (∃ e τ, pOne B L t ch p = .inl e ∧ (∀ K, r1 n t (nI d) ch K σ = some (0, τ)) ∧ FL τ e ∧ Fr σ τ) ∨ ∃ v p' τ, pOne B L t ch p = .inr (v, p') ∧ (∀ K, r1 n t (nI d) ch K σ = K τ) ∧ RB B L τ p' ∧ Fr σ τ ∧ τ 83 = upd (σ 83) d v := by
  unfold pOne
  rcases r_num (top := t) hn h with ⟨e, τ, a1, a2, a3, a4, a5⟩ | ⟨v, p1, τ, a1, a2, a3, a4, a5, a6⟩
  · rw [a1]
    refine Or.inl ⟨e, τ, rfl, fun K => ?_, a3, a4⟩
    unfold r1
    rw [a2, Option.bind_some]; rfl
  · rw [a1]
    have hb : RB B L (mset τ 83 d v) p1 := ⟨a3.1.fr Fr.ms83, by rw [ms_cell (by decide)]; exact a3.2.1, a3.2.2⟩
    have hr : ∀ K, r1 n t (nI d) ch K σ = (f_X8_isSign n ch (mset τ 83 d v)).bind fun (y1, σ2) => if y1 = 0 then (some (0, σ2)) else (K σ2) := fun K => by
      unfold r1
      rw [a2, Option.bind_some]
      dsimp only
      rw [if_neg (by decide), if_pos (inB_nI hd (by decide)), tn_nI (by omega), a4, Option.bind_some]
    rcases r_sign hn hc hb with ⟨e, υ, b1, b2, b3, b4, b5⟩ | ⟨p2, υ, b1, b2, b3, b4, b5⟩
    · refine Or.inl ⟨e, υ, ?_, fun K => ?_, b3, a5.tr (Fr.ms83.tr b4)⟩
      · show sb (pSign B L ch p1) _ = _
        rw [b1]; rfl
      · rw [hr K, b2, Option.bind_some]; rfl
    · refine Or.inr ⟨v, p2, υ, ?_, fun K => ?_, b3, a5.tr (Fr.ms83.tr b4), ?_⟩
      · show sb (pSign B L ch p1) _ = _
        rw [b1]; rfl
      · rw [hr K, b2, Option.bind_some]; rfl
      · rw [b5, mset_row, a6]
theorem isThree_eq (hn : 2000 ≤ n) (x1 x2 x3 x4 x5 x6 : Int32) : f_X8_isThree n x1 x2 x3 x4 x5 x6 σ = r1 n x2 x1 44 (r1 n x4 x3 44 (r1 n x6 x5 59 fun σ => some (1, σ))) σ := by
  have s0 : ∀ (K) (σ : Mem), f_X8_isThree_b3 n K x1 x2 x3 x4 x5 x6 0 σ = r1 n x2 x1 44 (K x1 x2 x3 x4 x5 x6 1) σ := fun K σ => by
    unfold f_X8_isThree_b3 f_X8_isThree_b33 f_X8_isThree_b66 f_X8_isThree_b85 r1
    rw [if_neg (by decide), if_pos rfl]
    simp only [if_true, if_neg (show ¬ (0 : Int32) = 2 by decide), show (0 : Int32) + 1 = 1 from rfl]
  have s1 : ∀ (K) (σ : Mem), f_X8_isThree_b3 n K x1 x2 x3 x4 x5 x6 1 σ = r1 n x4 x3 44 (K x1 x2 x3 x4 x5 x6 2) σ := fun K σ => by
    unfold f_X8_isThree_b3 f_X8_isThree_b33 f_X8_isThree_b66 f_X8_isThree_b85 r1
    rw [if_neg (by decide), if_neg (by decide), if_pos rfl]
    simp only [if_neg (show ¬ (1 : Int32) = 0 by decide), if_true, if_neg (show ¬ (1 : Int32) = 2 by decide), show (1 : Int32) + 1 = 2 from rfl]
  have s2 : ∀ (K) (σ : Mem), f_X8_isThree_b3 n K x1 x2 x3 x4 x5 x6 2 σ = r1 n x6 x5 59 (K x1 x2 x3 x4 x5 x6 3) σ := fun K σ => by
    unfold f_X8_isThree_b3 f_X8_isThree_b33 f_X8_isThree_b66 f_X8_isThree_b85 r1
    rw [if_neg (by decide), if_neg (by decide), if_neg (by decide)]
    simp only [if_neg (show ¬ (2 : Int32) = 0 by decide), if_neg (show ¬ (2 : Int32) = 1 by decide), if_true, show (2 : Int32) + 1 = 3 from rfl]
  have s3 : ∀ (K) (σ : Mem), f_X8_isThree_b3 n K x1 x2 x3 x4 x5 x6 3 σ = some (1, σ) := fun K σ => by
    unfold f_X8_isThree_b3
    rw [if_pos (by decide)]
  obtain ⟨f, hf⟩ : ∃ f', n = f' + 4 := ⟨n - 4, by omega⟩
  have u : f_X8_isThree n x1 x2 x3 x4 x5 x6 σ = f_X8_isThree_l3 n (f + 4) x1 x2 x3 x4 x5 x6 0 σ := by rw [← hf]; rfl
  have c0 : ∀ (k : Nat) (x7 : Int32), f_X8_isThree_l3 n (k + 1) x1 x2 x3 x4 x5 x6 x7 = f_X8_isThree_b3 n (f_X8_isThree_l3 n k) x1 x2 x3 x4 x5 x6 x7 := fun _ _ => rfl
  have d3 : f_X8_isThree_l3 n (f + 1) x1 x2 x3 x4 x5 x6 3 = fun σ => some (1, σ) := by funext σ; rw [c0]; exact s3 _ σ
  have d2 : f_X8_isThree_l3 n (f + 2) x1 x2 x3 x4 x5 x6 2 = r1 n x6 x5 59 fun σ => some (1, σ) := by funext σ; rw [c0 (f + 1), s2, d3]
  have d1 : f_X8_isThree_l3 n (f + 3) x1 x2 x3 x4 x5 x6 1 = r1 n x4 x3 44 (r1 n x6 x5 59 fun σ => some (1, σ)) := by funext σ; rw [c0 (f + 2), s1, d2]
  rw [u, c0 (f + 3), s0, d1]
theorem r_three {p d1 d2 d3 : Nat} {t1 t2 t3 : Int32} (hn : 2000 ≤ n) (h1 : d1 < 33) (h2 : d2 < 33) (h3 : d3 < 33) (h : RB B L σ p) : (∃ e τ, pThree B L t1 t2 t3 p = .inl e ∧ f_X8_isThree n (nI d1) t1 (nI d2) t2 (nI d3) t3 σ = some (0, τ) ∧ FL τ e ∧ Fr σ τ) ∨ ∃ v p' τ, pThree B L t1 t2 t3 p = .inr (v, p') ∧ f_X8_isThree n (nI d1) t1 (nI d2) t2 (nI d3) t3 σ = some (1, τ) ∧ RB B L τ p' ∧ Fr σ τ ∧ τ 83 = upd (upd (upd (σ 83) d1 v.1) d2 v.2.1) d3 v.2.2 := by
  rw [isThree_eq hn]
  unfold pThree
  rcases r1_ok (t := t1) (ch := 44) hn h1 (by decide) h with ⟨e, τ, a1, a2, a3, a4⟩ | ⟨v1, p1, τ1, a1, a2, a3, a4, a5⟩
  · rw [a1, a2]; exact Or.inl ⟨e, τ, rfl, rfl, a3, a4⟩
  rw [a1, a2]
  show (∃ e τ, sb (pOne B L t2 44 p1) _ = _ ∧ _) ∨ ∃ v p' τ, sb (pOne B L t2 44 p1) _ = _ ∧ _
  rcases r1_ok (t := t2) (ch := 44) hn h2 (by decide) a3 with ⟨e, τ, b1, b2, b3, b4⟩ | ⟨v2, p2, τ2, b1, b2, b3, b4, b5⟩
  · rw [b1, b2]; exact Or.inl ⟨e, τ, rfl, rfl, b3, a4.tr b4⟩
  rw [b1, b2]
  show (∃ e τ, sb (pOne B L t3 59 p2) _ = _ ∧ _) ∨ ∃ v p' τ, sb (pOne B L t3 59 p2) _ = _ ∧ _
  rcases r1_ok (t := t3) (ch := 59) hn h3 (by decide) b3 with ⟨e, τ, c1, c2, c3, c4⟩ | ⟨v3, p3, τ3, c1, c2, c3, c4, c5⟩
  · rw [c1, c2]; exact Or.inl ⟨e, τ, rfl, rfl, c3, a4.tr (b4.tr c4)⟩
  rw [c1, c2]
  exact Or.inr ⟨(v1, v2, v3), p3, τ3, rfl, rfl, c3, a4.tr (b4.tr c4), by rw [c5, b5, a5]⟩
end RPARSE
