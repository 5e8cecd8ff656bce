/-! ===== a row of readers, one behind another; days by draws ===== -/
def pScr (a : Nat) : Bool := (decide (20 ≤ a) && decide (a ≤ 24)) || (decide (61 ≤ a) && decide (a ≤ 74)) || a == 83 || a == 84 || (decide (89 ≤ a) && decide (a ≤ 93))
theorem Inv.scr {σ τ : Mem} (h : Inv σ) (ho : ∀ a, pScr a = false → a ≠ 0 → a ≠ 77 → τ a = σ a) (hj : ∀ j, j < 24 → j ≠ 3 → τ 77 j = σ 77 j) (h0 : τ 0 10 = τ 77 3) : Inv τ := by
  refine h.keep (fun a ha => ?_) ?_ h0
  · have hs : pScr a = false ∧ a ≠ 0 ∧ a ≠ 77 := by
      simp only [pKeep, Bool.not_eq_true', Bool.or_eq_false_iff, beq_eq_false_iff_ne] at ha
      refine ⟨?_, by omega, by omega⟩
      unfold pScr
      simp only [Bool.or_eq_false_iff, beq_eq_false_iff_ne]
      exact ⟨⟨⟨⟨ha.1.1.1.1.1.1.1.1, ha.1.1.1.1.1.1.1.2⟩, ha.1.1.1.1.1.1.2⟩, ha.1.1.1.1.1.2⟩, ha.1.1.1.1.2⟩
    exact ho a hs.1 hs.2.1 hs.2.2
  · unfold Slots
    rw [ho 13 rfl (by decide) (by decide), ho 75 rfl (by decide) (by decide), hj 4 (by decide) (by decide), hj 11 (by decide) (by decide), hj 18 (by decide) (by decide), hj 20 (by decide) (by decide)]
    exact ⟨rfl, rfl, rfl, rfl, rfl, rfl, rfl⟩
theorem canX {g : Nat → Int32} {m : Nat} {x : Int32} (hm : Mny g m) (h : sCanX g x = true) : ∃ r, r < m ∧ x = nI r ∧ sCan g r = true := by
  unfold sCanX at h
  have h6 := hm.1
  by_cases h0 : x < 0
  · rw [if_pos h0] at h; cases h
  by_cases h1 : g 4 ≤ x
  · rw [if_neg h0, if_pos h1] at h; cases h
  obtain ⟨r, hr, rfl⟩ := ix_of (n := m) (by omega) h0 (by rw [← hm.2]; exact h1)
  rw [if_neg h0, if_neg h1, tn_nI (by omega)] at h
  exact ⟨r, hr, rfl, h⟩
theorem canX_nI {g : Nat → Int32} {m r : Nat} (hm : Mny g m) (hr : r < m) : sCanX g (nI r) = sCan g r := by
  have h6 := hm.1
  unfold sCanX
  rw [if_neg (nI_nn (by omega)), if_neg (fun q => by rw [hm.2] at q; have := (nI_le_lit (by omega) (by omega)).mp q; omega), tn_nI (by omega)]
theorem Mny.give {g : Nat → Int32} {m r : Nat} (hm : Mny g m) : Mny (sGive g r) m := ⟨hm.1, by rw [sGive_hi (by decide)]; exact hm.2⟩
theorem sGive3 {g : Nat → Int32} {r : Nat} : sGive g r 3 = g 3 + sBr g r := rfl
theorem sub_add_c (a e b : Int32) : a - e + b = a + b - e := by
  rw [Int32.sub_eq_add_neg, Int32.sub_eq_add_neg, Int32.add_assoc, Int32.add_comm (-e) b, ← Int32.add_assoc]
def wlk : List Int32 → (Nat → Int32) → Option (Nat → Int32)
  | [], g => some g
  | x :: xs, g => if sCanX g x = true then wlk xs (sGive g x.toNatClampNeg) else none
theorem wlk_app (a b : List Int32) : ∀ g, wlk (a ++ b) g = (wlk a g).bind (wlk b) := by
  induction a with
  | nil => intro g; rfl
  | cons x xs ih =>
    intro g
    show (if sCanX g x = true then wlk (xs ++ b) (sGive g x.toNatClampNeg) else none) = (if sCanX g x = true then wlk xs (sGive g x.toNatClampNeg) else none).bind (wlk b)
    by_cases q : sCanX g x = true
    · rw [if_pos q, if_pos q, ih]
    · rw [if_neg q, if_neg q]; rfl
theorem wlk_many {m : Nat} (ls : List Int32) : ∀ {g g' : Nat → Int32}, Mny g m → wlk ls g = some g' → Mny g' m := by
  induction ls with
  | nil => intro g g' hm h; cases h; exact hm
  | cons x xs ih =>
    intro g g' hm h
    rw [wlk] at h
    by_cases q : sCanX g x = true
    · rw [if_pos q] at h; exact ih hm.give h
    · rw [if_neg q] at h; cases h
/-- the reference goes along -/
theorem r_go {n a N : Nat} (ha : isIA a = true) (hal : alen a < 2 ^ 20) (ha84 : a ≠ 84) (hn : 100 ≤ n) (ls : List Int32) : ∀ (i m f : Nat) (σ : Mem), Mny (σ 84) m → i + ls.length = N → N ≤ alen a → ls.length < f → (∀ j (hj : j < ls.length), σ a (i + j) = ls[j]) →
    ∃ τ, f_X8_goesOn_l2 n f a (nI N) (nI i) σ = some (if (wlk ls (σ 84)).isSome = true then 1 else 0, τ) ∧ (∀ b, b ≠ 84 → τ b = σ b) ∧ (∀ j, 4 ≤ j → τ 84 j = σ 84 j) ∧ ∀ g', wlk ls (σ 84) = some g' → τ 84 = g' := by
  induction ls with
  | nil =>
    intro i m f σ hm hi hN hf hls
    obtain ⟨f, rfl⟩ : ∃ f', f = f' + 1 := ⟨f - 1, by simp at hf; omega⟩
    simp only [List.length_nil, Nat.add_zero] at hi
    subst hi
    refine ⟨σ, ?_, fun _ _ => rfl, fun _ _ => rfl, fun g' h => by cases h; rfl⟩
    show f_X8_goesOn_b2 n _ a _ _ σ = _
    unfold f_X8_goesOn_b2
    rw [if_pos ((nI_le_lit (by omega) (by omega)).mpr (by omega))]
    rfl
  | cons x xs ih =>
    intro i m f σ hm hi hN hf hls
    obtain ⟨f, rfl⟩ : ∃ f', f = f' + 1 := ⟨f - 1, by simp at hf; omega⟩
    simp only [List.length_cons] at hi hf
    have hx : σ a i = x := hls 0 (by simp)
    have h1 : ∀ τ : Mem, f_X8_goesOn_l2 n (f + 1) a (nI N) (nI i) τ = f_X8_goesOn_b2 n (f_X8_goesOn_l2 n f) a (nI N) (nI i) τ := fun _ => rfl
    rw [h1]
    unfold f_X8_goesOn_b2
    rw [if_neg (fun q => by have := (nI_le_lit (by omega) (by omega)).mp q; omega), if_pos ha, if_pos (inB_nI (by omega) (by omega)), tn_nI (by omega), hx, r_canBe a84 hm, Option.bind_some]
    by_cases q : sCanX (σ 84) x = true
    · obtain ⟨r, hr, rfl, hc⟩ := canX hm q
      have h6 := hm.1
      obtain ⟨τ, t1, t2, t3⟩ := r_gives (n := n) a84 hm hn hr
      have hmτ : Mny (τ 84) m := by rw [t2]; exact hm.give
      obtain ⟨υ, u1, u2, u4, u3⟩ := ih (i + 1) m f τ hmτ (by omega) hN (by omega) (fun j hj => by
        rw [t3 a ha84]
        have := hls (j + 1) (by simp; omega)
        rw [show i + (j + 1) = i + 1 + j by omega] at this
        exact this)
      have w : wlk (nI r :: xs) (σ 84) = wlk xs (τ 84) := by
        rw [wlk, if_pos q, tn_nI (by omega), t2]
      rw [w]
      refine ⟨υ, ?_, fun b hb => (u2 b hb).trans (t3 b hb), fun j hj => by rw [u4 j hj, t2, sGive_hi hj], u3⟩
      rw [q, b2i_t, if_neg (by decide), if_pos (inB_nI (by omega) (by omega)), t1, Option.bind_some, nI_1]
      exact u1
    · have q' : sCanX (σ 84) x = false := by simpa using q
      have w : wlk (x :: xs) (σ 84) = none := by rw [wlk, if_neg q]
      rw [w]
      refine ⟨σ, ?_, fun _ _ => rfl, fun _ _ => rfl, fun g' h => by cases h⟩
      rw [q', b2i_f, if_pos rfl]; rfl
def wEnd (e0 : Int32) (o : Option (Nat → Int32)) : Int32 := match o with
  | some g' => g' 3 - e0
  | none => -1000000
/-- the class goes along -/
theorem c_along {n a t N i0 : Nat} {e0 : Int32} (ht : isTown t = true) (ha : isIA a = true) (hal : alen a < 2 ^ 20) (hat : a ≠ t) (hn : 100 ≤ n) (ls : List Int32) : ∀ (i m f : Nat) (g : Nat → Int32) (σ : Mem), TwR σ t g → Mny g m → i + ls.length = N → i0 + N ≤ alen a → ls.length < f → (∀ j (hj : j < ls.length), σ a (i0 + (i + j)) = ls[j]) →
    ∃ τ, f_X6_handAlong_l6 n f t a (nI i0) (nI N) (g 3 - e0) (nI i) σ = some (wEnd e0 (wlk ls g), τ) ∧ (∀ b, b ≠ t → τ b = σ b) := by
  induction ls with
  | nil =>
    intro i m f g σ hT hm hi hN hf hls
    obtain ⟨f, rfl⟩ : ∃ f', f = f' + 1 := ⟨f - 1, by simp at hf; omega⟩
    simp only [List.length_nil, Nat.add_zero] at hi
    subst hi
    refine ⟨σ, ?_, fun _ _ => rfl⟩
    show f_X6_handAlong_b6 n _ t a _ _ _ _ σ = _
    unfold f_X6_handAlong_b6
    rw [if_pos ((nI_le_lit (by omega) (by omega)).mpr (by omega))]
    rfl
  | cons x xs ih =>
    intro i m f g σ hT hm hi hN hf hls
    obtain ⟨f, rfl⟩ : ∃ f', f = f' + 1 := ⟨f - 1, by simp at hf; omega⟩
    simp only [List.length_cons] at hi hf
    have hx : σ a (i0 + i) = x := hls 0 (by simp)
    have h1 : f_X6_handAlong_l6 n (f + 1) t a (nI i0) (nI N) (g 3 - e0) (nI i) σ = f_X6_handAlong_b6 n (f_X6_handAlong_l6 n f) t a (nI i0) (nI N) (g 3 - e0) (nI i) σ := rfl
    rw [h1]
    unfold f_X6_handAlong_b6
    rw [if_neg (fun q => by have := (nI_le_lit (by omega) (by omega)).mp q; omega), if_pos ha, nIa, if_pos (inB_nI (by omega) (by omega)), tn_nI (by omega), hx, Option.bind_some, if_pos ht, c_canHave ht hT hm, Option.bind_some]
    by_cases q : sCanX g x = true
    · obtain ⟨r, hr, rfl, hc⟩ := canX hm q
      have h6 := hm.1
      obtain ⟨τ, t1, t2, t3⟩ := c_hand (n := n) ht hT hm hn hr
      obtain ⟨υ, u1, u2⟩ := ih (i + 1) m f (sGive g r) τ t2 hm.give (by omega) hN (by omega) (fun j hj => by
        rw [t3 a hat]
        have := hls (j + 1) (by simp; omega)
        rw [show i + (j + 1) = i + 1 + j by omega] at this
        exact this)
      have w : wlk (nI r :: xs) g = wlk xs (sGive g r) := by
        rw [wlk, if_pos q, tn_nI (by omega)]
      rw [w]
      refine ⟨υ, ?_, fun b hb => (u2 b hb).trans (t3 b hb)⟩
      rw [q, b2i_t, if_neg (by decide), t1, Option.bind_some, nI_1]
      dsimp only [Option.bind_some]
      rw [sub_add_c, ← sGive3]
      exact u1
    · have q' : sCanX g x = false := by simpa using q
      have w : wlk (x :: xs) g = none := by rw [wlk, if_neg q]
      rw [w]
      refine ⟨σ, ?_, fun _ _ => rfl⟩
      rw [q', b2i_f, if_pos rfl]; rfl
/-! days by draws -/
theorem TwR.hour {σ : Mem} {t : Nat} {g : Nat → Int32} (h : TwR σ t g) (v : Int32) : TwR (mset σ t 10 v) t (upd g 1 v) := by
  obtain ⟨⟨a1, a2, a3, a4, a5, a6, a7, a8, a9⟩, b⟩ := h
  refine ⟨by simp [ms_if, upd, a1, a2, a3, a4, a5, a6, a8, a9], fun r hr hlt => ?_⟩
  rw [ms_cell (by omega), ms_cell (by omega), ms_cell (by omega), ms_cell (by omega), pk_un (by omega), pk_un (by omega), pk_un (by omega), pk_un (by omega)]
  exact b r hr hlt
def drX (x : Int64) : Int64 := (x * 16807) - (x * 16807) / 2147483647 * 2147483647
def drR (g : Nat → Int32) (x : Int64) : Int32 := if g 4 = 0 then -1 else (x - x / (g 4).toInt64 * (g 4).toInt64).toInt32
def drS (g : Nat → Int32) (x : Int64) : Nat → Int32 := if sCanX g (drR g x) = true then sGive g (drR g x).toNatClampNeg else upd g 1 (g 1 + 1)
def drN : Nat → Int64 → (Nat → Int32) → (Nat → Int32)
  | 0, _, g => g
  | k + 1, x, g => drN k (drX x) (drS g (drX x))
theorem Mny.dr {g : Nat → Int32} {m : Nat} (hm : Mny g m) (x : Int64) : Mny (drS g x) m := by
  unfold drS
  by_cases q : sCanX g (drR g x) = true
  · rw [if_pos q]; exact hm.give
  · rw [if_neg q]; exact ⟨hm.1, hm.2⟩
theorem mny0 {g : Nat → Int32} {m : Nat} (hm : Mny g m) : (g 4 = 0 ∧ g 4 ≤ 0) ∨ (¬ g 4 = 0 ∧ ¬ g 4 ≤ 0 ∧ ¬ (g 4).toInt64 = 0) := by
  have h6 := hm.1
  rw [hm.2]
  rcases Nat.eq_zero_or_pos m with rfl | h
  · left; exact ⟨rfl, by decide⟩
  · right
    refine ⟨nI_ne0 h (by omega), nI_nle h (by omega), ?_⟩
    rw [nI_l (by omega)]
    intro q
    have := (lN_eq (a := m) (b := 0) (by omega) (by decide)).mp q
    omega
theorem c_dr109 {n m : Nat} {σ : Mem} {g : Nat → Int32} {x1 x3 x6 : Int32} {x4 : Int64} (k) (hT : TwR σ 20 g) (hm : Mny g m) (hn : 100 ≤ n) : ∃ τ, f_X7_drawn_b109 n k x1 x3 x4 x6 (drR g x4) σ = k x1 x3 x4 (x6 + 1) τ ∧ TwR τ 20 (drS g x4) ∧ ∀ b, b ≠ 20 → τ b = σ b := by
  unfold f_X7_drawn_b109 f_X7_drawn_b149 drS
  rw [c_canHave (t := 20) rfl hT hm, Option.bind_some]
  by_cases q : sCanX g (drR g x4) = true
  · rw [if_pos q, q, b2i_t, if_neg (by decide)]
    obtain ⟨r, hr, e, hc⟩ := canX hm q
    have h6 := hm.1
    rw [e]
    obtain ⟨τ, t1, t2, t3⟩ := c_hand (n := n) (t := 20) rfl hT hm hn hr
    rw [t1, tn_nI (by omega)]
    exact ⟨τ, rfl, t2, t3⟩
  · have q' : sCanX g (drR g x4) = false := by simpa using q
    rw [if_neg q, q', b2i_f, if_pos rfl]
    refine ⟨_, rfl, ?_, fun b hb => ms_cell hb⟩
    rw [show σ 20 10 = g 1 from hT.1.2.2.2.2.2.2.1]
    exact hT.hour _
theorem c_dr {n m N : Nat} {x3 : Int32} (hN : N ≤ 60) (hn : 100 ≤ n) : ∀ (k i f : Nat) (x : Int64) (g : Nat → Int32) (σ : Mem), TwR σ 20 g → Mny g m → i + k = N → k < f →
    ∃ τ, f_X7_drawn_l65 n f (nI N) x3 x (nI i) σ = some (if x3 = 0 then drN k x g 3 else drN k x g 2, τ) ∧ ∀ b, b ≠ 20 → τ b = σ b := by
  intro k
  induction k with
  | zero =>
    intro i f x g σ hT hm hi hf
    obtain ⟨f, rfl⟩ : ∃ f', f = f' + 1 := ⟨f - 1, by omega⟩
    refine ⟨σ, ?_, fun _ _ => rfl⟩
    show f_X7_drawn_b65 n _ _ x3 x _ σ = _
    unfold f_X7_drawn_b65
    rw [if_pos ((nI_le_lit (by omega) (by omega)).mpr (by omega)), hT.1.2.2.2.2.2.2.2.1, hT.1.2.2.2.2.2.2.2.2]
    by_cases q : x3 = 0
    · rw [if_pos q, if_pos q]; rfl
    · rw [if_neg q, if_neg q]; rfl
  | succ k ih =>
    intro i f x g σ hT hm hi hf
    obtain ⟨f, rfl⟩ : ∃ f', f = f' + 1 := ⟨f - 1, by omega⟩
    have h1 : f_X7_drawn_l65 n (f + 1) (nI N) x3 x (nI i) σ = f_X7_drawn_b65 n (f_X7_drawn_l65 n f) (nI N) x3 x (nI i) σ := rfl
    rw [h1]
    unfold f_X7_drawn_b65
    rw [if_neg (fun q => by have := (nI_le_lit (by omega) (by omega)).mp q; omega), Option.bind_some, hT.1.2.2.2.2.1]
    obtain ⟨τ, t1, t2, t3⟩ := c_dr109 (x1 := nI N) (x3 := x3) (x6 := nI i) (x4 := drX x) (f_X7_drawn_l65 n f) hT hm hn
    obtain ⟨υ, u1, u2⟩ := ih (i + 1) f (drX x) (drS g (drX x)) τ t2 (hm.dr _) (by omega) (by omega)
    refine ⟨υ, ?_, fun b hb => (u2 b hb).trans (t3 b hb)⟩
    rw [nI_1] at t1
    have key : f_X7_drawn_b109 n (f_X7_drawn_l65 n f) (nI N) x3 (drX x) (nI i) (drR g (drX x)) σ = some (if x3 = 0 then drN (k + 1) x g 3 else drN (k + 1) x g 2, υ) := t1.trans u1
    rw [← key]
    unfold drR
    rcases mny0 hm with ⟨q1, q2⟩ | ⟨q1, q2, q3⟩
    · rw [if_pos q2, if_pos q1]; rfl
    · rw [if_neg q2, if_neg q1, Option.bind_some, if_neg q3]; rfl
theorem r_dr95 {n m : Nat} {σ : Mem} {x1 x3 x6 : Int32} {x4 : Int64} (k) (hm : Mny (σ 84) m) (hn : 100 ≤ n) : ∃ τ, f_X8_drawn_b95 n k x1 x3 x4 x6 (drR (σ 84) x4) σ = k x1 x3 x4 (x6 + 1) τ ∧ τ 84 = drS (σ 84) x4 ∧ ∀ b, b ≠ 84 → τ b = σ b := by
  unfold f_X8_drawn_b95 f_X8_drawn_b132 drS
  rw [r_canBe a84 hm, Option.bind_some]
  by_cases q : sCanX (σ 84) (drR (σ 84) x4) = true
  · rw [if_pos q, q, b2i_t, if_neg (by decide)]
    obtain ⟨r, hr, e, hc⟩ := canX hm q
    have h6 := hm.1
    rw [e]
    obtain ⟨τ, t1, t2, t3⟩ := r_gives (n := n) a84 hm hn hr
    rw [t1, tn_nI (by omega)]
    exact ⟨τ, rfl, t2, t3⟩
  · have q' : sCanX (σ 84) (drR (σ 84) x4) = false := by simpa using q
    rw [if_neg q, q', b2i_f, if_pos rfl, if_pos (by decide), if_pos (by decide), tl1]
    exact ⟨_, rfl, mset_row, fun b hb => ms_cell hb⟩
theorem r_dr {n m N : Nat} {x3 : Int32} (hN : N ≤ 60) (hn : 100 ≤ n) : ∀ (k i f : Nat) (x : Int64) (σ : Mem), Mny (σ 84) m → σ 82 4 = σ 84 4 → i + k = N → k < f →
    ∃ τ, f_X8_drawn_l53 n f (nI N) x3 x (nI i) σ = some (if x3 = 0 then drN k x (σ 84) 3 else drN k x (σ 84) 2, τ) ∧ ∀ b, b ≠ 84 → τ b = σ b := by
  intro k
  induction k with
  | zero =>
    intro i f x σ hm h4 hi hf
    obtain ⟨f, rfl⟩ : ∃ f', f = f' + 1 := ⟨f - 1, by omega⟩
    refine ⟨σ, ?_, fun _ _ => rfl⟩
    show f_X8_drawn_b53 n _ _ x3 x _ σ = _
    unfold f_X8_drawn_b53
    rw [if_pos ((nI_le_lit (by omega) (by omega)).mpr (by omega)), tl3, tl2]
    by_cases q : x3 = 0
    · rw [if_pos q, if_pos q, if_pos (by decide)]; rfl
    · rw [if_neg q, if_neg q, if_pos (by decide)]; rfl
  | succ k ih =>
    intro i f x σ hm h4 hi hf
    obtain ⟨f, rfl⟩ : ∃ f', f = f' + 1 := ⟨f - 1, by omega⟩
    have h1 : f_X8_drawn_l53 n (f + 1) (nI N) x3 x (nI i) σ = f_X8_drawn_b53 n (f_X8_drawn_l53 n f) (nI N) x3 x (nI i) σ := rfl
    rw [h1]
    unfold f_X8_drawn_b53
    rw [if_neg (fun q => by have := (nI_le_lit (by omega) (by omega)).mp q; omega), Option.bind_some, if_pos (by decide), tl4, h4]
    obtain ⟨τ, t1, t2, t3⟩ := r_dr95 (x1 := nI N) (x3 := x3) (x6 := nI i) (x4 := drX x) (f_X8_drawn_l53 n f) hm hn
    have hmτ : Mny (τ 84) m := by rw [t2]; exact hm.dr _
    obtain ⟨υ, u1, u2⟩ := ih (i + 1) f (drX x) τ hmτ (by rw [t3 82 (by decide), h4, hm.2, hmτ.2]) (by omega) (by omega)
    refine ⟨υ, ?_, fun b hb => (u2 b hb).trans (t3 b hb)⟩
    rw [nI_1] at t1
    rw [t2] at u1
    have key : f_X8_drawn_b95 n (f_X8_drawn_l53 n f) (nI N) x3 (drX x) (nI i) (drR (σ 84) (drX x)) σ = some (if x3 = 0 then drN (k + 1) x (σ 84) 3 else drN (k + 1) x (σ 84) 2, υ) := t1.trans u1
    rw [← key]
    unfold drR
    rcases mny0 hm with ⟨q1, q2⟩ | ⟨q1, q2, q3⟩
    · rw [if_pos q1, if_pos q1]; rfl
    · rw [if_neg q1, if_neg q1, if_pos (by decide), Option.bind_some, if_neg q3]; rfl
/-- the reference begins what it tries -/
def G0 (σ : Mem) : Nat → Int32 := fun j => if j < 33 then σ 82 j else σ 84 j
theorem G0_eq (σ : Mem) : EqT (G0 σ) (σ 82) := EqT.of33 (fun x hx => if_pos hx)
theorem G0_congr {σ τ : Mem} (h : τ 82 = σ 82) (h2 : ∀ j, 33 ≤ j → τ 84 j = σ 84 j) : G0 τ = G0 σ := by
  funext j
  unfold G0
  by_cases q : j < 33
  · rw [if_pos q, if_pos q, h]
  · rw [if_neg q, if_neg q, h2 j (by omega)]
theorem G0_many {σ : Mem} {m : Nat} (h : Mny (σ 82) m) : Mny (G0 σ) m := ⟨h.1, h.2⟩
theorem r_begin {σ : Mem} {n : Nat} (hn : 100 ≤ n) : f_X8_begin n σ = some (mcpy σ 82 0 84 0 33) := by
  unfold f_X8_begin
  have := r_lay (σ := σ) (n := n) (a := 82) (fr := 0) (b := 84) (to := 0) rfl rfl (by decide) (by decide) (by decide) (by decide) (by decide) hn
  have e : f_X8_lay n 82 0 84 0 σ = some (mcpy σ 82 0 84 0 33) := this
  rw [e]; rfl
theorem begin84 {σ : Mem} : mcpy σ 82 0 84 0 33 84 = G0 σ := by
  funext j
  unfold G0
  rw [mc_if]
  by_cases q : j < 33
  · rw [if_pos ⟨rfl, by omega, by omega⟩, if_pos q]; congr 1; omega
  · rw [if_neg (by omega), if_neg q]
theorem begin_ne {σ : Mem} {b : Nat} (h : b ≠ 84) : mcpy σ 82 0 84 0 33 b = σ b := mcpy_ne b h
/-- the class's trial town takes over what is now -/
theorem c_trial {σ : Mem} {t : Nat} (h : Inv σ) (ht : isTown t = true) (h15 : t ≠ 15) : ∃ τ, f_X6_takeOver t 15 σ = some τ ∧ TwR τ t (G0 σ) ∧ ∀ a, (a < t ∨ t + 5 ≤ a) → τ a = σ a := by
  obtain ⟨τ, e1, e2, e3, e4⟩ := c_takeOver (σ := σ) (t := t) (x := 15) ht rfl h15 (by rcases twn h with ⟨q, -⟩ | ⟨q, -⟩ <;> rw [q] <;> rfl)
  exact ⟨τ, e1, (e2 _ h.tw).eqT (G0_eq σ), e4⟩
theorem s_drawn {σ : Mem} {n : Nat} (h : Inv σ) (hn : 2000 ≤ n) (x1 x2 x3 : Int32) : Both σ (f_X7_drawn n x1 x2 x3) (f_X8_drawn n x1 x2 x3) := by
  rcases twn h with ⟨t1, t2⟩ | ⟨t1, t2⟩
  · exact Both.same h (-1000002) (by simp [f_X7_drawn, t1]) (by simp [f_X8_drawn, r_isTown, t2])
  have T1 : ¬ σ 15 0 = 0 := by rw [t1]; decide
  have T2 : ∀ τ : Mem, τ 82 = σ 82 → f_X8_isTown τ = some 1 := fun τ e => by rw [r_isTown, e, if_pos t2]
  have N1 : ¬ (1 : Int32) = 0 := by decide
  have bad : ∀ {x a b : Int32} {τ : Mem}, (x < a ∨ b < x) → f_X8_in τ x a b = some 0 := fun q => in_no q
  by_cases a1 : x1 < 0
  · exact Both.same h (-1000001) (by simp only [f_X7_drawn, if_neg T1, if_pos a1]) (by simp only [f_X8_drawn, T2 σ rfl, Option.bind_some, if_neg N1, bad (Or.inl a1 : x1 < 0 ∨ (60 : Int32) < x1), if_true])
  by_cases a2 : 60 < x1
  · exact Both.same h (-1000001) (by simp only [f_X7_drawn, if_neg T1, if_neg a1, if_pos a2]) (by simp only [f_X8_drawn, T2 σ rfl, Option.bind_some, if_neg N1, bad (Or.inr a2 : x1 < 0 ∨ (60 : Int32) < x1), if_true])
  have i1 : ∀ τ, f_X8_in τ x1 0 60 = some 1 := fun τ => in_yes a1 a2
  by_cases b1 : x2 < 1
  · exact Both.same h (-1000001) (by simp only [f_X7_drawn, if_neg T1, if_neg a1, if_neg a2, if_pos b1]) (by simp only [f_X8_drawn, T2 σ rfl, Option.bind_some, if_neg N1, i1, bad (Or.inl b1 : x2 < 1 ∨ (999999 : Int32) < x2), if_true])
  by_cases b2 : 999999 < x2
  · exact Both.same h (-1000001) (by simp only [f_X7_drawn, if_neg T1, if_neg a1, if_neg a2, if_neg b1, if_pos b2]) (by simp only [f_X8_drawn, T2 σ rfl, Option.bind_some, if_neg N1, i1, bad (Or.inr b2 : x2 < 1 ∨ (999999 : Int32) < x2), if_true])
  have i2 : ∀ τ, f_X8_in τ x2 1 999999 = some 1 := fun τ => in_yes b1 b2
  by_cases c1 : x3 < 0
  · exact Both.same h (-1000001) (by simp only [f_X7_drawn, if_neg T1, if_neg a1, if_neg a2, if_neg b1, if_neg b2, if_pos c1]) (by simp only [f_X8_drawn, T2 σ rfl, Option.bind_some, if_neg N1, i1, i2, bad (Or.inl c1 : x3 < 0 ∨ (1 : Int32) < x3), if_true])
  by_cases c2 : x3 ≤ 1
  rotate_left
  · have c3 : (1 : Int32) < x3 := by rw [i32_le] at c2; rw [i32_lt]; omega
    exact Both.same h (-1000001) (by simp only [f_X7_drawn, if_neg T1, if_neg a1, if_neg a2, if_neg b1, if_neg b2, if_neg c1, if_neg c2]) (by simp only [f_X8_drawn, T2 σ rfl, Option.bind_some, if_neg N1, i1, i2, bad (Or.inr c3 : x3 < 0 ∨ (1 : Int32) < x3), if_true])
  have i3 : ∀ τ, f_X8_in τ x3 0 1 = some 1 := fun τ => in_yes c1 (fun q => by rw [i32_le] at c2; rw [i32_lt] at q; omega)
  obtain ⟨N, hN, rfl⟩ := okI (k := 60) a1 (by rw [i32_lt] at a2; rw [i32_le]; show _ ≤ (60 : Int32).toInt; omega) (by decide)
  obtain ⟨m, hm⟩ := h.many
  obtain ⟨τ, e1, e2, e3⟩ := c_trial h (t := 20) rfl (by decide)
  obtain ⟨υ, u1, u2⟩ := c_dr (n := n) (m := m) (N := N) (x3 := x3) hN (by omega) N 0 n x2.toInt64 (G0 σ) τ e2 (G0_many hm) (by omega) (by omega)
  have o1 : ∀ a, (a < 20 ∨ 25 ≤ a) → υ a = σ a := fun a ha => (u2 a (by omega)).trans (e3 a ha)
  have g1 : G0 υ = G0 σ := G0_congr (o1 82 (by omega)) (fun j _ => by rw [o1 84 (by omega)])
  have m84 : Mny (mcpy υ 82 0 84 0 33 84) m := by rw [begin84, g1]; exact G0_many hm
  obtain ⟨ω, w1, w2⟩ := r_dr (n := n) (m := m) (N := N) (x3 := x3) hN (by omega) N 0 n x2.toInt64 (mcpy υ 82 0 84 0 33) m84 (by rw [begin84, begin_ne (by decide)]; rfl) (by omega) (by omega)
  rw [begin84, g1] at w1
  refine ⟨if x3 = 0 then drN N x2.toInt64 (G0 σ) 3 else drN N x2.toInt64 (G0 σ) 2, υ, ω, ?_, ?_, ?_⟩
  · simp only [f_X7_drawn, if_neg T1, if_neg a1, if_neg a2, if_neg b1, if_neg b2, if_neg c1, if_pos c2, e1, Option.bind_some]
    exact u1
  · simp only [f_X8_drawn, T2 υ (o1 82 (by omega)), Option.bind_some, if_neg N1, i1, i2, i3, r_begin (show 100 ≤ n by omega)]
    exact w1
  · have o : ∀ a, (a < 20 ∨ 25 ≤ a) → a ≠ 84 → ω a = σ a := fun a p1 p2 => by rw [w2 a p2, begin_ne p2, o1 a p1]
    refine h.scr (fun a p1 p2 p3 => o a ?_ ?_) (fun j _ _ => by rw [o 77 (by omega) (by decide)]) (by rw [o 0 (by omega) (by decide), o 77 (by omega) (by decide)]; exact h.2.1)
    · simp [pScr] at p1; omega
    · intro q; rw [q] at p1; cases p1
