/-! ===== lost ===== -/
/-- whether the first k of a row bring e or more -/
def lsO (g : Nat → Int32) (e : Int32) (o : Option (Nat → Int32)) : Bool := match o with
  | some g' => !decide (g' 3 - g 3 < e)
  | none => false
def lsP (g : Nat → Int32) (ls : List Int32) (e : Int32) (k : Nat) : Bool := lsO g e (wlk (ls.take k) g)
def dnT (g : Nat → Int32) (ls : List Int32) (e : Int32) : Nat → Int32 → Int32
  | 0, t => if lsP g ls e 0 = true then nI 0 else t
  | k + 1, t => dnT g ls e k (if lsP g ls e (k + 1) = true then nI (k + 1) else t)
theorem dnT_c {g : Nat → Int32} {ls : List Int32} {e : Int32} : ∀ (k : Nat), k < 100 → (0 ≤ dnT g ls e k (-1) ∧ ∀ t, dnT g ls e k t = dnT g ls e k (-1)) ∨ (dnT g ls e k (-1) = -1 ∧ ∀ t, dnT g ls e k t = t) := by
  intro k
  induction k with
  | zero =>
    intro _
    by_cases q : lsP g ls e 0 = true
    · have z : ∀ t, dnT g ls e 0 t = nI 0 := fun t => if_pos q
      exact Or.inl ⟨by rw [z]; decide, fun t => by rw [z, z]⟩
    · have z : ∀ t, dnT g ls e 0 t = t := fun t => if_neg q
      exact Or.inr ⟨z _, z⟩
  | succ k ih =>
    intro hk
    have s : ∀ t, dnT g ls e (k + 1) t = dnT g ls e k (if lsP g ls e (k + 1) = true then nI (k + 1) else t) := fun _ => rfl
    rcases ih (by omega) with ⟨h0, h⟩ | ⟨h0, h⟩
    · have z : ∀ t, dnT g ls e (k + 1) t = dnT g ls e k (-1) := fun t => (s t).trans (h _)
      exact Or.inl ⟨by rw [z]; exact h0, fun t => by rw [z, z]⟩
    · by_cases w : lsP g ls e (k + 1) = true
      · have z : ∀ t, dnT g ls e (k + 1) t = nI (k + 1) := fun t => (s t).trans ((h _).trans (if_pos w))
        exact Or.inl ⟨by rw [z]; exact nI_pos' (by omega), fun t => by rw [z, z]⟩
      · have z : ∀ t, dnT g ls e (k + 1) t = t := fun t => (s t).trans ((h _).trans (if_neg w))
        exact Or.inr ⟨z _, z⟩
theorem dnT_t {g : Nat → Int32} {ls : List Int32} {e : Int32} (k : Nat) (hk : k < 100) (t : Int32) : dnT g ls e k t = if 0 ≤ dnT g ls e k (-1) then dnT g ls e k (-1) else t := by
  rcases dnT_c (g := g) (ls := ls) (e := e) k hk with ⟨h0, h⟩ | ⟨h0, h⟩
  · rw [if_pos h0, h t]
  · rw [if_neg (by rw [h0]; decide), h t]
theorem dnT_s {g : Nat → Int32} {ls : List Int32} {e : Int32} {k : Nat} (hk : k < 99) : dnT g ls e (k + 1) (-1) = if 0 ≤ dnT g ls e k (-1) then dnT g ls e k (-1) else if lsP g ls e (k + 1) = true then nI (k + 1) else -1 := by
  have s : dnT g ls e (k + 1) (-1) = dnT g ls e k (if lsP g ls e (k + 1) = true then nI (k + 1) else -1) := rfl
  rw [s, dnT_t k (by omega)]
/-- how many times, as both sides find it -/
def lsT (g : Nat → Int32) (ls : List Int32) (e : Int32) : Int32 := if (wlk ls g).isSome = true then dnT g ls e ls.length (-1) else -1
theorem c_tu {n a N i0 : Nat} {e : Int32} {g0 : Nat → Int32} {ls : List Int32} (ha : isIA a = true) (hal : alen a < 2 ^ 20) (hat : a ≠ 20) (hn : 100 ≤ n) (hlen : ls.length = N) (hN : i0 + N ≤ alen a) (hN9 : N ≤ 9) : ∀ (suf pre : List Int32) (m f : Nat) (g : Nat → Int32) (σ : Mem), ls = pre ++ suf → wlk pre g0 = some g → TwR σ 20 g → Mny g m → suf.length < f → (∀ j (hj : j < ls.length), σ a (i0 + j) = ls[j]) →
    ∃ τ, f_X7_timesUntil_l28 n f e a (nI i0) (nI N) (dnT g0 ls e pre.length (-1)) (g 3 - g0 3) (nI pre.length) σ = some (lsT g0 ls e, τ) ∧ (∀ b, b ≠ 20 → τ b = σ b) := by
  intro suf
  induction suf with
  | nil =>
    intro pre m f g σ hl hw hT hm hf hls
    obtain ⟨f, rfl⟩ : ∃ f', f = f' + 1 := ⟨f - 1, by simp at hf; omega⟩
    rw [List.append_nil] at hl
    subst hl
    refine ⟨σ, ?_, fun _ _ => rfl⟩
    show f_X7_timesUntil_b28 n _ e a _ _ _ _ _ σ = _
    unfold f_X7_timesUntil_b28
    rw [if_pos ((nI_le_lit (by omega) (by omega)).mpr (by omega))]
    unfold lsT
    rw [hw]
    rfl
  | cons x xs ih =>
    intro pre m f g σ hl hw hT hm hf hls
    obtain ⟨f, rfl⟩ : ∃ f', f = f' + 1 := ⟨f - 1, by simp at hf; omega⟩
    have hll : pre.length + (xs.length + 1) = N := by rw [← hlen, hl]; simp
    simp only [List.length_cons] at hf
    have hx : σ a (i0 + pre.length) = x := by
      rw [hls pre.length (by omega)]
      simp [hl]
    have h1 : f_X7_timesUntil_l28 n (f + 1) e a (nI i0) (nI N) (dnT g0 ls e pre.length (-1)) (g 3 - g0 3) (nI pre.length) σ = f_X7_timesUntil_b28 n (f_X7_timesUntil_l28 n f) e a (nI i0) (nI N) (dnT g0 ls e pre.length (-1)) (g 3 - g0 3) (nI pre.length) σ := rfl
    rw [h1]
    unfold f_X7_timesUntil_b28 f_X7_timesUntil_b88
    rw [if_neg (fun q => by have := (nI_le_lit (by omega) (by omega)).mp q; omega), if_pos ha, nIa, if_pos (inB_nI (by omega) (by omega)), tn_nI (by omega), hx, Option.bind_some, c_canHave (t := 20) rfl hT hm, Option.bind_some]
    by_cases q : sCanX g x = true
    · obtain ⟨r, hr, rfl, hc⟩ := canX hm q
      have h6 := hm.1
      obtain ⟨τ, t1, t2, t3⟩ := c_hand (n := n) (t := 20) rfl hT hm hn hr
      have hw2 : wlk (pre ++ [nI r]) g0 = some (sGive g r) := by
        rw [wlk_app, hw, Option.bind_some, wlk, if_pos q, tn_nI (by omega)]; rfl
      have hl2 : ls = (pre ++ [nI r]) ++ xs := by rw [hl, List.append_assoc]; rfl
      have htk : ls.take (pre.length + 1) = pre ++ [nI r] := by
        rw [hl2, List.take_append_of_le_length (by simp), List.take_of_length_le (by simp)]
      have hP : lsP g0 ls e (pre.length + 1) = !decide (sGive g r 3 - g0 3 < e) := by
        unfold lsP
        rw [htk, hw2]; rfl
      have hD := dnT_s (g := g0) (ls := ls) (e := e) (k := pre.length) (by omega)
      obtain ⟨υ, u1, u2⟩ := ih (pre ++ [nI r]) m f (sGive g r) τ hl2 hw2 t2 hm.give (by omega) (fun j hj => by rw [t3 a hat]; exact hls j hj)
      rw [show (pre ++ [nI r]).length = pre.length + 1 by simp, hD, hP] at u1
      refine ⟨υ, ?_, fun b hb => (u2 b hb).trans (t3 b hb)⟩
      rw [q, b2i_t, if_neg (by decide), t1, Option.bind_some]
      dsimp only
      rw [Option.bind_some, sub_add_c, ← sGive3, nI_1]
      rw [← u1]
      by_cases w : 0 ≤ dnT g0 ls e pre.length (-1)
      · rw [if_pos w, if_pos w]
      · rw [if_neg w, if_neg w]
        have w1 : dnT g0 ls e pre.length (-1) = -1 := by
          have := dnT_t (g := g0) (ls := ls) (e := e) pre.length (by omega) (-1)
          rw [if_neg w] at this
          exact this
        by_cases z : sGive g r 3 - g0 3 < e
        · rw [if_pos z, w1]
          simp [z]
        · rw [if_neg z]
          simp [z]
    · have q' : sCanX g x = false := by simpa using q
      refine ⟨σ, ?_, fun _ _ => rfl⟩
      have w : wlk ls g0 = none := by rw [hl, wlk_app, hw, Option.bind_some, wlk, if_neg q]
      unfold lsT
      rw [q', b2i_f, if_pos rfl, w]; rfl
/-- the reference: from the whole row down, then the whole row once more -/
theorem r_lo {σ : Mem} {n m N : Nat} {x4 x5 x6 : Int32} {ls : List Int32} (hm : Mny (σ 82) m) (hn : 2000 ≤ n) (hlen : ls.length = N) (hN6 : N ≤ 6) (hls : ∀ j (hj : j < ls.length), σ 89 j = ls[j]) : ∀ (k f : Nat) (t : Int32) (υ : Mem), k ≤ N → k + 2 < f → (∀ b, b ≠ 84 → υ b = σ b) → (∀ j, 33 ≤ j → υ 84 j = σ 84 j) →
    ∃ τ, f_X8_lost_l86 n f (nI N) x4 x5 x6 t (nI k) υ = f_X8_lost_b167 n x4 x6 (if (wlk ls (G0 σ)).isSome = true then dnT (G0 σ) ls x5 k t else -1) τ ∧ (∀ b, b ≠ 84 → τ b = σ b) := by
  have h6 := hm.1
  have go : ∀ (k : Nat) (υ : Mem), k ≤ N → (∀ b, b ≠ 84 → υ b = σ b) → (∀ j, 33 ≤ j → υ 84 j = σ 84 j) → ∃ τ, f_X8_goesOn n 89 (nI k) (mcpy υ 82 0 84 0 33) = some (if (wlk (ls.take k) (G0 σ)).isSome = true then 1 else 0, τ) ∧ (∀ b, b ≠ 84 → τ b = σ b) ∧ (∀ j, 33 ≤ j → τ 84 j = σ 84 j) ∧ ∀ g', wlk (ls.take k) (G0 σ) = some g' → τ 84 = g' := by
    intro k υ hk ho ht
    have g1 : G0 υ = G0 σ := G0_congr (ho 82 (by decide)) ht
    have e84 : mcpy υ 82 0 84 0 33 84 = G0 σ := by rw [begin84, g1]
    have hl : (ls.take k).length = k := by rw [List.length_take]; omega
    obtain ⟨τ, w1, w2, w3, w4⟩ := r_go (n := n) (a := 89) (N := k) rfl (by decide) (by decide) (by omega) (ls.take k) 0 m n (mcpy υ 82 0 84 0 33) (by rw [e84]; exact G0_many hm) (by omega) (by show k ≤ 6; omega) (by omega) (fun j hj => by
      rw [begin_ne (by decide), ho 89 (by decide), Nat.zero_add, List.getElem_take]; exact hls j (by omega))
    rw [e84] at w1 w3 w4
    exact ⟨τ, w1, fun b hb => by rw [w2 b hb, begin_ne hb, ho b hb], fun j hj => by rw [w3 j (by omega)]; exact if_neg (by omega), w4⟩
  have last : ∀ (f : Nat) (t : Int32) (υ : Mem), (∀ b, b ≠ 84 → υ b = σ b) → (∀ j, 33 ≤ j → υ 84 j = σ 84 j) → ∃ τ, f_X8_lost_l86 n (f + 1) (nI N) x4 x5 x6 t (-1) υ = f_X8_lost_b167 n x4 x6 (if (wlk ls (G0 σ)).isSome = true then t else -1) τ ∧ (∀ b, b ≠ 84 → τ b = σ b) := by
    intro f t υ ho ht
    obtain ⟨τ, w1, w2, -, -⟩ := go N υ (Nat.le_refl _) ho ht
    rw [List.take_of_length_le (by omega)] at w1
    refine ⟨τ, ?_, w2⟩
    show f_X8_lost_b86 n _ _ x4 x5 x6 t (-1) υ = _
    unfold f_X8_lost_b86
    rw [if_pos (by decide), r_begin (by omega), Option.bind_some, w1, Option.bind_some]
    dsimp only
    by_cases q : (wlk ls (G0 σ)).isSome = true
    · rw [if_pos q, if_pos q, if_neg (by decide)]
    · rw [if_neg q, if_neg q, if_pos rfl]
  have st : ∀ (k f : Nat) (t : Int32) (υ : Mem), k ≤ N → (∀ b, b ≠ 84 → υ b = σ b) → (∀ j, 33 ≤ j → υ 84 j = σ 84 j) → ∃ τ, f_X8_lost_l86 n (f + 1) (nI N) x4 x5 x6 t (nI k) υ = f_X8_lost_l86 n f (nI N) x4 x5 x6 (if lsP (G0 σ) ls x5 k = true then nI k else t) (nI k + (-1)) τ ∧ (∀ b, b ≠ 84 → τ b = σ b) ∧ (∀ j, 33 ≤ j → τ 84 j = σ 84 j) := by
    intro k f t υ hk ho ht
    obtain ⟨τ, w1, w2, w3, w4⟩ := go k υ hk ho ht
    refine ⟨τ, ?_, w2, w3⟩
    show f_X8_lost_b86 n (f_X8_lost_l86 n f) _ x4 x5 x6 t (nI k) υ = _
    unfold f_X8_lost_b86 f_X8_lost_b135 f_X8_lost_b137
    rw [if_neg (nI_nn (by omega)), r_begin (by omega), Option.bind_some, w1, Option.bind_some]
    dsimp only
    unfold lsP
    cases hw : wlk (ls.take k) (G0 σ) with
    | none => rfl
    | some g' =>
      rw [w4 g' hw, w2 82 (by decide), tl3]
      have e3 : σ 82 3 = G0 σ 3 := rfl
      rw [e3]
      simp only [Option.isSome_some, if_true, if_neg (show ¬ (1 : Int32) = 0 by decide), inL (show inB 3 33 = true by decide)]
      by_cases q : g' 3 - G0 σ 3 < x5
      · rw [if_pos q, if_neg (show ¬ lsO (G0 σ) x5 (some g') = true by simp [lsO, q])]
      · rw [if_neg q, if_pos (show lsO (G0 σ) x5 (some g') = true by simp [lsO, q])]
  intro k
  induction k with
  | zero =>
    intro f t υ hk hf ho ht
    obtain ⟨f, rfl⟩ : ∃ f', f = f' + 2 := ⟨f - 2, by omega⟩
    obtain ⟨τ, s1, s2, s3⟩ := st 0 (f + 1) t υ hk ho ht
    obtain ⟨ω, l1, l2⟩ := last f (if lsP (G0 σ) ls x5 0 = true then nI 0 else t) τ s2 s3
    exact ⟨ω, s1.trans l1, l2⟩
  | succ k ih =>
    intro f t υ hk hf ho ht
    obtain ⟨f, rfl⟩ : ∃ f', f = f' + 1 := ⟨f - 1, by omega⟩
    obtain ⟨τ, s1, s2, s3⟩ := st (k + 1) f t υ hk ho ht
    rw [pk_m1] at s1
    obtain ⟨ω, l1, l2⟩ := ih f (if lsP (G0 σ) ls x5 (k + 1) = true then nI (k + 1) else t) τ (by omega) (by omega) s2 s3
    exact ⟨ω, s1.trans l1, l2⟩
/-! powers and the common divisor -/
def pwI (b : Int32) : Nat → Int32 → Int32
  | 0, p => p
  | k + 1, p => pwI b k (p * b)
theorem c_pw {n N : Nat} {σ : Mem} {b : Int32} (hN : N < 100) : ∀ (k i f : Nat) (p : Int32), i + k = N → k < f → f_X7_power_l4 n σ f b (nI N) p (nI i) = some (pwI b k p) := by
  intro k
  induction k with
  | zero =>
    intro i f p hi hf
    obtain ⟨f, rfl⟩ : ∃ f', f = f' + 1 := ⟨f - 1, by omega⟩
    show f_X7_power_b4 n σ _ b _ p _ = _
    unfold f_X7_power_b4
    rw [if_pos ((nI_le_lit (by omega) (by omega)).mpr (by omega))]; rfl
  | succ k ih =>
    intro i f p hi hf
    obtain ⟨f, rfl⟩ : ∃ f', f = f' + 1 := ⟨f - 1, by omega⟩
    show f_X7_power_b4 n σ (f_X7_power_l4 n σ f) b _ p _ = _
    unfold f_X7_power_b4
    rw [if_neg (fun q => by have := (nI_le_lit (by omega) (by omega)).mp q; omega), Option.bind_some, nI_1]
    exact ih (i + 1) f (p * b) (by omega) (by omega)
theorem r_pw {n N : Nat} {x4 x6 : Int32} {σ : Mem} (hN : N < 100) : ∀ (k i f : Nat) (p q : Int32), i + k = N → k < f → f_X8_lost_l187 n f x4 x6 (nI N) p q (nI i) σ = f_X8_lost_l225 n n x6 (pwI (10 - x4) k p) (pwI 10 k q) (pwI (10 - x4) k p) (pwI 10 k q) σ := by
  intro k
  induction k with
  | zero =>
    intro i f p q hi hf
    obtain ⟨f, rfl⟩ : ∃ f', f = f' + 1 := ⟨f - 1, by omega⟩
    show f_X8_lost_b187 n _ x4 x6 _ p q _ σ = _
    unfold f_X8_lost_b187
    rw [if_pos ((nI_le_lit (by omega) (by omega)).mpr (by omega))]; rfl
  | succ k ih =>
    intro i f p q hi hf
    obtain ⟨f, rfl⟩ : ∃ f', f = f' + 1 := ⟨f - 1, by omega⟩
    show f_X8_lost_b187 n (f_X8_lost_l187 n f) x4 x6 _ p q _ σ = _
    unfold f_X8_lost_b187
    rw [if_neg (fun w => by have := (nI_le_lit (by omega) (by omega)).mp w; omega), Option.bind_some, Option.bind_some, nI_1]
    exact ih (i + 1) f _ _ (by omega) (by omega)
/-- Euclid's rounds: k at most; the answer, if the low one has come to 0 -/
def gcI : Nat → Int32 → Int32 → Option Int32
  | 0, a, b => if b = 0 then some a else none
  | k + 1, a, b => if b = 0 then some a else if b < 0 then none else gcI k b (a - a / b * b)
theorem c_gc {n : Nat} {σ : Mem} : ∀ (k i f : Nat) (a b d : Int32), i + k ≤ 63 → k < f → gcI k a b = some d → f_X7_commonDivisor_l7 n σ f a b (nI i) = some d := by
  intro k
  induction k with
  | zero =>
    intro i f a b d hi hf hg
    obtain ⟨f, rfl⟩ : ∃ f', f = f' + 1 := ⟨f - 1, by omega⟩
    show f_X7_commonDivisor_b7 n σ _ a b _ = _
    unfold f_X7_commonDivisor_b7
    rw [gcI] at hg
    by_cases q : b = 0
    · rw [if_pos q] at hg
      rw [if_neg (fun w => by have := (nI_le_lit (n := 64) (by omega) (by omega)).mp w; omega), if_pos q, hg]
    · rw [if_neg q] at hg; cases hg
  | succ k ih =>
    intro i f a b d hi hf hg
    obtain ⟨f, rfl⟩ : ∃ f', f = f' + 1 := ⟨f - 1, by omega⟩
    show f_X7_commonDivisor_b7 n σ (f_X7_commonDivisor_l7 n σ f) a b _ = _
    unfold f_X7_commonDivisor_b7
    rw [gcI] at hg
    by_cases q : b = 0
    · rw [if_pos q] at hg
      rw [if_neg (fun w => by have := (nI_le_lit (n := 64) (by omega) (by omega)).mp w; omega), if_pos q, hg]
    · rw [if_neg q] at hg
      by_cases z : b < 0
      · rw [if_pos z] at hg; cases hg
      rw [if_neg z] at hg
      rw [if_neg (fun w => by have := (nI_le_lit (n := 64) (by omega) (by omega)).mp w; omega), if_neg q, if_neg q, Option.bind_some, nI_1]
      exact ih (i + 1) f _ _ d (by omega) (by omega) hg
theorem r_gc {n : Nat} {σ : Mem} {x6 u w : Int32} : ∀ (k f : Nat) (a b d : Int32), k < f → gcI k a b = some d → f_X8_lost_l225 n f x6 u w a b σ = if x6 = 0 then f_X8_lost_b261 n d u σ else f_X8_lost_b261 n d w σ := by
  intro k
  induction k with
  | zero =>
    intro f a b d hf hg
    obtain ⟨f, rfl⟩ : ∃ f', f = f' + 1 := ⟨f - 1, by omega⟩
    show f_X8_lost_b225 n _ x6 u w a b σ = _
    unfold f_X8_lost_b225
    rw [gcI] at hg
    by_cases q : b = 0
    · rw [if_pos q] at hg
      rw [if_pos (by rw [q]; decide), (Option.some.inj hg)]
    · rw [if_neg q] at hg; cases hg
  | succ k ih =>
    intro f a b d hf hg
    obtain ⟨f, rfl⟩ : ∃ f', f = f' + 1 := ⟨f - 1, by omega⟩
    show f_X8_lost_b225 n (f_X8_lost_l225 n f) x6 u w a b σ = _
    unfold f_X8_lost_b225
    rw [gcI] at hg
    by_cases q : b = 0
    · rw [if_pos q] at hg
      rw [if_pos (by rw [q]; decide), (Option.some.inj hg)]
    · rw [if_neg q] at hg
      by_cases z : b < 0
      · rw [if_pos z] at hg; cases hg
      rw [if_neg z] at hg
      rw [if_neg (fun v => by rw [i32_le] at v; rw [i32_lt] at z; exact q ((i32_eq _ _).mpr (by omega))), if_neg q, Option.bind_some]
      exact ih f _ _ d (by omega) hg
/-- every case that can come: c of 10 lost, t times -/
def gcOk (c t : Nat) : Bool := match gcI 40 (pwI (10 - nI c) t 1) (pwI 10 t 1) with
  | some d => decide (0 < d) && decide (imax 1 d = d)
  | none => false
theorem gc_all : ∀ c, c < 11 → ∀ t, t < 7 → gcOk c t = true := by decide +kernel
theorem gc_of {c t : Nat} (hc : c < 11) (ht : t < 7) : ∃ d, gcI 40 (pwI (10 - nI c) t 1) (pwI 10 t 1) = some d ∧ ¬ d = 0 ∧ imax 1 d = d := by
  have h := gc_all c hc t ht
  unfold gcOk at h
  cases hg : gcI 40 (pwI (10 - nI c) t 1) (pwI 10 t 1) with
  | none => rw [hg] at h; cases h
  | some d =>
    rw [hg] at h
    simp only [Bool.and_eq_true, decide_eq_true_eq] at h
    exact ⟨d, rfl, fun q => by rw [q] at h; exact absurd h.1 (by decide), h.2⟩
theorem dnT_rng {g : Nat → Int32} {ls : List Int32} {e : Int32} : ∀ k, k < 90 → dnT g ls e k (-1) = -1 ∨ ∃ t, t ≤ k ∧ dnT g ls e k (-1) = nI t := by
  intro k
  induction k with
  | zero =>
    intro _
    simp only [dnT]
    by_cases q : lsP g ls e 0 = true
    · rw [if_pos q]; exact Or.inr ⟨0, Nat.le_refl _, rfl⟩
    · rw [if_neg q]; exact Or.inl rfl
  | succ k ih =>
    intro hk
    rw [dnT_s (by omega)]
    rcases ih (by omega) with q | ⟨t, ht, q⟩
    · rw [q, if_neg (by decide)]
      by_cases w : lsP g ls e (k + 1) = true
      · rw [if_pos w]; exact Or.inr ⟨k + 1, Nat.le_refl _, rfl⟩
      · rw [if_neg w]; exact Or.inl rfl
    · rw [q, if_pos (nI_pos' (by omega))]; exact Or.inr ⟨t, by omega, rfl⟩
/-- behind the count of times -/
def lsA (c : Nat) (x6 T : Int32) (y : Int32) : Prop := ∀ (n : Nat), 2000 ≤ n → (∀ σ : Mem, (if 0 ≤ T then (f_X7_power n σ (10 - nI c) T).bind fun y14 => f_X7_lost_b111 n x6 T y14 σ else f_X7_lost_b111 n x6 T 0 σ) = some (y, mset σ 0 10 0)) ∧ ∀ σ : Mem, f_X8_lost_b167 n (nI c) x6 T σ = some (y, mset σ 77 3 0)
theorem ls_ans {c : Nat} {x6 T : Int32} {k : Nat} (hc : c < 11) (hk : k ≤ 6) (hT : T = -1 ∨ ∃ t, t ≤ k ∧ T = nI t) : ∃ y, lsA c x6 T y := by
  rcases hT with rfl | ⟨t, ht, rfl⟩
  · refine ⟨if x6 = 0 then 0 / 1 else 1 / 1, fun n hn => ⟨fun σ => ?_, fun σ => ?_⟩⟩
    · rw [if_neg (by decide)]
      unfold f_X7_lost_b111
      rw [if_neg (by decide)]
      unfold f_X7_lost_b129
      have hg : f_X7_commonDivisor n σ 0 1 = some 1 := c_gc (n := n) (σ := σ) 40 0 n 0 1 1 (by decide) (by omega) (by decide +kernel)
      rw [hg, Option.bind_some, Option.bind_some, show imax 1 1 = 1 from by decide]
      unfold f_X7_lost_b157
      by_cases q : x6 = 0
      · rw [if_pos q, if_pos q, if_neg (by decide)]; rfl
      · rw [if_neg q, if_neg q, if_neg (by decide)]; rfl
    · unfold f_X8_lost_b167 f_X8_lost_b179
      rw [if_neg (by decide)]
      obtain ⟨f, rfl⟩ : ∃ f', n = f' + 1 := ⟨n - 1, by omega⟩
      have h1 : f_X8_lost_l187 (f + 1) (f + 1) (nI c) x6 (-1) 0 1 0 σ = f_X8_lost_l225 (f + 1) (f + 1) x6 0 1 0 1 σ := by
        show f_X8_lost_b187 (f + 1) _ (nI c) x6 (-1) 0 1 0 σ = _
        unfold f_X8_lost_b187
        rw [if_pos (by decide)]
      rw [h1, r_gc (n := f + 1) (σ := σ) (x6 := x6) (u := 0) (w := 1) 40 (f + 1) 0 1 1 (by omega) (by decide +kernel)]
      unfold f_X8_lost_b261
      by_cases q : x6 = 0
      · rw [if_pos q, if_pos q, if_neg (by decide)]; rfl
      · rw [if_neg q, if_neg q, if_neg (by decide)]; rfl
  · obtain ⟨d, g1, g2, g3⟩ := gc_of hc (show t < 7 by omega)
    refine ⟨if x6 = 0 then pwI (10 - nI c) t 1 / d else pwI 10 t 1 / d, fun n hn => ⟨fun σ => ?_, fun σ => ?_⟩⟩
    · rw [if_pos (nI_pos' (by omega))]
      have p1 : f_X7_power n σ (10 - nI c) (nI t) = some (pwI (10 - nI c) t 1) := c_pw (n := n) (σ := σ) (N := t) (by omega) t 0 n 1 (by omega) (by omega)
      have p2 : f_X7_power n σ 10 (nI t) = some (pwI 10 t 1) := c_pw (n := n) (σ := σ) (N := t) (by omega) t 0 n 1 (by omega) (by omega)
      have hg : f_X7_commonDivisor n σ (pwI (10 - nI c) t 1) (pwI 10 t 1) = some d := c_gc (n := n) (σ := σ) 40 0 n _ _ d (by decide) (by omega) g1
      rw [p1, Option.bind_some]
      unfold f_X7_lost_b111
      rw [if_pos (nI_pos' (by omega)), p2, Option.bind_some]
      unfold f_X7_lost_b129
      rw [hg, Option.bind_some, Option.bind_some, g3]
      unfold f_X7_lost_b157
      by_cases q : x6 = 0
      · rw [if_pos q, if_pos q, if_neg g2]; rfl
      · rw [if_neg q, if_neg q, if_neg g2]; rfl
    · unfold f_X8_lost_b167 f_X8_lost_b179
      rw [if_pos (nI_pos' (by omega))]
      have h1 := r_pw (n := n) (N := t) (x4 := nI c) (x6 := x6) (σ := σ) (by omega) t 0 n 1 1 (by omega) (by omega)
      have h2 : f_X8_lost_l187 n n (nI c) x6 (nI t) 1 1 0 σ = _ := h1
      rw [h2, r_gc (n := n) (σ := σ) (x6 := x6) 40 n _ _ d (by omega) g1]
      unfold f_X8_lost_b261
      by_cases q : x6 = 0
      · rw [if_pos q, if_pos q, if_neg g2]; rfl
      · rw [if_neg q, if_neg q, if_neg g2]; rfl
theorem s_lost {σ : Mem} {n : Nat} (h : Inv σ) (hn : 2000 ≤ n) (x1 x2 x3 x4 x5 x6 : Int32) : Both σ (f_X7_lost n x1 x2 x3 x4 x5 x6) (f_X8_lost n x1 x2 x3 x4 x5 x6) := by
  have N1 : ¬ (1 : Int32) = 0 := by decide
  rcases twn h with ⟨t1, t2⟩ | ⟨t1, t2⟩
  · exact Both.same h (-1000002) (by simp only [f_X7_lost, if_pos t1]) (by simp [f_X8_lost, r_isTown, t2])
  have T1 : ¬ σ 15 0 = 0 := by rw [t1]; decide
  have T2 : ∀ τ : Mem, τ 82 = σ 82 → f_X8_isTown τ = some 1 := fun τ e => by rw [r_isTown, e, if_pos t2]
  obtain ⟨m, hm⟩ := h.many
  have h6 := hm.1
  rcases nrow σ σ x1 with ⟨d1, d2⟩ | ⟨q, hq, rfl, d1, d2⟩
  · exact Both.same h (-1000001) (by simp only [f_X7_lost, if_neg T1, f_X7_isTold, d1, Option.bind_some, if_true, if_neg N1]) (by simp only [f_X8_lost, T2 σ rfl, d2, Option.bind_some, if_true, if_neg N1])
  by_cases a1 : x3 < 1 ∨ 6 < x3
  · exact Both.same h (-1000001) (by simp only [f_X7_lost, if_neg T1, told_no hq (show x3 < 1 ∨ 6 < x3 ∨ x5 < 0 ∨ 999 < x5 by rcases a1 with w | w <;> simp [w]), Option.bind_some, if_true, if_neg N1]) (by simp only [f_X8_lost, T2 σ rfl, d2, in_no a1, Option.bind_some, if_true, if_neg N1])
  have a2 : ¬ x3 < 1 := fun w => a1 (Or.inl w)
  have a3 : ¬ 6 < x3 := fun w => a1 (Or.inr w)
  have i3 : ∀ τ, f_X8_in τ x3 1 6 = some 1 := fun τ => in_yes a2 a3
  by_cases b1 : x5 < 0 ∨ 999 < x5
  · by_cases c1 : x4 < 0 ∨ 10 < x4
    · exact Both.same h (-1000001) (by simp only [f_X7_lost, if_neg T1, told_no hq (show x3 < 1 ∨ 6 < x3 ∨ x5 < 0 ∨ 999 < x5 by rcases b1 with w | w <;> simp [w]), Option.bind_some, if_true, if_neg N1]) (by simp only [f_X8_lost, T2 σ rfl, d2, i3, in_no c1, Option.bind_some, if_true, if_neg N1])
    · have i4 : ∀ τ, f_X8_in τ x4 0 10 = some 1 := fun τ => in_yes (fun w => c1 (Or.inl w)) (fun w => c1 (Or.inr w))
      exact Both.same h (-1000001) (by simp only [f_X7_lost, if_neg T1, told_no hq (show x3 < 1 ∨ 6 < x3 ∨ x5 < 0 ∨ 999 < x5 by rcases b1 with w | w <;> simp [w]), Option.bind_some, if_true, if_neg N1]) (by simp only [f_X8_lost, T2 σ rfl, d2, i3, i4, in_no b1, Option.bind_some, if_true, if_neg N1])
  have b2 : ¬ x5 < 0 := fun w => b1 (Or.inl w)
  have b3 : ¬ 999 < x5 := fun w => b1 (Or.inr w)
  have i5 : ∀ τ, f_X8_in τ x5 0 999 = some 1 := fun τ => in_yes b2 b3
  have tY : ∀ τ, f_X7_isTold τ (nI q) x3 x5 = some 1 := fun τ => told_yes hq a2 a3 b2 b3
  by_cases c1 : x4 < 0
  · exact Both.same h (-1000001) (by simp only [f_X7_lost, if_neg T1, tY, Option.bind_some, if_pos c1, if_neg N1]) (by simp only [f_X8_lost, T2 σ rfl, d2, i3, in_no (b := 10) (Or.inl c1), Option.bind_some, if_true, if_neg N1])
  by_cases c2 : 10 < x4
  · exact Both.same h (-1000001) (by simp only [f_X7_lost, if_neg T1, tY, Option.bind_some, if_neg c1, if_pos c2, if_neg N1]) (by simp only [f_X8_lost, T2 σ rfl, d2, i3, in_no (a := 0) (b := 10) (Or.inr c2), Option.bind_some, if_true, if_neg N1])
  have i4 : ∀ τ, f_X8_in τ x4 0 10 = some 1 := fun τ => in_yes c1 c2
  by_cases f1 : x6 < 0
  · exact Both.same h (-1000001) (by simp only [f_X7_lost, if_neg T1, tY, Option.bind_some, if_neg c1, if_neg c2, if_pos f1, if_neg N1]) (by simp only [f_X8_lost, T2 σ rfl, d2, i3, i4, i5, in_no (b := 1) (Or.inl f1), Option.bind_some, if_true, if_neg N1])
  by_cases f2 : x6 ≤ 1
  rotate_left
  · have f3 : (1 : Int32) < x6 := by rw [i32_le] at f2; rw [i32_lt]; omega
    exact Both.same h (-1000001) (by simp only [f_X7_lost, if_neg T1, tY, Option.bind_some, if_neg c1, if_neg c2, if_neg f1, if_neg f2, if_neg N1]) (by simp only [f_X8_lost, T2 σ rfl, d2, i3, i4, i5, in_no (a := 0) (b := 1) (Or.inr f3), Option.bind_some, if_true, if_neg N1])
  have i6 : ∀ τ, f_X8_in τ x6 0 1 = some 1 := fun τ => in_yes f1 (fun w => by rw [i32_le] at f2; rw [i32_lt] at w; omega)
  obtain ⟨c, hc, rfl⟩ := okI (k := 10) c1 (by rw [i32_lt] at c2; rw [i32_le]; show _ ≤ (10 : Int32).toInt; omega) (by decide)
  rcases tk (n := n) h hq hn x2 x3 with ⟨v, v0, v1, p1, p2⟩ | ⟨a, N, rfl, rfl, haN, p1, p2⟩
  · have ce : f_X7_lost n (nI q) x2 x3 (nI c) x5 x6 σ = some ((-1000010) - v, mset σ 0 10 v) := by
      unfold f_X7_lost
      rw [if_neg T1, tY, Option.bind_some, if_neg N1, if_neg c1, if_neg c2, if_neg f1, if_pos f2, p1, Option.bind_some, if_neg v0, c_found, Option.bind_some]
    have re : ∀ τ : Mem, τ 82 = σ 82 → τ 78 = σ 78 → τ 79 = σ 79 → f_X8_lost n (nI q) x2 x3 (nI c) x5 x6 τ = some ((-1000010) - v, mset τ 77 3 v) := by
      intro τ q1 q2 q3
      unfold f_X8_lost
      rw [T2 τ q1, Option.bind_some, if_neg N1, isRow1 hq, Option.bind_some, if_neg N1, i3, Option.bind_some, if_neg N1, i4, Option.bind_some, if_neg N1, i5, Option.bind_some, if_neg N1, i6, Option.bind_some, if_neg N1, p2 τ q2 q3, Option.bind_some]
      dsimp only
      rw [if_neg v1]
    exact ⟨_, _, _, ce, re _ (ms_cell (by decide)) (ms_cell (by decide)) (ms_cell (by decide)), fnd_inv h v⟩
  have hN6 : N ≤ 6 := by
    rcases Nat.lt_or_ge 6 N with w | w
    · exact absurd ((nI_lt_lit (n := 6) (by decide) (by omega)).mpr w) a3
    · exact w
  obtain ⟨ls, hlen, hls⟩ : ∃ ls : List Int32, ls.length = N ∧ ∀ j (hj : j < ls.length), σ 80 (40 * q + (a + j)) = ls[j] := ⟨(List.range N).map (fun j => σ 80 (40 * q + (a + j))), by simp, fun j hj => by simp⟩
  obtain ⟨ia, il⟩ := ia_row hq
  obtain ⟨τ, e1, e2, e3⟩ := c_trial h (t := 20) rfl (by decide)
  obtain ⟨υ, u1, u2⟩ := c_tu (n := n) (a := 5 + q) (N := N) (i0 := a) (e := x5) (g0 := G0 σ) (ls := ls) ia (by rw [il]; decide) (by omega) (by omega) hlen (by rw [il]; omega) (by omega) ls [] m n (G0 σ) τ rfl rfl e2 (G0_many hm) (by omega) (fun j hj => by
    rw [e3 _ (by omega), h.1.2 q (a + j) hq (by omega)]; exact hls j hj)
  have hp0 : lsP (G0 σ) ls x5 0 = !decide (0 < x5) := by
    unfold lsP
    rw [List.take_zero]
    show (!decide (G0 σ 3 - G0 σ 3 < x5)) = _
    rw [Int32.sub_self]
  have hd0 : dnT (G0 σ) ls x5 0 (-1) = if 0 < x5 then -1 else 0 := by
    have s : dnT (G0 σ) ls x5 0 (-1) = if lsP (G0 σ) ls x5 0 = true then nI 0 else -1 := rfl
    rw [s, hp0]
    by_cases w : (0 : Int32) < x5
    · rw [if_pos w, if_neg (by simp [w])]
    · rw [if_neg w, if_pos (by simp [w])]; rfl
  have cT : f_X7_timesUntil n x5 (5 + q) (nI a) (nI N) σ = some (lsT (G0 σ) ls x5, υ) := by
    rw [← u1]
    unfold f_X7_timesUntil f_X7_timesUntil_b20
    rw [e1, Option.bind_some, List.length_nil, hd0, Int32.sub_self]
    by_cases w : (0 : Int32) < x5
    · rw [if_pos w, if_pos w]; rfl
    · rw [if_neg w, if_neg w]; rfl
  have hTr : lsT (G0 σ) ls x5 = -1 ∨ ∃ t, t ≤ N ∧ lsT (G0 σ) ls x5 = nI t := by
    unfold lsT
    by_cases w : (wlk ls (G0 σ)).isSome = true
    · rw [if_pos w, hlen]; exact dnT_rng N (by omega)
    · rw [if_neg w]; exact Or.inl rfl
  obtain ⟨y, hy⟩ := ls_ans (c := c) (x6 := x6) (k := N) (by omega) hN6 hTr
  obtain ⟨y1, y2⟩ := hy n hn
  have o0 : ∀ b, (b < 20 ∨ 25 ≤ b) → υ b = σ b := fun b hb => by rw [u2 b (by omega), e3 b hb]
  have cEq : f_X7_lost n (nI q) (nI a) (nI N) (nI c) x5 x6 σ = some (y, mset υ 0 10 0) := by
    rw [← y1 υ]
    simp only [f_X7_lost, if_neg T1, tY, Option.bind_some, if_neg c1, if_neg c2, if_neg f1, if_pos f2, if_neg N1, p1, if_true, inL (inB_nI hq (show 8 < 2 ^ 31 by decide)), tn_nI (show q < 2 ^ 31 by omega), cT]
  generalize hρ : mset υ 0 10 0 = ρ at cEq
  have o1 : ∀ b, (b < 20 ∨ 25 ≤ b) → b ≠ 0 → ρ b = σ b := fun b hb h0 => by rw [← hρ, ms_cell h0, o0 b hb]
  have ρ0 : ρ 0 10 = 0 := by rw [← hρ]; exact ms_at
  generalize hμ : mcpy ρ 80 (40 * q + a) 89 0 N = μ
  have o2 : ∀ b, b ≠ 89 → μ b = ρ b := fun b hb => by rw [← hμ]; exact mcpy_ne b hb
  have gE : G0 μ = G0 σ := G0_congr (by rw [o2 82 (by decide), o1 82 (by decide) (by decide)]) (fun j _ => by rw [o2 84 (by decide), o1 84 (by decide) (by decide)])
  obtain ⟨ω, w1, w2⟩ := r_lo (σ := μ) (n := n) (m := m) (N := N) (x4 := nI c) (x5 := x5) (x6 := x6) (ls := ls) (by rw [o2 82 (by decide), o1 82 (by decide) (by decide)]; exact hm) hn hlen hN6 (fun j hj => by
    rw [← hμ, mc_if, if_pos ⟨rfl, by omega, by omega⟩, o1 80 (by decide) (by decide), ← hls j hj]
    congr 1; omega) N n (-1) μ (Nat.le_refl _) (by omega) (fun _ _ => rfl) (fun _ _ => rfl)
  rw [gE] at w1
  have hLT : (if (wlk ls (G0 σ)).isSome = true then dnT (G0 σ) ls x5 N (-1) else -1) = lsT (G0 σ) ls x5 := by unfold lsT; rw [hlen]
  rw [hLT, y2 ω] at w1
  refine ⟨y, ρ, mset ω 77 3 0, cEq, ?_, ?_⟩
  · have t1' := p2 ρ (o1 78 (by decide) (by decide)) (o1 79 (by decide) (by decide)) hN6
    rw [hμ] at t1'
    simp only [f_X8_lost, T2 ρ (o1 82 (by decide) (by decide)), isRow1 hq, i3, i4, i5, i6, Option.bind_some, if_neg N1, t1', if_pos (show (0 : Int32) ≤ 0 by decide)]
    exact w1
  · have o3 : ∀ b, (b < 20 ∨ 25 ≤ b) → b ≠ 0 → b ≠ 84 → b ≠ 89 → ω b = σ b := fun b q1 q2 q3 q4 => by rw [w2 b q3, o2 b q4, o1 b q1 q2]
    refine scr_fnd h 0 (fun b q1 q2 q3 => o3 b ?_ q2 ?_ ?_) (fun j _ _ => by rw [o3 77 (by decide) (by decide) (by decide) (by decide)]) (by rw [w2 0 (by decide), o2 0 (by decide), ρ0])
    · simp [pScr] at q1; omega
    · intro w; rw [w] at q1; cases q1
    · intro w; rw [w] at q1; cases q1
