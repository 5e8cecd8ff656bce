/-! ===== fits ===== -/
theorem r_tk_l {σ : Mem} {r a N n : Nat} (hr : r < 8) (hN : a + N ≤ 40) (hN6 : N ≤ 6) : ∀ (k i f : Nat), i + k = N → k < f → f_X8_takeOut_l38 n f (nI r) (nI a) (nI N) (nI i) (mcpy σ 80 (40 * r + a) 89 0 i) = some (0, mcpy σ 80 (40 * r + a) 89 0 N) := by
  intro k
  induction k with
  | zero =>
    intro i f hi hf
    obtain ⟨f, rfl⟩ : ∃ f', f = f' + 1 := ⟨f - 1, by omega⟩
    show f_X8_takeOut_b38 n _ _ _ _ (nI i) _ = _
    unfold f_X8_takeOut_b38
    rw [if_pos ((nI_le_lit (by omega) (by omega)).mpr (by omega)), show i = N by omega]
  | succ k ih =>
    intro i f hi hf
    obtain ⟨f, rfl⟩ : ∃ f', f = f' + 1 := ⟨f - 1, by omega⟩
    show f_X8_takeOut_b38 n (f_X8_takeOut_l38 n f) _ _ _ (nI i) _ = _
    unfold f_X8_takeOut_b38
    have e := mcpy_s (σ := σ) (a := 80) (fr := 40 * r + a) (b := 89) (to := 0) (k := i) (by decide)
    rw [Nat.zero_add] at e
    rw [if_neg (fun q => by have := (nI_le_lit (by omega) (by omega)).mp q; omega), nI40, nIa, nIa, if_pos (inB_nI (by omega) (by decide)), if_pos (inB_nI (by omega) (by decide)), tn_nI (by omega), tn_nI (by omega), Option.bind_some, e, nI_1]
    exact ih (i + 1) f (by omega) (by omega)
theorem tk {σ : Mem} {r n : Nat} (h : Inv σ) (hr : r < 8) (hn : 2000 ≤ n) (i x : Int32) : (∃ v, ¬ v = 0 ∧ ¬ (0 : Int32) ≤ (-1000010) - v ∧ f_X2_findingOf σ (nI r) i x = some v ∧ ∀ τ : Mem, τ 78 = σ 78 → τ 79 = σ 79 → f_X8_takeOut n (nI r) i x τ = some ((-1000010) - v, mset τ 77 3 v)) ∨
    ∃ a b, i = nI a ∧ x = nI b ∧ a + b ≤ 40 ∧ f_X2_findingOf σ (nI r) i x = some 0 ∧ ∀ τ : Mem, τ 78 = σ 78 → τ 79 = σ 79 → b ≤ 6 → f_X8_takeOut n (nI r) i x τ = some (0, mcpy τ 80 (40 * r + a) 89 0 b) := by
  obtain ⟨b1, b2, b3, k, hk, b4⟩ := h.1.1 r hr
  have c := c_findingOf (σ := σ) hr i x
  rw [b1, b2, b4] at c
  have I8 := inB_nI hr (show 8 < 2 ^ 31 by decide)
  have T8 := tn_nI (show r < 2 ^ 31 by omega)
  rcases lane_cases b3 with q | ⟨q1, q2, q3⟩
  · left
    rw [if_pos q] at c
    refine ⟨1, by decide, by decide, c, fun τ e1 e2 => ?_⟩
    unfold f_X8_takeOut
    rw [if_pos I8, T8, e1, q, if_neg (by decide)]; rfl
  rw [if_neg q1] at c
  by_cases hs : (if i < 0 then (0 : Int32) else if x < 0 then 0 else if nI k - x < i then 0 else 1) = 1
  · right
    obtain ⟨a, b, rfl, rfl, hab⟩ := span_of hk hs
    have c' : f_X2_findingOf σ (nI r) (nI a) (nI b) = some 0 := by
      rw [c]
      by_cases w1 : nI a < 0
      · exact absurd w1 (nI_nn (by omega))
      by_cases w2 : nI b < 0
      · exact absurd w2 (nI_nn (by omega))
      by_cases w3 : nI k - nI b < nI a
      · rw [if_neg w1, if_neg w2, if_pos w3] at hs; exact absurd hs (by decide)
      · rw [if_neg w1, if_neg w2, if_neg w3]
    refine ⟨a, b, rfl, rfl, by omega, c', fun τ e1 e2 h6 => ?_⟩
    unfold f_X8_takeOut
    rw [if_pos I8, T8, e1, e2, b4, if_pos q3, if_pos I8, r_isPart τ _ _ hk, hs, Option.bind_some, if_neg (by decide)]
    have := r_tk_l (σ := τ) (n := n) hr (show a + b ≤ 40 by omega) h6 b 0 n (by omega) (by omega)
    rw [mcpy_0] at this
    exact this
  · left
    have hz : (if i < 0 then (0 : Int32) else if x < 0 then 0 else if nI k - x < i then 0 else 1) = 0 ∧ (if i < 0 then (2 : Int32) else if x < 0 then 2 else if nI k - x < i then 2 else 0) = 2 := by
      by_cases w1 : i < 0
      · rw [if_pos w1, if_pos w1]; exact ⟨rfl, rfl⟩
      by_cases w2 : x < 0
      · rw [if_neg w1, if_neg w1, if_pos w2, if_pos w2]; exact ⟨rfl, rfl⟩
      by_cases w3 : nI k - x < i
      · rw [if_neg w1, if_neg w1, if_neg w2, if_neg w2, if_pos w3, if_pos w3]; exact ⟨rfl, rfl⟩
      · exact absurd (by rw [if_neg w1, if_neg w2, if_neg w3]) hs
    rw [hz.2] at c
    refine ⟨2, by decide, by decide, c, fun τ e1 e2 => ?_⟩
    unfold f_X8_takeOut
    rw [if_pos I8, T8, e1, e2, b4, if_pos q3, if_pos I8, r_isPart τ _ _ hk, hz.1, Option.bind_some, if_pos rfl]; rfl
theorem TwR.sup {σ : Mem} {t r c d : Nat} {g : Nat → Int32} {v : Int32} (h : TwR σ t g) (hr : r < 6) (hcd : (c = 1 ∧ d = 9) ∨ (c = 2 ∧ d = 15) ∨ (c = 4 ∧ d = 27)) : TwR (mset σ (t + c) r v) t (upd g (d + r) v) := by
  obtain ⟨⟨a1, a2, a3, a4, a5, a6, a7, a8, a9⟩, b⟩ := h
  have u : ∀ j, j ≤ 8 → upd g (d + r) v j = g j := fun j hj => pk_un (by omega)
  refine ⟨?_, fun q hq hlt => ?_⟩
  · rw [ms_cell (by omega), u 0 (by decide), u 1 (by decide), u 2 (by decide), u 3 (by decide), u 4 (by decide), u 5 (by decide), u 6 (by decide), u 7 (by decide), u 8 (by decide)]
    exact ⟨a1, a2, a3, a4, a5, a6, a7, a8, a9⟩
  · rw [u 4 (by decide)] at hlt
    obtain ⟨b1, b2, b3, b4⟩ := b q hq hlt
    have key : ∀ c' d', ((c' = 1 ∧ d' = 9) ∨ (c' = 2 ∧ d' = 15) ∨ (c' = 3 ∧ d' = 21) ∨ (c' = 4 ∧ d' = 27)) → σ (t + c') q = g (d' + q) → mset σ (t + c) r v (t + c') q = upd g (d + r) v (d' + q) := by
      intro c' d' hc' e
      rw [ms_if]
      unfold upd
      by_cases w : t + c' = t + c ∧ q = r
      · rw [if_pos w, if_pos (by omega)]
      · rw [if_neg w, if_neg (by omega), e]
    exact ⟨key 1 9 (by omega) b1, key 2 15 (by omega) b2, key 3 21 (by omega) b3, key 4 27 (by omega) b4⟩
/-- what a row would bring, if one were as supposed -/
def fitO (g : Nat → Int32) (e : Int32) (o : Option (Nat → Int32)) : Bool := match o with
  | some g' => decide (g' 3 - g 3 = e)
  | none => false
def fitV (g : Nat → Int32) (ls : List Int32) (e : Int32) (p v : Nat) : Bool := fitO g e (wlk ls (upd g p (nI v)))
def fitN (g : Nat → Int32) (ls : List Int32) (e : Int32) (p : Nat) : Nat → Nat → Int32 → Int32
  | 0, _, acc => acc
  | k + 1, v, acc => fitN g ls e p k (v + 1) (if fitV g ls e p v = true then acc ||| (1 <<< (nI v &&& 31)) else acc)
/-- the three things that can be supposed: code, the class's array, the reference's place, first, last -/
def Sup (x : Int32) (c d lo hi : Nat) : Prop := (x = 0 ∧ c = 1 ∧ d = 9 ∧ lo = 1 ∧ hi = 5) ∨ (x = 1 ∧ c = 4 ∧ d = 27 ∧ lo = 0 ∧ hi = 9) ∨ (x = 2 ∧ c = 2 ∧ d = 15 ∧ lo = 0 ∧ hi = 9)
theorem Sup.cd {x : Int32} {c d lo hi : Nat} (h : Sup x c d lo hi) : (c = 1 ∧ d = 9) ∨ (c = 2 ∧ d = 15) ∨ (c = 4 ∧ d = 27) := by
  rcases h with ⟨-, a, b, -, -⟩ | ⟨-, a, b, -, -⟩ | ⟨-, a, b, -, -⟩ <;> omega
theorem c_suppose {σ : Mem} {x v : Int32} {c d lo hi r : Nat} (h : Sup x c d lo hi) (hr : r < 6) : f_X6_suppose 20 (nI r) x v σ = some (mset σ (20 + c) r v) := by
  unfold f_X6_suppose
  rcases h with ⟨rfl, rfl, -⟩ | ⟨rfl, rfl, -⟩ | ⟨rfl, rfl, -⟩
  · rw [if_pos rfl, if_pos (show isTown 20 = true from rfl), if_pos (inB_nI hr (by decide)), tn_nI (by omega)]; rfl
  · rw [if_neg (by decide), if_pos rfl, if_pos (show isTown 20 = true from rfl), if_pos (inB_nI hr (by decide)), tn_nI (by omega)]; rfl
  · rw [if_neg (by decide), if_neg (by decide), if_pos (show isTown 20 = true from rfl), if_pos (inB_nI hr (by decide)), tn_nI (by omega)]; rfl
theorem Mny.upd {g : Nat → Int32} {m p : Nat} {v : Int32} (h : Mny g m) (hp : 9 ≤ p) : Mny (upd g p v) m := ⟨h.1, by rw [pk_un (by omega)]; exact h.2⟩
theorem c_fits_l {σ : Mem} {n m r q a N c d lo hi : Nat} {x5 x6 : Int32} {ls : List Int32} (h : Inv σ) (hm : Mny (σ 82) m) (hS : Sup x6 c d lo hi) (hr : r < m) (hq : q < 8) (haN : a + N ≤ 40) (hn : 2000 ≤ n) (hlen : ls.length = N) (hN6 : N ≤ 6) (hls : ∀ j (hj : j < ls.length), σ (5 + q) (a + j) = ls[j]) (he : ¬ (-1000000 : Int32) = x5) : ∀ (k v f : Nat) (acc : Int32) (υ : Mem), v + k = hi + 1 → hi ≤ 9 → k < f → (∀ b, (b < 20 ∨ 25 ≤ b) → υ b = σ b) →
    ∃ τ, f_X7_fits_l104 n f (nI r) (nI q) (nI a) (nI N) x5 x6 (nI hi) acc (nI v) υ = some (fitN (G0 σ) ls x5 (d + r) k v acc, mset τ 0 10 0) ∧ ∀ b, (b < 20 ∨ 25 ≤ b) → τ b = σ b := by
  have h6 := hm.1
  intro k
  induction k with
  | zero =>
    intro v f acc υ hv h9 hf ho
    obtain ⟨f, rfl⟩ : ∃ f', f = f' + 1 := ⟨f - 1, by omega⟩
    refine ⟨υ, ?_, ho⟩
    show f_X7_fits_b104 n _ _ _ _ _ x5 x6 _ acc (nI v) υ = _
    unfold f_X7_fits_b104
    rw [if_pos ((nI_lt_lit (by omega) (by omega)).mpr (by omega))]
    rfl
  | succ k ih =>
    intro v f acc υ hv h9 hf ho
    obtain ⟨f, rfl⟩ : ∃ f', f = f' + 1 := ⟨f - 1, by omega⟩
    have h1 : f_X7_fits_l104 n (f + 1) (nI r) (nI q) (nI a) (nI N) x5 x6 (nI hi) acc (nI v) υ = f_X7_fits_b104 n (f_X7_fits_l104 n f) (nI r) (nI q) (nI a) (nI N) x5 x6 (nI hi) acc (nI v) υ := rfl
    rw [h1]
    unfold f_X7_fits_b104
    rw [if_neg (fun w => by have := (nI_lt_lit (by omega) (by omega)).mp w; omega)]
    obtain ⟨τ, e1, e2, e3, e4⟩ := c_takeOver (σ := υ) (t := 20) (x := 15) rfl rfl (by decide) (by rw [ho 15 (by omega)]; rcases twn h with ⟨w, -⟩ | ⟨w, -⟩ <;> rw [w] <;> rfl)
    have hT : TwR τ 20 (G0 σ) := (e2 _ (h.tw.congr (ho 15 (by omega)) (ho 16 (by omega)) (ho 17 (by omega)) (ho 18 (by omega)) (ho 19 (by omega)))).eqT (G0_eq σ)
    have hT2 : TwR (mset τ (20 + c) r (nI v)) 20 (upd (G0 σ) (d + r) (nI v)) := hT.sup (by omega) hS.cd
    have hc20 : c ≤ 4 ∧ 1 ≤ c ∧ 9 ≤ d := by rcases hS.cd with w | w | w <;> omega
    have hm2 : Mny (upd (G0 σ) (d + r) (nI v)) m := (G0_many hm).upd (by omega)
    obtain ⟨ia, il⟩ := ia_row hq
    obtain ⟨ω, w1, w2⟩ := c_along (n := n) (a := 5 + q) (t := 20) (N := N) (i0 := a) (e0 := upd (G0 σ) (d + r) (nI v) 3) rfl ia (by rw [il]; decide) (by omega) (by omega) ls 0 m n _ _ hT2 hm2 (by omega) (by rw [il]; omega) (by omega) (fun j hj => by
      rw [ms_cell (by omega), e4 _ (by omega), ho _ (by omega), Nat.zero_add]; exact hls j hj)
    rw [Int32.sub_self] at w1
    have w1' : f_X6_handAlong n 20 (5 + q) (nI a) (nI N) (mset τ (20 + c) r (nI v)) = _ := w1
    have o2 : ∀ b, (b < 20 ∨ 25 ≤ b) → ω b = σ b := fun b hb => by rw [w2 b (by omega), ms_cell (by omega), e4 b (by omega), ho b hb]
    rw [e1, Option.bind_some, c_suppose hS (by omega), Option.bind_some, if_pos (inB_nI hq (by decide)), tn_nI (by omega), w1', Option.bind_some]
    dsimp only
    unfold f_X7_fits_b167
    have hu3 : upd (G0 σ) (d + r) (nI v) 3 = G0 σ 3 := pk_un (by omega)
    rw [fitN]
    have hV : fitV (G0 σ) ls x5 (d + r) v = decide (wEnd (upd (G0 σ) (d + r) (nI v) 3) (wlk ls (upd (G0 σ) (d + r) (nI v))) = x5) := by
      unfold fitV
      rw [hu3]
      cases wlk ls (upd (G0 σ) (d + r) (nI v)) with
      | none => exact (decide_eq_false he).symm
      | some g' => rfl
    rw [hV]
    by_cases w : wEnd (upd (G0 σ) (d + r) (nI v) 3) (wlk ls (upd (G0 σ) (d + r) (nI v))) = x5
    · rw [if_pos w, if_pos (decide_eq_true w), Option.bind_some, nI_1]
      exact ih (v + 1) f _ ω (by omega) h9 (by omega) o2
    · rw [if_neg w, if_neg (by simpa using w), nI_1]
      exact ih (v + 1) f _ ω (by omega) h9 (by omega) o2
theorem r_fits_l {σ : Mem} {n m r N c d lo hi : Nat} {x5 x6 : Int32} {ls : List Int32} (hm : Mny (σ 82) m) (hS : Sup x6 c d lo hi) (hr : r < m) (hn : 2000 ≤ n) (hlen : ls.length = N) (hN6 : N ≤ 6) (hls : ∀ j (hj : j < ls.length), σ 89 j = ls[j]) : ∀ (k v f : Nat) (acc : Int32) (υ : Mem), v + k = hi + 1 → hi ≤ 9 → k < f → (∀ b, b ≠ 84 → υ b = σ b) → (∀ j, 33 ≤ j → υ 84 j = σ 84 j) →
    ∃ τ, f_X8_fits_l84 n f (nI r) (nI N) x5 x6 acc (nI v) υ = some (fitN (G0 σ) ls x5 (d + r) k v acc, mset τ 77 3 0) ∧ ∀ b, b ≠ 84 → τ b = σ b := by
  have h6 := hm.1
  have hc20 : c ≤ 4 ∧ 1 ≤ c ∧ 9 ≤ d ∧ d ≤ 27 := by rcases hS.cd with w | w | w <;> omega
  intro k
  induction k with
  | zero =>
    intro v f acc υ hv h9 hf ho ht
    obtain ⟨f, rfl⟩ : ∃ f', f = f' + 1 := ⟨f - 1, by omega⟩
    refine ⟨υ, ?_, ho⟩
    show f_X8_fits_b84 n _ _ _ x5 x6 acc (nI v) υ = _
    unfold f_X8_fits_b84 f_X8_fits_b98
    rcases hS with ⟨rfl, -, -, -, rfl⟩ | ⟨rfl, -, -, -, rfl⟩ | ⟨rfl, -, -, -, rfl⟩
    · rw [if_pos rfl, if_pos (show (6 : Int32) ≤ nI v from (nI_le_lit (n := 6) (by omega) (by omega)).mpr (by omega))]; rfl
    · rw [if_neg (by decide), if_pos (show (10 : Int32) ≤ nI v from (nI_le_lit (n := 10) (by omega) (by omega)).mpr (by omega))]; rfl
    · rw [if_neg (by decide), if_pos (show (10 : Int32) ≤ nI v from (nI_le_lit (n := 10) (by omega) (by omega)).mpr (by omega))]; rfl
  | succ k ih =>
    intro v f acc υ hv h9 hf ho ht
    obtain ⟨f, rfl⟩ : ∃ f', f = f' + 1 := ⟨f - 1, by omega⟩
    have g1 : G0 υ = G0 σ := G0_congr (ho 82 (by decide)) ht
    have h1 : f_X8_fits_l84 n (f + 1) (nI r) (nI N) x5 x6 acc (nI v) υ = f_X8_fits_b132 n (f_X8_fits_l84 n f) (nI r) (nI N) x5 x6 acc (nI v) (nI d) (mcpy υ 82 0 84 0 33) := by
      show f_X8_fits_b84 n (f_X8_fits_l84 n f) _ _ x5 x6 acc (nI v) υ = _
      unfold f_X8_fits_b84 f_X8_fits_b98
      rcases hS with ⟨rfl, -, rfl, -, rfl⟩ | ⟨rfl, -, rfl, -, rfl⟩ | ⟨rfl, -, rfl, -, rfl⟩
      · rw [if_pos rfl, if_neg (fun w => by have := (nI_le_lit (n := 6) (by omega) (by omega)).mp w; omega), r_begin (by omega)]; rfl
      · rw [if_neg (by decide), if_neg (fun w => by have := (nI_le_lit (n := 10) (by omega) (by omega)).mp w; omega), r_begin (by omega)]; rfl
      · rw [if_neg (by decide), if_neg (fun w => by have := (nI_le_lit (n := 10) (by omega) (by omega)).mp w; omega), r_begin (by omega)]; rfl
    rw [h1]
    unfold f_X8_fits_b132
    rw [nIa, if_pos (inB_nI (by omega) (by decide)), tn_nI (by omega), Option.bind_some]
    have e84 : mset (mcpy υ 82 0 84 0 33) 84 (d + r) (nI v) 84 = upd (G0 σ) (d + r) (nI v) := by rw [mset_row, begin84, g1]
    have o1 : ∀ b, b ≠ 84 → mset (mcpy υ 82 0 84 0 33) 84 (d + r) (nI v) b = σ b := fun b hb => by rw [ms_cell hb, begin_ne hb, ho b hb]
    have hm2 : Mny (upd (G0 σ) (d + r) (nI v)) m := (G0_many hm).upd (by omega)
    obtain ⟨ω, w1, w2, w3, w4⟩ := r_go (n := n) (a := 89) (N := N) rfl (by decide) (by decide) (by omega) ls 0 m n (mset (mcpy υ 82 0 84 0 33) 84 (d + r) (nI v)) (by rw [e84]; exact hm2) (by omega) (by rw [show alen 89 = 6 from by decide +kernel]; exact hN6) (by omega) (fun j hj => by rw [o1 89 (by decide), Nat.zero_add]; exact hls j hj)
    rw [e84] at w1 w3 w4
    have w1' : f_X8_goesOn n 89 (nI N) (mset (mcpy υ 82 0 84 0 33) 84 (d + r) (nI v)) = _ := w1
    have hu3 : upd (G0 σ) (d + r) (nI v) 3 = G0 σ 3 := pk_un (by omega)
    have o2 : ∀ b, b ≠ 84 → ω b = σ b := fun b hb => (w2 b hb).trans (o1 b hb)
    have t2 : ∀ j, 33 ≤ j → ω 84 j = σ 84 j := fun j hj => by
      rw [w3 j (by omega), pk_un (by omega)]; exact if_neg (by omega)
    have hso : ∃ ω', f_X8_isSo n (nI N) x5 (mset (mcpy υ 82 0 84 0 33) 84 (d + r) (nI v)) = some (if fitV (G0 σ) ls x5 (d + r) v = true then 1 else 0, ω) ∧ ω' = ω := by
      refine ⟨ω, ?_, rfl⟩
      unfold f_X8_isSo
      rw [if_pos (by decide), tl3, e84, hu3, Option.bind_some, w1', Option.bind_some]
      dsimp only
      unfold fitV
      cases hw : wlk ls (upd (G0 σ) (d + r) (nI v)) with
      | none => rfl
      | some g' =>
        rw [w4 g' hw]
        simp only [Option.isSome_some, if_true, if_neg (show ¬ (1 : Int32) = 0 by decide), inL (show inB 3 33 = true by decide)]
        by_cases w : g' 3 - G0 σ 3 = x5
        · rw [if_pos w, if_pos (show fitO (G0 σ) x5 (some g') = true from decide_eq_true w)]
        · rw [if_neg w, if_neg (show ¬ fitO (G0 σ) x5 (some g') = true from fun z => w (of_decide_eq_true z))]
    obtain ⟨-, hso, -⟩ := hso
    rw [hso, Option.bind_some]
    dsimp only
    unfold f_X8_fits_b158
    rw [fitN]
    by_cases w : fitV (G0 σ) ls x5 (d + r) v = true
    · rw [if_pos w, if_pos w, if_neg (by decide), Option.bind_some, nI_1]
      exact ih (v + 1) f _ ω (by omega) h9 (by omega) o2 t2
    · rw [if_neg w, if_neg w, if_pos rfl, Option.bind_some, Int32.or_zero, nI_1]
      exact ih (v + 1) f _ ω (by omega) h9 (by omega) o2 t2
theorem told_no {σ : Mem} {r : Nat} {x y : Int32} (hr : r < 8) (h : x < 1 ∨ 6 < x ∨ y < 0 ∨ 999 < y) : f_X7_isTold σ (nI r) x y = some 0 := by
  unfold f_X7_isTold
  rw [num1 hr, Option.bind_some, if_neg (by decide)]
  by_cases a : x < 1
  · rw [if_pos a]
  by_cases b : 6 < x
  · rw [if_neg a, if_pos b]
  by_cases c : y < 0
  · rw [if_neg a, if_neg b, if_pos c]
  by_cases d : 999 < y
  · rw [if_neg a, if_neg b, if_neg c, if_pos d]
  · exact absurd h (by simp [a, b, c, d])
theorem told_yes {σ : Mem} {r : Nat} {x y : Int32} (hr : r < 8) (a : ¬ x < 1) (b : ¬ 6 < x) (c : ¬ y < 0) (d : ¬ 999 < y) : f_X7_isTold σ (nI r) x y = some 1 := by
  unfold f_X7_isTold
  rw [num1 hr, Option.bind_some, if_neg (by decide), if_neg a, if_neg b, if_neg c, if_neg d]
/-- the memories behind a call that told a finding, and spoilt what is only tried -/
theorem scr_fnd {σ τ : Mem} (h : Inv σ) (v : Int32) (ho : ∀ a, pScr a = false → a ≠ 0 → a ≠ 77 → τ a = σ a) (hj : ∀ j, j < 24 → j ≠ 3 → τ 77 j = σ 77 j) (h0 : τ 0 10 = v) : Inv (mset τ 77 3 v) :=
  h.scr (fun a p1 p2 p3 => by rw [ms_cell p3]; exact ho a p1 p2 p3) (fun j p1 p2 => by rw [ms_off (Or.inr p2)]; exact hj j p1 p2) (by rw [ms_cell (by decide), h0]; exact ms_at.symm)
theorem s_fits {σ : Mem} {n : Nat} (h : Inv σ) (hn : 2000 ≤ n) (x1 x2 x3 x4 x5 x6 : Int32) : Both σ (f_X7_fits n x1 x2 x3 x4 x5 x6) (f_X8_fits n x1 x2 x3 x4 x5 x6) := by
  have N1 : ¬ (1 : Int32) = 0 := by decide
  rcases who h x1 with ⟨e1, e2, -⟩ | ⟨r, m, hm, hr, rfl, e1, e2⟩
  · exact Both.same h (-1000001) (by simp only [f_X7_fits, e1, Option.bind_some, if_true]) (by simp only [f_X8_fits, e2, Option.bind_some, if_true])
  have h6 := hm.1
  rcases nrow σ σ x2 with ⟨d1, d2⟩ | ⟨q, hq, rfl, d1, d2⟩
  · exact Both.same h (-1000001) (by simp only [f_X7_fits, e1, f_X7_isTold, d1, Option.bind_some, if_true, if_neg N1]) (by simp only [f_X8_fits, e2 σ rfl, d2, Option.bind_some, if_true, if_neg N1])
  by_cases a1 : x4 < 1 ∨ 6 < x4
  · exact Both.same h (-1000001) (by simp only [f_X7_fits, e1, told_no hq (show x4 < 1 ∨ 6 < x4 ∨ x5 < 0 ∨ 999 < x5 by rcases a1 with w | w <;> simp [w]), Option.bind_some, if_true, if_neg N1]) (by simp only [f_X8_fits, e2 σ rfl, d2, in_no a1, Option.bind_some, if_true, if_neg N1])
  have a2 : ¬ x4 < 1 := fun w => a1 (Or.inl w)
  have a3 : ¬ 6 < x4 := fun w => a1 (Or.inr w)
  have i4 : ∀ τ, f_X8_in τ x4 1 6 = some 1 := fun τ => in_yes a2 a3
  by_cases b1 : x5 < 0 ∨ 999 < x5
  · exact Both.same h (-1000001) (by simp only [f_X7_fits, e1, told_no hq (show x4 < 1 ∨ 6 < x4 ∨ x5 < 0 ∨ 999 < x5 by rcases b1 with w | w <;> simp [w]), Option.bind_some, if_true, if_neg N1]) (by simp only [f_X8_fits, e2 σ rfl, d2, i4, in_no b1, Option.bind_some, if_true, if_neg N1])
  have b2 : ¬ x5 < 0 := fun w => b1 (Or.inl w)
  have b3 : ¬ 999 < x5 := fun w => b1 (Or.inr w)
  have i5 : ∀ τ, f_X8_in τ x5 0 999 = some 1 := fun τ => in_yes b2 b3
  have tY : ∀ τ, f_X7_isTold τ (nI q) x4 x5 = some 1 := fun τ => told_yes hq a2 a3 b2 b3
  by_cases c1 : x6 < 0
  · exact Both.same h (-1000001) (by simp only [f_X7_fits, e1, tY, Option.bind_some, if_pos c1, if_neg N1]) (by simp only [f_X8_fits, e2 σ rfl, d2, i4, i5, in_no (b := 2) (Or.inl c1), Option.bind_some, if_true, if_neg N1])
  by_cases c2 : x6 ≤ 2
  rotate_left
  · have c3 : (2 : Int32) < x6 := by rw [i32_le] at c2; rw [i32_lt]; omega
    exact Both.same h (-1000001) (by simp only [f_X7_fits, e1, tY, Option.bind_some, if_neg c1, if_neg c2, if_neg N1]) (by simp only [f_X8_fits, e2 σ rfl, d2, i4, i5, in_no (a := 0) (b := 2) (Or.inr c3), Option.bind_some, if_true, if_neg N1])
  have i6 : ∀ τ, f_X8_in τ x6 0 2 = some 1 := fun τ => in_yes c1 (fun w => by rw [i32_le] at c2; rw [i32_lt] at w; omega)
  rcases tk (n := n) h hq hn x3 x4 with ⟨v, v0, v1, f1, f2⟩ | ⟨a, N, rfl, rfl, haN, f1, f2⟩
  · have ce : f_X7_fits n (nI r) (nI q) x3 x4 x5 x6 σ = some ((-1000010) - v, mset σ 0 10 v) := by
      unfold f_X7_fits
      rw [e1, Option.bind_some, if_neg N1, tY, Option.bind_some, if_neg N1, if_neg c1, if_pos c2, f1, Option.bind_some, if_neg v0, c_found, Option.bind_some]
    have re : ∀ τ : Mem, τ 82 = σ 82 → τ 78 = σ 78 → τ 79 = σ 79 → f_X8_fits n (nI r) (nI q) x3 x4 x5 x6 τ = some ((-1000010) - v, mset τ 77 3 v) := by
      intro τ q1 q2 q3
      unfold f_X8_fits
      rw [e2 τ q1, Option.bind_some, if_neg N1, isRow1 hq, Option.bind_some, if_neg N1, i4, Option.bind_some, if_neg N1, i5, Option.bind_some, if_neg N1, i6, Option.bind_some, if_neg N1, f2 τ q2 q3, Option.bind_some]
      dsimp only
      rw [if_neg v1]
    exact ⟨_, _, _, ce, re _ (ms_cell (by decide)) (ms_cell (by decide)) (ms_cell (by decide)), fnd_inv h v⟩
  have hN6 : N ≤ 6 := by
    rcases Nat.lt_or_ge 6 N with w | w
    · exact absurd ((nI_lt_lit (n := 6) (by decide) (by omega)).mpr w) a3
    · exact w
  obtain ⟨c, d, lo, hi, hS⟩ : ∃ c d lo hi, Sup x6 c d lo hi := by
    obtain ⟨j, hj, rfl⟩ := okI (k := 2) c1 c2 (by decide)
    rcases (show j = 0 ∨ j = 1 ∨ j = 2 by omega) with rfl | rfl | rfl
    · exact ⟨1, 9, 1, 5, Or.inl ⟨rfl, rfl, rfl, rfl, rfl⟩⟩
    · exact ⟨4, 27, 0, 9, Or.inr (Or.inl ⟨rfl, rfl, rfl, rfl, rfl⟩)⟩
    · exact ⟨2, 15, 0, 9, Or.inr (Or.inr ⟨rfl, rfl, rfl, rfl, rfl⟩)⟩
  have hlh : lo ≤ hi + 1 ∧ hi ≤ 9 := by rcases hS with w | w | w <;> omega
  have hls : ∃ ls : List Int32, ls.length = N ∧ ∀ j (hj : j < ls.length), σ 80 (40 * q + (a + j)) = ls[j] := ⟨(List.range N).map (fun j => σ 80 (40 * q + (a + j))), by simp, fun j hj => by simp⟩
  obtain ⟨ls, hlen, hls⟩ := hls
  have he : ¬ (-1000000 : Int32) = x5 := fun w => b2 (by rw [← w]; decide)
  obtain ⟨τ, p1, p2⟩ := c_fits_l (n := n) (x5 := x5) (a := a) (N := N) (q := q) (ls := ls) h hm hS hr hq haN hn hlen hN6 (fun j hj => by rw [h.1.2 q (a + j) hq (by omega)]; exact hls j hj) he (hi + 1 - lo) lo n 0 σ (by omega) (by omega) (by omega) (fun _ _ => rfl)
  have cEq : f_X7_fits n (nI r) (nI q) (nI a) (nI N) x5 x6 σ = some (fitN (G0 σ) ls x5 (d + r) (hi + 1 - lo) lo 0, mset τ 0 10 0) := by
    rw [← p1]
    simp only [f_X7_fits, e1, tY, Option.bind_some, if_neg c1, if_pos c2, if_neg N1, f1, if_true]
    unfold f_X7_fits_b71 f_X7_fits_b95
    rcases hS with ⟨rfl, -, -, rfl, rfl⟩ | ⟨rfl, -, -, rfl, rfl⟩ | ⟨rfl, -, -, rfl, rfl⟩
    · rw [if_pos rfl, if_pos rfl]; rfl
    · rw [if_neg (by decide), if_neg (by decide), if_pos rfl]; rfl
    · rw [if_neg (by decide), if_neg (by decide), if_neg (by decide)]; rfl
  generalize hρ : mset τ 0 10 0 = ρ at cEq
  have o1 : ∀ b, (b < 20 ∨ 25 ≤ b) → b ≠ 0 → ρ b = σ b := fun b hb h0 => by rw [← hρ, ms_cell h0, p2 b hb]
  have ρ0 : ρ 0 10 = 0 := by rw [← hρ]; exact ms_at
  generalize hμ : mcpy ρ 80 (40 * q + a) 89 0 N = μ
  have o2 : ∀ b, b ≠ 89 → μ b = ρ b := fun b hb => by rw [← hμ]; exact mcpy_ne b hb
  have gE : G0 μ = G0 σ := G0_congr (by rw [o2 82 (by decide), o1 82 (by decide) (by decide)]) (fun j _ => by rw [o2 84 (by decide), o1 84 (by decide) (by decide)])
  obtain ⟨ω, w1, w2⟩ := r_fits_l (σ := μ) (n := n) (m := m) (r := r) (N := N) (x5 := x5) (ls := ls) (by rw [o2 82 (by decide), o1 82 (by decide) (by decide)]; exact hm) hS hr hn hlen hN6 (fun j hj => by
    rw [← hμ, mc_if, if_pos ⟨rfl, by omega, by omega⟩, o1 80 (by decide) (by decide), ← hls j hj]
    congr 1; omega) (hi + 1 - lo) lo n 0 μ (by omega) (by omega) (by omega) (fun _ _ => rfl) (fun _ _ => rfl)
  rw [gE] at w1
  refine ⟨_, ρ, mset ω 77 3 0, cEq, ?_, ?_⟩
  · rw [← w1]
    have t1 := f2 ρ (o1 78 (by decide) (by decide)) (o1 79 (by decide) (by decide)) hN6
    rw [hμ] at t1
    simp only [f_X8_fits, e2 ρ (o1 82 (by decide) (by decide)), isRow1 hq, i4, i5, i6, Option.bind_some, if_neg N1, t1, if_pos (show (0 : Int32) ≤ 0 by decide)]
    unfold f_X8_fits_b82
    rcases hS with ⟨rfl, -, -, rfl, rfl⟩ | ⟨rfl, -, -, rfl, rfl⟩ | ⟨rfl, -, -, rfl, rfl⟩
    · rw [if_pos rfl]; rfl
    · rw [if_neg (by decide)]; rfl
    · rw [if_neg (by decide)]; rfl
  · have o3 : ∀ b, (b < 20 ∨ 25 ≤ b) → b ≠ 0 → b ≠ 84 → b ≠ 89 → ω b = σ b := fun b q1 q2 q3 q4 => by rw [w2 b q3, o2 b q4, o1 b q1 q2]
    refine scr_fnd h 0 (fun b q1 q2 q3 => o3 b ?_ q2 ?_ ?_) (fun j _ _ => by rw [o3 77 (by decide) (by decide) (by decide) (by decide)]) (by rw [w2 0 (by decide), o2 0 (by decide), ρ0])
    · simp [pScr] at q1; omega
    · intro w; rw [w] at q1; cases q1
    · intro w; rw [w] at q1; cases q1
