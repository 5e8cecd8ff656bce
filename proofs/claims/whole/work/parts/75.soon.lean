/-! ===== soonest ===== -/
theorem wA_app {am : Nat → Bool} (a b : List Nat) : ∀ g, wA am (a ++ b) g = (wA am a g).bind (wA am b) := by
  induction a with
  | nil => intro g; rfl
  | cons x xs ih =>
    intro g
    show (if (am x && sCan g x) = true then wA am (xs ++ b) (sGive g x) else none) = (if (am x && sCan g x) = true then wA am xs (sGive g x) else none).bind (wA am b)
    by_cases q : (am x && sCan g x) = true
    · rw [if_pos q, if_pos q, ih]
    · rw [if_neg q, if_neg q]; rfl
theorem wA_snoc {am : Nat → Bool} {p : List Nat} {g g' : Nat → Int32} {r : Nat} (h : wA am p g = some g') (h1 : am r = true) (h2 : sCan g' r = true) : wA am (p ++ [r]) g = some (sGive g' r) := by
  rw [wA_app, h, Option.bind_some, wA, if_pos (by rw [h1, h2]; rfl)]; rfl
theorem wA_congr {am am' : Nat → Bool} : ∀ (w : List Nat) (g : Nat → Int32), (∀ r ∈ w, am r = am' r) → wA am w g = wA am' w g := by
  intro w
  induction w with
  | nil => intro g _; rfl
  | cons r w ih =>
    intro g h
    rw [wA, wA, h r List.mem_cons_self, ih _ fun q hq => h q (List.mem_cons_of_mem _ hq)]
theorem wA_am {am : Nat → Bool} : ∀ (w : List Nat) (g g' : Nat → Int32), wA am w g = some g' → ∀ r ∈ w, am r = true := by
  intro w
  induction w with
  | nil => intro g g' _ r hr; cases hr
  | cons x w ih =>
    intro g g' h r hr
    rw [wA] at h
    by_cases q : (am x && sCan g x) = true
    · rw [if_pos q] at h
      rcases List.mem_cons.mp hr with rfl | hr
      · rw [Bool.and_eq_true] at q; exact q.1
      · exact ih _ _ h r hr
    · rw [if_neg q] at h; cases h
theorem wA_okt {am : Nat → Bool} {m : Nat} : ∀ (w : List Nat) (g g' : Nat → Int32), Okt g → Mny g m → (∀ r ∈ w, r < m) → wA am w g = some g' → Okt g' ∧ Mny g' m := by
  intro w
  induction w with
  | nil => intro g g' hO hm _ h; cases h; exact ⟨hO, hm⟩
  | cons x w ih =>
    intro g g' hO hm hw h
    rw [wA] at h
    by_cases q : (am x && sCan g x) = true
    · rw [if_pos q] at h
      rw [Bool.and_eq_true] at q
      exact ih _ _ (hO.give hm (hw x List.mem_cons_self) q.2) hm.give (fun r hr => hw r (List.mem_cons_of_mem _ hr)) h
    · rw [if_neg q] at h; cases h
theorem foldl_mem {α β : Type} {f g : β → α → β} : ∀ (l : List α) (b : β), (∀ b, ∀ x ∈ l, f b x = g b x) → l.foldl f b = l.foldl g b := by
  intro l
  induction l with
  | nil => intro b _; rfl
  | cons x l ih =>
    intro b h
    rw [List.foldl_cons, List.foldl_cons, h b x List.mem_cons_self]
    exact ih _ fun b y hy => h b y (List.mem_cons_of_mem _ hy)
theorem not_or32 (y s : Int32) : ~~~(y ||| s) = ~~~y &&& ~~~s := Int32.toBitVec_inj.mp (by simp [BitVec.not_or])
theorem and_not_or {A y s : Int32} (h : A &&& (y ^^^ -1) = A) : A &&& ((y ||| s) ^^^ -1) = A &&& (s ^^^ -1) := by
  rw [Int32.xor_neg_one] at h
  rw [Int32.xor_neg_one, Int32.xor_neg_one, not_or32, ← Int32.and_assoc, h]
theorem and_not_same (x y : Int32) : (x &&& (y ^^^ -1)) &&& (y ^^^ -1) = x &&& (y ^^^ -1) := by
  rw [Int32.and_assoc, Int32.and_self]
theorem sub0 : ∀ q, q < 64 → ∀ s, s < 64 → (nI q &&& (nI s ^^^ -1) = 0 ↔ q &&& s = q) := by decide +kernel
theorem and_small {a : Nat} (ha : a < 64) (y : Int32) : ∃ q, q < 64 ∧ q ≤ a ∧ nI a &&& y = nI q := by
  obtain ⟨j, hj, e⟩ := pk_andE y (m := 63) 6 (by decide)
  have e1 : nI a = nI a &&& 63 := by
    have := nI_and a ha 63 (by decide)
    have z : a &&& 63 = a := by
      have : ∀ a, a < 64 → a &&& 63 = a := by decide +kernel
      exact this a ha
    rw [z] at this
    exact this.symm
  refine ⟨a &&& j, Nat.lt_of_le_of_lt Nat.and_le_left ha, Nat.and_le_left, ?_⟩
  rw [e1, Int32.and_assoc, Int32.and_comm 63 y, e, nI_and a ha j hj]
/-- a row of those that are asked for: whole, just when it's as long as they are many -/
theorem row_whole {q0 : Nat} {p : List Nat} {g g' : Nat → Int32} (hq : q0 < 64) (hp : ∀ r ∈ p, r < 6) (h : wA (fun r => q0.testBit r) p g = some g') : (q0 &&& setN p = q0 ↔ p.length = cnt q0) ∧ (p.length = cnt q0 ↔ setN p = q0) := by
  obtain ⟨-, c, -⟩ := wA_read p g g' hp h
  have hs : setN p < 64 := setN_lt hp
  have sub : setN p &&& q0 = setN p := by
    apply Nat.eq_of_testBit_eq
    intro i
    rw [Nat.testBit_and, setN_test]
    by_cases z : i ∈ p
    · have := wA_am p g g' h i z
      simp only [z, decide_true, Bool.true_and]
      exact this
    · simp [z]
  have k : p.length = cnt q0 ↔ setN p = q0 := by
    rw [← c]
    exact ⟨fun e => cnt_eq _ hs _ hq sub e, fun e => by rw [e]⟩
  refine ⟨?_, k⟩
  rw [k]
  constructor
  · intro e
    rw [Nat.and_comm, sub] at e
    exact e
  · intro e
    rw [e, Nat.and_self]
def stS' (b : Option (Int32 × List Nat)) (p : List Nat) (g : Nat → Int32) : Option (Int32 × List Nat) := match b with
  | none => some (g 1, p)
  | some b => if b.1 ≤ g 1 then some b else some (g 1, p)
def stS (N : Nat) (b : Option (Int32 × List Nat)) (p : List Nat) (g : Nat → Int32) : Option (Int32 × List Nat) := if p.length = N then stS' b p g else b
theorem c_weighS {e0 : Int32} {q0 : Nat} {g0 : Nat → Int32} (hq : q0 < 64) (h2 : nI q0 &&& (g0 2 ^^^ -1) = nI q0) (b : Option (Int32 × List Nat)) (σ : Mem) (p : List Nat) (g : Nat → Int32) (h : KA 1 (nI q0) e0 b σ) (hT : TwR σ 62 g) (hp : p.length ≤ 6) (hpre : Pre σ p) (hl : ∀ r ∈ p, r < 6) (hw : wA (fun r => q0.testBit r) p g0 = some g) : ∃ τ, f_X3_weigh (nI p.length) σ = some τ ∧ KA 1 (nI q0) e0 (stS (cnt q0) b p g) τ ∧ ∀ a, a ≠ 61 → a ≠ 68 → a ≠ 69 → τ a = σ a := by
  have e10 : σ 62 10 = g 1 := hT.1.2.2.2.2.2.2.1
  have e11 : σ 62 11 = g 2 := hT.1.2.2.2.2.2.2.2.1
  obtain ⟨-, -, r3⟩ := wA_read p g0 g hl hw
  obtain ⟨w1, -⟩ := row_whole hq hl hw
  obtain ⟨τ, t1, t2, t3⟩ := h.keep (v := g 1) hp hpre
  have kp : f_X3_weigh_b106 (nI p.length) σ = some τ := by
    unfold f_X3_weigh_b106
    rw [e10, t1]; rfl
  unfold f_X3_weigh
  rw [if_neg (by rw [h.1]; decide), if_pos h.1, h.2.1, e11, r3, and_not_or h2, kp, e10]
  unfold stS
  by_cases z : p.length = cnt q0
  · rw [if_pos ((sub0 _ hq _ (setN_lt hl)).mpr (w1.mpr z)), if_pos z]
    cases b with
    | none =>
      have h7 : σ 61 7 = 0 := h.2.2.2
      rw [if_pos h7]
      exact ⟨τ, rfl, t2, t3⟩
    | some b =>
      obtain ⟨k1, k2, k3, k4, k5, k6, k7⟩ := id h
      rw [if_neg (by rw [show σ 61 7 = 1 from k4]; decide), show σ 61 8 = b.1 from k5]
      by_cases y : b.1 ≤ g 1
      · rw [if_pos y]
        have : stS' (some b) p g = some b := if_pos y
        rw [this]
        exact ⟨σ, rfl, h, fun _ _ _ _ => rfl⟩
      · rw [if_neg y]
        have : stS' (some b) p g = some (g 1, p) := if_neg y
        rw [this]
        exact ⟨τ, rfl, t2, t3⟩
  · rw [if_neg (fun y => z (w1.mp ((sub0 _ hq _ (setN_lt hl)).mp y))), if_neg z]
    exact ⟨σ, rfl, h, fun _ _ _ _ => rfl⟩
/-- what the search for the soonest keeps -/
def soonB (q0 m : Nat) (g : Nat → Int32) : Option (Int32 × List Nat) := (Wl (fun r => q0.testBit r) m (cnt q0) g []).foldl (fun b x => stS' b x.1 x.2) none
theorem cnt_le6 {q : Nat} (hq : q < 64) : cnt q ≤ 6 := cnt_le 6 (by decide) q hq
theorem c_forSoonest {σ : Mem} {n m q0 : Nat} {x : Int32} (h : Inv σ) (hn : 2000 ≤ n) (hm : Mny (σ 82) m) (hq : q0 < 64) (hx : x &&& (σ 82 2 ^^^ -1) = nI q0) : ∃ τ, f_X3_forSoonest n 15 x σ = some τ ∧ KO τ (soonB q0 m (G0 σ)) ∧ ∀ a, a < 61 ∨ 70 ≤ a → τ a = σ a := by
  obtain ⟨σ2, e1, e2, e3⟩ := c_trial h (t := 62) rfl (by decide)
  have hm0 := G0_many hm
  have h6 := hm.1
  have hT15 : TwR σ2 15 (G0 σ) := (h.tw.eqT (G0_eq σ)).congr (e3 15 (by omega)) (e3 16 (by omega)) (e3 17 (by omega)) (e3 18 (by omega)) (e3 19 (by omega))
  have e11 : σ2 15 11 = σ 82 2 := hT15.1.2.2.2.2.2.2.2.1
  obtain ⟨σ6, s1, s2, s3, s4, s5, s6⟩ := c_seek (n := n) (σ := σ2) 1 (nI q0)
  have hT6 : TwR σ6 62 (G0 σ) := e2.congr (s6 62 (by decide)) (s6 63 (by decide)) (s6 64 (by decide)) (s6 65 (by decide)) (s6 66 (by decide))
  have h2 : nI q0 &&& (G0 σ 2 ^^^ -1) = nI q0 := by
    show nI q0 &&& (σ 82 2 ^^^ -1) = nI q0
    rw [← hx]; exact and_not_same _ _
  obtain ⟨τ, t1, t2, -, -, t5⟩ := c_dfs (n := n) (m := m) (A := nI q0) (am := fun r => q0.testBit r) (K := KA 1 (nI q0) (σ2 62 12)) (step := stS (cnt q0)) (P := fun p g => (∀ r ∈ p, r < m) ∧ wA (fun r => q0.testBit r) p (G0 σ) = some g) hn h6 (fun r hr => by
      rw [nI_test q0 hq r hr]; simp)
    (fun b σ τ q1 q2 _ hk => ⟨by rw [q1]; exact hk.1, by rw [q1]; exact hk.2.1, by rw [q1]; exact hk.2.2.1, hk.2.2.2.congr q1 q2⟩) (fun b σ hk => hk.2.1)
    (fun p g r hp hr ha hc => ⟨fun y hy => by
      rcases List.mem_append.mp hy with hy | hy
      · exact hp.1 y hy
      · rw [List.mem_singleton] at hy; rw [hy]; exact hr, wA_snoc hp.2 ha hc⟩)
    (fun b σ p g q1 q2 q3 q4 q5 q6 => c_weighS hq h2 b σ p g q1 q2 q4 q5 (fun r hr => Nat.lt_of_lt_of_le (q6.1 r hr) h6) q6.2) 6 8 [] (G0 σ) none σ6 rfl (by decide) ⟨s2, s3, s4, s5⟩ hT6 hm0 (fun j hj => absurd hj (Nat.not_lt_zero _)) ⟨fun r hr => absurd hr List.not_mem_nil, rfl⟩
  refine ⟨τ, ?_, ?_, fun a ha => by rw [t5 a (by omega) (by omega) (by omega) (by omega) (by omega), s6 a (by omega), e3 a (by omega)]⟩
  · unfold f_X3_forSoonest
    rw [e1, Option.bind_some, if_pos (show isTown 15 = true from rfl), e11, hx, s1]
    have t1' : f_X3_tryRows_r n 8 (nI 0) σ6 = some τ := t1
    rw [t1']; rfl
  · have key : (Dl (fun r => q0.testBit r) m 6 (G0 σ) []).foldl (fun b x => stS (cnt q0) b x.1 x.2) none = soonB q0 m (G0 σ) := by
      unfold soonB
      rw [← Dl_filter 6 (cnt q0) (G0 σ) [] (cnt_le6 hq), List.foldl_filter]
      congr 1
      funext b x
      unfold stS
      by_cases z : x.1.length = cnt q0
      · rw [if_pos z, if_pos (by simp [z])]
      · rw [if_neg z, if_neg (by simpa using z)]
    rw [key] at t2
    exact t2.2.2.2
/-! the reference -/
def rsS (m q0 : Nat) (g : Nat → Int32) (b : Option (Int32 × List Nat)) (w : List Nat) : Option (Int32 × List Nat) := if setN w = q0 then (match wA (amAll m) w g with
  | some g' => stS' b w g'
  | none => b) else b
def KS (N : Nat) (x5 : Int32) (σ : Mem) : Option (Int32 × List Nat) → Prop
  | none => x5 = 9999
  | some b => x5 = b.1 ∧ ¬ b.1 = 9999 ∧ b.2.length = N ∧ KR (0, b.2) σ
theorem r_layRow' {n m k c : Nat} {σ : Mem} (hn : 2000 ≤ n) (hm0 : 0 < m ∨ k = 0) (hm6 : m ≤ 6) (hk : k ≤ 6) (hc : c < 2 ^ 20) (h4 : σ 82 4 = nI m) : ∃ τ, f_X8_layRow n (nI c) (nI k) σ = some (nI (setN (dgs m k c)), τ) ∧ Rw τ (dgs m k c) ∧ (∀ a, a ≠ 90 → τ a = σ a) ∧ ∀ r ∈ dgs m k c, r < m := by
  rcases hm0 with hm0 | rfl
  · obtain ⟨τ, t1, t2, t3⟩ := r_layRow hn hm0 hm6 hk hc h4
    exact ⟨τ, t1, t2, t3, dgs_lt hm0 k c⟩
  · refine ⟨σ, ?_, fun j hj => absurd hj (Nat.not_lt_zero _), fun _ _ => rfl, fun r hr => by cases hr⟩
    obtain ⟨f, rfl⟩ : ∃ f', n = f' + 1 := ⟨n - 1, by omega⟩
    unfold f_X8_layRow
    rw [Option.bind_some]
    show f_X8_layRow_b10 (f + 1) _ (nI c) 0 _ σ = _
    unfold f_X8_layRow_b10
    rw [if_pos (by decide)]; rfl
theorem hour_small {g : Nat → Int32} (h : Okt g) : ¬ g 1 = 9999 ∧ ¬ (9999 : Int32) ≤ g 1 := by
  obtain ⟨b1, b2⟩ := h.2.2.2.1
  have z : (9999 : Int32).toInt = 9999 := by decide
  constructor
  · intro w; rw [w, z] at b2; omega
  · intro w; rw [i32_le, z] at w; omega
def ansS (N : Nat) (b : Option (Int32 × List Nat)) (x : Int32) : Int32 := match b with
  | none => -1000000
  | some b => if x = -1 then b.1 else if nI N ≤ x then -1000000 else nI (b.2.getD x.toNatClampNeg 0)
theorem r_soon {ρ : Mem} {n m q0 : Nat} {x2 : Int32} (hn : 100000 ≤ n) (hm : Mny (ρ 82) m) (hO : Okt (G0 ρ)) (hq : q0 < 64) (hm0 : 0 < m ∨ cnt q0 = 0) (hx1 : ¬ x2 < -1) : ∀ (r c f : Nat) (x5 : Int32) (b : Option (Int32 × List Nat)) (σ : Mem), c + r = m ^ cnt q0 → r < f → KS (cnt q0) x5 σ b → RFr ρ σ → ∃ τ, f_X8_soonest_l65 n f x2 (nI q0) (nI (cnt q0)) x5 (nI c) σ = some (ansS (cnt q0) (rfold (rsS m q0 (G0 ρ)) m (cnt q0) r c b) x2, τ) ∧ RFr ρ τ := by
  have h6 := hm.1
  have hN := cnt_le6 hq
  have hmk : m ^ cnt q0 ≤ 46656 := Nat.le_trans (Nat.pow_le_pow_left h6 _) (show 6 ^ cnt q0 ≤ 6 ^ 6 from Nat.pow_le_pow_right (by decide) hN)
  have hm00 := G0_many hm
  intro r
  induction r with
  | zero =>
    intro c f x5 b σ hc hf hK hR
    obtain ⟨f, rfl⟩ : ∃ f', f = f' + 1 := ⟨f - 1, by omega⟩
    have h4 : σ 82 4 = nI m := by rw [hR.1 82 (by decide) (by decide) (by decide) (by decide)]; exact hm.2
    refine ⟨σ, ?_, hR⟩
    show f_X8_soonest_b65 n _ x2 (nI q0) _ x5 (nI c) σ = _
    unfold f_X8_soonest_b65
    rw [r_rowsOf (by omega) hN h4, Option.bind_some, if_pos ((nI_le_lit (by omega) (by omega)).mpr (by omega))]
    show _ = some (ansS (cnt q0) b x2, σ)
    cases b with
    | none => rw [if_pos (show x5 = 9999 from hK)]; rfl
    | some b =>
      obtain ⟨rfl, k2, k3, k4⟩ := hK
      rw [if_neg k2]
      unfold ansS
      dsimp only
      by_cases q1 : x2 = -1
      · rw [if_pos q1, if_pos q1]
      rw [if_neg q1, if_neg q1]
      by_cases q3 : nI (cnt q0) ≤ x2
      · rw [if_pos q3, if_pos q3]
      rw [if_neg q3, if_neg q3]
      have h0 : ¬ x2 < 0 := by
        intro w
        rw [i32_lt] at hx1 w
        rw [i32_eq] at q1
        have z1 : (-1 : Int32).toInt = -1 := by decide
        have z0 : (0 : Int32).toInt = 0 := rfl
        omega
      have k4b : b.2.length ≤ 6 := by omega
      obtain ⟨i1, i2⟩ := getD_nI (w := b.2) (f := σ 91) (x := x2) k4b k4.2.2.2 h0 (by rw [k3]; exact q3)
      rw [if_pos i1, i2]
  | succ r ih =>
    intro c f x5 b σ hc hf hK hR
    obtain ⟨f, rfl⟩ : ∃ f', f = f' + 1 := ⟨f - 1, by omega⟩
    have h4 : σ 82 4 = nI m := by rw [hR.1 82 (by decide) (by decide) (by decide) (by decide)]; exact hm.2
    obtain ⟨σ1, l1, l2, l3, hwm⟩ := r_layRow' (n := n) (k := cnt q0) (c := c) (by omega) hm0 h6 hN (by omega) h4
    generalize hw : dgs m (cnt q0) c = w at l1 l2 hwm
    have hwl : w.length = cnt q0 := by rw [← hw]; exact dgs_len _ c
    have hR1 : RFr ρ σ1 := hR.tr ⟨fun a _ _ h3 _ => l3 a h3, fun j _ => by rw [l3 84 (by decide)], fun j _ _ => by rw [l3 77 (by decide)]⟩
    have kc : ∀ {σ' : Mem}, σ' 77 = σ 77 → σ' 91 = σ 91 → KS (cnt q0) x5 σ' b := fun {σ'} q1 q2 => by
      cases b with
      | none => exact hK
      | some b =>
        obtain ⟨k1, k2, k3, k4, k5, k6, k7⟩ := hK
        exact ⟨k1, k2, k3, by rw [q1]; exact k4, by rw [q1]; exact k5, k6, fun j hj => by rw [q2]; exact k7 j hj⟩
    have u : f_X8_soonest_l65 n (f + 1) x2 (nI q0) (nI (cnt q0)) x5 (nI c) σ = f_X8_soonest_b65 n (f_X8_soonest_l65 n f) x2 (nI q0) (nI (cnt q0)) x5 (nI c) σ := rfl
    rw [u]
    unfold f_X8_soonest_b65 f_X8_soonest_b131
    have hs64 : setN w < 64 := setN_lt fun r hr => Nat.lt_of_lt_of_le (hwm r hr) h6
    rw [r_rowsOf (by omega) hN h4, Option.bind_some, if_neg (fun q => by have := (nI_le_lit (by omega) (by omega)).mp q; omega), l1, Option.bind_some]
    dsimp only
    rw [nI_1, rfold, hw]
    by_cases q : setN w = q0
    · rw [if_pos (by rw [q]), r_begin (by omega), Option.bind_some]
      obtain ⟨σ2, t1, t2, t3, t4⟩ := r_try (n := n) (w := w) (by omega) hm (by omega) hwm hR1 l2
      rw [hwl] at t1
      rw [t1, Option.bind_some]
      dsimp only
      have hK2 : KS (cnt q0) x5 σ2 b := kc (by rw [t2 77 (by decide), l3 77 (by decide)]) (by rw [t2 91 (by decide), l3 91 (by decide)])
      cases hA : wA (amAll m) w (G0 ρ) with
      | none =>
        have e : rsS m q0 (G0 ρ) b w = b := by unfold rsS; rw [if_pos q, hA]
        rw [e]
        exact ih (c + 1) f x5 b σ2 (by omega) (by omega) hK2 t3
      | some g' =>
        obtain ⟨hO', -⟩ := wA_okt w _ _ hO hm00 hwm hA
        obtain ⟨s1, s2⟩ := hour_small hO'
        have e : rsS m q0 (G0 ρ) b w = stS' b w g' := by unfold rsS; rw [if_pos q, hA]
        rw [e]
        simp only [Option.isSome_some, if_true, if_neg (show ¬ (1 : Int32) = 0 by decide), inL (show inB 1 33 = true by decide), tl1, t4 g' hA, Option.bind_some]
        have hRw : Rw σ2 w := fun j hj => by rw [t2 90 (by decide)]; exact l2 j hj
        obtain ⟨σ3, k1, k2, k3, -⟩ := r_keepRow (n := n) (v := 0) (by omega) (show w.length ≤ 6 by omega) hRw
        rw [hwl] at k1
        have new : KS (cnt q0) (g' 1) σ3 (some (g' 1, w)) := ⟨rfl, s1, hwl, k2⟩
        cases b with
        | none =>
          have hx5 : x5 = 9999 := hK
          rw [if_neg (by rw [hx5]; exact s2), k1, Option.bind_some]
          exact ih (c + 1) f _ _ σ3 (by omega) (by omega) new (t3.tr k3)
        | some b =>
          have hx5 : x5 = b.1 := hK.1
          by_cases y : b.1 ≤ g' 1
          · have e2 : stS' (some b) w g' = some b := if_pos y
            rw [if_pos (by rw [hx5]; exact y), e2]
            exact ih (c + 1) f x5 _ σ2 (by omega) (by omega) hK2 t3
          · have e2 : stS' (some b) w g' = some (g' 1, w) := if_neg y
            rw [if_neg (by rw [hx5]; exact y), e2, k1, Option.bind_some]
            exact ih (c + 1) f _ _ σ3 (by omega) (by omega) new (t3.tr k3)
    · rw [if_neg (fun y => q ((nI_inj (by omega) (by omega)).mp y))]
      have e : rsS m q0 (G0 ρ) b w = b := by unfold rsS; rw [if_neg q]
      rw [e]
      exact ih (c + 1) f x5 b σ1 (by omega) (by omega) (kc (l3 77 (by decide)) (l3 91 (by decide))) hR1
theorem r_soon_is {m q0 : Nat} {g : Nat → Int32} (hq : q0 < 64) (h6 : m ≤ 6) (hm0 : 0 < m ∨ cnt q0 = 0) : rfold (rsS m q0 g) m (cnt q0) (m ^ cnt q0) 0 none = soonB q0 m g := by
  have e : rfold (rsS m q0 g) m (cnt q0) (m ^ cnt q0) 0 none = (wds m (cnt q0)).foldl (rsS m q0 g) none := by
    rcases hm0 with hm0 | h0
    · exact rfold_all hm0 _ _
    · rw [h0]; rfl
  rw [e]
  unfold soonB
  rw [← fold_Wl (step := stS')]
  refine foldl_mem _ _ fun b w hw => ?_
  obtain ⟨hl, hlt⟩ := wds_len _ w hw
  have hl6 : ∀ r ∈ w, r < 6 := fun r hr => Nat.lt_of_lt_of_le (hlt r hr) h6
  have hall : setN w = q0 → wA (amAll m) w g = wA (fun r => q0.testBit r) w g := fun z => wA_congr w g fun r hr => by
    have a1 : amAll m r = true := decide_eq_true (hlt r hr)
    have a2 : q0.testBit r = true := by rw [← z, setN_test]; simp [hr]
    rw [a1]; exact a2.symm
  unfold rsS
  cases hA : wA (fun r => q0.testBit r) w g with
  | some g' =>
    have z : setN w = q0 := (row_whole hq hl6 hA).2.mp hl
    rw [if_pos z, hall z, hA]
  | none =>
    by_cases z : setN w = q0
    · rw [if_pos z, hall z, hA]
    · rw [if_neg z]
theorem soonB_len {q0 m : Nat} {g : Nat → Int32} : ∀ b, soonB q0 m g = some b → b.2.length = cnt q0 := by
  have l : ∀ (L : List Row) (b0 : Option (Int32 × List Nat)), (∀ x ∈ L, x.1.length = cnt q0) → (∀ b, b0 = some b → b.2.length = cnt q0) → ∀ b, L.foldl (fun b x => stS' b x.1 x.2) b0 = some b → b.2.length = cnt q0 := by
    intro L
    induction L with
    | nil => intro b0 _ h0 b hb; exact h0 b hb
    | cons x L ih =>
      intro b0 hL h0 b hb
      refine ih _ (fun y hy => hL y (List.mem_cons_of_mem _ hy)) (fun b' hb' => ?_) b hb
      have hx := hL x List.mem_cons_self
      dsimp only at hb'
      cases b0 with
      | none => cases hb'; exact hx
      | some b1 =>
        by_cases y : b1.1 ≤ x.2 1
        · have : stS' (some b1) x.1 x.2 = some b1 := if_pos y
          rw [this] at hb'; exact h0 b' hb'
        · have : stS' (some b1) x.1 x.2 = some (x.2 1, x.1) := if_neg y
          rw [this] at hb'; cases hb'; exact hx
  intro b hb
  refine l _ none (fun x hx => ?_) (fun b h => by cases h) b hb
  exact (wds_len _ _ (Wl_mem hx).1).1
theorem all_val : ∀ m, m < 7 → (1 <<< (nI m &&& 31)) - 1 = nI (2 ^ m - 1) := by decide +kernel
theorem s_soonest {σ : Mem} {n : Nat} (h : Inv σ) (hn : 100000 ≤ n) (x y : Int32) : Both σ (f_X7_soonest n x y) (f_X8_soonest n x y) := by
  have N1 : ¬ (1 : Int32) = 0 := by decide
  rcases twn h with ⟨t1, t2⟩ | ⟨t1, t2⟩
  · exact Both.same h (-1000002) (by simp only [f_X7_soonest, if_pos t1]) (by simp [f_X8_soonest, r_isTown, t2])
  have T1 : ¬ σ 15 0 = 0 := by rw [t1]; decide
  have T2 : ∀ τ : Mem, τ 82 = σ 82 → f_X8_isTown τ = some 1 := fun τ e => by rw [r_isTown, e, if_pos t2]
  obtain ⟨m, hm⟩ := h.many
  have h6 := hm.1
  have hv := all_val m (by omega)
  have eb : f_X6_everybody σ 15 = some (nI (2 ^ m - 1)) := by rw [everyb h.tw hm, hv]
  have hp64 : 2 ^ m ≤ 64 := Nat.pow_le_pow_right (n := 2) (by decide) h6
  have hp1 : 0 < 2 ^ m := Nat.two_pow_pos m
  have I4 : inB 4 33 = true := by decide
  have I2 : inB 2 33 = true := by decide
  -- the reference's face
  have rF : ∀ τ : Mem, τ 82 = σ 82 → f_X8_soonest n x y τ = ((f_X8_in τ x 0 (nI (2 ^ m - 1))).bind fun y3 => if y3 = 0 then (some ((-1000001), τ)) else ((f_X8_in τ y (-1) 5).bind fun y5 => if y5 = 0 then (some ((-1000001), τ)) else ((f_X8_bits n τ (x &&& (σ 82 2 ^^^ (-1)))).bind fun y8 => f_X8_soonest_l65 n n y (x &&& (σ 82 2 ^^^ (-1))) y8 9999 0 τ))) := fun τ e => by
    unfold f_X8_soonest
    rw [T2 τ e, Option.bind_some, if_neg N1, if_pos I4, tl4, e, hm.2, hv]
    congr 1
  by_cases a1 : x < 0
  · exact Both.same h (-1000001) (by simp only [f_X7_soonest, if_neg T1, if_pos a1]) (by rw [rF σ rfl, in_no (Or.inl a1), Option.bind_some, if_pos rfl])
  by_cases a2 : nI (2 ^ m - 1) < x
  · exact Both.same h (-1000001) (by simp only [f_X7_soonest, if_neg T1, if_neg a1, eb, Option.bind_some, if_pos a2]) (by rw [rF σ rfl, in_no (Or.inr a2), Option.bind_some, if_pos rfl])
  by_cases b1 : y < -1
  · exact Both.same h (-1000001) (by simp only [f_X7_soonest, if_neg T1, if_neg a1, eb, Option.bind_some, if_neg a2, if_pos b1]) (by rw [rF σ rfl, in_yes a1 a2, Option.bind_some, if_neg N1, in_no (Or.inl b1), Option.bind_some, if_pos rfl])
  by_cases b2 : y < 6
  rotate_left
  · have b3 : (5 : Int32) < y := by rw [i32_lt] at b2 ⊢; have z : (6 : Int32).toInt = 6 := rfl; have z5 : (5 : Int32).toInt = 5 := rfl; omega
    exact Both.same h (-1000001) (by simp only [f_X7_soonest, if_neg T1, if_neg a1, eb, Option.bind_some, if_neg a2, if_neg b1, if_neg b2]) (by rw [rF σ rfl, in_yes a1 a2, Option.bind_some, if_neg N1, in_no (Or.inr b3), Option.bind_some, if_pos rfl])
  have i2 : ∀ τ, f_X8_in τ y (-1) 5 = some 1 := fun τ => in_yes b1 (fun w => by rw [i32_lt] at b2 w; have z : (6 : Int32).toInt = 6 := rfl; have z5 : (5 : Int32).toInt = 5 := rfl; omega)
  obtain ⟨a, ha, rfl⟩ := ix_of (n := 2 ^ m) (x := x) (by omega) a1 (fun w => a2 (by
    rw [i32_le, nI_toInt (by omega)] at w
    rw [i32_lt, nI_toInt (by omega)]
    omega))
  obtain ⟨q0, hq, hqa, hx⟩ := and_small (show a < 64 by omega) (σ 82 2 ^^^ -1)
  have hm0 : 0 < m ∨ cnt q0 = 0 := by
    rcases Nat.eq_zero_or_pos m with z | z
    · right
      subst z
      have : q0 = 0 := by have : a < 1 := ha; omega
      rw [this]; rfl
    · exact Or.inl z
  obtain ⟨ρ, c1, c2, c3⟩ := c_forSoonest (n := n) (x := nI a) h (by omega) hm hq hx
  have hmρ : Mny (ρ 82) m := by rw [c3 82 (by decide)]; exact hm
  have gE : G0 ρ = G0 σ := G0_congr (c3 82 (by decide)) (fun j _ => by rw [c3 84 (by decide)])
  have hO : Okt (G0 ρ) := by rw [gE]; exact h.2.2.2.1.1.eqT (G0_eq σ)
  have cE : f_X7_soonest n (nI a) y σ = some (ansS (cnt q0) (soonB q0 m (G0 σ)) y, ρ) := by
    unfold f_X7_soonest
    rw [if_neg T1, if_neg a1, eb, Option.bind_some, if_neg a2, if_neg b1, if_pos b2, c1, Option.bind_some]
    cases hs : soonB q0 m (G0 σ) with
    | none =>
      rw [hs] at c2
      have h7 : ρ 61 7 = 0 := c2
      rw [if_pos h7]; rfl
    | some b =>
      rw [hs] at c2
      obtain ⟨k1, k2, k3, k4, k5⟩ := c2
      have hl := soonB_len b hs
      rw [if_neg (by rw [k1]; decide), k2]
      unfold ansS
      dsimp only
      by_cases q1 : y = -1
      · rw [if_pos q1, if_pos q1]
      rw [if_neg q1, if_neg q1]
      have h0 : ¬ y < 0 := by
        intro w
        rw [i32_lt] at b1 w
        rw [i32_eq] at q1
        have z1 : (-1 : Int32).toInt = -1 := by decide
        have z0 : (0 : Int32).toInt = 0 := rfl
        omega
      unfold f_X3_told
      rw [if_neg h0, k3, hl]
      by_cases q3 : nI (cnt q0) ≤ y
      · rw [if_pos q3, if_pos q3]; rfl
      · rw [if_neg q3, if_neg q3]
        obtain ⟨i1, i3⟩ := getD_nI k4 k5 h0 (by rw [hl]; exact q3)
        rw [if_pos i1, Option.bind_some, i3]
  obtain ⟨τ, d1, d2⟩ := r_soon (ρ := ρ) (n := n) (m := m) (q0 := q0) (x2 := y) hn hmρ hO hq hm0 b1 (m ^ cnt q0) 0 n 9999 none ρ (by omega) (by
    have : m ^ cnt q0 ≤ 46656 := Nat.le_trans (Nat.pow_le_pow_left h6 _) (show 6 ^ cnt q0 ≤ 6 ^ 6 from Nat.pow_le_pow_right (by decide) (cnt_le6 hq))
    omega) rfl RFr.rf
  rw [r_soon_is hq h6 hm0, gE] at d1
  refine ⟨_, ρ, τ, cE, ?_, h.rfr c3 d2⟩
  rw [rF ρ (c3 82 (by decide)), in_yes a1 a2, Option.bind_some, if_neg N1, i2, Option.bind_some, if_neg N1, hx, r_bits (by omega) hq, Option.bind_some]
  exact d1
