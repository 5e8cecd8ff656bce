/-! ===== a town as a row of 33 numbers (the reference's own form), and the class's towns ===== -/
def sComes (g : Nat → Int32) (r : Nat) : Int32 := g 1 + iabs (g 0 - g (15 + r))
def sCan (g : Nat → Int32) (r : Nat) : Bool := decide ((g 2 >>> (nI r &&& 31)) &&& 1 = 0) && !(decide (g 7 < sComes g r))
def sCanX (g : Nat → Int32) (x : Int32) : Bool := if x < 0 then false else if g 4 ≤ x then false else sCan g x.toNatClampNeg
def sNr (g : Nat → Int32) (r : Nat) : Nat → Nat → Int32 → Int32
  | _, 0, acc => acc
  | o, k + 1, acc => sNr g r (o + 1) k (if o = r then acc else if g (15 + o) = g (15 + r) then acc + 1 else acc)
def sNear (g : Nat → Int32) (r : Nat) : Int32 := sNr g r 0 (g 4).toNatClampNeg 0
def sFresh (g : Nat → Int32) (r : Nat) : Int32 := imax 0 (g (21 + r) - sComes g r * g (27 + r))
def sBr (g : Nat → Int32) (r : Nat) : Int32 := if g (9 + r) = 1 then sFresh g r else if g (9 + r) = 2 then (if g 2 = 0 then sFresh g r else 0) else if g (9 + r) = 3 then sFresh g r + sNear g r else g (21 + r)
def sGive (g : Nat → Int32) (r : Nat) : Nat → Int32 := fun i => if i = 0 then g (15 + r) else if i = 2 then g 2 ||| (1 <<< (nI r &&& 31)) else if i = 3 then g 3 + sBr g r else if i = 1 then sComes g r + (if g (9 + r) = 5 then 2 else 1) else g i
def Mny (g : Nat → Int32) (m : Nat) : Prop := m ≤ 6 ∧ g 4 = nI m
def TwR (σ : Mem) (t : Nat) (g : Nat → Int32) : Prop := (σ t 0 = g 8 ∧ σ t 1 = g 5 ∧ σ t 2 = g 6 ∧ σ t 3 = g 7 ∧ σ t 4 = g 4 ∧ σ t 9 = g 0 ∧ σ t 10 = g 1 ∧ σ t 11 = g 2 ∧ σ t 12 = g 3) ∧ ∀ r, r < 6 → nI r < g 4 → σ (t + 1) r = g (9 + r) ∧ σ (t + 2) r = g (15 + r) ∧ σ (t + 3) r = g (21 + r) ∧ σ (t + 4) r = g (27 + r)
theorem TwR.congr {σ τ : Mem} {t : Nat} {g : Nat → Int32} (h : TwR σ t g) (h0 : τ t = σ t) (h1 : τ (t+1) = σ (t+1)) (h2 : τ (t+2) = σ (t+2)) (h3 : τ (t+3) = σ (t+3)) (h4 : τ (t+4) = σ (t+4)) : TwR τ t g := by
  unfold TwR at *
  rw [h0, h1, h2, h3, h4]; exact h
section TOWN
variable {σ : Mem} {t : Nat} {g : Nat → Int32} {n m : Nat}
theorem twA (hT : TwR σ t g) (hm : Mny g m) {r : Nat} (hr : r < m) : σ (t + 1) r = g (9 + r) ∧ σ (t + 2) r = g (15 + r) ∧ σ (t + 3) r = g (21 + r) ∧ σ (t + 4) r = g (27 + r) :=
  hT.2 r (Nat.lt_of_lt_of_le hr hm.1) (by rw [hm.2]; exact nI_lt hr (by have := hm.1; omega))
theorem c_has (ht : isTown t = true) (hT : TwR σ t g) (x : Int32) : f_X6_has σ t x = some (b2i (if x < 0 then false else if g 4 ≤ x then false else true)) := by
  unfold f_X6_has
  rw [ht, hT.1.2.2.2.2.1]
  by_cases h : x < 0
  · simp [h, b2i]
  · by_cases h2 : g 4 ≤ x <;> simp [h, h2, b2i]
theorem c_hasRead (ht : isTown t = true) (hT : TwR σ t g) (x : Int32) : f_X6_hasRead σ t x = some (b2i (!decide ((g 2 >>> (x &&& 31)) &&& 1 = 0))) := by
  unfold f_X6_hasRead
  rw [ht, hT.1.2.2.2.2.2.2.2.1]
  by_cases h : (g 2 >>> (x &&& 31)) &&& 1 = 0 <;> simp [h, b2i]
theorem c_comes (ht : isTown t = true) (hT : TwR σ t g) (hm : Mny g m) {r : Nat} (hr : r < m) : f_X6_comes σ t (nI r) = some (sComes g r) := by
  have h6 : r < 6 := Nat.lt_of_lt_of_le hr hm.1
  unfold f_X6_comes
  rw [if_pos ht, if_pos (inB_nI h6 (by decide)), tn_nI (by omega), hT.1.2.2.2.2.2.2.1, hT.1.2.2.2.2.2.1, (twA hT hm hr).2.1]
  rfl
theorem c_canHave (ht : isTown t = true) (hT : TwR σ t g) (hm : Mny g m) (x : Int32) : f_X6_canHave σ t x = some (b2i (sCanX g x)) := by
  unfold f_X6_canHave
  rw [if_pos ht, c_has ht hT, Option.bind_some, c_hasRead ht hT, Option.bind_some]
  unfold sCanX
  by_cases h : x < 0
  · simp [h, b2i]
  by_cases h2 : g 4 ≤ x
  · simp [h, h2, b2i]
  obtain ⟨r, hr, rfl⟩ := ix_of (n := m) (by have := hm.1; omega) h (by rw [hm.2] at h2; exact h2)
  rw [c_comes ht hT hm hr, hT.1.2.2.2.1, tn_nI (by have := hm.1; omega)]
  unfold sCan
  by_cases h3 : (g 2 >>> (nI r &&& 31)) &&& 1 = 0 <;> by_cases h4 : g 7 < sComes g r <;> simp [h, h2, h3, h4, b2i]
theorem c_nb (ht : isTown t = true) (hT : TwR σ t g) (hm : Mny g m) {r : Nat} (hr : r < m) : ∀ (k o : Nat) (acc : Int32) (f : Nat), o + k = m → k < f → f_X6_neighbours_l4 n σ f t (nI r) acc (nI o) = some (sNr g r o k acc) := by
  have h6 := hm.1
  intro k
  induction k with
  | zero =>
    intro o acc f ho hf
    obtain ⟨f, rfl⟩ : ∃ f', f = f' + 1 := ⟨f - 1, by omega⟩
    show f_X6_neighbours_b4 n σ _ t (nI r) acc (nI o) = _
    unfold f_X6_neighbours_b4
    rw [if_pos ht, hT.1.2.2.2.2.1, hm.2, if_pos ((nI_le_lit (by omega) (by omega)).mpr (by omega))]
    rfl
  | succ k ih =>
    intro o acc f ho hf
    obtain ⟨f, rfl⟩ : ∃ f', f = f' + 1 := ⟨f - 1, by omega⟩
    show f_X6_neighbours_b4 n σ (f_X6_neighbours_l4 n σ f) t (nI r) acc (nI o) = _
    unfold f_X6_neighbours_b4 f_X6_neighbours_b35
    rw [if_pos ht, hT.1.2.2.2.2.1, hm.2, if_neg (fun q => by have := (nI_le_lit (by omega) (by omega)).mp q; omega), if_pos (inB_nI (by omega) (by decide)), if_pos (inB_nI (by omega) (by decide)), tn_nI (by omega), tn_nI (by omega), (twA hT hm hr).2.1, (twA hT hm (show o < m by omega)).2.1, nI_1]
    show _ = some (sNr g r (o + 1) k _)
    by_cases h1 : o = r
    · rw [if_pos (by rw [h1]), if_pos h1]
      exact ih (o + 1) _ f (by omega) (by omega)
    · rw [if_neg (fun q => h1 ((nI_inj (by omega) (by omega)).mp q)), if_neg h1]
      by_cases h2 : g (15 + o) = g (15 + r)
      · rw [if_pos h2, if_pos h2]
        exact ih (o + 1) _ f (by omega) (by omega)
      · rw [if_neg h2, if_neg h2]
        exact ih (o + 1) _ f (by omega) (by omega)
theorem c_neighbours (ht : isTown t = true) (hT : TwR σ t g) (hm : Mny g m) (hn : 100 ≤ n) {r : Nat} (hr : r < m) : f_X6_neighbours n σ t (nI r) = some (sNear g r) := by
  have h6 := hm.1
  unfold f_X6_neighbours sNear
  rw [hm.2, tn_nI (by omega)]
  exact c_nb ht hT hm hr m 0 0 n (by omega) (by omega)
theorem c_brings (ht : isTown t = true) (hT : TwR σ t g) (hm : Mny g m) (hn : 100 ≤ n) {r : Nat} (hr : r < m) : f_X6_brings n σ t (nI r) = some (sBr g r) := by
  have h6 : r < 6 := Nat.lt_of_lt_of_le hr hm.1
  obtain ⟨a1, a2, a3, a4⟩ := twA hT hm hr
  unfold f_X6_brings
  simp only [if_pos ht, if_pos (inB_nI h6 (by decide)), c_comes ht hT hm hr, Option.bind_some, tn_nI (show r < 2 ^ 31 by omega), a1, a2, a3, a4, hT.1.2.2.2.2.2.2.2.1, c_neighbours ht hT hm hn hr]
  unfold sBr sFresh
  by_cases h1 : g (9 + r) = 1
  · simp only [if_pos h1]
  by_cases h2 : g (9 + r) = 2
  · simp only [if_neg h1, if_pos h2]
    by_cases h3 : g 2 = 0
    · simp only [if_pos h3]
    · simp only [if_neg h3]
  by_cases h3 : g (9 + r) = 3
  · simp only [if_neg h1, if_neg h2, if_pos h3]
  · simp only [if_neg h1, if_neg h2, if_neg h3]
/-- the class's copyStands -/
def cStands (σ : Mem) (t : Nat) (a b c d : Int32) : Mem := mset (mset (mset (mset σ t 9 a) t 10 b) t 11 c) t 12 d
theorem c_copyStands (ht : isTown t = true) (a b c d : Int32) : f_X6_copyStands t a b c d σ = some (cStands σ t a b c d) := by
  unfold f_X6_copyStands
  rw [if_pos ht]
  rfl
theorem cStands_ne {a b c d : Int32} {x : Nat} (h : x ≠ t) : cStands σ t a b c d x = σ x := by
  unfold cStands
  rw [ms_cell h, ms_cell h, ms_cell h, ms_cell h]
theorem cStands_if {a b c d : Int32} {j : Nat} : cStands σ t a b c d t j = if j = 12 then d else if j = 11 then c else if j = 10 then b else if j = 9 then a else σ t j := by
  unfold cStands
  simp only [ms_if, true_and]
theorem TwR.stands (hT : TwR σ t g) (a b c d : Int32) : TwR (cStands σ t a b c d) t (fun i => if i = 0 then a else if i = 2 then c else if i = 3 then d else if i = 1 then b else g i) := by
  obtain ⟨⟨e1, e2, e3, e4, e5, e6, e7, e8, e9⟩, h2⟩ := hT
  refine ⟨?_, fun r hr hlt => ?_⟩
  · simp only [cStands_if]
    exact ⟨e1, e2, e3, e4, e5, rfl, rfl, rfl, rfl⟩
  · have := h2 r hr hlt
    rw [cStands_ne (by omega), cStands_ne (by omega), cStands_ne (by omega), cStands_ne (by omega)]
    have q : ∀ k, (if k = 0 then a else if k = 2 then c else if k = 3 then d else if k = 1 then b else g k) = if k = 0 then a else if k = 2 then c else if k = 3 then d else if k = 1 then b else g k := fun _ => rfl
    simp only [if_neg (show ¬ (9 + r = 0) by omega), if_neg (show ¬ (9 + r = 2) by omega), if_neg (show ¬ (9 + r = 3) by omega), if_neg (show ¬ (9 + r = 1) by omega), if_neg (show ¬ (15 + r = 0) by omega), if_neg (show ¬ (15 + r = 2) by omega), if_neg (show ¬ (15 + r = 3) by omega), if_neg (show ¬ (15 + r = 1) by omega), if_neg (show ¬ (21 + r = 0) by omega), if_neg (show ¬ (21 + r = 2) by omega), if_neg (show ¬ (21 + r = 3) by omega), if_neg (show ¬ (21 + r = 1) by omega), if_neg (show ¬ (27 + r = 0) by omega), if_neg (show ¬ (27 + r = 2) by omega), if_neg (show ¬ (27 + r = 3) by omega), if_neg (show ¬ (27 + r = 1) by omega)]
    exact this
/-- a reader of the town is given it -/
theorem c_hand (ht : isTown t = true) (hT : TwR σ t g) (hm : Mny g m) (hn : 100 ≤ n) {r : Nat} (hr : r < m) : ∃ τ, f_X6_hand n t (nI r) σ = some (sBr g r, τ) ∧ TwR τ t (sGive g r) ∧ ∀ a, a ≠ t → τ a = σ a := by
  have h6 : r < 6 := Nat.lt_of_lt_of_le hr hm.1
  obtain ⟨a1, a2, a3, a4⟩ := twA hT hm hr
  refine ⟨cStands σ t (g (15 + r)) (sComes g r + (if g (9 + r) = 5 then 2 else 1)) (g 2 ||| (1 <<< (nI r &&& 31))) (g 3 + sBr g r), ?_, hT.stands _ _ _ _, fun a ha => cStands_ne ha⟩
  unfold f_X6_hand f_X6_hand_b26
  simp only [if_pos ht, if_pos (inB_nI h6 (by decide)), c_comes ht hT hm hr, c_brings ht hT hm hn hr, Option.bind_some, tn_nI (show r < 2 ^ 31 by omega), a1, a2, hT.1.2.2.2.2.2.2.2.1, hT.1.2.2.2.2.2.2.2.2, c_copyStands ht]
  by_cases h : g (9 + r) = 5
  · simp only [if_pos h]
  · simp only [if_neg h]
end TOWN
