/-! ===== the text: what both readers find, and the class's ===== -/
def isD (x : Int32) : Bool := !decide (x < 48) && !decide (57 < x)
def pkB (B : Nat → Int32) (L p : Nat) : Int32 := if p < L then B p else -1
def dcB (B : Nat → Int32) : Nat → Nat → Nat
  | 0, _ => 0
  | k + 1, p => if isD (B p) = true then dcB B k (p + 1) + 1 else 0
theorem dcB_le {B : Nat → Int32} : ∀ k p, dcB B k p ≤ k := by
  intro k
  induction k with
  | zero => intro p; exact Nat.le_refl _
  | succ k ih =>
    intro p
    rw [dcB]
    by_cases q : isD (B p) = true
    · rw [if_pos q]; have := ih (p + 1); omega
    · rw [if_neg q]; omega
def vlB (B : Nat → Int32) (p : Nat) : Nat → Int32
  | 0 => 0
  | 1 => 10 * 0 + B p - 48
  | _ + 2 => 10 * (10 * 0 + B p - 48) + B (p + 1) - 48
abbrev PR (α : Type) : Type := (Int32 × Nat) ⊕ α
def sb {α β : Type} (x : PR α) (f : α → PR β) : PR β := match x with
  | .inl e => .inl e
  | .inr a => f a
def pSign (B : Nat → Int32) (L : Nat) (c : Int32) (p : Nat) : PR Nat := if pkB B L p = c then .inr (p + 1) else .inl (1, p)
def pNum (B : Nat → Int32) (L : Nat) (top : Int32) (p : Nat) : PR (Int32 × Nat) :=
  if dcB B (L - p) p = 0 ∨ 2 < dcB B (L - p) p then .inl (1, p) else if vlB B p (dcB B (L - p) p) ≤ top then .inr (vlB B p (dcB B (L - p) p), p + dcB B (L - p) p) else .inl (2, p)
def sndP {α : Type} (x : PR (α × Nat)) : PR Nat := sb x fun a => .inr a.2
def CS (B : Nat → Int32) (L : Nat) (fo : Int32) (σ : Mem) : PR Nat → Prop
  | .inl e => (σ 13 1 = nI L ∧ L ≤ 100 ∧ ∀ i, i < 100 → σ 14 i = B i) ∧ σ 13 5 = 0 ∧ σ 13 3 = e.1 ∧ σ 13 4 = nI e.2 ∧ ∃ p, p ≤ L ∧ σ 13 2 = nI p
  | .inr p => (σ 13 1 = nI L ∧ L ≤ 100 ∧ ∀ i, i < 100 → σ 14 i = B i) ∧ σ 13 5 = 1 ∧ σ 13 3 = fo ∧ p ≤ L ∧ σ 13 2 = nI p
section PARSE
variable {B : Nat → Int32} {L n : Nat} {fo : Int32} {σ : Mem}
theorem CS.congr {τ : Mem} {st : PR Nat} (h : CS B L fo σ st) (h1 : τ 13 = σ 13) (h2 : τ 14 = σ 14) : CS B L fo τ st := by
  cases st <;> simp only [CS, h1, h2] at h ⊢ <;> exact h
theorem CS.by {st : PR Nat} (h : CS B L fo σ st) : (σ 13 1 = nI L ∧ L ≤ 100 ∧ ∀ i, i < 100 → σ 14 i = B i) ∧ ∃ p, p ≤ L ∧ σ 13 2 = nI p := by
  cases st with
  | inl e => exact ⟨h.1, h.2.2.2.2⟩
  | inr p => exact ⟨h.1, p, h.2.2.2.1, h.2.2.2.2⟩
theorem c_peek {p : Nat} (hb : σ 13 1 = nI L ∧ L ≤ 100 ∧ ∀ i, i < 100 → σ 14 i = B i) (hp : p ≤ L) (h2 : σ 13 2 = nI p) : f_X5_peek σ = some (pkB B L p) := by
  obtain ⟨b1, b2, b3⟩ := hb
  unfold f_X5_peek pkB
  rw [b1, h2]
  by_cases q : p < L
  · rw [if_neg (fun w => by have := (nI_le_lit (by omega) (by omega)).mp w; omega), if_pos (inB_nI (by omega) (by decide)), tn_nI (by omega), b3 p (by omega), if_pos q]
  · rw [if_pos ((nI_le_lit (by omega) (by omega)).mpr (by omega)), if_neg q]
theorem c_fail {st : PR Nat} (x : Int32) (h : CS B L fo σ st) : ∃ τ, f_X5_fail x σ = some τ ∧ CS B L fo τ (sb st fun p => .inl (x, p)) ∧ ∀ a, a ≠ 13 → τ a = σ a := by
  cases st with
  | inl e =>
    refine ⟨σ, ?_, h, fun _ _ => rfl⟩
    unfold f_X5_fail
    rw [if_pos h.2.1]
  | inr p =>
    obtain ⟨⟨b1, b2, b3⟩, h5, h3, hp, h2⟩ := h
    refine ⟨mset (mset (mset σ 13 5 0) 13 3 x) 13 4 (nI p), ?_, ⟨⟨b1, b2, fun i hi => ?_⟩, rfl, rfl, rfl, p, hp, h2⟩, fun a ha => by rw [ms_cell ha, ms_cell ha, ms_cell ha]⟩
    · unfold f_X5_fail
      rw [if_neg (by rw [h5]; decide), if_pos (by decide)]
      simp only [Option.bind_some]
      rw [show mset (mset σ 13 5 0) 13 3 x 13 2 = nI p from h2]
    · rw [ms_cell (by decide), ms_cell (by decide), ms_cell (by decide)]; exact b3 i hi
theorem c_byte {st : PR Nat} (c : Int32) (hc : ¬ (-1 : Int32) = c) (h : CS B L fo σ st) : ∃ τ, f_X5_readByte c σ = some τ ∧ CS B L fo τ (sb st (pSign B L c)) ∧ ∀ a, a ≠ 13 → τ a = σ a := by
  obtain ⟨hb, p, hp, h2⟩ := h.by
  unfold f_X5_readByte
  rw [c_peek hb hp h2, Option.bind_some]
  by_cases q : pkB B L p = c
  · rw [if_pos q]
    have hpL : p < L := by
      rcases Nat.lt_or_ge p L with w | w
      · exact w
      · unfold pkB at q; rw [if_neg (by omega)] at q; exact absurd q hc
    refine ⟨mset σ 13 2 (nI (p + 1)), by rw [h2, nI_1]; rfl, ?_, fun a ha => ms_cell ha⟩
    have hb' : mset σ 13 2 (nI (p + 1)) 13 1 = nI L ∧ L ≤ 100 ∧ ∀ i, i < 100 → mset σ 13 2 (nI (p + 1)) 14 i = B i := ⟨hb.1, hb.2.1, fun i hi => by rw [ms_cell (by decide)]; exact hb.2.2 i hi⟩
    cases st with
    | inl e => exact ⟨hb', h.2.1, h.2.2.1, h.2.2.2.1, p + 1, hpL, rfl⟩
    | inr p' =>
      have e : p' = p := (nI_inj (by have := h.2.2.2.1; have := hb.2.1; omega) (by have := hb.2.1; omega)).mp (h.2.2.2.2.symm.trans h2)
      subst e
      show CS B L fo _ (pSign B L c p')
      unfold pSign
      rw [if_pos q]
      exact ⟨hb', h.2.1, h.2.2.1, hpL, rfl⟩
  · rw [if_neg q]
    obtain ⟨τ, t1, t2, t3⟩ := c_fail 1 h
    refine ⟨τ, by rw [t1]; rfl, ?_, t3⟩
    cases st with
    | inl e => exact t2
    | inr p' =>
      have e : p' = p := (nI_inj (by have := h.2.2.2.1; have := hb.2.1; omega) (by have := hb.2.1; omega)).mp (h.2.2.2.2.symm.trans h2)
      subst e
      show CS B L fo _ (pSign B L c p')
      unfold pSign
      rw [if_neg q]
      exact t2
theorem c_isFig (x : Int32) : f_X5_isFigure σ x = some (b2i (isD x)) := by
  unfold f_X5_isFigure isD
  by_cases a : x < 48
  · simp [a, b2i]
  · by_cases b : 57 < x <;> simp [a, b, b2i]
theorem c_num_l {p : Nat} {top : Int32} (hb : σ 13 1 = nI L ∧ L ≤ 100 ∧ ∀ i, i < 100 → σ 14 i = B i) (h2 : σ 13 2 = nI p) : ∀ (r k f : Nat), p + k + r = L → r < f → f_X5_readNumber_l4 n f top (nI k) (vlB B p k) σ = f_X5_readNumber_b65 n top (nI (k + dcB B r (p + k))) (vlB B p (k + dcB B r (p + k))) σ := by
  obtain ⟨b1, b2, b3⟩ := hb
  intro r
  induction r with
  | zero =>
    intro k f hr hf
    obtain ⟨f, rfl⟩ : ∃ f', f = f' + 1 := ⟨f - 1, by omega⟩
    show f_X5_readNumber_b4 n _ top (nI k) _ σ = _
    unfold f_X5_readNumber_b4
    rw [b1, h2, nIa, if_pos ((nI_le_lit (by omega) (by omega)).mpr (by omega))]
    rfl
  | succ r ih =>
    intro k f hr hf
    obtain ⟨f, rfl⟩ : ∃ f', f = f' + 1 := ⟨f - 1, by omega⟩
    show f_X5_readNumber_b4 n (f_X5_readNumber_l4 n f) top (nI k) _ σ = _
    unfold f_X5_readNumber_b4 f_X5_readNumber_b59
    rw [b1, h2, nIa, if_neg (fun w => by have := (nI_le_lit (by omega) (by omega)).mp w; omega), if_pos (inB_nI (by omega) (by decide)), tn_nI (by omega), b3 _ (by omega), c_isFig, Option.bind_some, dcB]
    by_cases q : isD (B (p + k)) = true
    · rw [if_pos q, q, b2i_t, if_neg (by decide), nI_1]
      have e := ih (k + 1) f (by omega) (by omega)
      rw [show p + (k + 1) = p + k + 1 by omega, show k + 1 + dcB B r (p + k + 1) = k + (dcB B r (p + k + 1) + 1) by omega] at e
      by_cases w : (2 : Int32) ≤ nI k
      · have hk : 2 ≤ k := (nI_le_lit (n := 2) (by decide) (by omega)).mp w
        obtain ⟨k', rfl⟩ : ∃ k', k = k' + 2 := ⟨k - 2, by omega⟩
        rw [if_pos w]; exact e
      · have hk : ¬ 2 ≤ k := fun z => w ((nI_le_lit (n := 2) (by decide) (by omega)).mpr z)
        rw [if_neg w, if_pos (inB_nI (by omega) (by decide)), Option.bind_some]
        rcases (show k = 0 ∨ k = 1 by omega) with rfl | rfl
        · exact e
        · exact e
    · have q' : isD (B (p + k)) = false := by simpa using q
      rw [if_neg q, q', b2i_f, if_pos rfl]
      rfl
theorem c_num {st : PR Nat} (top : Int32) (hn : 2000 ≤ n) (h : CS B L fo σ st) : ∃ y τ, f_X5_readNumber n top σ = some (y, τ) ∧ CS B L fo τ (sndP (sb st (pNum B L top))) ∧ (∀ v p', sb st (pNum B L top) = .inr (v, p') → y = v) ∧ ∀ a, a ≠ 13 → τ a = σ a := by
  obtain ⟨hb, p, hp, h2⟩ := h.by
  have hL := hb.2.1
  have e0 := c_num_l (n := n) (top := top) hb h2 (L - p) 0 n (by omega) (by omega)
  rw [Nat.zero_add, Nat.add_zero] at e0
  have e1 : f_X5_readNumber n top σ = f_X5_readNumber_b65 n top (nI (dcB B (L - p) p)) (vlB B p (dcB B (L - p) p)) σ := e0
  have hd := dcB_le (B := B) (L - p) p
  rw [e1]
  unfold f_X5_readNumber_b65 f_X5_readNumber_b75
  have hst : ∀ p', st = .inr p' → p' = p := fun p' e => by
    subst e
    exact (nI_inj (by have := h.2.2.2.1; omega) (by omega)).mp (h.2.2.2.2.symm.trans h2)
  have bad : ∀ x : Int32, (∀ p', st = .inr p' → pNum B L top p' = .inl (x, p')) → ∃ y τ, ((f_X5_fail x σ).bind fun σ2 => some (vlB B p (dcB B (L - p) p), σ2)) = some (y, τ) ∧ CS B L fo τ (sndP (sb st (pNum B L top))) ∧ (∀ v p', sb st (pNum B L top) = .inr (v, p') → y = v) ∧ ∀ a, a ≠ 13 → τ a = σ a := by
    intro x hx
    obtain ⟨τ, t1, t2, t3⟩ := c_fail x h
    refine ⟨_, τ, by rw [t1]; rfl, ?_, ?_, t3⟩
    · cases st with
      | inl e => exact t2
      | inr p' =>
        show CS B L fo τ (sndP (pNum B L top p'))
        rw [hx p' rfl]; exact t2
    · intro v p' e
      cases st with
      | inl e' => cases e
      | inr p'' =>
        have e2 : pNum B L top p'' = .inr (v, p') := e
        rw [hx p'' rfl] at e2; cases e2
  by_cases c0 : dcB B (L - p) p = 0
  · rw [if_pos (by rw [c0]; decide)]
    exact bad 1 (fun p' e => by rw [hst p' e]; unfold pNum; rw [if_pos (Or.inl c0)])
  rw [if_neg (fun w => by have := (nI_lt_lit (k := 1) (by omega) (by decide)).mp w; omega)]
  by_cases c2 : 2 < dcB B (L - p) p
  · rw [if_neg (fun w => by have := (nI_le_lit (k := 2) (by omega) (by decide)).mp w; omega)]
    exact bad 1 (fun p' e => by rw [hst p' e]; unfold pNum; rw [if_pos (Or.inr c2)])
  rw [if_pos (show nI (dcB B (L - p) p) ≤ 2 from (nI_le_lit (k := 2) (by omega) (by decide)).mpr (by omega))]
  by_cases cv : vlB B p (dcB B (L - p) p) ≤ top
  rotate_left
  · rw [if_neg cv]
    exact bad 2 (fun p' e => by rw [hst p' e]; unfold pNum; rw [if_neg (by omega), if_neg cv])
  rw [if_pos cv]
  refine ⟨_, mset σ 13 2 (nI (p + dcB B (L - p) p)), by rw [h2, nIa]; rfl, ?_, ?_, fun a ha => ms_cell ha⟩
  · have hb' : mset σ 13 2 (nI (p + dcB B (L - p) p)) 13 1 = nI L ∧ L ≤ 100 ∧ ∀ i, i < 100 → mset σ 13 2 (nI (p + dcB B (L - p) p)) 14 i = B i := ⟨hb.1, hb.2.1, fun i hi => by rw [ms_cell (by decide)]; exact hb.2.2 i hi⟩
    cases st with
    | inl e => exact ⟨hb', h.2.1, h.2.2.1, h.2.2.2.1, _, by omega, rfl⟩
    | inr p' =>
      have e := hst p' rfl
      subst e
      show CS B L fo _ (sndP (pNum B L top p'))
      unfold pNum
      rw [if_neg (by omega), if_pos cv]
      exact ⟨hb', h.2.1, h.2.2.1, by omega, rfl⟩
  · intro v p' e
    cases st with
    | inl e' => cases e
    | inr p'' =>
      have e3 := hst p'' rfl
      subst e3
      have e2 : pNum B L top p'' = .inr (v, p') := e
      unfold pNum at e2
      rw [if_neg (by omega), if_pos cv] at e2
      cases e2; rfl
end PARSE
/-! three numbers, a reader, all readers -/
def pOne (B : Nat → Int32) (L : Nat) (t c : Int32) (p : Nat) : PR (Int32 × Nat) := sb (pNum B L t p) fun a => sb (pSign B L c a.2) fun p' => .inr (a.1, p')
def pThree (B : Nat → Int32) (L : Nat) (t1 t2 t3 : Int32) (p : Nat) : PR ((Int32 × Int32 × Int32) × Nat) :=
  sb (pOne B L t1 44 p) fun a => sb (pOne B L t2 44 a.2) fun b => sb (pOne B L t3 59 b.2) fun c => .inr ((a.1, b.1, c.1), c.2)
def srt (x : Int32) : Int32 := if x = 97 then 3 else if x = 102 then 1 else if x = 104 then 5 else if x = 111 then 4 else if x = 115 then 2 else 0
def pReader (B : Nat → Int32) (L m p : Nat) : PR ((Int32 × Int32 × Int32) × Nat) :=
  if srt (pkB B L p) = 0 then .inl (1, p) else if m = 6 then .inl (3, p) else pThree B L 9 30 9 (p + 1)
def addR (g : Nat → Int32) (m : Nat) (s : Int32) (v : Int32 × Int32 × Int32) : Nat → Int32 := upd (upd (upd (upd (upd g (9 + m) s) (15 + m) v.1) (21 + m) v.2.1) (27 + m) v.2.2) 4 (nI (m + 1))
def pLoop (B : Nat → Int32) (L : Nat) : Nat → Nat → (Nat → Int32) → Nat → PR (Nat → Int32)
  | 0, _, g, _ => .inr g
  | k + 1, p, g, m => if p = L then .inr g else sb (pReader B L m p) fun a => pLoop B L k a.2 (addR g m (srt (pkB B L p)) a.1) (m + 1)
def lawG (g : Nat → Int32) (v : Int32 × Int32 × Int32) : Nat → Int32 := upd (upd (upd (upd (upd g 5 v.1) 6 v.2.1) 7 v.2.2) 0 v.1) 8 1
def pText (B : Nat → Int32) (L : Nat) (g : Nat → Int32) : PR (Nat → Int32) := sb (sb (pSign B L 112 0) (pThree B L 9 20 60)) fun a => pLoop B L 7 a.2 (lawG g a.1) 0
theorem sb_assoc {α β γ : Type} (x : PR α) (f : α → PR β) (k : β → PR γ) : sb (sb x f) k = sb x fun a => sb (f a) k := by cases x <;> rfl
theorem sb_inr {α β : Type} {x : PR α} {f : α → PR β} {b : β} (h : sb x f = .inr b) : ∃ a, x = .inr a ∧ f a = .inr b := by
  cases x with
  | inl e => cases h
  | inr a => exact ⟨a, rfl, h⟩
theorem sb_id {α : Type} (x : PR α) : (sb x fun a => .inr a) = x := by cases x <;> rfl
theorem sndP_3 {B : Nat → Int32} {L : Nat} {t1 t2 t3 : Int32} (st : PR Nat) : sndP (sb (sndP (sb (sndP (sb st (pOne B L t1 44))) (pOne B L t2 44))) (pOne B L t3 59)) = sndP (sb st (pThree B L t1 t2 t3)) := by
  unfold sndP pThree
  simp only [sb_assoc]
  rfl
section PARSE2
variable {B : Nat → Int32} {L n : Nat} {fo : Int32} {σ : Mem}
theorem CS.cell {st : PR Nat} {c k : Nat} {v : Int32} (h : CS B L fo σ st) (h1 : c ≠ 13) (h2 : c ≠ 14) : CS B L fo (mset σ c k v) st := h.congr (ms_cell (Ne.symm h1)) (ms_cell (Ne.symm h2))
def cOne (n : Nat) (t : Int32) (c k : Nat) (ch : Int32) (K : Mem → Option Mem) (σ : Mem) : Option Mem :=
  (f_X5_readNumber n t σ).bind fun (y3, σ4) =>
  (some (mset σ4 c k y3)).bind fun σ6 =>
  (f_X5_readByte ch σ6).bind K
theorem c_one {st : PR Nat} {t ch : Int32} {c k : Nat} (hn : 2000 ≤ n) (hch : ¬ (-1 : Int32) = ch) (h1 : c ≠ 13) (h2 : c ≠ 14) (h : CS B L fo σ st) : ∃ y τ, (∀ K, cOne n t c k ch K σ = K τ) ∧ CS B L fo τ (sndP (sb st (pOne B L t ch))) ∧ (∀ a, a ≠ 13 → τ a = mset σ c k y a) ∧ ∀ v p', sb st (pOne B L t ch) = .inr (v, p') → y = v := by
  obtain ⟨y, τ, a1, a2, a3, a4⟩ := c_num t hn h
  obtain ⟨υ, b1, b2, b3⟩ := c_byte ch hch (a2.cell (k := k) (v := y) h1 h2)
  refine ⟨y, υ, fun K => ?_, ?_, fun a ha => ?_, fun v p' e => ?_⟩
  · unfold cOne
    rw [a1, Option.bind_some]
    dsimp only
    rw [Option.bind_some, b1, Option.bind_some]
  · have e : sb (sndP (sb st (pNum B L t))) (pSign B L ch) = sndP (sb st (pOne B L t ch)) := by
      unfold sndP pOne
      simp only [sb_assoc]
      cases st with
      | inl e => rfl
      | inr p =>
        show sb (pNum B L t p) _ = sb (pNum B L t p) _
        cases pNum B L t p with
        | inl e => rfl
        | inr a =>
          show pSign B L ch a.2 = sb (pSign B L ch a.2) _
          cases pSign B L ch a.2 <;> rfl
    rw [← e]; exact b2
  · rw [b3 a ha]
    by_cases q : a = c
    · subst q
      rw [mset_row, mset_row, a4 a ha]
    · rw [ms_cell q, ms_cell q, a4 a ha]
  · obtain ⟨p, e1, e2⟩ := sb_inr e
    obtain ⟨a, e3, e4⟩ := sb_inr e2
    obtain ⟨p2, e5, e6⟩ := sb_inr e4
    cases e6
    exact a3 a.1 a.2 (by rw [e1]; exact e3)
def cThree (n : Nat) (t1 t2 t3 : Int32) (c1 k1 c2 k2 c3 k3 : Nat) (σ : Mem) : Option Mem := cOne n t1 c1 k1 44 (cOne n t2 c2 k2 44 (cOne n t3 c3 k3 59 fun σ => some σ)) σ
theorem c_three {st : PR Nat} {t1 t2 t3 : Int32} {c1 k1 c2 k2 c3 k3 : Nat} (hn : 2000 ≤ n) (h1 : c1 ≠ 13 ∧ c1 ≠ 14) (h2 : c2 ≠ 13 ∧ c2 ≠ 14) (h3 : c3 ≠ 13 ∧ c3 ≠ 14) (h : CS B L fo σ st) : ∃ y1 y2 y3 τ, cThree n t1 t2 t3 c1 k1 c2 k2 c3 k3 σ = some τ ∧ CS B L fo τ (sndP (sb st (pThree B L t1 t2 t3))) ∧ (∀ a, a ≠ 13 → τ a = mset (mset (mset σ c1 k1 y1) c2 k2 y2) c3 k3 y3 a) ∧ ∀ v p', sb st (pThree B L t1 t2 t3) = .inr (v, p') → y1 = v.1 ∧ y2 = v.2.1 ∧ y3 = v.2.2 := by
  obtain ⟨y1, τ1, a1, a2, a3, a4⟩ := c_one (t := t1) (ch := 44) (c := c1) (k := k1) hn (by decide) h1.1 h1.2 h
  obtain ⟨y2, τ2, b1, b2, b3, b4⟩ := c_one (t := t2) (ch := 44) (c := c2) (k := k2) hn (by decide) h2.1 h2.2 a2
  obtain ⟨y3, τ3, d1, d2, d3, d4⟩ := c_one (t := t3) (ch := 59) (c := c3) (k := k3) hn (by decide) h3.1 h3.2 b2
  have mc : ∀ {ρ ω : Mem} {c k a : Nat} {v : Int32}, ρ a = ω a → mset ρ c k v a = mset ω c k v a := fun {ρ ω c k a v} e => by
    by_cases q : a = c
    · subst q; rw [mset_row, mset_row, e]
    · rw [ms_cell q, ms_cell q, e]
  refine ⟨y1, y2, y3, τ3, ?_, ?_, fun a ha => ?_, fun v p' e => ?_⟩
  · unfold cThree
    rw [a1, b1, d1]
  · rw [sndP_3] at d2; exact d2
  · rw [d3 a ha]
    exact mc ((b3 a ha).trans (mc (a3 a ha)))
  · obtain ⟨p, e1, e2⟩ := sb_inr e
    obtain ⟨a, e3, e4⟩ := sb_inr e2
    obtain ⟨b, e5, e6⟩ := sb_inr e4
    obtain ⟨c, e7, e8⟩ := sb_inr e6
    cases e8
    have s1 : sb st (pOne B L t1 44) = .inr a := by rw [e1]; exact e3
    have s2 : sb (sndP (sb st (pOne B L t1 44))) (pOne B L t2 44) = .inr b := by rw [s1]; exact e5
    have s3 : sb (sndP (sb (sndP (sb st (pOne B L t1 44))) (pOne B L t2 44))) (pOne B L t3 59) = .inr c := by rw [s2]; exact e7
    exact ⟨a4 a.1 a.2 s1, b4 b.1 b.2 s2, d4 c.1 c.2 s3⟩
theorem c_law {st : PR Nat} (hn : 2000 ≤ n) (h : CS B L fo σ st) : ∃ τ, f_X5_readLaw n 20 σ = some τ ∧ CS B L fo τ (sndP (sb (sb st (pSign B L 112)) (pThree B L 9 20 60))) ∧ (∀ a, a ≠ 13 → a ≠ 20 → τ a = σ a) ∧ ∀ v p', sb (sb st (pSign B L 112)) (pThree B L 9 20 60) = .inr (v, p') → τ 20 1 = v.1 ∧ τ 20 2 = v.2.1 ∧ τ 20 3 = v.2.2 := by
  obtain ⟨ρ, r1, r2, r3⟩ := c_byte 112 (by decide) h
  obtain ⟨y1, y2, y3, τ, a1, a2, a3, a4⟩ := c_three (t1 := 9) (t2 := 20) (t3 := 60) (c1 := 20) (k1 := 1) (c2 := 20) (k2 := 2) (c3 := 20) (k3 := 3) hn (by decide) (by decide) (by decide) r2
  refine ⟨τ, ?_, a2, fun a h1 h2 => ?_, fun v p' e => ?_⟩
  · unfold f_X5_readLaw
    rw [r1, Option.bind_some]
    simp only [eq_true (show isTown 20 = true from rfl), if_true]
    exact a1
  · rw [a3 a h1, ms_cell h2, ms_cell h2, ms_cell h2, r3 a h1]
  · obtain ⟨q1, q2, q3⟩ := a4 v p' e
    rw [a3 20 (by decide)]
    simp [ms_if, q1, q2, q3]
theorem c_sortOf (x : Int32) : f_X5_sortOf σ x = some (srt x) := by
  unfold f_X5_sortOf srt
  repeat' split
  all_goals rfl
/-- what the class has read of a town -/
def TP (τ : Mem) (g : Nat → Int32) (m : Nat) : Prop := (τ 20 1 = g 5 ∧ τ 20 2 = g 6 ∧ τ 20 3 = g 7 ∧ τ 20 4 = nI m ∧ g 4 = nI m) ∧ ∀ r, r < m → τ 21 r = g (9 + r) ∧ τ 22 r = g (15 + r) ∧ τ 23 r = g (21 + r) ∧ τ 24 r = g (27 + r)
theorem addR_at {g : Nat → Int32} {m r : Nat} {s : Int32} {v : Int32 × Int32 × Int32} (hr : r ≤ m) (hm : m < 6) : addR g m s v (9 + r) = (if r = m then s else g (9 + r)) ∧ addR g m s v (15 + r) = (if r = m then v.1 else g (15 + r)) ∧ addR g m s v (21 + r) = (if r = m then v.2.1 else g (21 + r)) ∧ addR g m s v (27 + r) = (if r = m then v.2.2 else g (27 + r)) := by
  unfold addR upd
  refine ⟨?_, ?_, ?_, ?_⟩
  · rw [if_neg (by omega), if_neg (by omega), if_neg (by omega), if_neg (by omega)]
    by_cases q : r = m
    · rw [if_pos (by omega), if_pos q]
    · rw [if_neg (by omega), if_neg q]
  · rw [if_neg (by omega), if_neg (by omega), if_neg (by omega)]
    by_cases q : r = m
    · rw [if_pos (by omega), if_pos q]
    · rw [if_neg (by omega), if_neg (by omega), if_neg q]
  · rw [if_neg (by omega), if_neg (by omega)]
    by_cases q : r = m
    · rw [if_pos (by omega), if_pos q]
    · rw [if_neg (by omega), if_neg (by omega), if_neg (by omega), if_neg q]
  · rw [if_neg (by omega)]
    by_cases q : r = m
    · rw [if_pos (by omega), if_pos q]
    · rw [if_neg (by omega), if_neg (by omega), if_neg (by omega), if_neg (by omega), if_neg q]
theorem addR_lo {g : Nat → Int32} {m j : Nat} {s : Int32} {v : Int32 × Int32 × Int32} (h1 : j ≤ 8) (h2 : j ≠ 4) : addR g m s v j = g j := by
  unfold addR upd
  rw [if_neg h2, if_neg (by omega), if_neg (by omega), if_neg (by omega), if_neg (by omega)]
theorem addR_4 {g : Nat → Int32} {m : Nat} {s : Int32} {v : Int32 × Int32 × Int32} : addR g m s v 4 = nI (m + 1) := pk_us
theorem c_rd {m p : Nat} {g : Nat → Int32} (hn : 2000 ≤ n) (hm : m ≤ 6) (h : CS B L fo σ (.inr p)) (hT : TP σ g m) : ∃ τ, f_X5_readReader n 20 σ = some τ ∧ CS B L fo τ (sndP (pReader B L m p)) ∧ (∀ a, a ≠ 13 → (a < 20 ∨ 25 ≤ a) → τ a = σ a) ∧ ∀ v p', pReader B L m p = .inr (v, p') → TP τ (addR g m (srt (pkB B L p)) v) (m + 1) := by
  obtain ⟨hb, h5, h3, hp, h2⟩ := id h
  obtain ⟨⟨t1, t2, t3, t4, t5⟩, tr⟩ := hT
  unfold f_X5_readReader pReader
  rw [c_peek hb hp h2, Option.bind_some, c_sortOf, Option.bind_some]
  by_cases s0 : srt (pkB B L p) = 0
  · obtain ⟨τ, f1, f2, f3⟩ := c_fail 1 h
    rw [if_pos s0, if_pos s0, f1]
    exact ⟨τ, rfl, f2, fun a h1 _ => f3 a h1, fun v p' e => by cases e⟩
  rw [if_neg s0, if_neg s0, t4]
  simp only [eq_true (show isTown 20 = true from rfl), if_true]
  by_cases m6 : m = 6
  · subst m6
    obtain ⟨τ, f1, f2, f3⟩ := c_fail 3 h
    rw [if_neg (by decide), if_pos rfl, f1]
    exact ⟨τ, rfl, f2, fun a h1 _ => f3 a h1, fun v p' e => by cases e⟩
  have hpL : p < L := by
    rcases Nat.lt_or_ge p L with w | w
    · exact w
    · exfalso; apply s0; unfold pkB; rw [if_neg (by omega)]; decide
  rw [if_pos (show nI m < 6 from (nI_lt_lit (k := 6) (by omega) (by decide)).mpr (by omega)), if_neg m6]
  simp only [Option.bind_some, h2, nI_1, ms_cell (show (20 : Nat) ≠ 13 by decide), t4, inL (inB_nI (show m < 6 by omega) (show 6 < 2 ^ 31 by decide)), if_true, tn_nI (show m < 2 ^ 31 by omega)]
  have c0 : CS B L fo (mset (mset (mset σ 13 2 (nI (p + 1))) 20 4 (nI (m + 1))) 21 m (srt (pkB B L p))) (.inr (p + 1)) := by
    refine CS.cell (CS.cell ?_ (by decide) (by decide)) (by decide) (by decide)
    exact ⟨⟨hb.1, hb.2.1, fun i hi => by rw [ms_cell (by decide)]; exact hb.2.2 i hi⟩, h5, h3, hpL, rfl⟩
  obtain ⟨y1, y2, y3, τ, a1, a2, a3, a4⟩ := c_three (t1 := 9) (t2 := 30) (t3 := 9) (c1 := 22) (k1 := m) (c2 := 23) (k2 := m) (c3 := 24) (k3 := m) hn (by decide) (by decide) (by decide) c0
  refine ⟨τ, a1, a2, fun a h1 h2 => ?_, fun v p' e => ?_⟩
  · rw [a3 a h1, ms_cell (by omega), ms_cell (by omega), ms_cell (by omega), ms_cell (by omega), ms_cell (by omega), ms_cell h1]
  · obtain ⟨q1, q2, q3⟩ := a4 v p' e
    have h20 : ∀ j, j ≠ 4 → τ 20 j = σ 20 j := fun j hj => by rw [a3 20 (by decide), ms_cell (by decide), ms_cell (by decide), ms_cell (by decide), ms_cell (by decide), ms_off (Or.inr hj), ms_cell (by decide)]
    refine ⟨⟨?_, ?_, ?_, ?_, addR_4⟩, fun r hr => ?_⟩
    · rw [h20 1 (by decide), addR_lo (by decide) (by decide)]; exact t1
    · rw [h20 2 (by decide), addR_lo (by decide) (by decide)]; exact t2
    · rw [h20 3 (by decide), addR_lo (by decide) (by decide)]; exact t3
    · rw [a3 20 (by decide), ms_cell (by decide), ms_cell (by decide), ms_cell (by decide), ms_cell (by decide)]; exact ms_at
    · obtain ⟨w1, w2, w3, w4⟩ := addR_at (g := g) (s := srt (pkB B L p)) (v := v) (show r ≤ m by omega) (by omega)
      rw [w1, w2, w3, w4, a3 21 (by decide), a3 22 (by decide), a3 23 (by decide), a3 24 (by decide)]
      simp only [ms_if]
      by_cases q : r = m
      · simp [q, q1, q2, q3]
      · obtain ⟨z1, z2, z3, z4⟩ := tr r (by omega)
        simp [q, z1, z2, z3, z4]
theorem c_broken {e : Int32 × Nat} {f : Nat} {x : Int32} (h : CS B L fo σ (.inl e)) : f_X5_readInto_l22 n (f + 1) 20 x σ = some (0, σ) := by
  show f_X5_readInto_b22 n _ 20 x σ = _
  unfold f_X5_readInto_b22
  rw [h.2.1]
  by_cases q : 6 < x
  · rw [if_pos q]; rfl
  · rw [if_neg q, if_pos rfl]; rfl
theorem c_loop (hn : 2000 ≤ n) : ∀ (k m p f : Nat) (g : Nat → Int32) (σ : Mem), k + m = 7 → m ≤ 6 → k + 1 < f → CS B L fo σ (.inr p) → TP σ g m → ∃ y τ, f_X5_readInto_l22 n f 20 (nI m) σ = some (y, τ) ∧ (∀ a, a ≠ 13 → (a < 20 ∨ 25 ≤ a) → τ a = σ a) ∧ ((∃ e, pLoop B L k p g m = .inl e ∧ y = 0 ∧ CS B L fo τ (.inl e)) ∨ ∃ g' p' m', m' ≤ 6 ∧ pLoop B L k p g m = .inr g' ∧ y = 1 ∧ CS B L fo τ (.inr p') ∧ TP τ g' m') := by
  intro k
  induction k with
  | zero => intro m p f g σ h1 h2; omega
  | succ k ih =>
    intro m p f g σ hk hm hf h hT
    obtain ⟨f, rfl⟩ : ∃ f', f = f' + 2 := ⟨f - 2, by omega⟩
    have hb := h.1
    have h5 : σ 13 5 = 1 := h.2.1
    have hp : p ≤ L := h.2.2.2.1
    have h2 : σ 13 2 = nI p := h.2.2.2.2
    have u : f_X5_readInto_l22 n (f + 2) 20 (nI m) σ = f_X5_readInto_b22 n (f_X5_readInto_l22 n (f + 1)) 20 (nI m) σ := rfl
    rw [u]
    unfold f_X5_readInto_b22
    rw [if_neg (fun w => by have := (nI_lt_lit (n := 6) (by omega) (by omega)).mp w; omega), h5, if_neg (by decide), hb.1, h2, pLoop]
    by_cases q : p = L
    · rw [if_pos ((nI_le_lit (by omega) (by omega)).mpr (by omega)), if_pos q]
      exact ⟨1, σ, rfl, fun _ _ _ => rfl, Or.inr ⟨g, p, m, hm, rfl, rfl, h, hT⟩⟩
    · rw [if_neg (fun w => by have := (nI_le_lit (by omega) (by omega)).mp w; omega), if_neg q]
      obtain ⟨τ, a1, a2, a3, a4⟩ := c_rd hn hm h hT
      rw [a1, Option.bind_some]
      cases hr : pReader B L m p with
      | inl e =>
        rw [hr] at a2
        exact ⟨0, τ, c_broken a2, a3, Or.inl ⟨e, rfl, rfl, a2⟩⟩
      | inr a =>
        rw [hr] at a2
        have hm6 : m ≠ 6 := by
          intro z
          subst z
          unfold pReader at hr
          by_cases s0 : srt (pkB B L p) = 0
          · rw [if_pos s0] at hr; cases hr
          · rw [if_neg s0, if_pos rfl] at hr; cases hr
        obtain ⟨y, υ, b1, b2, b3⟩ := ih (m + 1) a.2 (f + 1) _ τ (by omega) (by omega) (by omega) a2 (a4 a.1 a.2 hr)
        rw [nI_1]
        exact ⟨y, υ, b1, fun x h1 h2 => (b2 x h1 h2).trans (a3 x h1 h2), b3⟩
/-- the class reads the text -/
theorem c_into {g0 : Nat → Int32} (hn : 2000 ≤ n) (hb : σ 13 1 = nI L ∧ L ≤ 100 ∧ ∀ i, i < 100 → σ 14 i = B i) (hfo : σ 13 3 = fo) (h4 : g0 4 = 0) : ∃ y τ, f_X5_readInto n 20 σ = some (y, τ) ∧ (∀ a, a ≠ 13 → (a < 20 ∨ 25 ≤ a) → τ a = σ a) ∧ ((∃ e, pText B L g0 = .inl e ∧ y = 0 ∧ CS B L fo τ (.inl e)) ∨ ∃ g' p' m', m' ≤ 6 ∧ pText B L g0 = .inr g' ∧ y = 1 ∧ CS B L fo τ (.inr p') ∧ TP τ g' m') := by
  have c0 : CS B L fo (mset (mset σ 13 2 0) 13 5 1) (.inr 0) := ⟨⟨hb.1, hb.2.1, fun i hi => by rw [ms_cell (by decide), ms_cell (by decide)]; exact hb.2.2 i hi⟩, rfl, hfo, Nat.zero_le _, rfl⟩
  obtain ⟨τ, a1, a2, a3, a4⟩ := c_law hn c0
  have e0 : f_X5_readInto n 20 σ = f_X5_readInto_l22 n n 20 0 (mset τ 20 4 0) := by
    unfold f_X5_readInto
    simp only [Option.bind_some, eq_true (show isBv 1 = true from rfl), if_true, a1, eq_true (show isTown 20 = true from rfl)]
  rw [e0]
  have fr : ∀ a, a ≠ 13 → (a < 20 ∨ 25 ≤ a) → mset τ 20 4 0 a = σ a := fun a h1 h2 => by rw [ms_cell (by omega), a3 a h1 (by omega), ms_cell h1, ms_cell h1]
  have es : sb (sb (.inr 0) (pSign B L 112)) (pThree B L 9 20 60) = sb (pSign B L 112 0) (pThree B L 9 20 60) := rfl
  rw [es] at a2 a4
  unfold pText
  cases hl : sb (pSign B L 112 0) (pThree B L 9 20 60) with
  | inl e =>
    rw [hl] at a2
    have c1 : CS B L fo (mset τ 20 4 0) (.inl e) := CS.cell a2 (by decide) (by decide)
    obtain ⟨f, rfl⟩ : ∃ f', n = f' + 1 := ⟨n - 1, by omega⟩
    exact ⟨0, _, c_broken c1, fr, Or.inl ⟨e, rfl, rfl, c1⟩⟩
  | inr a =>
    rw [hl] at a2
    have c1 : CS B L fo (mset τ 20 4 0) (.inr a.2) := CS.cell a2 (by decide) (by decide)
    obtain ⟨v1, v2, v3⟩ := a4 a.1 a.2 hl
    have hT : TP (mset τ 20 4 0) (lawG g0 a.1) 0 := by
      refine ⟨⟨?_, ?_, ?_, ms_at, ?_⟩, fun r hr => by omega⟩
      · rw [ms_off (Or.inr (by decide)), v1]; rfl
      · rw [ms_off (Or.inr (by decide)), v2]; rfl
      · rw [ms_off (Or.inr (by decide)), v3]; rfl
      · exact h4
    obtain ⟨y, υ, b1, b2, b3⟩ := c_loop hn 7 0 a.2 n _ _ (by omega) (by omega) (by omega) c1 hT
    exact ⟨y, υ, b1, fun x h1 h2 => (b2 x h1 h2).trans (fr x h1 h2), b3⟩
end PARSE2
