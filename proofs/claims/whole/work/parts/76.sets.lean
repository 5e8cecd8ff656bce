/-! ===== sets of readers: the most that each brings ===== -/
def gB (g : Nat → Int32) : Nat → Int32 := fun i => if i = 0 then g 5 else if i = 2 then 0 else if i = 3 then 0 else if i = 1 then 0 else g i
theorem gB_hi {g : Nat → Int32} {i : Nat} (h : 4 ≤ i) : gB g i = g i := by
  unfold gB
  rw [if_neg (by omega), if_neg (by omega), if_neg (by omega), if_neg (by omega)]
theorem gB_okt {g : Nat → Int32} (h : Okt g) : Okt (gB g) := by
  obtain ⟨⟨m, h6, hm⟩, a1, a2, a3, a4, a5, a6⟩ := h
  refine ⟨⟨m, h6, by rw [gB_hi (by decide)]; exact hm⟩, by rw [gB_hi (by decide)]; exact a1, a4, (show Btw 0 0 1100 from ⟨by decide, by decide⟩), by rw [gB_hi (by decide)]; exact a4, by rw [gB_hi (by decide)]; exact a5, fun r hr hlt => ?_⟩
  rw [gB_hi (by decide)] at hlt
  rw [gB_hi (by omega), gB_hi (by omega), gB_hi (by omega), gB_hi (by omega)]
  exact a6 r hr hlt
theorem gB_many {g : Nat → Int32} {m : Nat} (h : Mny g m) : Mny (gB g) m := ⟨h.1, by rw [gB_hi (by decide)]; exact h.2⟩
/-- what one reader brings: 0 to 36 -/
theorem near_btw {g : Nat → Int32} {r : Nat} : ∀ (k o : Nat) (acc : Int32), 0 ≤ acc.toInt → acc.toInt ≤ 100 → k ≤ 100 → 0 ≤ (sNr g r o k acc).toInt ∧ (sNr g r o k acc).toInt ≤ acc.toInt + k := by
  intro k
  induction k with
  | zero => intro o acc h1 h2 _; rw [sNr]; omega
  | succ k ih =>
    intro o acc h1 h2 hk
    have := ih
    rw [sNr]
    have e1 : (1 : Int32).toInt = 1 := rfl
    have ea : (acc + 1).toInt = acc.toInt + 1 := by rw [i32_add (by rw [e1]; omega) (by rw [e1]; omega), e1]
    by_cases q : o = r
    · rw [if_pos q]
      have := ih (o + 1) acc h1 h2 (by omega)
      omega
    · rw [if_neg q]
      by_cases w : g (15 + o) = g (15 + r)
      · rw [if_pos w]
        by_cases z : acc.toInt = 100
        · have gen : ∀ (k o : Nat) (acc : Int32), 0 ≤ acc.toInt → acc.toInt ≤ 1000 - k → k ≤ 1000 → 0 ≤ (sNr g r o k acc).toInt ∧ (sNr g r o k acc).toInt ≤ acc.toInt + k := by
            intro k
            induction k with
            | zero => intro o acc h1 h2 _; rw [sNr]; omega
            | succ k ih2 =>
              intro o acc h1 h2 hk
              rw [sNr]
              have ea : (acc + 1).toInt = acc.toInt + 1 := by rw [i32_add (by rw [e1]; omega) (by rw [e1]; omega), e1]
              by_cases q : o = r
              · rw [if_pos q]
                have := ih2 (o + 1) acc h1 (by omega) (by omega)
                omega
              · rw [if_neg q]
                by_cases w : g (15 + o) = g (15 + r)
                · rw [if_pos w]
                  have := ih2 (o + 1) (acc + 1) (by omega) (by omega) (by omega)
                  omega
                · rw [if_neg w]
                  have := ih2 (o + 1) acc h1 (by omega) (by omega)
                  omega
          have := gen k (o + 1) (acc + 1) (by omega) (by omega) (by omega)
          omega
        · have := ih (o + 1) (acc + 1) (by omega) (by omega) (by omega)
          omega
      · rw [if_neg w]
        have := ih (o + 1) acc h1 h2 (by omega)
        omega
theorem br_btw {g : Nat → Int32} {m r : Nat} (hO : Okt g) (hm : Mny g m) (hr : r < m) : 0 ≤ (sBr g r).toInt ∧ (sBr g r).toInt ≤ 36 := by
  have h6 := hm.1
  obtain ⟨-, ⟨w1, w2⟩, ⟨l1, l2⟩, -⟩ := hO.rd hm hr
  obtain ⟨c1, c2⟩ := comes_btw hO hm hr
  obtain ⟨b1, b2⟩ := hO.2.2.2.1
  have z0 : (0 : Int32).toInt = 0 := rfl
  have p0 : 0 ≤ (sComes g r).toInt * (g (27 + r)).toInt := Int.mul_nonneg (by omega) l1
  have p1 : (sComes g r).toInt * (g (27 + r)).toInt ≤ 2000 * 9 := Int.mul_le_mul (by omega) l2 l1 (by decide)
  have f : 0 ≤ (sFresh g r).toInt ∧ (sFresh g r).toInt ≤ 30 := by
    unfold sFresh imax
    have em : (sComes g r * g (27 + r)).toInt = (sComes g r).toInt * (g (27 + r)).toInt := i32_mul (by omega) (by omega)
    have es : (g (21 + r) - sComes g r * g (27 + r)).toInt = (g (21 + r)).toInt - (sComes g r).toInt * (g (27 + r)).toInt := by
      rw [i32_sub (by rw [em]; omega) (by rw [em]; omega), em]
    by_cases q : 0 < g (21 + r) - sComes g r * g (27 + r)
    · rw [if_pos q]
      rw [i32_lt, z0] at q
      omega
    · rw [if_neg q, z0]
      omega
  have hn : 0 ≤ (sNear g r).toInt ∧ (sNear g r).toInt ≤ 6 := by
    unfold sNear
    rw [hm.2, tn_nI (by omega)]
    have := near_btw (g := g) (r := r) m 0 0 (by rw [z0]; omega) (by rw [z0]; omega) (by omega)
    rw [z0] at this
    omega
  unfold sBr
  by_cases q1 : g (9 + r) = 1
  · rw [if_pos q1]; omega
  rw [if_neg q1]
  by_cases q2 : g (9 + r) = 2
  · rw [if_pos q2]
    by_cases q : g 2 = 0
    · rw [if_pos q]; omega
    · rw [if_neg q, z0]; omega
  rw [if_neg q2]
  by_cases q3 : g (9 + r) = 3
  · rw [if_pos q3, i32_add (by omega) (by omega)]; omega
  · rw [if_neg q3]; omega
theorem wA_earn {am : Nat → Bool} {m : Nat} : ∀ (w : List Nat) (g g' : Nat → Int32), Okt g → Mny g m → (∀ r ∈ w, r < m) → 0 ≤ (g 3).toInt → (g 3).toInt + 36 * (w.length : Int) ≤ 1000000 → wA am w g = some g' → 0 ≤ (g' 3).toInt ∧ (g' 3).toInt ≤ (g 3).toInt + 36 * (w.length : Int) := by
  intro w
  induction w with
  | nil => intro g g' _ _ _ h0 _ h; cases h; simp; omega
  | cons x w ih =>
    intro g g' hO hm hw h0 hb h
    rw [wA] at h
    by_cases q : (am x && sCan g x) = true
    · rw [if_pos q] at h
      rw [Bool.and_eq_true] at q
      have hx : x < m := hw x List.mem_cons_self
      obtain ⟨b1, b2⟩ := br_btw hO hm hx
      rw [List.length_cons] at hb ⊢
      have e3 : (sGive g x 3).toInt = (g 3).toInt + (sBr g x).toInt := by
        rw [sGive3]
        exact i32_add (by omega) (by omega)
      have := ih _ _ (hO.give hm hx q.2) hm.give (fun r hr => hw r (List.mem_cons_of_mem _ hr)) (by omega) (by omega) h
      omega
    · rw [if_neg q] at h; cases h
/-! the most of a list -/
def mxs (o : Option Int32) (v : Int32) : Option Int32 := match o with
  | none => some v
  | some u => if u < v then some v else some u
theorem mxs_fold {d : Int32} (hd : d.toInt < 0) : ∀ (L : List Int32) (o : Option Int32), (∀ v ∈ L, 0 ≤ v.toInt) → L.foldl (fun v x => if v < x then x else v) (o.getD d) = (L.foldl mxs o).getD d := by
  intro L
  induction L with
  | nil => intro o _; rfl
  | cons x L ih =>
    intro o hL
    rw [List.foldl_cons, List.foldl_cons]
    have e : (if o.getD d < x then x else o.getD d) = (mxs o x).getD d := by
      cases o with
      | none =>
        have := hL x List.mem_cons_self
        show (if d < x then x else d) = x
        rw [if_pos (by rw [i32_lt]; omega)]
      | some u =>
        show (if u < x then x else u) = (if u < x then some x else some u).getD d
        by_cases q : u < x
        · rw [if_pos q, if_pos q]; rfl
        · rw [if_neg q, if_neg q]; rfl
    rw [e]
    exact ih _ fun v hv => hL v (List.mem_cons_of_mem _ hv)
theorem mxs_mem : ∀ (L : List Int32) (o : Option Int32) (v : Int32), L.foldl mxs o = some v → v ∈ L ∨ o = some v := by
  intro L
  induction L with
  | nil => intro o v h; exact Or.inr h
  | cons x L ih =>
    intro o v h
    rw [List.foldl_cons] at h
    rcases ih _ _ h with h | h
    · exact Or.inl (List.mem_cons_of_mem _ h)
    · cases o with
      | none => cases h; exact Or.inl List.mem_cons_self
      | some u =>
        by_cases q : u < x
        · have : mxs (some u) x = some x := if_pos q
          rw [this] at h; cases h; exact Or.inl List.mem_cons_self
        · have : mxs (some u) x = some u := if_neg q
          rw [this] at h; exact Or.inr h
/-- the rows that give a set all of it: what each brings -/
def setL (m : Nat) (g : Nat → Int32) (s : Nat) : List Int32 := ((Wl (amAll m) m (cnt s) (gB g) []).filter fun x => setN x.1 == s).map fun x => x.2 3
def setV (m : Nat) (g : Nat → Int32) (s : Nat) : Option Int32 := (setL m g s).foldl mxs none
theorem setL_btw {m s : Nat} {g : Nat → Int32} (hO : Okt g) (hm : Mny g m) (hs : s < 64) : ∀ v ∈ setL m g s, 0 ≤ v.toInt ∧ v.toInt ≤ 216 := by
  intro v hv
  obtain ⟨x, hx, rfl⟩ := List.mem_map.mp hv
  rw [List.mem_filter] at hx
  obtain ⟨h1, h2⟩ := Wl_mem hx.1
  obtain ⟨h3, h4⟩ := wds_len _ _ h1
  have h6 := cnt_le6 hs
  have z : (gB g 3).toInt = 0 := rfl
  have := wA_earn x.1 (gB g) x.2 (gB_okt hO) (gB_many hm) h4 (by rw [z]; omega) (by rw [z]; omega) h2
  rw [z] at this
  omega
theorem setV_btw {m s : Nat} {g : Nat → Int32} {v : Int32} (hO : Okt g) (hm : Mny g m) (hs : s < 64) (h : setV m g s = some v) : 0 ≤ v.toInt ∧ v.toInt ≤ 216 := by
  rcases mxs_mem _ _ _ h with h | h
  · exact setL_btw hO hm hs v h
  · cases h
theorem setV_0 {m : Nat} {g : Nat → Int32} : setV m g 0 = some 0 := rfl
/-! the class -/
def KT (A : Int32) (b : Nat → Int32) (σ : Mem) : Prop := σ 61 2 = 2 ∧ σ 61 3 = A ∧ ∀ j, j < 64 → σ 69 j = b j
def stT (b : Nat → Int32) (p : List Nat) (g : Nat → Int32) : Nat → Int32 := upd b (setN p) (imax (b (setN p)) (g 3))
theorem c_weighT {A : Int32} {g0 : Nat → Int32} {am : Nat → Bool} (h0 : g0 2 = 0) (b : Nat → Int32) (σ : Mem) (p : List Nat) (g : Nat → Int32) (h : KT A b σ) (hT : TwR σ 62 g) (hl : ∀ r ∈ p, r < 6) (hw : wA am p g0 = some g) : ∃ τ, f_X3_weigh (nI p.length) σ = some τ ∧ KT A (stT b p g) τ ∧ ∀ a, a ≠ 61 → a ≠ 68 → a ≠ 69 → τ a = σ a := by
  have e12 : σ 62 12 = g 3 := hT.1.2.2.2.2.2.2.2.2
  have e11 : σ 62 11 = g 2 := hT.1.2.2.2.2.2.2.2.1
  obtain ⟨-, -, r3⟩ := wA_read p g0 g hl hw
  rw [h0, Int32.zero_or] at r3
  have hs : setN p < 64 := setN_lt hl
  refine ⟨mset σ 69 (setN p) (imax (σ 69 (setN p)) (g 3)), ?_, ⟨by rw [ms_cell (by decide)]; exact h.1, by rw [ms_cell (by decide)]; exact h.2.1, fun j hj => ?_⟩, fun a _ _ h3 => ms_cell h3⟩
  · unfold f_X3_weigh
    rw [if_neg (by rw [h.1]; decide), if_neg (by rw [h.1]; decide), e11, r3, if_neg (nI_nn (by omega)), if_neg (fun w => by have := (nI_le_lit (n := 64) (by decide) (by omega)).mp w; omega), if_pos (inB_nI hs (by decide)), if_pos (inB_nI hs (by decide)), tn_nI (by omega), e12]
    rfl
  · unfold stT upd
    rw [ms_if, h.2.2 (setN p) hs]
    by_cases q : j = setN p
    · rw [if_pos ⟨rfl, q⟩, if_pos q]
    · rw [if_neg (fun w => q w.2), if_neg q]; exact h.2.2 j hj
theorem TwR.begun {σ : Mem} {t : Nat} {g : Nat → Int32} (h : TwR σ t g) : TwR (cStands σ t (g 5) 0 0 0) t (gB g) := h.stands (g 5) 0 0 0
theorem c_forSets {σ : Mem} {n m : Nat} (h : Inv σ) (hn : 2000 ≤ n) (hm : Mny (σ 82) m) : ∃ τ, f_X3_forSets n 15 σ = some τ ∧ (∀ s, s < 64 → τ 69 s = (setV m (G0 σ) s).getD (-1000000)) ∧ ∀ a, a < 61 ∨ 70 ≤ a → τ a = σ a := by
  obtain ⟨σ2, e1, e2, e3⟩ := c_trial h (t := 62) rfl (by decide)
  have hm0 := G0_many hm
  have hO : Okt (G0 σ) := h.2.2.2.1.1.eqT (G0_eq σ)
  have h6 := hm.1
  have b62 : f_X6_begin 62 σ2 = some (cStands σ2 62 (G0 σ 5) 0 0 0) := by
    unfold f_X6_begin
    rw [if_pos (show isTown 62 = true from rfl), c_copyStands (t := 62) rfl, show σ2 62 1 = G0 σ 5 from e2.1.2.1]; rfl
  generalize hσ3 : cStands σ2 62 (G0 σ 5) 0 0 0 = σ3 at b62
  have o3 : ∀ a, a ≠ 62 → σ3 a = σ2 a := fun a ha => by rw [← hσ3]; exact cStands_ne ha
  have hT3 : TwR σ3 62 (gB (G0 σ)) := by rw [← hσ3]; exact e2.begun
  have fl : f_J7_fill_53178 n 69 (-1000000) σ3 = some (fillm σ3 69 64 (-1000000)) := by
    have a69 : alen 69 = 64 := by decide +kernel
    have := c_fill (σ := σ3) (a := 69) (n := n) (v := -1000000) (by decide +kernel) (by rw [a69]; decide) hn
    rw [a69] at this
    exact this
  generalize hσ4 : fillm σ3 69 64 (-1000000) = σ4 at fl
  have o4 : ∀ a, a ≠ 69 → σ4 a = σ3 a := fun a ha => by rw [← hσ4]; exact fillm_ne ha
  have s69 : ∀ j, j < 64 → σ4 69 j = -1000000 := fun j hj => by rw [← hσ4]; exact if_pos ⟨rfl, hj⟩
  have o24 : ∀ a, a ≠ 62 → a ≠ 69 → σ4 a = σ2 a := fun a q1 q2 => (o4 a q2).trans (o3 a q1)
  have hT4 : TwR σ4 62 (gB (G0 σ)) := hT3.congr (o4 62 (by decide)) (o4 63 (by decide)) (o4 64 (by decide)) (o4 65 (by decide)) (o4 66 (by decide))
  have hT15 : TwR σ4 15 (G0 σ) := (h.tw.eqT (G0_eq σ)).congr (by rw [o24 15 (by decide) (by decide), e3 15 (by omega)]) (by rw [o24 (15+1) (by decide) (by decide), e3 (15+1) (by omega)]) (by rw [o24 (15+2) (by decide) (by decide), e3 (15+2) (by omega)]) (by rw [o24 (15+3) (by decide) (by decide), e3 (15+3) (by omega)]) (by rw [o24 (15+4) (by decide) (by decide), e3 (15+4) (by omega)])
  obtain ⟨σ6, s1, s2, s3, s4, s5, s6⟩ := c_seek (n := n) (σ := σ4) 2 ((1 <<< (nI m &&& 31)) - 1)
  have hT6 : TwR σ6 62 (gB (G0 σ)) := hT4.congr (s6 62 (by decide)) (s6 63 (by decide)) (s6 64 (by decide)) (s6 65 (by decide)) (s6 66 (by decide))
  obtain ⟨τ, t1, t2, -, -, t5⟩ := c_dfs (n := n) (m := m) (A := (1 <<< (nI m &&& 31)) - 1) (am := amAll m) (K := KT ((1 <<< (nI m &&& 31)) - 1)) (step := stT) (P := fun p g => (∀ r ∈ p, r < m) ∧ wA (amAll m) p (gB (G0 σ)) = some g) hn h6 (fun r hr => all_bits m (by omega) r hr)
    (fun b σ τ q1 _ q3 hk => ⟨by rw [q1]; exact hk.1, by rw [q1]; exact hk.2.1, fun j hj => by rw [q3]; exact hk.2.2 j hj⟩) (fun b σ hk => hk.2.1)
    (fun p g r hp hr ha hc => ⟨fun y hy => by
      rcases List.mem_append.mp hy with hy | hy
      · exact hp.1 y hy
      · rw [List.mem_singleton] at hy; rw [hy]; exact hr, wA_snoc hp.2 ha hc⟩)
    (fun b σ p g q1 q2 q3 q4 q5 q6 => c_weighT (am := amAll m) rfl b σ p g q1 q2 (fun r hr => Nat.lt_of_lt_of_le (q6.1 r hr) h6) q6.2) 6 8 [] (gB (G0 σ)) (fun _ => -1000000) σ6 rfl (by decide) ⟨s2, s3, fun j hj => by rw [s6 69 (by decide)]; exact s69 j hj⟩ hT6 (gB_many hm0) (fun j hj => absurd hj (Nat.not_lt_zero _)) ⟨fun r hr => absurd hr List.not_mem_nil, rfl⟩
  refine ⟨τ, ?_, fun s hs => ?_, fun a ha => by rw [t5 a (by omega) (by omega) (by omega) (by omega) (by omega), s6 a (by omega), o24 a (by omega) (by omega), e3 a (by omega)]⟩
  · unfold f_X3_forSets
    rw [e1, Option.bind_some, b62, Option.bind_some, fl, Option.bind_some, if_pos (show isTown 15 = true from rfl), everyb hT15 hm0, Option.bind_some, s1]
    have t1' : f_X3_tryRows_r n 8 (nI 0) σ6 = some τ := t1
    rw [t1']; rfl
  · rw [t2.2.2 s hs]
    have one : ∀ (L : List Row) (b : Nat → Int32), L.foldl (fun b x => stT b x.1 x.2) b s = (L.filter fun x => setN x.1 == s).foldl (fun v x => if v < x.2 3 then x.2 3 else v) (b s) := by
      intro L
      induction L with
      | nil => intro b; rfl
      | cons x L ih =>
        intro b
        rw [List.foldl_cons, ih, List.filter_cons]
        by_cases q : setN x.1 = s
        · rw [if_pos (by simp [q]), List.foldl_cons]
          congr 1
          unfold stT
          rw [q, pk_us]; rfl
        · rw [if_neg (by simpa using q)]
          congr 1
          exact pk_un (Ne.symm q)
    rw [one]
    have two : (Dl (amAll m) m 6 (gB (G0 σ)) []).filter (fun x => setN x.1 == s) = (Wl (amAll m) m (cnt s) (gB (G0 σ)) []).filter fun x => setN x.1 == s := by
      rw [← Dl_filter 6 (cnt s) (gB (G0 σ)) [] (cnt_le6 hs), List.filter_filter]
      apply List.filter_congr
      intro x hx
      by_cases q : setN x.1 = s
      · have hmem : ∃ k, k ≤ 6 ∧ x ∈ Wl (amAll m) m k (gB (G0 σ)) [] := by
          have len6 : ∀ (f : Nat) (g : Nat → Int32) (p : List Nat) (x : Row), x ∈ Dl (amAll m) m f g p → x.1.length ≤ p.length + f := by
            intro f
            induction f with
            | zero => intro g p x hx; rw [Dl, List.mem_singleton] at hx; rw [hx]; exact Nat.le_refl _
            | succ f ih =>
              intro g p x hx
              rw [Dl, List.mem_cons] at hx
              rcases hx with rfl | hx
              · exact Nat.le_add_right _ _
              · obtain ⟨r, -, q2⟩ := List.mem_flatMap.mp hx
                by_cases q : (amAll m r && sCan g r) = true
                · rw [if_pos q] at q2
                  have := ih _ _ _ q2
                  rw [List.length_append, List.length_singleton] at this
                  omega
                · rw [if_neg q] at q2; cases q2
          have hl := len6 6 _ _ _ hx
          have hl : x.1.length ≤ 6 := by simpa using hl
          refine ⟨x.1.length, hl, ?_⟩
          rw [← Dl_filter 6 x.1.length (gB (G0 σ)) [] hl, List.mem_filter]
          exact ⟨hx, by simp⟩
        obtain ⟨k, hk, hxW⟩ := hmem
        obtain ⟨u1, u2⟩ := Wl_mem hxW
        obtain ⟨-, u4⟩ := wds_len _ _ u1
        obtain ⟨-, c, -⟩ := wA_read x.1 _ _ (fun r hr => Nat.lt_of_lt_of_le (u4 r hr) h6) u2
        rw [q] at c
        simp [q, c]
      · simp [q]
    rw [two]
    have three : ∀ (L : List Row) (v : Int32), L.foldl (fun v x => if v < x.2 3 then x.2 3 else v) v = (L.map fun x => x.2 3).foldl (fun v x => if v < x then x else v) v := fun L v => by rw [List.foldl_map]
    rw [three]
    exact mxs_fold (d := -1000000) (by decide) (setL m (G0 σ) s) none fun v hv => (setL_btw hO hm0 hs v hv).1
/-! the reference -/
def LFr (ρ σ : Mem) : Prop := (∀ a, a ≠ 84 → a ≠ 90 → a ≠ 92 → a ≠ 93 → σ a = ρ a) ∧ ∀ j, 33 ≤ j → σ 84 j = ρ 84 j
theorem LFr.rf {ρ : Mem} : LFr ρ ρ := ⟨fun _ _ _ _ _ => rfl, fun _ _ => rfl⟩
theorem LFr.tr {ρ σ τ : Mem} (h : LFr ρ σ) (k : LFr σ τ) : LFr ρ τ := ⟨fun a h1 h2 h3 h4 => (k.1 a h1 h2 h3 h4).trans (h.1 a h1 h2 h3 h4), fun j hj => (k.2 j hj).trans (h.2 j hj)⟩
theorem LFr.m92 {σ : Mem} {k : Nat} {v : Int32} : LFr σ (mset σ 92 k v) := ⟨fun a _ _ h _ => ms_cell h, fun j _ => by rw [ms_cell (by decide)]⟩
theorem LFr.l90 {σ τ : Mem} (h : ∀ a, a ≠ 90 → τ a = σ a) : LFr σ τ := ⟨fun a _ h2 _ _ => h a h2, fun j _ => by rw [h 84 (by decide)]⟩
def rsL (m : Nat) (g : Nat → Int32) (s : Nat) (v : Int32) (w : List Nat) : Int32 := if setN w = s then (match wA (amAll m) w (gB g) with
  | some g' => if g' 3 ≤ v then v else g' 3
  | none => v) else v
/-- a fresh copy is tried along the row that is laid -/
theorem r_tryB {σ ρ : Mem} {n m : Nat} {w : List Nat} (hn : 2000 ≤ n) (hm : Mny (ρ 82) m) (hw : w.length ≤ 6) (hl : ∀ r ∈ w, r < m) (hR : LFr ρ σ) (h : Rw σ w) : ∃ μ τ, mset (mset (mset (mset (mcpy σ 82 0 84 0 33) 84 0 (mcpy σ 82 0 84 0 33 84 5)) 84 1 0) 84 2 0) 84 3 0 = μ ∧ f_X8_goesOn n 90 (nI w.length) μ = some (if (wA (amAll m) w (gB (G0 ρ))).isSome = true then 1 else 0, τ) ∧ (∀ a, a ≠ 84 → τ a = σ a) ∧ LFr ρ τ ∧ ∀ g', wA (amAll m) w (gB (G0 ρ)) = some g' → τ 84 = g' := by
  have gE : G0 σ = G0 ρ := G0_congr (hR.1 82 (by decide) (by decide) (by decide) (by decide)) hR.2
  generalize hμ : mset (mset (mset (mset (mcpy σ 82 0 84 0 33) 84 0 (mcpy σ 82 0 84 0 33 84 5)) 84 1 0) 84 2 0) 84 3 0 = μ
  have e84 : μ 84 = gB (G0 ρ) := by
    rw [← hμ, mset_row, mset_row, mset_row, mset_row, begin84, gE]
    funext i
    unfold gB upd
    by_cases h0 : i = 0
    · subst h0; rfl
    by_cases h1 : i = 1
    · subst h1; rfl
    by_cases h2 : i = 2
    · subst h2; rfl
    by_cases h3 : i = 3
    · subst h3; rfl
    rw [if_neg h3, if_neg h2, if_neg h1, if_neg h0, if_neg h0, if_neg h2, if_neg h3, if_neg h1]
  have oμ : ∀ a, a ≠ 84 → μ a = σ a := fun a ha => by rw [← hμ, ms_cell ha, ms_cell ha, ms_cell ha, ms_cell ha, begin_ne ha]
  have hmB := gB_many (G0_many hm)
  obtain ⟨τ, t1, t2, t3, t4⟩ := r_go (n := n) (a := 90) (N := w.length) rfl (by decide) (by decide) (by omega) (w.map nI) 0 m n μ (by rw [e84]; exact hmB) (by simp) (by rw [show alen 90 = 6 from by decide +kernel]; exact hw) (by simp; omega) (fun j hj => by
    rw [List.length_map] at hj
    rw [oμ 90 (by decide), Nat.zero_add, h j hj, List.getElem_map])
  rw [e84, wlk_wA w _ hmB hl] at t1 t4
  refine ⟨μ, τ, rfl, t1, fun a ha => by rw [t2 a ha, oμ a ha], ⟨fun a h1 h2 h3 h4 => by rw [t2 a h1, oμ a h1]; exact hR.1 a h1 h2 h3 h4, fun j hj => ?_⟩, t4⟩
  rw [t3 j (by omega), e84, gB_hi (by omega)]
  exact if_neg (by omega)
theorem r_sets_in {ρ : Mem} {n m s : Nat} (k2 : Int32 → Mem → Option Mem) (hn : 100000 ≤ n) (hm : Mny (ρ 82) m) (hs : s < 64) (hc0 : 0 < cnt s) (hm0 : 0 < m) : ∀ (r c f : Nat) (σ : Mem), c + r = m ^ cnt s → r < f → LFr ρ σ → ∃ τ, f_X8_laySets_l36 n k2 f (nI s) (nI (cnt s)) (nI c) σ = k2 (nI (s + 1)) τ ∧ τ 92 s = rfold (rsL m (G0 ρ) s) m (cnt s) r c (σ 92 s) ∧ (∀ j, j ≠ s → τ 92 j = σ 92 j) ∧ LFr ρ τ := by
  have h6 := hm.1
  have hN := cnt_le6 hs
  have hmk : m ^ cnt s ≤ 46656 := Nat.le_trans (Nat.pow_le_pow_left h6 _) (show 6 ^ cnt s ≤ 6 ^ 6 from Nat.pow_le_pow_right (by decide) hN)
  intro r
  induction r with
  | zero =>
    intro c f σ hc hf hR
    obtain ⟨f, rfl⟩ : ∃ f', f = f' + 1 := ⟨f - 1, by omega⟩
    have h4 : σ 82 4 = nI m := by rw [hR.1 82 (by decide) (by decide) (by decide) (by decide)]; exact hm.2
    refine ⟨σ, ?_, rfl, fun _ _ => rfl, hR⟩
    show f_X8_laySets_b36 n _ _ (nI s) _ (nI c) σ = _
    unfold f_X8_laySets_b36 f_X8_laySets_b150
    rw [r_rowsOf (by omega) hN h4, Option.bind_some, if_pos ((nI_le_lit (by omega) (by omega)).mpr (by omega)), nI_1]
  | succ r ih =>
    intro c f σ hc hf hR
    obtain ⟨f, rfl⟩ : ∃ f', f = f' + 1 := ⟨f - 1, by omega⟩
    have h4 : σ 82 4 = nI m := by rw [hR.1 82 (by decide) (by decide) (by decide) (by decide)]; exact hm.2
    obtain ⟨σ1, l1, l2, l3⟩ := r_layRow (n := n) (k := cnt s) (c := c) (by omega) hm0 h6 hN (by omega) h4
    generalize hw : dgs m (cnt s) c = w at l1 l2
    have hwl : w.length = cnt s := by rw [← hw]; exact dgs_len _ c
    have hwm : ∀ r ∈ w, r < m := by rw [← hw]; exact dgs_lt hm0 _ c
    have hR1 : LFr ρ σ1 := hR.tr (LFr.l90 l3)
    have u : f_X8_laySets_l36 n k2 (f + 1) (nI s) (nI (cnt s)) (nI c) σ = f_X8_laySets_b36 n k2 (f_X8_laySets_l36 n k2 f) (nI s) (nI (cnt s)) (nI c) σ := rfl
    rw [u]
    unfold f_X8_laySets_b36 f_X8_laySets_b137 f_X8_laySets_b143 f_X8_laySets_b144
    have hs64 : setN w < 64 := setN_lt fun r hr => Nat.lt_of_lt_of_le (hwm r hr) h6
    rw [r_rowsOf (by omega) hN h4, Option.bind_some, if_neg (fun q => by have := (nI_le_lit (by omega) (by omega)).mp q; omega), if_neg (nI_nle hc0 (by omega)), l1, Option.bind_some]
    dsimp only
    rw [nI_1, rfold, hw]
    have e92 : σ1 92 = σ 92 := l3 92 (by decide)
    by_cases q : setN w = s
    · obtain ⟨μ, σ2, t0, t1, t2, t3, t4⟩ := r_tryB (n := n) (w := w) (by omega) hm (by omega) hwm hR1 l2
      rw [hwl] at t1
      rw [if_pos (by rw [q]), r_begin (by omega), Option.bind_some, if_pos (show inB 5 33 = true by decide), if_pos (show inB 0 33 = true by decide)]
      simp only [Option.bind_some, inL (show inB 1 33 = true by decide), inL (show inB 2 33 = true by decide), inL (show inB 3 33 = true by decide), if_true, tl0, tl1, tl2, tl3, tl5, t0, t1, inL (inB_nI hs (show 64 < 2 ^ 31 by decide)), tn_nI (show s < 2 ^ 31 by omega)]
      have s92 : σ2 92 = σ 92 := (t2 92 (by decide)).trans e92
      have keep : ∀ (v : Int32), ∃ τ, f_X8_laySets_l36 n k2 f (nI s) (nI (cnt s)) (nI (c + 1)) (mset σ2 92 s v) = k2 (nI (s + 1)) τ ∧ τ 92 s = rfold (rsL m (G0 ρ) s) m (cnt s) r (c + 1) v ∧ (∀ j, j ≠ s → τ 92 j = σ 92 j) ∧ LFr ρ τ := fun v => by
        obtain ⟨τ, a1, a2, a3, a4⟩ := ih (c + 1) f (mset σ2 92 s v) (by omega) (by omega) (t3.tr LFr.m92)
        rw [ms_at] at a2
        exact ⟨τ, a1, a2, fun j hj => by rw [a3 j hj, ms_off (Or.inr hj), s92], a4⟩
      cases hA : wA (amAll m) w (gB (G0 ρ)) with
      | none =>
        have e : rsL m (G0 ρ) s (σ 92 s) w = σ 92 s := by unfold rsL; rw [if_pos q, hA]
        rw [e]
        have := keep (σ 92 s)
        simp only [Option.isSome_none, Bool.false_eq_true, if_false, if_true, s92]
        exact this
      | some g' =>
        simp only [Option.isSome_some, if_true, if_neg (show ¬ (1 : Int32) = 0 by decide), t4 g' hA, s92]
        by_cases y : g' 3 ≤ σ 92 s
        · have e : rsL m (G0 ρ) s (σ 92 s) w = σ 92 s := by unfold rsL; rw [if_pos q, hA]; exact if_pos y
          rw [e, if_pos y]
          exact keep (σ 92 s)
        · have e : rsL m (G0 ρ) s (σ 92 s) w = g' 3 := by unfold rsL; rw [if_pos q, hA]; exact if_neg y
          rw [e, if_neg y]
          exact keep (g' 3)
    · rw [if_neg (fun y => q ((nI_inj (by omega) (by omega)).mp y))]
      have e : rsL m (G0 ρ) s (σ 92 s) w = σ 92 s := by unfold rsL; rw [if_neg q]
      rw [e]
      obtain ⟨τ, a1, a2, a3, a4⟩ := ih (c + 1) f σ1 (by omega) (by omega) hR1
      rw [e92] at a2
      exact ⟨τ, a1, a2, fun j hj => by rw [a3 j hj, e92], a4⟩
theorem cnt_0 : ∀ s, s < 64 → 0 < s → 0 < cnt s := by decide +kernel
theorem r_set_is {m s : Nat} {g : Nat → Int32} (hO : Okt g) (hm : Mny g m) (hs : s < 64) (hm0 : 0 < m) : rfold (rsL m g s) m (cnt s) (m ^ cnt s) 0 (-1) = (setV m g s).getD (-1) := by
  rw [rfold_all hm0]
  have e : (wds m (cnt s)).foldl (rsL m g s) (-1) = (Wl (amAll m) m (cnt s) (gB g) []).foldl (fun v x => if (setN x.1 == s) = true then (if x.2 3 ≤ v then v else x.2 3) else v) (-1) := by
    rw [← fold_Wl (step := fun v w g' => if (setN w == s) = true then (if g' 3 ≤ v then v else g' 3) else v)]
    refine foldl_mem _ _ fun v w _ => ?_
    unfold rsL
    by_cases q : setN w = s
    · rw [if_pos q]
      cases wA (amAll m) w (gB g) with
      | none => rfl
      | some g' => exact (if_pos (show (setN w == s) = true by simp [q])).symm
    · rw [if_neg q]
      cases wA (amAll m) w (gB g) with
      | none => rfl
      | some g' => exact (if_neg (show ¬ (setN w == s) = true by simpa using q)).symm
  rw [e, ← List.foldl_filter (p := fun x : Row => setN x.1 == s) (f := fun v (x : Row) => if x.2 3 ≤ v then v else x.2 3)]
  have three : ∀ (L : List Row) (v : Int32), L.foldl (fun v x => if x.2 3 ≤ v then v else x.2 3) v = (L.map fun x => x.2 3).foldl (fun v x => if v < x then x else v) v := fun L v => by
    rw [List.foldl_map]
    congr 1
    funext v x
    by_cases q : x.2 3 ≤ v
    · rw [if_pos q, if_neg (by rw [i32_lt]; rw [i32_le] at q; omega)]
    · rw [if_neg q, if_pos (by rw [i32_lt]; rw [i32_le] at q; omega)]
  rw [three]
  exact mxs_fold (d := -1) (by decide) (setL m g s) none fun v hv => (setL_btw hO hm hs v hv).1
theorem pow_val : ∀ m, m < 7 → (1 : Int32) <<< (nI m &&& 31) = nI (2 ^ m) := by decide +kernel
theorem r_laySets {ρ : Mem} {n m : Nat} (hn : 100000 ≤ n) (hm : Mny (ρ 82) m) (hO : Okt (G0 ρ)) : ∃ τ, f_X8_laySets n ρ = some τ ∧ (∀ s, s < 2 ^ m → τ 92 s = (setV m (G0 ρ) s).getD (-1)) ∧ LFr ρ τ := by
  have h6 := hm.1
  have hm00 := G0_many hm
  have hp64 : 2 ^ m ≤ 64 := Nat.pow_le_pow_right (n := 2) (by decide) h6
  have l : ∀ (r s f : Nat) (σ : Mem), s + r = 2 ^ m → r < f → LFr ρ σ → (∀ j, j < s → σ 92 j = (setV m (G0 ρ) j).getD (-1)) → ∃ τ, f_X8_laySets_l2 n f (nI s) σ = some τ ∧ (∀ s, s < 2 ^ m → τ 92 s = (setV m (G0 ρ) s).getD (-1)) ∧ LFr ρ τ := by
    intro r
    induction r with
    | zero =>
      intro s f σ hs hf hR hj
      obtain ⟨f, rfl⟩ : ∃ f', f = f' + 1 := ⟨f - 1, by omega⟩
      have h4 : σ 82 4 = nI m := by rw [hR.1 82 (by decide) (by decide) (by decide) (by decide)]; exact hm.2
      refine ⟨σ, ?_, fun j h => hj j (by omega), hR⟩
      show f_X8_laySets_b2 n _ (nI s) σ = _
      unfold f_X8_laySets_b2
      rw [if_pos (by decide), tl4, h4, pow_val m (by omega), if_pos ((nI_le_lit (by omega) (by omega)).mpr (by omega))]
    | succ r ih =>
      intro s f σ hs hf hR hj
      obtain ⟨f, rfl⟩ : ∃ f', f = f' + 1 := ⟨f - 1, by omega⟩
      have h4 : σ 82 4 = nI m := by rw [hR.1 82 (by decide) (by decide) (by decide) (by decide)]; exact hm.2
      have hs64 : s < 64 := by omega
      have u : f_X8_laySets_l2 n (f + 1) (nI s) σ = f_X8_laySets_b2 n (f_X8_laySets_l2 n f) (nI s) σ := rfl
      rw [u]
      unfold f_X8_laySets_b2 f_X8_laySets_b33
      rw [if_pos (by decide), tl4, h4, pow_val m (by omega), if_neg (fun q => by have := (nI_le_lit (by omega) (by omega)).mp q; omega), r_bits (by omega) hs64, Option.bind_some]
      have I := inB_nI hs64 (show 64 < 2 ^ 31 by decide)
      rcases Nat.eq_zero_or_pos s with rfl | hpos
      · -- nobody
        rw [if_pos (show nI 0 = 0 from rfl), if_pos I, tn_nI (by decide), Option.bind_some]
        have e : f_X8_laySets_l36 n (f_X8_laySets_l2 n f) n (nI 0) (nI (cnt 0)) 0 (mset σ 92 0 0) = f_X8_laySets_l2 n f (nI 1) (mset σ 92 0 0) := by
          obtain ⟨n', hn'⟩ : ∃ n', n = n' + 1 := ⟨n - 1, by omega⟩
          have c0 : ∀ k, f_X8_laySets_l36 n (f_X8_laySets_l2 n f) (k + 1) (nI 0) (nI (cnt 0)) 0 (mset σ 92 0 0) = f_X8_laySets_b36 n (f_X8_laySets_l2 n f) (f_X8_laySets_l36 n (f_X8_laySets_l2 n f) k) (nI 0) (nI (cnt 0)) 0 (mset σ 92 0 0) := fun _ => rfl
          have c1 : f_X8_laySets_l36 n (f_X8_laySets_l2 n f) n (nI 0) (nI (cnt 0)) 0 (mset σ 92 0 0) = f_X8_laySets_l36 n (f_X8_laySets_l2 n f) (n' + 1) (nI 0) (nI (cnt 0)) 0 (mset σ 92 0 0) := congrArg (fun k => f_X8_laySets_l36 n (f_X8_laySets_l2 n f) k (nI 0) (nI (cnt 0)) 0 (mset σ 92 0 0)) hn'
          rw [c1, c0]
          unfold f_X8_laySets_b36 f_X8_laySets_b150
          rw [r_rowsOf (m := m) (k := cnt 0) (by omega) (by decide) (by rw [ms_cell (by decide)]; exact h4), Option.bind_some, if_neg (show ¬ nI (m ^ cnt 0) ≤ 0 by rw [show m ^ cnt 0 = 1 from rfl]; decide), if_pos (show nI (cnt 0) ≤ 0 by decide), nI_1]
        rw [e]
        exact ih 1 f (mset σ 92 0 0) (by omega) (by omega) (hR.tr LFr.m92) (fun j hj => by
          obtain rfl : j = 0 := by omega
          rw [ms_at, setV_0]; rfl)
      · have hm0 : 0 < m := by
          rcases Nat.eq_zero_or_pos m with z | z
          · subst z; have : 2 ^ 0 = 1 := rfl; omega
          · exact z
        rw [if_neg (nI_ne0 hpos (by omega)), if_pos I, tn_nI (by omega), Option.bind_some]
        have hmk : m ^ cnt s ≤ 46656 := Nat.le_trans (Nat.pow_le_pow_left h6 _) (show 6 ^ cnt s ≤ 6 ^ 6 from Nat.pow_le_pow_right (by decide) (cnt_le6 hs64))
        obtain ⟨τ, a1, a2, a3, a4⟩ := r_sets_in (n := n) (m := m) (s := s) (f_X8_laySets_l2 n f) hn hm hs64 (cnt_0 s hs64 hpos) hm0 (m ^ cnt s) 0 n (mset σ 92 s (-1)) (by omega) (by omega) (hR.tr LFr.m92)
        rw [ms_at, r_set_is hO hm00 hs64 hm0] at a2
        have a1' : f_X8_laySets_l36 n (f_X8_laySets_l2 n f) n (nI s) (nI (cnt s)) 0 (mset σ 92 s (-1)) = f_X8_laySets_l2 n f (nI (s + 1)) τ := a1
        rw [a1']
        exact ih (s + 1) f τ (by omega) (by omega) a4 (fun j hjs => by
          by_cases q : j = s
          · subst q; exact a2
          · rw [a3 j q, ms_off (Or.inr q)]; exact hj j (by omega))
  exact l (2 ^ m) 0 n ρ (by omega) (by omega) LFr.rf (fun j hj => absurd hj (Nat.not_lt_zero _))
