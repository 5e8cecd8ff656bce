/-! ===== who is to have which copy: the class ===== -/
def adjM (M d : Nat) : Nat := if d < M then d else 3
def setP (c : Nat) : Nat → List Nat → Nat
  | _, [] => 0
  | i, d :: w => (if d = c then 2 ^ i else 0) ||| setP c (i + 1) w
theorem setP_snoc {c d : Nat} : ∀ (p : List Nat) (i : Nat), setP c i (p ++ [d]) = setP c i p ||| (if d = c then 2 ^ (i + p.length) else 0) := by
  intro p
  induction p with
  | nil => intro i; simp [setP]
  | cons a p ih =>
    intro i
    rw [List.cons_append, setP, ih, setP, Nat.or_assoc, List.length_cons, show i + 1 + p.length = i + (p.length + 1) by omega]
theorem setP_lt {c : Nat} : ∀ (p : List Nat) (i : Nat), setP c i p < 2 ^ (i + p.length) := by
  intro p
  induction p with
  | nil => intro i; exact Nat.two_pow_pos _
  | cons a p ih =>
    intro i
    rw [setP, List.length_cons]
    refine Nat.or_lt_two_pow ?_ ?_
    · by_cases q : a = c
      · rw [if_pos q]; exact Nat.pow_lt_pow_right (by decide) (by omega)
      · rw [if_neg q]; exact Nat.two_pow_pos _
    · have := ih (i + 1)
      rw [show i + 1 + p.length = i + (p.length + 1) by omega] at this
      exact this
theorem setP_64 {c : Nat} {p : List Nat} (h : p.length ≤ 6) : setP c 0 p < 64 := by
  have := setP_lt (c := c) p 0
  have h2 : 2 ^ (0 + p.length) ≤ 2 ^ 6 := Nat.pow_le_pow_right (by decide) (by omega)
  exact Nat.lt_of_lt_of_le this h2
theorem setP_bit {c : Nat} {p : List Nat} : (setP c 0 p).testBit p.length = false := by
  apply Nat.testBit_lt_two_pow
  have := setP_lt (c := c) p 0
  rw [Nat.zero_add] at this
  exact this
theorem setP_not {c : Nat} : ∀ (p : List Nat) (i : Nat), (∀ d ∈ p, d ≠ c) → setP c i p = 0 := by
  intro p
  induction p with
  | nil => intro i _; rfl
  | cons a p ih =>
    intro i h
    rw [setP, if_neg (h a List.mem_cons_self), ih _ fun d hd => h d (List.mem_cons_of_mem _ hd)]; rfl
theorem clr_bit : ∀ h, h < 64 → ∀ r, r < 6 → h.testBit r = false → nI (h ||| 2 ^ r) &&& (nI (2 ^ r) ^^^ (-1)) = nI h := by decide +kernel
def shV (V : Nat → Option Int32) (w : List Nat) : Nat → Nat → Int32 → Option Int32
  | 0, _, acc => some acc
  | k + 1, c, acc => match V (setP c 0 w) with
    | none => none
    | some v => shV V w k (c + 1) (acc + v)
def stH (V : Nat → Option Int32) (M : Nat) (b : Option (Int32 × List Nat)) (w : List Nat) : Option (Int32 × List Nat) := match shV V w M 0 0 with
  | none => b
  | some v => match b with
    | none => some (v, w)
    | some b => if v ≤ b.1 then some b else some (v, w)
def KH (M : Nat) (σ : Mem) : Option (Int32 × List Nat) → Prop
  | none => σ 70 7 = 0
  | some b => σ 70 7 = 1 ∧ σ 70 6 = b.1 ∧ ∀ j (hj : j < b.2.length), σ 73 j = nI (adjM M b.2[j])
def SI (M R : Nat) (V : Nat → Option Int32) (σ : Mem) : Prop := σ 70 4 = nI M ∧ σ 70 5 = nI R ∧ σ 70 3 = nI 69 ∧ ∀ s, s < 64 → σ 69 s = (V s).getD (-1000000)
def SP (M : Nat) (p : List Nat) (σ : Mem) : Prop := (∀ c, c < M → σ 72 c = nI (setP c 0 p)) ∧ σ 72 3 = nI (setP M 0 p) ∧ ∀ j (hj : j < p.length), σ 71 j = nI (adjM M p[j])
def Vok (V : Nat → Option Int32) : Prop := ∀ s, s < 64 → ∀ v, V s = some v → 0 ≤ v.toInt ∧ v.toInt ≤ 216
section SHARE
variable {n M R : Nat} {V : Nat → Option Int32}
theorem c_ws_l {σ : Mem} {w : List Nat} (hM : M ≤ 3) (hV : Vok V) (hS : SI M R V σ) (hP : SP M w σ) (hw : w.length ≤ 6) : ∀ (k c f : Nat) (acc : Int32), c + k = M → k < f → f_X4_weighShares_l4 n f acc (nI c) σ = match shV V w k c acc with
    | none => some σ
    | some v => f_X4_weighShares_b64 n v σ := by
  obtain ⟨s1, s2, s3, s4⟩ := hS
  have a69 : alen 69 = 64 := by decide +kernel
  have i69 : isIA 69 = true := by decide +kernel
  intro k
  induction k with
  | zero =>
    intro c f acc hc hf
    obtain ⟨f, rfl⟩ : ∃ f', f = f' + 1 := ⟨f - 1, by omega⟩
    show f_X4_weighShares_b4 n _ acc (nI c) σ = _
    unfold f_X4_weighShares_b4
    rw [s1, if_pos ((nI_le_lit (by omega) (by omega)).mpr (by omega))]
    rfl
  | succ k ih =>
    intro c f acc hc hf
    obtain ⟨f, rfl⟩ : ∃ f', f = f' + 1 := ⟨f - 1, by omega⟩
    have hs := setP_64 (c := c) hw
    have u : f_X4_weighShares_l4 n (f + 1) acc (nI c) σ = f_X4_weighShares_b4 n (f_X4_weighShares_l4 n f) acc (nI c) σ := rfl
    rw [u]
    unfold f_X4_weighShares_b4
    have e69 : (σ 70 3).toNatClampNeg = 69 := by rw [s3]; exact tn_nI (by decide)
    rw [s1, if_neg (fun q => by have := (nI_le_lit (by omega) (by omega)).mp q; omega), if_neg (fun q => by have := (nI_le_lit (n := 3) (by decide) (by omega)).mp q; omega), if_pos (inB_nI (by omega) (by decide)), tn_nI (by omega), hP.1 c (by omega), Option.bind_some, if_neg (nI_nn (by omega)), e69, if_pos i69, a69, if_neg (show ¬ Int32.ofNat 64 ≤ nI (setP c 0 w) from fun q => by have := (nI_le_lit (n := 64) (by decide) (by omega)).mp q; omega)]
    simp only [eq_true i69, if_true, inL (inB_nI hs (show 64 < 2 ^ 31 by decide)), tn_nI (show setP c 0 w < 2 ^ 31 by omega), s4 _ hs, Option.bind_some, nI_1]
    rw [shV]
    cases hv : V (setP c 0 w) with
    | none => rw [if_pos (by rfl)]
    | some v =>
      have hb := hV _ hs v hv
      rw [if_neg (show ¬ (some v).getD (-1000000) = -1000000 from fun z => by
        have z' : v = -1000000 := z
        rw [z'] at hb
        exact absurd hb.1 (by decide))]
      exact ih (c + 1) f (acc + v) (by omega) (by omega)
theorem c_ws {σ : Mem} {w : List Nat} {b : Option (Int32 × List Nat)} (hn : 2000 ≤ n) (hM : M ≤ 3) (hR : R ≤ 6) (hV : Vok V) (hS : SI M R V σ) (hP : SP M w σ) (hw : w.length = R) (hK : KH M σ b) : ∃ τ, f_X4_weighShares n σ = some τ ∧ KH M τ (stH V M b w) ∧ SI M R V τ ∧ SP M w τ ∧ ∀ a, a ≠ 70 → a ≠ 73 → τ a = σ a := by
  have e := c_ws_l (n := n) hM hV hS hP (by omega) M 0 n 0 (by omega) (by omega)
  have e1 : f_X4_weighShares n σ = _ := e
  rw [e1]
  unfold stH
  cases hv : shV V w M 0 0 with
  | none => exact ⟨σ, rfl, hK, hS, hP, fun _ _ _ => rfl⟩
  | some v =>
    obtain ⟨s1, s2, s3, s4⟩ := id hS
    have ok : okCopy 6 6 0 0 (nI R) = true := by
      have : ∀ k, k < 7 → okCopy 6 6 0 0 (nI k) = true := by decide +kernel
      exact this _ (by omega)
    have kp : ∃ τ, f_X4_weighShares_b79 n v σ = some τ ∧ KH M τ (some (v, w)) ∧ SI M R V τ ∧ SP M w τ ∧ ∀ a, a ≠ 70 → a ≠ 73 → τ a = σ a := by
      refine ⟨mcpy (mset (mset σ 70 7 1) 70 6 v) 71 0 73 0 R, ?_, ⟨?_, ?_, fun j hj => ?_⟩, ⟨?_, ?_, ?_, fun s hs => ?_⟩, ⟨fun c hc => ?_, ?_, fun j hj => ?_⟩, fun a h1 h2 => ?_⟩
      · unfold f_X4_weighShares_b79
        have e5 : mset (mset σ 70 7 1) 70 6 v 70 5 = nI R := by rw [ms_off (Or.inr (by decide)), ms_off (Or.inr (by decide))]; exact s2
        rw [if_pos (by decide)]
        simp only [Option.bind_some, e5, eq_true ok, if_true, tl0, tn_nI (show R < 2 ^ 31 by omega)]
      · rw [mcpy_ne 70 (by decide), ms_off (Or.inr (by decide))]; exact ms_at
      · rw [mcpy_ne 70 (by decide)]; exact ms_at
      · have hj' : j < w.length := hj
        rw [mc_if, if_pos ⟨rfl, by omega, by omega⟩, ms_cell (by decide), ms_cell (by decide), Nat.zero_add, Nat.sub_zero]
        exact hP.2.2 j hj
      · rw [mcpy_ne 70 (by decide), ms_off (Or.inr (by decide)), ms_off (Or.inr (by decide))]; exact s1
      · rw [mcpy_ne 70 (by decide), ms_off (Or.inr (by decide)), ms_off (Or.inr (by decide))]; exact s2
      · rw [mcpy_ne 70 (by decide), ms_off (Or.inr (by decide)), ms_off (Or.inr (by decide))]; exact s3
      · rw [mcpy_ne 69 (by decide), ms_cell (by decide), ms_cell (by decide)]; exact s4 s hs
      · rw [mcpy_ne 72 (by decide), ms_cell (by decide), ms_cell (by decide)]; exact hP.1 c hc
      · rw [mcpy_ne 72 (by decide), ms_cell (by decide), ms_cell (by decide)]; exact hP.2.1
      · rw [mcpy_ne 71 (by decide), ms_cell (by decide), ms_cell (by decide)]; exact hP.2.2 j hj
      · rw [mcpy_ne a h2, ms_cell h1, ms_cell h1]
    dsimp only
    unfold f_X4_weighShares_b64
    cases b with
    | none =>
      have h7 : σ 70 7 = 0 := hK
      rw [if_pos h7]; exact kp
    | some b =>
      obtain ⟨k1, k2, k3⟩ := id hK
      rw [if_neg (by rw [k1]; decide), k2]
      by_cases y : v ≤ b.1
      · rw [if_pos y]
        dsimp only
        rw [if_pos y]
        exact ⟨σ, rfl, hK, hS, hP, fun _ _ _ => rfl⟩
      · rw [if_neg y]
        dsimp only
        rw [if_neg y]
        exact kp
theorem c_share (hn : 2000 ≤ n) (hM1 : 1 ≤ M) (hM : M ≤ 3) (hR : R ≤ 6) (hV : Vok V) : ∀ (f F : Nat) (p : List Nat) (b : Option (Int32 × List Nat)) (σ : Mem), p.length + f = R → f < F → SI M R V σ → SP M p σ → KH M σ b → ∃ τ, f_X4_share_r n F (nI p.length) σ = some τ ∧ KH M τ (((wds (M + 1) f).map fun w => p ++ w).foldl (stH V M) b) ∧ SI M R V τ ∧ SP M p τ ∧ ∀ a, a ≠ 70 → a ≠ 71 → a ≠ 72 → a ≠ 73 → τ a = σ a := by
  intro f
  induction f with
  | zero =>
    intro F p b σ hp hF hS hP hK
    obtain ⟨F, rfl⟩ : ∃ F', F = F' + 1 := ⟨F - 1, by omega⟩
    obtain ⟨τ, t1, t2, t3, t4, t5⟩ := c_ws hn hM hR hV hS hP (by omega) hK
    refine ⟨τ, ?_, ?_, t3, t4, fun a h1 _ _ h4 => t5 a h1 h4⟩
    · show f_X4_share_s n _ _ σ = _
      unfold f_X4_share_s f_X4_share_b14
      rw [hS.2.1, if_pos ((nI_le_lit (by omega) (by omega)).mpr (by omega)), t1]; rfl
    · simp only [wds, List.map_cons, List.map_nil, List.append_nil, List.foldl_cons, List.foldl_nil]
      exact t2
  | succ f ih =>
    intro F p b σ hp hF hS hP hK
    obtain ⟨F, rfl⟩ : ∃ F', F = F' + 1 := ⟨F - 1, by omega⟩
    have inner : ∀ (k c fu : Nat) (b : Option (Int32 × List Nat)) (σ : Mem), c + k = M + 1 → k < fu → SI M R V σ → SP M p σ → KH M σ b → ∃ τ, f_X4_share_l21 n (f_X4_share_r n F) fu (nI p.length) (nI c) σ = some τ ∧ KH M τ (((List.range' c k).flatMap fun d => (wds (M + 1) f).map fun w => p ++ (d :: w)).foldl (stH V M) b) ∧ SI M R V τ ∧ SP M p τ ∧ ∀ a, a ≠ 70 → a ≠ 71 → a ≠ 72 → a ≠ 73 → τ a = σ a := by
      intro k
      induction k with
      | zero =>
        intro c fu b σ hc hfu hS hP hK
        obtain ⟨fu, rfl⟩ : ∃ F', fu = F' + 1 := ⟨fu - 1, by omega⟩
        refine ⟨σ, ?_, hK, hS, hP, fun _ _ _ _ _ => rfl⟩
        show f_X4_share_b21 n _ _ _ (nI c) σ = _
        unfold f_X4_share_b21
        rw [hS.1, if_pos ((nI_lt_lit (by omega) (by omega)).mpr (by omega))]
      | succ k ihk =>
        intro c fu b σ hc hfu hS hP hK
        obtain ⟨fu, rfl⟩ : ∃ F', fu = F' + 1 := ⟨fu - 1, by omega⟩
        have hp6 : p.length < 6 := by omega
        have hb47 : f_X4_share_l21 n (f_X4_share_r n F) (fu + 1) (nI p.length) (nI c) σ = f_X4_share_b47 n (f_X4_share_r n F) (f_X4_share_l21 n (f_X4_share_r n F) fu) (nI p.length) (nI c) (nI (adjM M c)) σ := by
          show f_X4_share_b21 n _ _ _ (nI c) σ = _
          unfold f_X4_share_b21
          rw [hS.1, if_neg (fun q => by have := (nI_lt_lit (by omega) (by omega)).mp q; omega), if_neg (fun q => by have := (nI_lt_lit (n := 3) (by decide) (by omega)).mp q; omega)]
          unfold adjM
          by_cases q : c < M
          · rw [if_neg (fun z => by have := (nI_le_lit (by omega) (by omega)).mp z; omega), if_pos q]
          · rw [if_pos ((nI_le_lit (by omega) (by omega)).mpr (by omega)), if_neg q]; rfl
        have hj4 : adjM M c < 4 := by unfold adjM; split <;> omega
        have hat : ∀ {σ : Mem} {p : List Nat}, SP M p σ → σ 72 (adjM M c) = nI (setP c 0 p) := fun {σ p} h => by
          unfold adjM
          by_cases q : c < M
          · rw [if_pos q]; exact h.1 c q
          · rw [if_neg q]
            obtain rfl : c = M := by omega
            exact h.2.1
        have hh := setP_64 (c := c) (show p.length ≤ 6 by omega)
        have hother : ∀ c', c' ≠ c → setP c' 0 (p ++ [c]) = setP c' 0 p := fun c' hc' => by
          rw [setP_snoc, if_neg (Ne.symm hc'), Nat.or_zero]
        have hself : setP c 0 (p ++ [c]) = setP c 0 p ||| 2 ^ p.length := by
          rw [setP_snoc, if_pos rfl, Nat.zero_add]
        have j3 : ∀ c', c' < M → c' ≠ c → c' ≠ adjM M c := fun c' h1 h2 => by unfold adjM; split <;> omega
        generalize hσ2 : mset (mset σ 71 p.length (nI (adjM M c))) 72 (adjM M c) (nI (setP c 0 p ||| 2 ^ p.length)) = σ2
        have o2 : ∀ a, a ≠ 71 → a ≠ 72 → σ2 a = σ a := fun a h1 h2 => by rw [← hσ2, ms_cell h2, ms_cell h1]
        have P2 : SP M (p ++ [c]) σ2 := by
          refine ⟨fun c' hc' => ?_, ?_, fun j hj => ?_⟩
          · by_cases q : c' = c
            · subst q
              have : adjM M c' = c' := if_pos hc'
              rw [hself, ← hσ2, this]; exact ms_at
            · rw [hother c' q, ← hσ2, ms_off (Or.inr (j3 c' hc' q)), ms_cell (by decide)]; exact hP.1 c' hc'
          · by_cases q : c = M
            · subst q
              have : adjM c c = 3 := if_neg (by omega)
              rw [hself, ← hσ2, this]; exact ms_at
            · have : adjM M c = c := if_pos (by omega)
              rw [hother M (Ne.symm q), ← hσ2, ms_off (Or.inr (by rw [this]; omega)), ms_cell (by decide)]; exact hP.2.1
          · rw [List.length_append, List.length_singleton] at hj
            rw [← hσ2, ms_cell (by decide)]
            by_cases q : j = p.length
            · subst q
              rw [ms_at]; simp
            · rw [ms_off (Or.inr q), hP.2.2 j (by omega), List.getElem_append_left (by omega)]
        have S2 : SI M R V σ2 := ⟨by rw [o2 70 (by decide) (by decide)]; exact hS.1, by rw [o2 70 (by decide) (by decide)]; exact hS.2.1, by rw [o2 70 (by decide) (by decide)]; exact hS.2.2.1, fun s hs => by rw [o2 69 (by decide) (by decide)]; exact hS.2.2.2 s hs⟩
        have kc : ∀ {σ τ : Mem} {b : Option (Int32 × List Nat)}, τ 70 = σ 70 → τ 73 = σ 73 → KH M σ b → KH M τ b := fun {σ τ b} q1 q2 h => by
          cases b <;> simp only [KH, q1, q2] at h ⊢ <;> exact h
        have K2 : KH M σ2 b := kc (o2 70 (by decide) (by decide)) (o2 73 (by decide) (by decide)) hK
        obtain ⟨τ, t1, t2, t3, t4, t5⟩ := ih F (p ++ [c]) b σ2 (by rw [List.length_append, List.length_singleton]; omega) (by omega) S2 P2 K2
        rw [List.length_append, List.length_singleton] at t1
        generalize hτ2 : mset τ 72 (adjM M c) (nI (setP c 0 p)) = τ2
        have P3 : SP M p τ2 := by
          refine ⟨fun c' hc' => ?_, ?_, fun j hj => ?_⟩
          · by_cases q : c' = c
            · subst q
              have : adjM M c' = c' := if_pos hc'
              rw [← hτ2, this]; exact ms_at
            · rw [← hτ2, ms_off (Or.inr (j3 c' hc' q)), t4.1 c' hc', hother c' q]
          · by_cases q : c = M
            · subst q
              have : adjM c c = 3 := if_neg (by omega)
              rw [← hτ2, this]; exact ms_at
            · have : adjM M c = c := if_pos (by omega)
              rw [← hτ2, ms_off (Or.inr (by rw [this]; omega)), t4.2.1, hother M (Ne.symm q)]
          · have := t4.2.2 j (by rw [List.length_append]; omega)
            rw [List.getElem_append_left hj] at this
            rw [← hτ2, ms_cell (by decide)]; exact this
        have S3 : SI M R V τ2 := ⟨by rw [← hτ2, ms_cell (by decide)]; exact t3.1, by rw [← hτ2, ms_cell (by decide)]; exact t3.2.1, by rw [← hτ2, ms_cell (by decide)]; exact t3.2.2.1, fun s hs => by rw [← hτ2, ms_cell (by decide)]; exact t3.2.2.2 s hs⟩
        have K3 : KH M τ2 _ := kc (by rw [← hτ2]; exact ms_cell (by decide)) (by rw [← hτ2]; exact ms_cell (by decide)) t2
        obtain ⟨ω, v1, v2, v3, v4, v5⟩ := ihk (c + 1) fu _ τ2 (by omega) (by omega) S3 P3 K3
        refine ⟨ω, ?_, ?_, v3, v4, fun a h1 h2 h3 h4 => by rw [v5 a h1 h2 h3 h4, ← hτ2, ms_cell h3, t5 a h1 h2 h3 h4, o2 a h2 h3]⟩
        · rw [hb47]
          unfold f_X4_share_b47
          have e72 : mset σ 71 p.length (nI (adjM M c)) 72 (adjM M c) = nI (setP c 0 p) := by rw [ms_cell (by decide)]; exact hat hP
          have e72' : τ 72 (adjM M c) = nI (setP c 0 p ||| 2 ^ p.length) := by rw [hat t4, hself]
          rw [if_pos (inB_nI hp6 (by decide)), tn_nI (by omega), Option.bind_some]
          simp only [inL (inB_nI hj4 (show 4 < 2 ^ 31 by decide)), if_true, tn_nI (show adjM M c < 2 ^ 31 by omega), e72, nI_bit p.length hp6, nI_or _ hh _ (pow_lt64 hp6), Option.bind_some, hσ2, nI_1, t1, e72', clr_bit _ hh _ hp6 setP_bit, hτ2]
          exact v1
        · rw [List.range'_succ, List.flatMap_cons, List.foldl_append]
          have e : (wds (M + 1) f).map (fun w => p ++ [c] ++ w) = (wds (M + 1) f).map fun w => p ++ (c :: w) := by
            apply List.map_congr_left
            intro w _
            rw [List.append_assoc]; rfl
          rw [e] at v2
          exact v2
    obtain ⟨τ, v1, v2, v3, v4, v5⟩ := inner (M + 1) 0 n b σ (by omega) (by omega) hS hP hK
    refine ⟨τ, ?_, ?_, v3, v4, v5⟩
    · show f_X4_share_s n (f_X4_share_r n F) _ σ = _
      unfold f_X4_share_s
      rw [hS.2.1, if_neg (fun q => by have := (nI_le_lit (by omega) (by omega)).mp q; omega), if_pos (show nI p.length < 6 from (nI_lt_lit (k := 6) (by omega) (by decide)).mpr (by omega))]
      exact v1
    · rw [wds, List.map_flatMap, List.range_eq_range']
      have e : (fun d => ((wds (M + 1) f).map fun w => d :: w).map fun w => p ++ w) = fun d => (wds (M + 1) f).map fun w => p ++ (d :: w) := by
        funext d
        rw [List.map_map]; rfl
      rw [e]
      exact v2
end SHARE
