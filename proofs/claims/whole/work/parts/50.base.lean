/-! ===== the pure part: numbers ===== -/
theorem tn_nI {r : Nat} (h : r < 2 ^ 31) : (nI r).toNatClampNeg = r := nI_clamp h
theorem inB_nI {r n : Nat} (h : r < n) (hn : n < 2 ^ 31) : inB (nI r) n = true := decide_eq_true (nI_in h hn)
theorem inB_iff {x : Int32} {n : Nat} (hn : n < 2 ^ 31) : inB x n = true ↔ ∃ j, j < n ∧ x = nI j := by
  constructor
  · intro h
    exact vp_in_of (inB_in h) hn
  · rintro ⟨j, hj, rfl⟩
    exact inB_nI hj hn
/-- an index: below, above, or within -/
theorem ix_cases (x : Int32) {n : Nat} (hn : n < 2 ^ 31) : x < 0 ∨ (¬ x < 0 ∧ nI n ≤ x) ∨ ∃ j : Nat, j < n ∧ x = nI j := by
  by_cases h0 : x < 0
  · exact Or.inl h0
  · rcases pk_ix x hn with h | h | h
    · exact Or.inl h
    · exact Or.inr (Or.inl ⟨h0, h⟩)
    · exact Or.inr (Or.inr h)
theorem ix_of {x : Int32} {n : Nat} (hn : n < 2 ^ 31) (h0 : ¬ x < 0) (h1 : ¬ nI n ≤ x) : ∃ j : Nat, j < n ∧ x = nI j := by
  rcases ix_cases x hn with h | h | h
  · exact absurd h h0
  · exact absurd h.2 h1
  · exact h
theorem i32_lt (a b : Int32) : a < b ↔ a.toInt < b.toInt := Int32.lt_iff_toInt_lt
theorem i32_le (a b : Int32) : a ≤ b ↔ a.toInt ≤ b.toInt := Int32.le_iff_toInt_le
theorem i32_eq (a b : Int32) : a = b ↔ a.toInt = b.toInt := Int32.toInt_inj.symm
theorem i32_range (a : Int32) : -2147483648 ≤ a.toInt ∧ a.toInt < 2147483648 := ⟨Int32.le_toInt a, Int32.toInt_lt a⟩
theorem bmod_small {z : Int} (h1 : -2147483648 ≤ z) (h2 : z < 2147483648) : z.bmod (2 ^ 32) = z := by
  have h3 : (2 : Nat) ^ 32 = 4294967296 := by decide
  rw [h3]
  unfold Int.bmod
  simp only
  split <;> omega
theorem i32_add {a b : Int32} (h1 : -2147483648 ≤ a.toInt + b.toInt) (h2 : a.toInt + b.toInt < 2147483648) : (a + b).toInt = a.toInt + b.toInt := by
  rw [Int32.toInt_add]; exact bmod_small h1 h2
theorem i32_sub {a b : Int32} (h1 : -2147483648 ≤ a.toInt - b.toInt) (h2 : a.toInt - b.toInt < 2147483648) : (a - b).toInt = a.toInt - b.toInt := by
  rw [Int32.toInt_sub]; exact bmod_small h1 h2
theorem i32_mul {a b : Int32} (h1 : -2147483648 ≤ a.toInt * b.toInt) (h2 : a.toInt * b.toInt < 2147483648) : (a * b).toInt = a.toInt * b.toInt := by
  rw [Int32.toInt_mul]; exact bmod_small h1 h2
theorem nI_le_lit {n k : Nat} (hn : n < 2 ^ 31) (hk : k < 2 ^ 31) : nI n ≤ nI k ↔ n ≤ k := nI_leI hn hk
theorem nI_lt_lit {n k : Nat} (hn : n < 2 ^ 31) (hk : k < 2 ^ 31) : nI n < nI k ↔ n < k := nI_ltI hn hk
theorem nI_inj {a b : Nat} (ha : a < 2 ^ 31) (hb : b < 2 ^ 31) : nI a = nI b ↔ a = b := nI_eq ha hb
theorem nI_nn {n : Nat} (h : n < 2 ^ 31) : ¬ nI n < 0 := nI_pos h
/-- the last bit -/
theorem bit01 (y : Int32) : y &&& 1 = 0 ∨ y &&& 1 = 1 := by
  obtain ⟨j, hj, e⟩ := pk_andE y (m := 1) 1 (by decide)
  rw [e]
  match j, hj with
  | 0, _ => exact Or.inl rfl
  | 1, _ => exact Or.inr rfl
theorem i32_add_sub (a b : Int32) : a + b - a = b := by
  rw [Int32.sub_eq_add_neg, Int32.add_assoc, Int32.add_comm b, ← Int32.add_assoc, Int32.add_right_neg, Int32.zero_add]
/-! memory -/
theorem ms_at {σ : Mem} {a k : Nat} {v : Int32} : mset σ a k v a k = v := mset_at
theorem ms_off {σ : Mem} {a k b j : Nat} {v : Int32} (h : b ≠ a ∨ j ≠ k) : mset σ a k v b j = σ b j := by
  unfold mset
  rw [if_neg]
  rintro ⟨h1, h2⟩
  rcases h with h | h <;> contradiction
theorem ms_cell {σ : Mem} {a k b : Nat} {v : Int32} (h : b ≠ a) : mset σ a k v b = σ b := mset_ne b h
theorem ms_if (σ : Mem) (a k b j : Nat) (v : Int32) : mset σ a k v b j = if b = a ∧ j = k then v else σ b j := rfl
theorem mc_if (σ : Mem) (a sp b dp n c j : Nat) : mcpy σ a sp b dp n c j = if c = b ∧ dp ≤ j ∧ j < dp + n then σ a (sp + (j - dp)) else σ c j := rfl
/-- ids that nothing touched -/
def Same (P : Nat → Bool) (σ τ : Mem) : Prop := ∀ a, P a = true → τ a = σ a
theorem Same.rf {P : Nat → Bool} {σ : Mem} : Same P σ σ := fun _ _ => rfl
theorem Same.tr {P : Nat → Bool} {σ τ υ : Mem} (h : Same P σ τ) (k : Same P τ υ) : Same P σ υ := fun a ha => (k a ha).trans (h a ha)
theorem Same.ms {P : Nat → Bool} {σ : Mem} {b k : Nat} {v : Int32} (hb : P b = false) : Same P σ (mset σ b k v) := fun a ha => ms_cell (fun e => by rw [e, hb] at ha; cases ha)
theorem Same.mc {P : Nat → Bool} {σ : Mem} {a0 sp b dp n : Nat} (hb : P b = false) : Same P σ (mcpy σ a0 sp b dp n) := fun a ha => mcpy_ne a (fun e => by rw [e, hb] at ha; cases ha)
theorem Same.mono {P Q : Nat → Bool} {σ τ : Mem} (h : Same P σ τ) (hPQ : ∀ a, Q a = true → P a = true) : Same Q σ τ := fun a ha => h a (hPQ a ha)
def b2i (b : Bool) : Int32 := if b = true then 1 else 0
theorem b2i_0 {b : Bool} : b2i b = 0 ↔ b = false := by cases b <;> decide
theorem b2i_t : b2i true = 1 := rfl
theorem b2i_f : b2i false = 0 := rfl
