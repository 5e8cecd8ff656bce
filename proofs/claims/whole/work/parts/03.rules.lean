/-! ===== the rules: an instruction each ===== -/
def inB (i : Int32) (n : Nat) : Bool := decide (¬ (i < 0 ∨ n ≤ i.toNatClampNeg))
theorem inB_in {i : Int32} {n : Nat} (h : inB i n = true) : vp_in i n := by unfold vp_in; exact of_decide_eq_true h
section GR
variable {α : Type} {l : Launch} {sc : Nat × (Nat → Int32)} {D pc nx : Nat} {d : MD} {ls ls' : List (Nat × Value)} {st : List Value} {σ : Mem} {o : Option α} {mk : α → Option Value × Mem}
theorem loc_at {E : HE} {lsA : Array Slot} {n k i : Nat} {v : Value} (hl : lv_has lsA n (ls.map fun q => (q.1, cv E q.2))) (hk : ls[k]? = some (i, v)) : lsA[i]? = some (.val (cv E v)) := lv_at hl k (by rw [List.getElem?_map, hk]; rfl)
theorem cv_cat (E : HE) (v : Value) : (cv E v).category = v.category := by cases v <;> rfl
theorem st_map1 (E : HE) (i : Nat) : ∀ L : List (Nat × Value), (L.map fun q => (q.1, cv E q.2)).filter (fun q => !(q.1 == i) && !(q.1 + 1 == i && q.2.category == 2)) = (L.filter (fun q => !(q.1 == i) && !(q.1 + 1 == i && q.2.category == 2))).map fun q => (q.1, cv E q.2)
  | [] => rfl
  | q :: L => by
    rw [List.map_cons, List.filter_cons, List.filter_cons, st_map1 E i L, cv_cat]
    split <;> rfl
theorem st_map2 (E : HE) (i : Nat) : ∀ L : List (Nat × Value), (L.map fun q => (q.1, cv E q.2)).filter (fun q => !(q.1 == i) && (!(q.1 == i + 1) && !(q.1 + 1 == i && q.2.category == 2))) = (L.filter (fun q => !(q.1 == i) && (!(q.1 == i + 1) && !(q.1 + 1 == i && q.2.category == 2)))).map fun q => (q.1, cv E q.2)
  | [] => rfl
  | q :: L => by
    rw [List.map_cons, List.filter_cons, List.filter_cons, st_map2 E i L, cv_cat]
    split <;> rfl
theorem g_sub (is : List Nat) (hs : is.filterMap (fun i => ls[i]?) = ls') (k : G l sc D d pc ls' st σ o mk) : G l sc D d pc ls st σ o mk := by
  intro v hv E A p e_ R s m args below meth c cells slots Q F K H locs lsA hP hD hS hl
  refine k v hv E A p e_ R s m args below meth c cells slots Q F K H locs lsA hP hD hS (lv_sub hl is ?_)
  subst hs
  unfold lv_pick
  rw [List.map_filterMap]
  congr 1
  funext i
  rw [List.getElem?_map]
theorem g_if {c : Prop} [Decidable c] {o2 : Option α} (k1 : c → G l sc D d pc ls st σ o mk) (k2 : ¬ c → G l sc D d pc ls st σ o2 mk) : G l sc D d pc ls st σ (if c then o else o2) mk := by
  by_cases h : c
  · rw [if_pos h]; exact k1 h
  · rw [if_neg h]; exact k2 h
theorem g_guard {b : Bool} (k1 : b = true → G l sc D d pc ls st σ o mk) : G l sc D d pc ls st σ (if b = true then o else none) mk := g_if k1 (fun _ _ h => by cases h)
theorem g_none : G l sc D d pc ls st σ (none : Option α) mk := fun _ h => by cases h
theorem g_eqm {τ : Mem} (h : σ = τ) (k : G l sc D d pc ls st τ o mk) : G l sc D d pc ls st σ o mk := h ▸ k
theorem g_iadd {x y : Int32} (hi : Dc d pc .iadd 1 nx)  (k : G l sc D d nx ls (.int (x + y) :: st) σ o mk) : G l sc D d pc ls (.int y :: .int x :: st) σ o mk := by
  obtain ⟨hi, rfl⟩ := hi
  intro v hv E A p e_ R s m args below meth c cells slots Q F K H locs lsA hP hD hS hl
  exact lv_iadd F.1 F.2.1 hi  (k v hv E A p e_ R s m args below meth c cells slots Q F K H locs lsA hP hD hS hl)
theorem g_isub {x y : Int32} (hi : Dc d pc .isub 1 nx)  (k : G l sc D d nx ls (.int (x - y) :: st) σ o mk) : G l sc D d pc ls (.int y :: .int x :: st) σ o mk := by
  obtain ⟨hi, rfl⟩ := hi
  intro v hv E A p e_ R s m args below meth c cells slots Q F K H locs lsA hP hD hS hl
  exact lv_isub F.1 F.2.1 hi  (k v hv E A p e_ R s m args below meth c cells slots Q F K H locs lsA hP hD hS hl)
theorem g_imul {x y : Int32} (hi : Dc d pc .imul 1 nx)  (k : G l sc D d nx ls (.int (x * y) :: st) σ o mk) : G l sc D d pc ls (.int y :: .int x :: st) σ o mk := by
  obtain ⟨hi, rfl⟩ := hi
  intro v hv E A p e_ R s m args below meth c cells slots Q F K H locs lsA hP hD hS hl
  exact lv_imul F.1 F.2.1 hi  (k v hv E A p e_ R s m args below meth c cells slots Q F K H locs lsA hP hD hS hl)
theorem g_iand {x y : Int32} (hi : Dc d pc .iand 1 nx)  (k : G l sc D d nx ls (.int (x &&& y) :: st) σ o mk) : G l sc D d pc ls (.int y :: .int x :: st) σ o mk := by
  obtain ⟨hi, rfl⟩ := hi
  intro v hv E A p e_ R s m args below meth c cells slots Q F K H locs lsA hP hD hS hl
  exact lv_iand F.1 F.2.1 hi  (k v hv E A p e_ R s m args below meth c cells slots Q F K H locs lsA hP hD hS hl)
theorem g_ior {x y : Int32} (hi : Dc d pc .ior 1 nx)  (k : G l sc D d nx ls (.int (x ||| y) :: st) σ o mk) : G l sc D d pc ls (.int y :: .int x :: st) σ o mk := by
  obtain ⟨hi, rfl⟩ := hi
  intro v hv E A p e_ R s m args below meth c cells slots Q F K H locs lsA hP hD hS hl
  exact lv_ior F.1 F.2.1 hi  (k v hv E A p e_ R s m args below meth c cells slots Q F K H locs lsA hP hD hS hl)
theorem g_ixor {x y : Int32} (hi : Dc d pc .ixor 1 nx)  (k : G l sc D d nx ls (.int (x ^^^ y) :: st) σ o mk) : G l sc D d pc ls (.int y :: .int x :: st) σ o mk := by
  obtain ⟨hi, rfl⟩ := hi
  intro v hv E A p e_ R s m args below meth c cells slots Q F K H locs lsA hP hD hS hl
  exact lv_ixor F.1 F.2.1 hi  (k v hv E A p e_ R s m args below meth c cells slots Q F K H locs lsA hP hD hS hl)
theorem g_ishl {x y : Int32} (hi : Dc d pc .ishl 1 nx)  (k : G l sc D d nx ls (.int (x <<< (y &&& 31)) :: st) σ o mk) : G l sc D d pc ls (.int y :: .int x :: st) σ o mk := by
  obtain ⟨hi, rfl⟩ := hi
  intro v hv E A p e_ R s m args below meth c cells slots Q F K H locs lsA hP hD hS hl
  exact lv_ishl F.1 F.2.1 hi  (k v hv E A p e_ R s m args below meth c cells slots Q F K H locs lsA hP hD hS hl)
theorem g_ishr {x y : Int32} (hi : Dc d pc .ishr 1 nx)  (k : G l sc D d nx ls (.int (x >>> (y &&& 31)) :: st) σ o mk) : G l sc D d pc ls (.int y :: .int x :: st) σ o mk := by
  obtain ⟨hi, rfl⟩ := hi
  intro v hv E A p e_ R s m args below meth c cells slots Q F K H locs lsA hP hD hS hl
  exact lv_ishr F.1 F.2.1 hi  (k v hv E A p e_ R s m args below meth c cells slots Q F K H locs lsA hP hD hS hl)
theorem g_idiv {x y : Int32} (hi : Dc d pc .idiv 1 nx) (hne : ¬ y = 0) (k : G l sc D d nx ls (.int (x / y) :: st) σ o mk) : G l sc D d pc ls (.int y :: .int x :: st) σ o mk := by
  obtain ⟨hi, rfl⟩ := hi
  intro v hv E A p e_ R s m args below meth c cells slots Q F K H locs lsA hP hD hS hl
  exact lv_idiv F.1 F.2.1 hi hne (k v hv E A p e_ R s m args below meth c cells slots Q F K H locs lsA hP hD hS hl)
theorem g_irem {x y : Int32} (hi : Dc d pc .irem 1 nx) (hne : ¬ y = 0) (k : G l sc D d nx ls (.int (x - x / y * y) :: st) σ o mk) : G l sc D d pc ls (.int y :: .int x :: st) σ o mk := by
  obtain ⟨hi, rfl⟩ := hi
  intro v hv E A p e_ R s m args below meth c cells slots Q F K H locs lsA hP hD hS hl
  exact lv_irem F.1 F.2.1 hi hne (k v hv E A p e_ R s m args below meth c cells slots Q F K H locs lsA hP hD hS hl)
theorem g_ineg {x : Int32} (hi : Dc d pc .ineg 1 nx)  (k : G l sc D d nx ls (.int (-x) :: st) σ o mk) : G l sc D d pc ls (.int x :: st) σ o mk := by
  obtain ⟨hi, rfl⟩ := hi
  intro v hv E A p e_ R s m args below meth c cells slots Q F K H locs lsA hP hD hS hl
  exact lv_ineg F.1 F.2.1 hi  (k v hv E A p e_ R s m args below meth c cells slots Q F K H locs lsA hP hD hS hl)
theorem g_i2l {x : Int32} (hi : Dc d pc .i2l 1 nx)  (k : G l sc D d nx ls (.long x.toInt64 :: st) σ o mk) : G l sc D d pc ls (.int x :: st) σ o mk := by
  obtain ⟨hi, rfl⟩ := hi
  intro v hv E A p e_ R s m args below meth c cells slots Q F K H locs lsA hP hD hS hl
  exact lv_i2l F.1 F.2.1 hi rfl (k v hv E A p e_ R s m args below meth c cells slots Q F K H locs lsA hP hD hS hl)
theorem g_l2i {x : Int64} (hi : Dc d pc .l2i 1 nx)  (k : G l sc D d nx ls (.int x.toInt32 :: st) σ o mk) : G l sc D d pc ls (.long x :: st) σ o mk := by
  obtain ⟨hi, rfl⟩ := hi
  intro v hv E A p e_ R s m args below meth c cells slots Q F K H locs lsA hP hD hS hl
  exact lv_l2i F.1 F.2.1 hi rfl (k v hv E A p e_ R s m args below meth c cells slots Q F K H locs lsA hP hD hS hl)
theorem g_i2b {x : Int32} (hi : Dc d pc .i2b 1 nx)  (k : G l sc D d nx ls (.int x.toInt8.toInt32 :: st) σ o mk) : G l sc D d pc ls (.int x :: st) σ o mk := by
  obtain ⟨hi, rfl⟩ := hi
  intro v hv E A p e_ R s m args below meth c cells slots Q F K H locs lsA hP hD hS hl
  exact lv_i2b F.1 F.2.1 hi rfl (k v hv E A p e_ R s m args below meth c cells slots Q F K H locs lsA hP hD hS hl)
theorem g_i2s {x : Int32} (hi : Dc d pc .i2s 1 nx)  (k : G l sc D d nx ls (.int x.toInt16.toInt32 :: st) σ o mk) : G l sc D d pc ls (.int x :: st) σ o mk := by
  obtain ⟨hi, rfl⟩ := hi
  intro v hv E A p e_ R s m args below meth c cells slots Q F K H locs lsA hP hD hS hl
  exact lv_i2s F.1 F.2.1 hi rfl (k v hv E A p e_ R s m args below meth c cells slots Q F K H locs lsA hP hD hS hl)
theorem g_lmul {x y : Int64} (hi : Dc d pc .lmul 1 nx)  (k : G l sc D d nx ls (.long (x * y) :: st) σ o mk) : G l sc D d pc ls (.long y :: .long x :: st) σ o mk := by
  obtain ⟨hi, rfl⟩ := hi
  intro v hv E A p e_ R s m args below meth c cells slots Q F K H locs lsA hP hD hS hl
  exact lv_lmul F.1 F.2.1 hi  (k v hv E A p e_ R s m args below meth c cells slots Q F K H locs lsA hP hD hS hl)
theorem g_lrem {x y : Int64} (hi : Dc d pc .lrem 1 nx) (hne : ¬ y = 0) (k : G l sc D d nx ls (.long (x - x / y * y) :: st) σ o mk) : G l sc D d pc ls (.long y :: .long x :: st) σ o mk := by
  obtain ⟨hi, rfl⟩ := hi
  intro v hv E A p e_ R s m args below meth c cells slots Q F K H locs lsA hP hD hS hl
  exact lv_lrem F.1 F.2.1 hi hne (k v hv E A p e_ R s m args below meth c cells slots Q F K H locs lsA hP hD hS hl)
theorem g_iconst {n : Int} {v : Int32} (hi : Dc d pc (.iconst n) 1 nx) (hv0 : Int32.ofInt n = v) (k : G l sc D d nx ls (.int v :: st) σ o mk) : G l sc D d pc ls (st) σ o mk := by
  obtain ⟨hi, rfl⟩ := hi
  intro v hv E A p e_ R s m args below meth c cells slots Q F K H locs lsA hP hD hS hl
  exact lv_iconst F.1 F.2.1 hi hv0 (k v hv E A p e_ R s m args below meth c cells slots Q F K H locs lsA hP hD hS hl)
theorem g_bipush {n : Int} {v : Int32} (hi : Dc d pc (.bipush n) 2 nx) (hv0 : (Int8.ofInt n).toInt32 = v) (k : G l sc D d nx ls (.int v :: st) σ o mk) : G l sc D d pc ls (st) σ o mk := by
  obtain ⟨hi, rfl⟩ := hi
  intro v hv E A p e_ R s m args below meth c cells slots Q F K H locs lsA hP hD hS hl
  exact lv_bipush F.1 F.2.1 hi hv0 (k v hv E A p e_ R s m args below meth c cells slots Q F K H locs lsA hP hD hS hl)
theorem g_sipush {n : Int} {v : Int32} (hi : Dc d pc (.sipush n) 3 nx) (hv0 : (Int16.ofInt n).toInt32 = v) (k : G l sc D d nx ls (.int v :: st) σ o mk) : G l sc D d pc ls (st) σ o mk := by
  obtain ⟨hi, rfl⟩ := hi
  intro v hv E A p e_ R s m args below meth c cells slots Q F K H locs lsA hP hD hS hl
  exact lv_sipush F.1 F.2.1 hi hv0 (k v hv E A p e_ R s m args below meth c cells slots Q F K H locs lsA hP hD hS hl)
theorem g_ldc {idx : Nat} {v : Int32} (hi : Dc d pc (.ldc idx) 2 nx) (hw : Cond.constant d.1.cls idx v ∈ allW) (k : G l sc D d nx ls (.int v :: st) σ o mk) : G l sc D d pc ls st σ o mk := by
  obtain ⟨hi, rfl⟩ := hi
  intro v0 hv E A p e_ R s m args below meth c cells slots Q F K H locs lsA hP hD hS hl
  exact lv_ldc F.1 F.2.1 F.2.2.2.1 (F.2.2.2.2.1 _ hw) hi (k v0 hv E A p e_ R s m args below meth c cells slots Q F K H locs lsA hP hD hS hl)
theorem g_ldcw {idx : Nat} {v : Int32} (hi : Dc d pc (.ldc_w idx) 3 nx) (hw : Cond.constant d.1.cls idx v ∈ allW) (k : G l sc D d nx ls (.int v :: st) σ o mk) : G l sc D d pc ls st σ o mk := by
  obtain ⟨hi, rfl⟩ := hi
  intro v0 hv E A p e_ R s m args below meth c cells slots Q F K H locs lsA hP hD hS hl
  exact lv_ldcw F.1 F.2.1 F.2.2.2.1 (F.2.2.2.2.1 _ hw) hi (k v0 hv E A p e_ R s m args below meth c cells slots Q F K H locs lsA hP hD hS hl)
theorem g_ldc2 {idx : Nat} {v : Int64} (hi : Dc d pc (.ldc2_w idx) 3 nx) (hw : Cond.constantLong d.1.cls idx v ∈ allW) (k : G l sc D d nx ls (.long v :: st) σ o mk) : G l sc D d pc ls st σ o mk := by
  obtain ⟨hi, rfl⟩ := hi
  intro v0 hv E A p e_ R s m args below meth c cells slots Q F K H locs lsA hP hD hS hl
  exact lv_ldc2 F.1 F.2.1 F.2.2.2.1 (F.2.2.2.2.1 _ hw) hi (k v0 hv E A p e_ R s m args below meth c cells slots Q F K H locs lsA hP hD hS hl)
theorem g_iload_n {i n : Nat} {x : Int32} {j : Fin 4} (hi : Dc d pc (.iload_n j) 1 nx) (hj : (j : Nat) = i) (hk : ls[n]? = some (i, .int x)) (k : G l sc D d nx ls (.int x :: st) σ o mk) : G l sc D d pc ls st σ o mk := by
  obtain ⟨hi, rfl⟩ := hi
  intro v hv E A p e_ R s m args below meth c cells slots Q F K H locs lsA hP hD hS hl
  exact lv_iload_n F.1 F.2.1 hi hj (loc_at hl hk) (k v hv E A p e_ R s m args below meth c cells slots Q F K H locs lsA hP hD hS hl)
theorem g_iload {i n : Nat} {x : Int32}  (hi : Dc d pc (.iload i) 2 nx)  (hk : ls[n]? = some (i, .int x)) (k : G l sc D d nx ls (.int x :: st) σ o mk) : G l sc D d pc ls st σ o mk := by
  obtain ⟨hi, rfl⟩ := hi
  intro v hv E A p e_ R s m args below meth c cells slots Q F K H locs lsA hP hD hS hl
  exact lv_iload F.1 F.2.1 hi  (loc_at hl hk) (k v hv E A p e_ R s m args below meth c cells slots Q F K H locs lsA hP hD hS hl)
theorem g_lload {i n : Nat} {x : Int64}  (hi : Dc d pc (.lload i) 2 nx)  (hk : ls[n]? = some (i, .long x)) (k : G l sc D d nx ls (.long x :: st) σ o mk) : G l sc D d pc ls st σ o mk := by
  obtain ⟨hi, rfl⟩ := hi
  intro v hv E A p e_ R s m args below meth c cells slots Q F K H locs lsA hP hD hS hl
  exact lv_lload F.1 F.2.1 hi  (loc_at hl hk) (k v hv E A p e_ R s m args below meth c cells slots Q F K H locs lsA hP hD hS hl)
theorem g_aload_n {i n : Nat} {x : Nat} {j : Fin 4} (hi : Dc d pc (.aload_n j) 1 nx) (hj : (j : Nat) = i) (hk : ls[n]? = some (i, .ref x)) (k : G l sc D d nx ls (.ref x :: st) σ o mk) : G l sc D d pc ls st σ o mk := by
  obtain ⟨hi, rfl⟩ := hi
  intro v hv E A p e_ R s m args below meth c cells slots Q F K H locs lsA hP hD hS hl
  exact lv_aload_n F.1 F.2.1 hi hj (loc_at hl hk) (k v hv E A p e_ R s m args below meth c cells slots Q F K H locs lsA hP hD hS hl)
theorem g_aload {i n : Nat} {x : Nat}  (hi : Dc d pc (.aload i) 2 nx)  (hk : ls[n]? = some (i, .ref x)) (k : G l sc D d nx ls (.ref x :: st) σ o mk) : G l sc D d pc ls st σ o mk := by
  obtain ⟨hi, rfl⟩ := hi
  intro v hv E A p e_ R s m args below meth c cells slots Q F K H locs lsA hP hD hS hl
  exact lv_aload F.1 F.2.1 hi  (loc_at hl hk) (k v hv E A p e_ R s m args below meth c cells slots Q F K H locs lsA hP hD hS hl)
theorem g_istore_n {i : Nat} {x : Int32} {j : Fin 4} (hi : Dc d pc (.istore_n j) 1 nx) (hj : (j : Nat) = i) (hn : i < d.2.2.1) (hl0 : ((i, Value.int x) :: ls.filter (fun q => !(q.1 == i) && !(q.1 + 1 == i && q.2.category == 2))) = ls') (k : G l sc D d nx ls' st σ o mk) : G l sc D d pc ls (.int x :: st) σ o mk := by
  obtain ⟨hi, rfl⟩ := hi
  intro v hv E A p e_ R s m args below meth c cells slots Q F K H locs lsA hP hD hS hl
  subst hl0
  exact lv_istore_n F.1 F.2.1 hi hj hl hn rfl (fun lsB hlB => k v hv E A p e_ R s m args below meth c cells slots Q F K H locs lsB hP hD hS  (by rw [st_map1] at hlB; exact hlB))
theorem g_istore {i : Nat} {x : Int32}  (hi : Dc d pc (.istore i) 2 nx)  (hn : i < d.2.2.1) (hl0 : ((i, Value.int x) :: ls.filter (fun q => !(q.1 == i) && !(q.1 + 1 == i && q.2.category == 2))) = ls') (k : G l sc D d nx ls' st σ o mk) : G l sc D d pc ls (.int x :: st) σ o mk := by
  obtain ⟨hi, rfl⟩ := hi
  intro v hv E A p e_ R s m args below meth c cells slots Q F K H locs lsA hP hD hS hl
  subst hl0
  exact lv_istore F.1 F.2.1 hi  hl hn rfl (fun lsB hlB => k v hv E A p e_ R s m args below meth c cells slots Q F K H locs lsB hP hD hS  (by rw [st_map1] at hlB; exact hlB))
theorem g_astore_n {i : Nat} {x : Nat} {j : Fin 4} (hi : Dc d pc (.astore_n j) 1 nx) (hj : (j : Nat) = i) (hn : i < d.2.2.1) (hl0 : ((i, Value.ref x) :: ls.filter (fun q => !(q.1 == i) && !(q.1 + 1 == i && q.2.category == 2))) = ls') (k : G l sc D d nx ls' st σ o mk) : G l sc D d pc ls (.ref x :: st) σ o mk := by
  obtain ⟨hi, rfl⟩ := hi
  intro v hv E A p e_ R s m args below meth c cells slots Q F K H locs lsA hP hD hS hl
  subst hl0
  exact lv_astore_n F.1 F.2.1 hi hj hl hn rfl (fun lsB hlB => k v hv E A p e_ R s m args below meth c cells slots Q F K H locs lsB hP hD hS  (by rw [st_map1] at hlB; exact hlB))
theorem g_astore {i : Nat} {x : Nat}  (hi : Dc d pc (.astore i) 2 nx)  (hn : i < d.2.2.1) (hl0 : ((i, Value.ref x) :: ls.filter (fun q => !(q.1 == i) && !(q.1 + 1 == i && q.2.category == 2))) = ls') (k : G l sc D d nx ls' st σ o mk) : G l sc D d pc ls (.ref x :: st) σ o mk := by
  obtain ⟨hi, rfl⟩ := hi
  intro v hv E A p e_ R s m args below meth c cells slots Q F K H locs lsA hP hD hS hl
  subst hl0
  exact lv_astore F.1 F.2.1 hi  hl hn rfl (fun lsB hlB => k v hv E A p e_ R s m args below meth c cells slots Q F K H locs lsB hP hD hS  (by rw [st_map1] at hlB; exact hlB))
theorem g_lstore {i : Nat} {x : Int64} (hi : Dc d pc (.lstore i) 2 nx) (hn : i + 1 < d.2.2.1) (hl0 : ((i, Value.long x) :: ls.filter (fun q => !(q.1 == i) && (!(q.1 == i + 1) && !(q.1 + 1 == i && q.2.category == 2)))) = ls') (k : G l sc D d nx ls' st σ o mk) : G l sc D d pc ls (.long x :: st) σ o mk := by
  obtain ⟨hi, rfl⟩ := hi
  intro v hv E A p e_ R s m args below meth c cells slots Q F K H locs lsA hP hD hS hl
  subst hl0
  exact lv_lstore F.1 F.2.1 hi hl hn rfl (fun lsB hlB => k v hv E A p e_ R s m args below meth c cells slots Q F K H locs lsB hP hD hS  (by rw [st_map2] at hlB; exact hlB))
theorem g_iinc {i n : Nat} {z : Int} {x w : Int32} (hi : Dc d pc (.iinc i z) 3 nx) (hk : ls[n]? = some (i, .int x)) (hw : Int32.ofInt z = w) (hn : i < d.2.2.1) (hl0 : ((i, Value.int (x + w)) :: ls.filter (fun q => !(q.1 == i) && !(q.1 + 1 == i && q.2.category == 2))) = ls') (k : G l sc D d nx ls' st σ o mk) : G l sc D d pc ls st σ o mk := by
  obtain ⟨hi, rfl⟩ := hi
  intro v hv E A p e_ R s m args below meth c cells slots Q F K H locs lsA hP hD hS hl
  subst hl0; subst hw
  exact lv_iinc (k := n) (v := x + Int32.ofInt z) F.1 F.2.1 hi hl (by rw [List.getElem?_map, hk]; rfl) rfl hn rfl (fun lsB hlB => k v hv E A p e_ R s m args below meth c cells slots Q F K H locs lsB hP hD hS  (by rw [st_map1] at hlB; exact hlB))
theorem g_dup {a : Value} (hi : Dc d pc .dup 1 nx) (ha : a.category = 1) (k : G l sc D d nx ls (a :: a :: st) σ o mk) : G l sc D d pc ls (a :: st) σ o mk := by
  obtain ⟨hi, rfl⟩ := hi
  intro v hv E A p e_ R s m args below meth c cells slots Q F K H locs lsA hP hD hS hl
  exact lv_dup F.1 F.2.1 hi (by rw [cv_cat]; exact ha) (k v hv E A p e_ R s m args below meth c cells slots Q F K H locs lsA hP hD hS hl)
theorem g_dup2 {a b : Value} (hi : Dc d pc .dup2 1 nx) (ha : a.category = 1) (hb : b.category = 1) (k : G l sc D d nx ls (a :: b :: a :: b :: st) σ o mk) : G l sc D d pc ls (a :: b :: st) σ o mk := by
  obtain ⟨hi, rfl⟩ := hi
  intro v hv E A p e_ R s m args below meth c cells slots Q F K H locs lsA hP hD hS hl
  exact lv_dup2_11 F.1 F.2.1 hi (by rw [cv_cat]; exact ha) (by rw [cv_cat]; exact hb) (k v hv E A p e_ R s m args below meth c cells slots Q F K H locs lsA hP hD hS hl)
theorem g_pop {a : Value} (hi : Dc d pc .pop 1 nx) (ha : a.category = 1) (k : G l sc D d nx ls st σ o mk) : G l sc D d pc ls (a :: st) σ o mk := by
  obtain ⟨hi, rfl⟩ := hi
  intro v hv E A p e_ R s m args below meth c cells slots Q F K H locs lsA hP hD hS hl
  exact lv_pop F.1 F.2.1 hi (by rw [cv_cat]; exact ha) (k v hv E A p e_ R s m args below meth c cells slots Q F K H locs lsA hP hD hS hl)
theorem g_goto {off : Int} {tgt : Nat} (hi : Dc d pc (.goto off) 3 nx) (ht : (pc : Int) + off = (tgt : Int)) (k : G l sc D d tgt ls st σ o mk) : G l sc D d pc ls st σ o mk := by
  obtain ⟨hi, rfl⟩ := hi
  intro v hv E A p e_ R s m args below meth c cells slots Q F K H locs lsA hP hD hS hl
  exact lv_goto F.1 F.2.1 hi ht (k v hv E A p e_ R s m args below meth c cells slots Q F K H locs lsA hP hD hS hl)
theorem g_if_eq {x : Int32} {off : Int} {tgt : Nat} {o2 : Option α} (hi : Dc d pc (.ifCond .eq off) 3 nx) (ht : (pc : Int) + off = (tgt : Int)) (kt : x = 0 → G l sc D d tgt ls st σ o mk) (kf : ¬ x = 0 → G l sc D d nx ls st σ o2 mk) : G l sc D d pc ls (.int x :: st) σ (if x = 0 then o else o2) mk := by
  obtain ⟨hi, rfl⟩ := hi
  intro v hv E A p e_ R s m args below meth c cells slots Q F K H locs lsA hP hD hS hl
  refine lv_if_eq F.1 F.2.1 hi ht (fun h => kt h v ?_ E A p e_ R s m args below meth c cells slots Q F K H locs lsA hP hD hS hl) (fun h => kf h v ?_ E A p e_ R s m args below meth c cells slots Q F K H locs lsA hP hD hS hl)
  · rw [if_pos h] at hv; exact hv
  · rw [if_neg h] at hv; exact hv
theorem g_icmp_eq {x y : Int32} {off : Int} {tgt : Nat} {o2 : Option α} (hi : Dc d pc (.if_icmp .eq off) 3 nx) (ht : (pc : Int) + off = (tgt : Int)) (kt : x = y → G l sc D d tgt ls st σ o mk) (kf : ¬ x = y → G l sc D d nx ls st σ o2 mk) : G l sc D d pc ls (.int y :: .int x :: st) σ (if x = y then o else o2) mk := by
  obtain ⟨hi, rfl⟩ := hi
  intro v hv E A p e_ R s m args below meth c cells slots Q F K H locs lsA hP hD hS hl
  refine lv_icmp_eq F.1 F.2.1 hi ht (fun h => kt h v ?_ E A p e_ R s m args below meth c cells slots Q F K H locs lsA hP hD hS hl) (fun h => kf h v ?_ E A p e_ R s m args below meth c cells slots Q F K H locs lsA hP hD hS hl)
  · rw [if_pos h] at hv; exact hv
  · rw [if_neg h] at hv; exact hv
theorem g_if_ne {x : Int32} {off : Int} {tgt : Nat} {o2 : Option α} (hi : Dc d pc (.ifCond .ne off) 3 nx) (ht : (pc : Int) + off = (tgt : Int)) (kt : ¬ x = 0 → G l sc D d tgt ls st σ o mk) (kf : x = 0 → G l sc D d nx ls st σ o2 mk) : G l sc D d pc ls (.int x :: st) σ (if x = 0 then o2 else o) mk := by
  obtain ⟨hi, rfl⟩ := hi
  intro v hv E A p e_ R s m args below meth c cells slots Q F K H locs lsA hP hD hS hl
  refine lv_if_ne F.1 F.2.1 hi ht (fun h => kt h v ?_ E A p e_ R s m args below meth c cells slots Q F K H locs lsA hP hD hS hl) (fun h => kf h v ?_ E A p e_ R s m args below meth c cells slots Q F K H locs lsA hP hD hS hl)
  · rw [if_neg h] at hv; exact hv
  · rw [if_pos h] at hv; exact hv
theorem g_icmp_ne {x y : Int32} {off : Int} {tgt : Nat} {o2 : Option α} (hi : Dc d pc (.if_icmp .ne off) 3 nx) (ht : (pc : Int) + off = (tgt : Int)) (kt : ¬ x = y → G l sc D d tgt ls st σ o mk) (kf : x = y → G l sc D d nx ls st σ o2 mk) : G l sc D d pc ls (.int y :: .int x :: st) σ (if x = y then o2 else o) mk := by
  obtain ⟨hi, rfl⟩ := hi
  intro v hv E A p e_ R s m args below meth c cells slots Q F K H locs lsA hP hD hS hl
  refine lv_icmp_ne F.1 F.2.1 hi ht (fun h => kt h v ?_ E A p e_ R s m args below meth c cells slots Q F K H locs lsA hP hD hS hl) (fun h => kf h v ?_ E A p e_ R s m args below meth c cells slots Q F K H locs lsA hP hD hS hl)
  · rw [if_neg h] at hv; exact hv
  · rw [if_pos h] at hv; exact hv
theorem g_if_lt {x : Int32} {off : Int} {tgt : Nat} {o2 : Option α} (hi : Dc d pc (.ifCond .lt off) 3 nx) (ht : (pc : Int) + off = (tgt : Int)) (kt : x < 0 → G l sc D d tgt ls st σ o mk) (kf : ¬ x < 0 → G l sc D d nx ls st σ o2 mk) : G l sc D d pc ls (.int x :: st) σ (if x < 0 then o else o2) mk := by
  obtain ⟨hi, rfl⟩ := hi
  intro v hv E A p e_ R s m args below meth c cells slots Q F K H locs lsA hP hD hS hl
  refine lv_if_lt F.1 F.2.1 hi ht (fun h => kt h v ?_ E A p e_ R s m args below meth c cells slots Q F K H locs lsA hP hD hS hl) (fun h => kf h v ?_ E A p e_ R s m args below meth c cells slots Q F K H locs lsA hP hD hS hl)
  · rw [if_pos h] at hv; exact hv
  · rw [if_neg h] at hv; exact hv
theorem g_icmp_lt {x y : Int32} {off : Int} {tgt : Nat} {o2 : Option α} (hi : Dc d pc (.if_icmp .lt off) 3 nx) (ht : (pc : Int) + off = (tgt : Int)) (kt : x < y → G l sc D d tgt ls st σ o mk) (kf : ¬ x < y → G l sc D d nx ls st σ o2 mk) : G l sc D d pc ls (.int y :: .int x :: st) σ (if x < y then o else o2) mk := by
  obtain ⟨hi, rfl⟩ := hi
  intro v hv E A p e_ R s m args below meth c cells slots Q F K H locs lsA hP hD hS hl
  refine lv_icmp_lt F.1 F.2.1 hi ht (fun h => kt h v ?_ E A p e_ R s m args below meth c cells slots Q F K H locs lsA hP hD hS hl) (fun h => kf h v ?_ E A p e_ R s m args below meth c cells slots Q F K H locs lsA hP hD hS hl)
  · rw [if_pos h] at hv; exact hv
  · rw [if_neg h] at hv; exact hv
theorem g_if_ge {x : Int32} {off : Int} {tgt : Nat} {o2 : Option α} (hi : Dc d pc (.ifCond .ge off) 3 nx) (ht : (pc : Int) + off = (tgt : Int)) (kt : 0 ≤ x → G l sc D d tgt ls st σ o mk) (kf : ¬ 0 ≤ x → G l sc D d nx ls st σ o2 mk) : G l sc D d pc ls (.int x :: st) σ (if 0 ≤ x then o else o2) mk := by
  obtain ⟨hi, rfl⟩ := hi
  intro v hv E A p e_ R s m args below meth c cells slots Q F K H locs lsA hP hD hS hl
  refine lv_if_ge F.1 F.2.1 hi ht (fun h => kt h v ?_ E A p e_ R s m args below meth c cells slots Q F K H locs lsA hP hD hS hl) (fun h => kf h v ?_ E A p e_ R s m args below meth c cells slots Q F K H locs lsA hP hD hS hl)
  · rw [if_pos h] at hv; exact hv
  · rw [if_neg h] at hv; exact hv
theorem g_icmp_ge {x y : Int32} {off : Int} {tgt : Nat} {o2 : Option α} (hi : Dc d pc (.if_icmp .ge off) 3 nx) (ht : (pc : Int) + off = (tgt : Int)) (kt : y ≤ x → G l sc D d tgt ls st σ o mk) (kf : ¬ y ≤ x → G l sc D d nx ls st σ o2 mk) : G l sc D d pc ls (.int y :: .int x :: st) σ (if y ≤ x then o else o2) mk := by
  obtain ⟨hi, rfl⟩ := hi
  intro v hv E A p e_ R s m args below meth c cells slots Q F K H locs lsA hP hD hS hl
  refine lv_icmp_ge F.1 F.2.1 hi ht (fun h => kt h v ?_ E A p e_ R s m args below meth c cells slots Q F K H locs lsA hP hD hS hl) (fun h => kf h v ?_ E A p e_ R s m args below meth c cells slots Q F K H locs lsA hP hD hS hl)
  · rw [if_pos h] at hv; exact hv
  · rw [if_neg h] at hv; exact hv
theorem g_if_gt {x : Int32} {off : Int} {tgt : Nat} {o2 : Option α} (hi : Dc d pc (.ifCond .gt off) 3 nx) (ht : (pc : Int) + off = (tgt : Int)) (kt : 0 < x → G l sc D d tgt ls st σ o mk) (kf : ¬ 0 < x → G l sc D d nx ls st σ o2 mk) : G l sc D d pc ls (.int x :: st) σ (if 0 < x then o else o2) mk := by
  obtain ⟨hi, rfl⟩ := hi
  intro v hv E A p e_ R s m args below meth c cells slots Q F K H locs lsA hP hD hS hl
  refine lv_if_gt F.1 F.2.1 hi ht (fun h => kt h v ?_ E A p e_ R s m args below meth c cells slots Q F K H locs lsA hP hD hS hl) (fun h => kf h v ?_ E A p e_ R s m args below meth c cells slots Q F K H locs lsA hP hD hS hl)
  · rw [if_pos h] at hv; exact hv
  · rw [if_neg h] at hv; exact hv
theorem g_icmp_gt {x y : Int32} {off : Int} {tgt : Nat} {o2 : Option α} (hi : Dc d pc (.if_icmp .gt off) 3 nx) (ht : (pc : Int) + off = (tgt : Int)) (kt : y < x → G l sc D d tgt ls st σ o mk) (kf : ¬ y < x → G l sc D d nx ls st σ o2 mk) : G l sc D d pc ls (.int y :: .int x :: st) σ (if y < x then o else o2) mk := by
  obtain ⟨hi, rfl⟩ := hi
  intro v hv E A p e_ R s m args below meth c cells slots Q F K H locs lsA hP hD hS hl
  refine lv_icmp_gt F.1 F.2.1 hi ht (fun h => kt h v ?_ E A p e_ R s m args below meth c cells slots Q F K H locs lsA hP hD hS hl) (fun h => kf h v ?_ E A p e_ R s m args below meth c cells slots Q F K H locs lsA hP hD hS hl)
  · rw [if_pos h] at hv; exact hv
  · rw [if_neg h] at hv; exact hv
theorem g_if_le {x : Int32} {off : Int} {tgt : Nat} {o2 : Option α} (hi : Dc d pc (.ifCond .le off) 3 nx) (ht : (pc : Int) + off = (tgt : Int)) (kt : x ≤ 0 → G l sc D d tgt ls st σ o mk) (kf : ¬ x ≤ 0 → G l sc D d nx ls st σ o2 mk) : G l sc D d pc ls (.int x :: st) σ (if x ≤ 0 then o else o2) mk := by
  obtain ⟨hi, rfl⟩ := hi
  intro v hv E A p e_ R s m args below meth c cells slots Q F K H locs lsA hP hD hS hl
  refine lv_if_le F.1 F.2.1 hi ht (fun h => kt h v ?_ E A p e_ R s m args below meth c cells slots Q F K H locs lsA hP hD hS hl) (fun h => kf h v ?_ E A p e_ R s m args below meth c cells slots Q F K H locs lsA hP hD hS hl)
  · rw [if_pos h] at hv; exact hv
  · rw [if_neg h] at hv; exact hv
theorem g_icmp_le {x y : Int32} {off : Int} {tgt : Nat} {o2 : Option α} (hi : Dc d pc (.if_icmp .le off) 3 nx) (ht : (pc : Int) + off = (tgt : Int)) (kt : x ≤ y → G l sc D d tgt ls st σ o mk) (kf : ¬ x ≤ y → G l sc D d nx ls st σ o2 mk) : G l sc D d pc ls (.int y :: .int x :: st) σ (if x ≤ y then o else o2) mk := by
  obtain ⟨hi, rfl⟩ := hi
  intro v hv E A p e_ R s m args below meth c cells slots Q F K H locs lsA hP hD hS hl
  refine lv_icmp_le F.1 F.2.1 hi ht (fun h => kt h v ?_ E A p e_ R s m args below meth c cells slots Q F K H locs lsA hP hD hS hl) (fun h => kf h v ?_ E A p e_ R s m args below meth c cells slots Q F K H locs lsA hP hD hS hl)
  · rw [if_pos h] at hv; exact hv
  · rw [if_neg h] at hv; exact hv
theorem g_iret {w : Int32} {z : α} (hi : Dc d pc .ireturn 1 nx) (hb0 : d.2.2.2 = some .int ∨ (d.2.2.2 = some .boolean ∧ isBv w = true)) (hm : mk z = (some (.int w), σ)) : G l sc D d pc ls [.int w] σ (some z) mk := by
  obtain ⟨hi, -⟩ := hi
  intro v hv E A p e_ R s m args below meth c cells slots Q F K H locs lsA hP hD hS hl
  cases hv
  rw [hm] at K
  exact K pc lsA H locs hP hD hS ⟨hi, hb0⟩
theorem g_vret {z : α} (hi : Dc d pc .return_ 1 nx) (hb0 : d.2.2.2 = none) (hm : mk z = (none, σ)) : G l sc D d pc ls [] σ (some z) mk := by
  obtain ⟨hi, -⟩ := hi
  intro v hv E A p e_ R s m args below meth c cells slots Q F K H locs lsA hP hD hS hl
  cases hv
  rw [hm] at K
  exact K pc lsA H locs hP hD hS ⟨hi, hb0⟩
theorem g_aret {w : Nat} {z : α} (hi : Dc d pc .areturn 1 nx) (hb0 : ∃ C, d.2.2.2 = some (.object C)) (hm : mk z = (some (.ref w), σ)) : G l sc D d pc ls [.ref w] σ (some z) mk := by
  obtain ⟨hi, -⟩ := hi
  intro v hv E A p e_ R s m args below meth c cells slots Q F K H locs lsA hP hD hS hl
  cases hv
  rw [hm] at K
  exact K pc lsA H locs hP hD hS ⟨hi, hb0⟩
theorem g_iaload {a n : Nat} {i : Int32} (hi : Dc d pc .iaload 1 nx) (hs : shp a = shA n) (k : inB i n = true → G l sc D d nx ls (.int (σ a i.toNatClampNeg) :: st) σ o mk) : G l sc D d pc ls (.int i :: .ref a :: st) σ (if inB i n = true then o else none) mk := by
  refine g_guard (fun hb => ?_)
  obtain ⟨hi, rfl⟩ := hi
  intro v hv E A p e_ R s m args below meth c cells slots Q F K H locs lsA hP hD hS hl
  exact va_iald F.1 F.2.1 F.2.2.2.2.2.2.1 hP a 0 (wld_arr hs) rfl (inB_in hb) hi (k hb v hv E A p e_ R s m args below meth c cells slots Q F K H locs lsA hP hD hS hl)
theorem g_baload {a n : Nat} {i : Int32} (hi : Dc d pc .baload 1 nx) (hs : shp a = (1, n, [])) (k : inB i n = true → G l sc D d nx ls (.int (σ a i.toNatClampNeg) :: st) σ o mk) : G l sc D d pc ls (.int i :: .ref a :: st) σ (if inB i n = true then o else none) mk := by
  refine g_guard (fun hb => ?_)
  obtain ⟨hi, rfl⟩ := hi
  intro v hv E A p e_ R s m args below meth c cells slots Q F K H locs lsA hP hD hS hl
  exact va_zald F.1 F.2.1 F.2.2.2.2.2.2.1 hP a 1 (wld_barr hs) rfl (inB_in hb) hi (k hb v hv E A p e_ R s m args below meth c cells slots Q F K H locs lsA hP hD hS hl)
theorem g_aaload {a n b : Nat} {i : Int32} (hi : Dc d pc .aaload 1 nx) (hs : shp a = (3, n, [(0, b)])) (k : inB i n = true → G l sc D d nx ls (.ref (b + i.toNatClampNeg) :: st) σ o mk) : G l sc D d pc ls (.int i :: .ref a :: st) σ (if inB i n = true then o else none) mk := by
  refine g_guard (fun hb => ?_)
  obtain ⟨hi, rfl⟩ := hi
  intro v hv E A p e_ R s m args below meth c cells slots Q F K H locs lsA hP hD hS hl
  have hlt : i.toNatClampNeg < n := Nat.not_le.mp fun q => inB_in hb (Or.inr q)
  exact W.aald (v := va_rf (some (E.1 (b + i.toNatClampNeg)))) (ty := .array .int) F.1 F.2.1 (hP a _ (wld_rows hs)) ((F.2.2.2.2.2.2.1.2 2 _ rfl).1 n (fun j => va_rf (some (E.1 (b + j))))) rfl (fun q => by cases q) (by show ¬ (i < 0 ∨ (arrV _ _ _).slots.size ≤ _); rw [arrV_size]; exact inB_in hb) (by show (arrV _ _ _).slots[_]? = _; rw [arrV_read _ _ hlt]) rfl rfl hi (k hb v hv E A p e_ R s m args below meth c cells slots Q F K H locs lsA hP hD hS hl)
theorem g_alen {a n : Nat} {v : Int32} (hi : Dc d pc .arraylength 1 nx) (hs : shp a = shA n) (hv0 : Int32.ofNat n = v) (k : G l sc D d nx ls (.int v :: st) σ o mk) : G l sc D d pc ls (.ref a :: st) σ o mk := by
  obtain ⟨hi, rfl⟩ := hi
  intro v0 hv E A p e_ R s m args below meth c cells slots Q F K H locs lsA hP hD hS hl
  exact va_alen F.1 F.2.1 F.2.2.2.2.2.2.1 hP a 0 (wld_arr hs) rfl hv0 hi (k v0 hv E A p e_ R s m args below meth c cells slots Q F K H locs lsA hP hD hS hl)
theorem g_iastore {a n : Nat} {i x : Int32} (hi : Dc d pc .iastore 1 nx) (hs : shp a = shA n) (k : inB i n = true → G l sc D d nx ls st (mset σ a i.toNatClampNeg x) o mk) : G l sc D d pc ls (.int x :: .int i :: .ref a :: st) σ (if inB i n = true then o else none) mk := by
  refine g_guard (fun hb => ?_)
  obtain ⟨hi, rfl⟩ := hi
  intro v hv E A p e_ R s m args below meth c cells slots Q F K H locs lsA hP hD hS hl
  refine va_iast F.1 F.2.1 F.2.2.2.2.2.2.1 hP hD hS a 0 (wld_arr hs) rfl (inB_in hb) hi (fun H1 locs1 hP1 hD1 hS1 => ?_)
  have e := wld_set (E := E) (σ := σ) (τ := mset σ a i.toNatClampNeg x) (a := a) (e := .inl (E.2.1 0, n, .inl (upd (σ a) i.toNatClampNeg x))) (shp_lt (by rw [hs]; simp [shA])) mset_ne (by rw [hs]; show _ = Sum.inl _; rw [mset_row]; rfl)
  rw [e] at hP1 hD1
  exact k hb v hv E A p e_ R s m args below meth c cells slots Q F K H1 locs1 lsA hP1 hD1 hS1 hl
theorem g_bastore {a n : Nat} {i x : Int32} (hi : Dc d pc .bastore 1 nx) (hs : shp a = (1, n, [])) (hx : vp_nar .boolean x = x) (k : inB i n = true → G l sc D d nx ls st (mset σ a i.toNatClampNeg x) o mk) : G l sc D d pc ls (.int x :: .int i :: .ref a :: st) σ (if inB i n = true then o else none) mk := by
  refine g_guard (fun hb => ?_)
  obtain ⟨hi, rfl⟩ := hi
  intro v hv E A p e_ R s m args below meth c cells slots Q F K H locs lsA hP hD hS hl
  refine va_zast F.1 F.2.1 F.2.2.2.2.2.2.1 hP hD hS a 1 (wld_barr hs) rfl (inB_in hb) hi (fun H1 locs1 hP1 hD1 hS1 => ?_)
  rw [hx] at hP1 hD1
  have e := wld_set (E := E) (σ := σ) (τ := mset σ a i.toNatClampNeg x) (a := a) (e := .inl (E.2.1 1, n, .inl (upd (σ a) i.toNatClampNeg x))) (shp_lt (by rw [hs]; simp)) mset_ne (by rw [hs]; show _ = Sum.inl _; rw [mset_row])
  rw [e] at hP1 hD1
  exact k hb v hv E A p e_ R s m args below meth c cells slots Q F K H1 locs1 lsA hP1 hD1 hS1 hl
theorem fld_get {a ci k : Nat} {ks : List (Nat × Nat)} {q : Nat × Nat} {E : HE} (hq : ks[k]? = some q) : (ks.mapIdx (fun j q => cfield E σ a j q))[k]? = some (cfield E σ a k q) := by
  rw [List.getElem?_mapIdx, hq]; rfl
theorem g_getv {a ci n idx : Nat} {ks : List (Nat × Nat)} {q : Nat × Nat} {z : FieldType} {fin nest : Bool} {w : Value} (hi : Dc d pc (.getfield idx) 3 nx) (hf : FLd d.1.cls idx ci n z fin nest) (hs : shp a = (2, ci, ks)) (hq : ks[n]? = some q) (hw : ∀ E : HE, cfield E σ a n q = cv E w) (k : G l sc D d nx ls (w :: st) σ o mk) : G l sc D d pc ls (.ref a :: st) σ o mk := by
  obtain ⟨hi, rfl⟩ := hi
  intro v hv E A p e_ R s m args below meth c cells slots Q F K H locs lsA hP hD hS hl
  obtain ⟨C, T, N, ty, ⟨h1, h2, h3, h4⟩, hn, -, -, hlk⟩ := hf
  have hv1 := fld_get (σ := σ) (a := a) (ci := ci) (E := E) hq
  rw [hw E] at hv1
  cases nest with
  | false => exact va_get F.1 F.2.1 F.2.2.2.2.1 h2 F.2.2.2.1 F.2.2.2.2.2.2.1 hP a (wld_obj hs) h1 n hn (F.2.2.2.2.1 _ hlk) (fun _ h => h) hv1 hi (k v hv E A p e_ R s m args below meth c cells slots Q F K H locs lsA hP hD hS hl)
  | true =>
    obtain ⟨host, hlk⟩ := hlk
    exact va_getN F.1 F.2.1 F.2.2.2.2.1 h2 F.2.2.2.1 F.2.2.2.2.2.2.1 hP a (wld_obj hs) h1 n hn (va_Nw.use rfl (F.2.2.2.2.2.1 _ hlk)) (fun _ h => h) hv1 hi (k v hv E A p e_ R s m args below meth c cells slots Q F K H locs lsA hP hD hS hl)
theorem g_geti {a ci n idx : Nat} {ks : List (Nat × Nat)} {z : FieldType} {fin nest : Bool} (hi : Dc d pc (.getfield idx) 3 nx) (hf : FLd d.1.cls idx ci n z fin nest) (hs : shp a = (2, ci, ks)) (hq : ks[n]? = some (0, 0)) (k : G l sc D d nx ls (.int (σ a n) :: st) σ o mk) : G l sc D d pc ls (.ref a :: st) σ o mk := g_getv hi hf hs hq (fun _ => rfl) k
theorem g_getr {a ci n idx b : Nat} {ks : List (Nat × Nat)} {z : FieldType} {fin nest : Bool} (hi : Dc d pc (.getfield idx) 3 nx) (hf : FLd d.1.cls idx ci n z fin nest) (hs : shp a = (2, ci, ks)) (hq : ks[n]? = some (1, b)) (k : G l sc D d nx ls (.ref b :: st) σ o mk) : G l sc D d pc ls (.ref a :: st) σ o mk := g_getv hi hf hs hq (fun _ => rfl) k
theorem g_getm {a ci n idx : Nat} {ks : List (Nat × Nat)} {z : FieldType} {fin nest : Bool} (hi : Dc d pc (.getfield idx) 3 nx) (hf : FLd d.1.cls idx ci n z fin nest) (hs : shp a = (2, ci, ks)) (hq : ks[n]? = some (2, 0)) (k : G l sc D d nx ls (.ref (σ a n).toNatClampNeg :: st) σ o mk) : G l sc D d pc ls (.ref a :: st) σ o mk := g_getv hi hf hs hq (fun _ => rfl) k
theorem mapIdx_set {β γ : Type} (f g : Nat → β → γ) (L : List β) (k : Nat) (q : β) (hq : L[k]? = some q) (h : ∀ j x, j ≠ k → g j x = f j x) : (L.mapIdx f).set k (g k q) = L.mapIdx g := by
  apply List.ext_getElem?
  intro i
  by_cases hi : i = k
  · subst hi
    rw [List.getElem?_set_self (by rw [List.length_mapIdx]; exact (List.getElem?_eq_some_iff.mp hq).1), List.getElem?_mapIdx, hq]; rfl
  · rw [List.getElem?_set_ne (Ne.symm hi), List.getElem?_mapIdx, List.getElem?_mapIdx]
    cases L[i]? with
    | none => rfl
    | some x => simp [h i x hi]
theorem g_putv {a ci n idx : Nat} {ks : List (Nat × Nat)} {q : Nat × Nat} {z : FieldType} {nest : Bool} {x : Int32} {w : Value} (hi : Dc d pc (.putfield idx) 3 nx) (hf : FLd d.1.cls idx ci n z false nest) (hs : shp a = (2, ci, ks)) (hq : ks[n]? = some q) (hw : ∀ E : HE, cv E w = cfield E (mset σ a n x) a n q) (hnar : ∀ E : HE, narrow z (cv E w) = cv E w) (hfit : ∀ E : HE, fits z (cv E w) = true) (k : G l sc D d nx ls st (mset σ a n x) o mk) : G l sc D d pc ls (w :: .ref a :: st) σ o mk := by
  obtain ⟨hi, rfl⟩ := hi
  intro v hv E A p e_ R s m args below meth c cells slots Q F K H locs lsA hP hD hS hl
  obtain ⟨C, T, N, ty, ⟨h1, h2, h3, h4⟩, hn, hty, hfin, hlk⟩ := hf
  have hlen : n < (ks.mapIdx (fun j q => cfield E σ a j q)).length := by rw [List.length_mapIdx]; exact (List.getElem?_eq_some_iff.mp hq).1
  have hparse := h3 n hn
  rw [hty] at hparse
  have e := wld_set (E := E) (σ := σ) (τ := mset σ a n x) (a := a) (e := .inr (ci, (ks.mapIdx (fun j q => cfield E σ a j q)).set n (cv E w))) (shp_lt (by rw [hs]; simp)) mset_ne (by
    rw [hs, hw E, mapIdx_set (fun j q => cfield E σ a j q) (fun j q => cfield E (mset σ a n x) a j q) ks n q hq (fun j y hj => by unfold cfield; rw [mset_off hj])]; rfl)
  have kk : ∀ (H1 : Heap) (locs1 : List Loc), va_P E.2.2 vwCl ((wld E σ).set a (E.1 a, .inr (ci, (ks.mapIdx (fun j q => cfield E σ a j q)).set n (cv E w)))) H1 → va_D A ((wld E σ).set a (E.1 a, .inr (ci, (ks.mapIdx (fun j q => cfield E σ a j q)).set n (cv E w)))) → va_S A s.heap H1 locs1 → W p l e_ R s m args below meth c H1 locs1 cells slots Q (F0 m (pc + 3) lsA (st.map (cv E))) := by
    intro H1 locs1 hP1 hD1 hS1
    rw [e] at hP1 hD1
    exact k v hv E A p e_ R s m args below meth c cells slots Q F K H1 locs1 lsA hP1 hD1 hS1 hl
  cases nest with
  | false => exact va_put F.1 F.2.1 F.2.2.2.2.1 h2 ty h3 h4 F.2.2.2.1 F.2.2.2.2.2.2.1 hP hD hS a (wld_obj hs) h1 n hn (F.2.2.2.2.1 _ hlk) (fun _ h => h) hfin hparse (hnar E) (hfit E) hlen hi kk
  | true =>
    obtain ⟨host, hlk⟩ := hlk
    exact va_putN F.1 F.2.1 F.2.2.2.2.1 h2 ty h3 h4 F.2.2.2.1 F.2.2.2.2.2.2.1 hP hD hS a (wld_obj hs) h1 n hn (va_Nw.use rfl (F.2.2.2.2.2.1 _ hlk)) (fun _ h => h) hfin hparse (hnar E) (hfit E) hlen hi kk
theorem g_puti {a ci n idx : Nat} {ks : List (Nat × Nat)} {nest : Bool} {x : Int32} (hi : Dc d pc (.putfield idx) 3 nx) (hf : FLd d.1.cls idx ci n .int false nest) (hs : shp a = (2, ci, ks)) (hq : ks[n]? = some (0, 0)) (k : G l sc D d nx ls st (mset σ a n x) o mk) : G l sc D d pc ls (.int x :: .ref a :: st) σ o mk :=
  g_putv hi hf hs hq (fun E => by show Value.int x = Value.int _; rw [mset_at]) (fun _ => rfl) (fun _ => rfl) k
theorem bv_nar {x : Int32} (h : isBv x = true) : narrow .boolean (.int x) = .int x ∧ fits .boolean (.int x) = true := by
  have : x = 0 ∨ x = 1 := by simpa [isBv] using h
  rcases this with rfl | rfl <;> exact ⟨rfl, rfl⟩
theorem g_putb {a ci n idx : Nat} {ks : List (Nat × Nat)} {nest : Bool} {x : Int32} (hi : Dc d pc (.putfield idx) 3 nx) (hf : FLd d.1.cls idx ci n .boolean false nest) (hs : shp a = (2, ci, ks)) (hq : ks[n]? = some (0, 0)) (k : isBv x = true → G l sc D d nx ls st (mset σ a n x) o mk) : G l sc D d pc ls (.int x :: .ref a :: st) σ (if isBv x = true then o else none) mk :=
  g_guard (fun hb => g_putv hi hf hs hq (fun E => by show Value.int x = Value.int _; rw [mset_at]) (fun _ => (bv_nar hb).1) (fun _ => (bv_nar hb).2) (k hb))
theorem g_putm {a ci n idx b : Nat} {ks : List (Nat × Nat)} {nest : Bool} {ty : FieldType} (hi : Dc d pc (.putfield idx) 3 nx) (hf : FLd d.1.cls idx ci n (.array ty) false nest) (hs : shp a = (2, ci, ks)) (hq : ks[n]? = some (2, 0)) (hb : b < 2 ^ 31) (k : G l sc D d nx ls st (mset σ a n (Int32.ofNat b)) o mk) : G l sc D d pc ls (.ref b :: .ref a :: st) σ o mk :=
  g_putv hi hf hs hq (fun E => by show Value.ref _ = Value.ref _; rw [mset_at]; exact congrArg _ (congrArg _ (nI_clamp hb).symm)) (fun _ => rfl) (fun _ => rfl) k
end GR
