/-! ===== an abstract machine over the kit's W: memory is a total map of numbers, the cells' shapes are fixed ===== -/
abbrev MD : Type := MethodName × ByteArray × Nat × Option FieldType
abbrev Mem : Type := Nat → Nat → Int32
/-- addresses of the ids; the classes of the arrays by their kinds; the classes' table -/
abbrev HE : Type := (Nat → Nat) × ((Nat → ClassId) × va_G)
def mset (σ : Mem) (a k : Nat) (v : Int32) : Mem := fun b j => if b = a ∧ j = k then v else σ b j
def mcpy (σ : Mem) (a sp b dp n : Nat) : Mem := fun c j => if c = b ∧ dp ≤ j ∧ j < dp + n then σ a (sp + (j - dp)) else σ c j
/-- (0, n, []) int[n]; (1, n, []) boolean[n]; (2, class, fields) an object: a field is (0, _) a number, (1, id) a reference that stays, (2, _) a reference that the memory holds; (3, n, [(0, base)]) int[n][] -/
abbrev Shp : Type := Nat × Nat × List (Nat × Nat)
def shTown (b : Nat) : Shp := (2, 6, [(0,0),(0,0),(0,0),(0,0),(0,0),(1,b+1),(1,b+2),(1,b+3),(1,b+4),(0,0),(0,0),(0,0),(0,0)])
def shA (n : Nat) : Shp := (0, n, [])
def shpL : List Shp :=
  [(2, 7, [(1,1),(1,13),(1,15),(1,20),(1,25),(1,30),(1,35),(1,61),(1,70),(1,75),(0,0)]),
   (2, 2, [(1,2),(1,3),(1,4)]), shA 8, shA 8, (3, 8, [(0,5)]), shA 40, shA 40, shA 40, shA 40, shA 40, shA 40, shA 40, shA 40,
   (2, 5, [(1,14),(0,0),(0,0),(0,0),(0,0),(0,0)]), shA 100,
   shTown 15, shA 6, shA 6, shA 6, shA 6, shTown 20, shA 6, shA 6, shA 6, shA 6, shTown 25, shA 6, shA 6, shA 6, shA 6, shTown 30, shA 6, shA 6, shA 6, shA 6,
   (2, 0, [(1,36),(0,0),(0,0)]), (3, 24, [(0,37)]), shA 7, shA 7, shA 7, shA 7, shA 7, shA 7, shA 7, shA 7, shA 7, shA 7, shA 7, shA 7, shA 7, shA 7, shA 7, shA 7, shA 7, shA 7, shA 7, shA 7, shA 7, shA 7, shA 7, shA 7,
   (2, 3, [(1,62),(1,67),(0,0),(0,0),(0,0),(1,68),(0,0),(0,0),(0,0),(1,69)]), shTown 62, shA 6, shA 6, shA 6, shA 6, shA 6, shA 6, shA 64,
   (2, 4, [(1,71),(1,72),(1,73),(2,0),(0,0),(0,0),(0,0),(0,0)]), shA 6, shA 4, shA 6, shA 0,
   (2, 1, [(1,76),(0,0),(0,0),(0,0),(0,0),(0,0)]), shA 16,
   (2, 8, [(1,78),(1,79),(1,80),(0,0),(0,0),(1,81),(0,0),(0,0),(0,0),(0,0),(0,0),(0,0),(1,82),(1,83),(1,84),(1,85),(1,86),(1,87),(0,0),(1,88),(0,0),(1,89),(1,90),(1,91),(0,0),(0,0),(1,92),(1,93)]),
   shA 8, shA 8, shA 320, shA 100, shA 33, shA 33, shA 33, shA 66, (1, 2, []), shA 792, shA 16, shA 6, shA 6, shA 6, shA 64, shA 6]
abbrev NC : Nat := 94
/-- the id of the static row, and of the script: no cells of the world -/
abbrev idNear : Nat := 94
abbrev idScr : Nat := 95
theorem shpL_len : shpL.length = 94 := by decide +kernel
def shp (k : Nat) : Shp := shpL.getD k (9, 0, [])
def isTown (t : Nat) : Bool := t == 15 || t == 20 || t == 25 || t == 30 || t == 62
def isIA (a : Nat) : Bool := (shp a).1 == 0
def alen (a : Nat) : Nat := (shp a).2.1
theorem shp_lt {a : Nat} (h : (shp a).1 ≠ 9) : a < NC := by
  rcases Nat.lt_or_ge a NC with q | q
  · exact q
  · exact absurd (by unfold shp; rw [List.getD_eq_getElem?_getD, List.getElem?_eq_none (by rw [shpL_len]; exact q)]; rfl) h
theorem shp_town {t : Nat} (h : isTown t = true) : shp t = shTown t ∧ shp (t+1) = shA 6 ∧ shp (t+2) = shA 6 ∧ shp (t+3) = shA 6 ∧ shp (t+4) = shA 6 := by
  simp only [isTown, Bool.or_eq_true, beq_iff_eq] at h
  rcases h with (((h | h) | h) | h) | h <;> subst h <;> decide +kernel
theorem shp_IA {a : Nat} (h : isIA a = true) : shp a = shA (alen a) := by
  have h0 : (shp a).1 = 0 := by simpa [isIA] using h
  have hl := shp_lt (a := a) (by rw [h0]; decide)
  have : ∀ a, a < 94 → ((shp a).1 ≠ 0 ∨ shp a = shA (alen a)) := by decide +kernel
  exact (this a hl).resolve_left (fun q => q h0)
theorem shp_rows {j : Nat} (h : j < 8) : shp (5 + j) = shA 40 := by
  have : ∀ j, j < 8 → shp (5 + j) = shA 40 := by decide +kernel
  exact this j h
theorem shp_acts {j : Nat} (h : j < 24) : shp (37 + j) = shA 7 := by
  have : ∀ j, j < 24 → shp (37 + j) = shA 7 := by decide +kernel
  exact this j h
def cv (E : HE) : Value → Value
  | .ref k => .ref (E.1 k)
  | v => v
def cfield (E : HE) (σ : Mem) (a j : Nat) (q : Nat × Nat) : Value := if q.1 = 0 then .int (σ a j) else if q.1 = 1 then .ref (E.1 q.2) else .ref (E.1 (σ a j).toNatClampNeg)
def ccell (E : HE) (σ : Mem) (a : Nat) (sh : Shp) : va_E :=
  if sh.1 = 0 then .inl (E.2.1 0, sh.2.1, .inl (σ a))
  else if sh.1 = 1 then .inl (E.2.1 1, sh.2.1, .inl (σ a))
  else if sh.1 = 2 then .inr (sh.2.1, sh.2.2.mapIdx (fun j q => cfield E σ a j q))
  else .inl (E.2.1 2, sh.2.1, .inr (.inr (.inr (.inr (fun i => some (E.1 ((sh.2.2.getD 0 (0,0)).2 + i)))))))
def wld (E : HE) (σ : Mem) : va_W := (List.range NC).map fun k => (E.1 k, ccell E σ k (shp k))
theorem wld_get {E : HE} {σ : Mem} {k : Nat} (h : k < NC) : (wld E σ)[k]? = some (E.1 k, ccell E σ k (shp k)) := by
  unfold wld
  rw [List.getElem?_map, List.getElem?_range h]; rfl
theorem wld_arr {E : HE} {σ : Mem} {a n : Nat} (h : shp a = shA n) : (wld E σ)[a]? = some (E.1 a, .inl (E.2.1 0, n, .inl (σ a))) := by
  rw [wld_get (shp_lt (by rw [h]; simp [shA])), h]; rfl
theorem wld_barr {E : HE} {σ : Mem} {a n : Nat} (h : shp a = (1, n, [])) : (wld E σ)[a]? = some (E.1 a, .inl (E.2.1 1, n, .inl (σ a))) := by
  rw [wld_get (shp_lt (by rw [h]; simp)), h]; rfl
theorem wld_obj {E : HE} {σ : Mem} {a ci : Nat} {ks : List (Nat × Nat)} (h : shp a = (2, ci, ks)) : (wld E σ)[a]? = some (E.1 a, .inr (ci, ks.mapIdx (fun j q => cfield E σ a j q))) := by
  rw [wld_get (shp_lt (by rw [h]; simp)), h]; rfl
theorem wld_rows {E : HE} {σ : Mem} {a n b : Nat} (h : shp a = (3, n, [(0, b)])) : (wld E σ)[a]? = some (E.1 a, .inl (E.2.1 2, n, .inr (.inr (.inr (.inr (fun i => some (E.1 (b + i)))))))) := by
  rw [wld_get (shp_lt (by rw [h]; simp)), h]; rfl
theorem ccell_other {E : HE} {σ τ : Mem} {a : Nat} {sh : Shp} (h : σ a = τ a) : ccell E σ a sh = ccell E τ a sh := by
  unfold ccell cfield; rw [h]
/-- one cell is another, by a memory that differs there alone -/
theorem wld_set {E : HE} {σ τ : Mem} {a : Nat} {e : va_E} (ha : a < NC) (ho : ∀ b, b ≠ a → τ b = σ b) (he : e = ccell E τ a (shp a)) : (wld E σ).set a (E.1 a, e) = wld E τ := by
  apply List.ext_getElem?
  intro i
  by_cases hi : i < NC
  · by_cases hia : i = a
    · subst hia
      rw [wld_get hi, List.getElem?_set_self (by unfold wld; simpa using hi), he]
    · rw [List.getElem?_set_ne (Ne.symm hia), wld_get hi, wld_get hi, ccell_other (ho i hia)]
  · rw [List.getElem?_eq_none (by unfold wld; simp; omega), List.getElem?_eq_none (by unfold wld; simp; omega)]
theorem mset_ne {σ : Mem} {a k : Nat} {v : Int32} (b : Nat) (h : b ≠ a) : mset σ a k v b = σ b := by
  funext j; simp [mset, h]
theorem mset_row {σ : Mem} {a k : Nat} {v : Int32} : mset σ a k v a = upd (σ a) k v := by
  funext j; simp [mset, upd]
theorem mset_at {σ : Mem} {a k : Nat} {v : Int32} : mset σ a k v a k = v := by simp [mset]
theorem mset_off {σ : Mem} {a k j : Nat} {v : Int32} (h : j ≠ k) : mset σ a k v a j = σ a j := by simp [mset, h]
theorem mcpy_ne {σ : Mem} {a sp b dp n : Nat} (c : Nat) (h : c ≠ b) : mcpy σ a sp b dp n c = σ c := by
  funext j; simp [mcpy, h]
theorem mcpy_row {σ : Mem} {a sp b dp n : Nat} : mcpy σ a sp b dp n b = va_cpy (σ a) (σ b) sp dp n := by
  funext j
  by_cases h : dp ≤ j ∧ j < dp + n
  · rw [pk_cpy_in h.1 h.2]; simp [mcpy, h]
  · rw [pk_cpy_out (by omega)]; simp [mcpy, h]
/-! the words that every method has: all good ones of the tables; the nest mates' links apart -/
def allW : List Cond := lw_tbl.filter goodWord
def isNest : Cond → Bool
  | .methodLinkNest _ _ _ _ => true
  | .fieldLinkNest _ _ _ _ _ _ => true
  | _ => false
def nestW : List Cond := lw_tbl.filter isNest
theorem allW_of {w : Cond} (h : w ∈ lw_tbl) (hg : goodWord w = true) : w ∈ allW := List.mem_filter.mpr ⟨h, hg⟩
theorem nestW_of {w : Cond} (h : w ∈ lw_tbl) (hg : isNest w = true) : w ∈ nestW := List.mem_filter.mpr ⟨h, hg⟩
theorem tb_mem {w : Cond} (h : w ∈ tables_1) : w ∈ lw_tbl := List.mem_append_right _ h
theorem good_all {ws : List Cond} (h : ∀ w ∈ ws, w ∈ allW) : GoodIn allW ws := fun w hw => ⟨h w hw, good_of_word (List.mem_filter.mp (h w hw)).2⟩
theorem nest_warm {w : Cond} (h : w ∈ nestW) {s U : State} (hW : s.WarmedH U.vm) (hz : va_Nw w s) : va_Nw w U := by
  have := (List.mem_filter.mp h).2
  cases w <;> first | exact va_Nw.warmM hW hz | exact va_Nw.warmF hW hz | exact Bool.noConfusion this
theorem nest_same {w : Cond} (h : w ∈ nestW) {u U : State} (hv : u.vm = U.vm) (hz : va_Nw w u) : va_Nw w U := by
  have := (List.mem_filter.mp h).2
  cases w <;> first | exact Bool.noConfusion this | exact va_Nw.same rfl hv hz
theorem nest_of {w : Cond} (h : w ∈ nestW) {A : Array Value} {U : State} (hz : w.before A U = true) : va_Nw w U := by
  have := (List.mem_filter.mp h).2
  cases w <;> first | exact Bool.noConfusion this | exact va_Nw.of rfl hz
/-! classes -/
def CLs (ci : Nat) (C : String) (T : u_T) (N : Nat) (ty : Nat → FieldType) : Prop := vwCl[ci]? = some (C, T, N) ∧ (∀ w ∈ u_ws C T N, w ∈ allW) ∧ (∀ k, k < N → parseFieldDescriptor (T k).2.2.1 = some (ty k)) ∧ ∀ a, a < N → ∀ b, b < N → a ≠ b → (T a).2.1 ≠ (T b).2.1
/-- a field by a pool entry: of class ci, its slot k, its type -/
def FLd (own : String) (idx ci k : Nat) (z : FieldType) (fin nest : Bool) : Prop := ∃ (C : String) (T : u_T) (N : Nat) (ty : Nat → FieldType), CLs ci C T N ty ∧ k < N ∧ ty k = z ∧ (T k).2.2.2 = fin ∧ (if nest then ∃ host, Cond.fieldLinkNest own idx (T k).1 (T k).2.1 (T k).2.2.1 host ∈ nestW else Cond.fieldLink own idx (T k).1 (T k).2.1 (T k).2.2.1 ∈ allW)
/-- a method that can be called: its code, its class made ready, how many parameters -/
def MFs (d : MD) (n : Nat) : Prop := Cond.code d.1 d.2.1 d.2.2.1 d.2.2.2 ∈ allW ∧ Cond.initialized d.1.cls ∈ allW ∧ (d.1.cls ≠ "java/lang/invoke/MethodHandle" ∧ d.1.cls ≠ "java/lang/invoke/VarHandle" ∧ (parseMethodDescriptor d.1.desc).map (fun q => q.parameters.length) = some n) ∧ d.2.2.1 ≤ 40
def MLk (own : String) (idx : Nat) (d : MD) (nest : Bool) : Prop := if nest then ∃ host, Cond.methodLinkNest own idx d.1 host ∈ nestW else Cond.methodLink own idx d.1 ∈ allW
def SVs (own : String) (idx : Nat) (d : MD) (n : Nat) (nest : Bool) : Prop := MFs d n ∧ MLk own idx d nest ∧ Cond.instanceMethod d.1 ∈ allW ∧ Cond.selects d.1.cls d.1 d.1 ∈ allW
def SSs (own : String) (idx : Nat) (d : MD) (n : Nat) (nest : Bool) : Prop := MFs d n ∧ MLk own idx d nest ∧ Cond.static d.1 ∈ allW
def mW (d : MD) : List Cond := Cond.code d.1 d.2.1 d.2.2.1 d.2.2.2 :: allW
def rm (D : Nat) : Room := { frames := D, cells := 0, slots := 0, locals := 64 * D }
def tysE (E : HE) : List (ClassId × FieldType) := [(E.2.1 0, .int), (E.2.1 1, .boolean), (E.2.1 2, .array .int)]
def nearF (j : Nat) : Value := .int (([-1, 0, 1, 1, 0, 4] : List Int32).getD j 0)
def nearV (j : Nat) : Int32 := ([-1, 0, 1, 1, 0, 4] : List Int32).getD j 0
/-- what a run of a method stands on -/
def Fx (E : HE) (A : Nat → Prop) (sc : Nat × (Nat → Int32)) (p : Program) (R : Room) (s : State) (m : MethodId) (args : Array Value) (c : Code) (cells slots : Nat) (d : MD) (D : Nat) : Prop :=
  p.tables.exec = Jvm.exec ∧ c.code = d.2.1 ∧ c.maxLocals = d.2.2.1 ∧ s.vm.findClass d.1.cls = some m.cls ∧ (∀ w ∈ allW, w.before args s = true) ∧ (∀ w ∈ nestW, va_Nw w s) ∧
  va_K E.2.2 vwCl (tysE E) s ∧ (∀ q : Nat, s.heap.size ≤ q → A q) ∧ va_Z "PaperHour" "NEAREST" "[I" (.ref (E.1 idNear)) A s s.heap ∧ va_T .int (E.1 idNear) 6 nearF A s s.heap ∧
  (d.1 = yL_law → va_X (E.1 idScr) sc.1 sc.2 s s.heap ∧ E.1 idScr < s.heap.size ∧ ¬ A (E.1 idScr)) ∧ D ≤ R.frames ∧ 64 * D ≤ R.locals ∧ cells ≤ R.cells ∧ slots ≤ R.slots
def isBv (v : Int32) : Bool := v == 0 || v == 1
def RetAt (d : MD) (pc : Nat) : Option Value → Prop
  | none => decode d.2.1 pc = .ok (.return_, 1) ∧ d.2.2.2 = none
  | some (.int v) => decode d.2.1 pc = .ok (.ireturn, 1) ∧ (d.2.2.2 = some .int ∨ (d.2.2.2 = some .boolean ∧ isBv v = true))
  | some (.ref _) => decode d.2.1 pc = .ok (.areturn, 1) ∧ ∃ C, d.2.2.2 = some (.object C)
  | some _ => False
/-- from here the method d comes to its end, with this answer and this memory -/
def Ev (l : Launch) (sc : Nat × (Nat → Int32)) (D : Nat) (d : MD) (pc : Nat) (ls : List (Nat × Value)) (st : List Value) (σ : Mem) (Y : Option Value × Mem) : Prop :=
  ∀ (E : HE) (A : Nat → Prop) (p : Program) (e : Jvm.Env) (R : Room) (s : State) (m : MethodId) (args : Array Value) (below : List Frame) (meth : Method) (c : Code) (cells slots : Nat) (Q : State → Prop),
    Fx E A sc p R s m args c cells slots d D →
    (∀ (pcr : Nat) (lsr : Array Slot) (Hr : Heap) (locsr : List Loc), va_P E.2.2 vwCl (wld E Y.2) Hr → va_D A (wld E Y.2) → va_S A s.heap Hr locsr → RetAt d pcr Y.1 → W p l e R s m args below meth c Hr locsr cells slots Q (F0 m pcr lsr (Y.1.toList.map (cv E)))) →
    ∀ (H : Heap) (locs : List Loc) (lsA : Array Slot), va_P E.2.2 vwCl (wld E σ) H → va_D A (wld E σ) → va_S A s.heap H locs → lv_has lsA d.2.2.1 (ls.map fun q => (q.1, cv E q.2)) →
      W p l e R s m args below meth c H locs cells slots Q (F0 m pc lsA (st.map (cv E)))
/-- if the pure answer is there, the method comes to it -/
def G {α : Type} (l : Launch) (sc : Nat × (Nat → Int32)) (D : Nat) (d : MD) (pc : Nat) (ls : List (Nat × Value)) (st : List Value) (σ : Mem) (o : Option α) (mk : α → Option Value × Mem) : Prop := ∀ y, o = some y → Ev l sc D d pc ls st σ (mk y)
/-- an instruction, its length, where the next one is -/
def Dc (d : MD) (pc : Nat) (i : Instr) (len nx : Nat) : Prop := decode d.2.1 pc = .ok (i, len) ∧ pc + len = nx
/-- the cells that a method may change -/
def fA (E : HE) (sz : Nat) : Nat → Prop := fun q => (∃ k, k < NC ∧ q = E.1 k) ∨ sz ≤ q
def Pw (E : HE) (σ : Mem) (sz : Nat) (U : State) : Prop := U.heap.size = sz ∧ va_P E.2.2 vwCl (wld E σ) U.heap ∧ va_K E.2.2 vwCl (tysE E) U ∧ va_D (fun _ => True) (wld E σ) ∧ (∀ w ∈ nestW, va_Nw w U) ∧ va_Z "PaperHour" "NEAREST" "[I" (.ref (E.1 idNear)) (fA E sz) U U.heap ∧ va_T .int (E.1 idNear) 6 nearF (fA E sz) U U.heap
def Qw (E : HE) (Y : Option Value × Mem) (sz : Nat) : Array Value → State → Outcome → State → Prop := fun _ st oc t => oc = .returned (Y.1.map (cv E)) ∧ (va_P E.2.2 vwCl (wld E Y.2) t.heap ∧ va_D (fA E sz) (wld E Y.2)) ∧ va_F (fA E sz) st t
/-- the method, as a caller sees it -/
def EvM (l : Launch) (D : Nat) (d : MD) (as : List Value) (σ : Mem) (Y : Option Value × Mem) : Prop :=
  ∀ (E : HE) (sz : Nat), Met l d.1 (mW d) (rm D) (va_Pc (as.map (cv E)) (Pw E σ sz)) (Qw E Y sz) 0 0 (fA E sz)
