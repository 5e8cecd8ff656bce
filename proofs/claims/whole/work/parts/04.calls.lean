/-! ===== calls, and a method out of its body ===== -/
section GC
variable {p : Program} {l : Launch} {e : Jvm.Env} {R : Room} {s : State} {m : MethodId} {args : Array Value} {below : List Frame} {meth : Method} {c : Code} {H : Heap} {locs : List Loc} {cells slots : Nat} {Q : State → Prop}
variable {pc : Nat} {lsA : Array Slot} {rest st0 : List Value} {a : Array Value} {A0 A1 : Nat → Prop} {H0 : Heap} {free : Addr → Prop}
theorem va_callg {Yv : Option Value} {B : State → Prop} (hr : va_Run p l e R s m args below meth c H locs cells slots 0 0 (F0 m pc lsA st0) rest (fun st oc t => oc = .returned Yv ∧ B t ∧ va_F A1 st t) free) (hS : va_S A0 H0 H locs) (hA : ∀ q, q < H.size → A1 q → A0 q) (hf : ∀ q, free q → A0 q)
    (kk : ∀ (t : State) (H1 : Heap) (locs1 : List Loc), t.heap = H1 → B t → va_S A0 H0 H1 locs1 → W p l e R s m args below meth c H1 locs1 cells slots Q (F0 m (pc + 3) lsA (Yv.toList ++ rest))) : W p l e R s m args below meth c H locs cells slots Q (F0 m pc lsA st0) := by
  intro T hT X
  obtain ⟨v, st₀, t, T', L, h0, X', hL, e1, e2, ⟨hv, hb, hz, hk⟩, st⟩ := hr T hT X
  cases hv
  rw [h0] at hz hk
  obtain ⟨t2, a1, b1⟩ := kk t T'.heap (locs ++ L) e1.symm hb
    ⟨Nat.le_trans hS.1 (by rw [e1]; exact hz), fun q h1 h2 => by rw [e1, hk q (Nat.lt_of_lt_of_le h1 hS.1) (fun z => h2 (hA q (Nat.lt_of_lt_of_le h1 hS.1) z))]; exact hS.2.1 q h1 h2, fun q hq => by
      rcases List.mem_append.mp hq with h | h
      · exact hS.2.2 q h
      · exact hf _ (hL q h)⟩ T' rfl X'
  exact ⟨t2, st t2 a1, b1⟩
end GC
theorem Pw_blind {E : HE} {σ : Mem} {sz : Nat} {av : List Value} : FrameBlind (va_Pc av (Pw E σ sz)) := by
  intro a U g mk h
  obtain ⟨h0, h1, h2, h3, h4, h5, h6, h7⟩ := h
  exact ⟨h0, h1, h2, va_K.moved (u := U) (U := U.calling g mk a) (Vm.Alike.refl U.vm) h3, h4, fun w hw => nest_same (u := U) (U := U.calling g mk a) hw rfl (h5 w hw), va_Z.moved (u := U) (U := U.calling g mk a) (Vm.Alike.refl U.vm) h6, va_T.moved (u := U) (U := U.calling g mk a) (Vm.Alike.refl U.vm) h7⟩
/-- the cell b is an object of class C -/
def OB (b : Nat) (C : String) : Prop := ∃ (ci : Nat) (ks : List (Nat × Nat)) (T : u_T) (N : Nat) (ty : Nat → FieldType), shp b = (2, ci, ks) ∧ CLs ci C T N ty
section GC2
variable {α β : Type} {l : Launch} {sc : Nat × (Nat → Int32)} {D pc nx : Nat} {d : MD} {ls : List (Nat × Value)} {st : List Value} {σ : Mem} {o : Option α} {mk : α → Option Value × Mem}
theorem fA_A {E : HE} {A : Nat → Prop} {s : State} {H : Heap} {locs : List Loc} (hD : va_D A (wld E σ)) (hS : va_S A s.heap H locs) (hA : ∀ q : Nat, s.heap.size ≤ q → A q) : ∀ q, fA E H.size q → A q := by
  intro q h
  rcases h with ⟨k, hk, rfl⟩ | h
  · exact hD.2 k _ (wld_get hk)
  · exact hA q (Nat.le_trans hS.1 h)
theorem fA_self {E : HE} {sz : Nat} {A : Nat → Prop} (h : va_D A (wld E σ)) : va_D (fA E sz) (wld E σ) := by
  refine ⟨h.1, fun k q hk => Or.inl ?_⟩
  have hlt : k < NC := by
    have := (List.getElem?_eq_some_iff.mp hk).1
    unfold wld at this; simpa using this
  rw [wld_get hlt] at hk
  cases hk
  exact ⟨k, hlt, rfl⟩
theorem wld_D {E : HE} {τ : Mem} {A : Nat → Prop} (h : va_D A (wld E σ)) : va_D A (wld E τ) := by
  have key : ∀ (μ : Mem) (i : Nat) (q : Nat × va_E), (wld E μ)[i]? = some q → i < NC ∧ q.1 = E.1 i := by
    intro μ i q hq
    have hlt : i < NC := by
      have := (List.getElem?_eq_some_iff.mp hq).1
      unfold wld at this; simpa using this
    rw [wld_get hlt] at hq
    cases hq
    exact ⟨hlt, rfl⟩
  refine ⟨fun i j x y hx hy hxy => ?_, fun k q hk => ?_⟩
  · obtain ⟨hi, ei⟩ := key τ i x hx
    obtain ⟨hj, ej⟩ := key τ j y hy
    exact h.1 i j _ _ (wld_get hi) (wld_get hj) (by show E.1 i = E.1 j; rw [← ei, ← ej]; exact hxy)
  · obtain ⟨hi, ei⟩ := key τ k q hk
    rw [ei]
    exact h.2 k _ (wld_get hi)
/-- the state at a call is one that the callee may start from -/
theorem Pw_at {E : HE} {A : Nat → Prop} {p : Program} {R : Room} {s : State} {m : MethodId} {args : Array Value} {c : Code} {cells slots : Nat} (F : Fx E A sc p R s m args c cells slots d D) {H : Heap} {locs : List Loc} (hP : va_P E.2.2 vwCl (wld E σ) H) (hD : va_D A (wld E σ)) (hS : va_S A s.heap H locs) {U : State} (hU : U.heap = H) (hW : s.WarmedH U.vm) : Pw E σ H.size U := by
  obtain ⟨-, -, -, -, -, hnw, hK, hA, hZ, hT, -⟩ := F
  subst hU
  have hfa := fA_A hD hS hA
  exact ⟨rfl, hP, va_K.moved hW.alike hK, hD.weaken (fun _ _ _ _ => trivial), fun w hw => nest_warm hw hW (hnw w hw), (va_Z.narrow (va_Z.kept (va_Z.moved hW.alike hZ) hS.2.1) hfa), (va_T.narrow (va_T.kept (va_T.moved hW.alike hT) hS.2.1) hfa)⟩
theorem callV_of {d2 : MD} {n : Nat} {nest : Bool} {b idx : Nat} {As : List Value} {Y : Option Value × Mem} {E : HE} {A : Nat → Prop} {p : Program} {e : Jvm.Env} {R : Room} {s : State} {m : MethodId} {args : Array Value} {below : List Frame} {meth : Method} {c : Code} {cells slots : Nat} (F : Fx E A sc p R s m args c cells slots d (D + 1)) {H : Heap} {locs : List Loc} {lsA : Array Slot} (hsz : lsA.size = d.2.2.1)
    (hi : decode d.2.1 pc = .ok (.invokevirtual idx, 3)) (hs : SVs d.1.cls idx d2 n nest) (hb : OB b d2.1.cls) (hn : As.length = n) (hst : st.length ≤ 4) (hM : EvM l D d2 (.ref b :: As) σ Y)
    (hP : va_P E.2.2 vwCl (wld E σ) H) (hD : va_D A (wld E σ)) (hS : va_S A s.heap H locs) {st0 : List Value} (hst0 : st0 = (As.map (cv E)).reverse ++ .ref (E.1 b) :: st.map (cv E)) :
    va_Run p l e R s m args below meth c H locs cells slots 0 0 (F0 m pc lsA st0) (st.map (cv E)) (Qw E Y H.size ((Value.ref b :: As).map (cv E)).toArray) (fA E H.size) := by
  subst hn
  obtain ⟨⟨hcode, hini, hdc, hml⟩, hlk, hin, hsel⟩ := hs
  obtain ⟨ci, ks, T, N, ty, hshp, ⟨hcl, -⟩⟩ := hb
  have hPre := fun (U : State) (hU : U.heap = H) (hW : s.WarmedH U.vm) => Pw_at F hP hD hS hU hW
  obtain ⟨hx, hbc, hmlc, hown, hts, hnw, hK, hA, hZ, hT, -, hRf, hRl, hcc, hss⟩ := F
  have hG : GoodIn allW (mW d2) := good_all (fun w hw => by
    rcases List.mem_cons.mp hw with rfl | h
    · exact hcode
    · exact h)
  have hR : (rm D).frames + 1 ≤ R.frames ∧ 8 + (d2.2.2.1 + 11) + (rm D).locals ≤ R.locals := ⟨hRf, by show 8 + (d2.2.2.1 + 11) + 64 * D ≤ R.locals; omega⟩
  have hroom : 2 * (F0 m pc lsA st0).monitorRoom + ((st.map (cv E)).map fun v => v.category).sum ≤ 8 := by
    refine lv_room ?_
    rw [List.map_map]
    have : ∀ L : List Value, ((L.map ((fun v => v.category) ∘ cv E)).sum ≤ 2 * L.length) := by
      intro L
      induction L with
      | nil => exact Nat.le_refl 0
      | cons v L ih =>
        simp only [List.map_cons, List.sum_cons, List.length_cons, Function.comp]
        rcases lv_cat (cv E v) with h | h <;> rw [h] <;> omega
    have := this st
    omega
  have hpv : PreV s H d2.1.cls (E.1 b) (va_Pc ((Value.ref b :: As).map (cv E)) (Pw E σ H.size)) (As.map (cv E)) :=
    ⟨Pw_blind, va_recv hK hP hcl (wld_obj hshp), fun U hU hW => ⟨rfl, hPre U hU hW⟩⟩
  have hMM := hM E H.size
  have hsel' := hts _ hsel
  cases nest with
  | false =>
    refine va_runV (Qc := Qw E Y H.size) ⟨hx, hbc, hmlc, hown, hts⟩ hMM (cwV As.length hts (good_all ?_) rfl rfl rfl ⟨rfl, hdc⟩ hR) hpv rfl (List.length_map _) hsz hst0 hroom hi ⟨hcc, hss⟩
    intro w hw
    simp only [wsV, List.mem_append, List.mem_cons, List.not_mem_nil, or_false] at hw
    rcases hw with (rfl | rfl | rfl | rfl) | hw
    · exact hlk
    · exact hin
    · exact hsel
    · exact hini
    · exact (hG w hw).1
  | true =>
    obtain ⟨host, hlk⟩ := hlk
    exact va_runVN (C := d2.1.cls) (Qc := Qw E Y H.size) ⟨hx, hbc, hmlc, hown, hts⟩ hMM ⟨va_cnB As.length hts hG rfl rfl rfl (hnw _ hlk) (hts _ hini) hdc hR, hts _ hin, hsel'⟩ hpv rfl (List.length_map _) hsz hst0 hroom hi ⟨hcc, hss⟩
theorem callS_of {d2 : MD} {n : Nat} {nest : Bool} {idx : Nat} {As : List Value} {Y : Option Value × Mem} {E : HE} {A : Nat → Prop} {p : Program} {e : Jvm.Env} {R : Room} {s : State} {m : MethodId} {args : Array Value} {below : List Frame} {meth : Method} {c : Code} {cells slots : Nat} (F : Fx E A sc p R s m args c cells slots d (D + 1)) {H : Heap} {locs : List Loc} {lsA : Array Slot} (hsz : lsA.size = d.2.2.1)
    (hi : decode d.2.1 pc = .ok (.invokestatic idx, 3)) (hs : SSs d.1.cls idx d2 n nest) (hn : As.length = n) (hst : st.length ≤ 4) (hM : EvM l D d2 As σ Y)
    (hP : va_P E.2.2 vwCl (wld E σ) H) (hD : va_D A (wld E σ)) (hS : va_S A s.heap H locs) {st0 : List Value} (hst0 : st0 = (As.map (cv E)).reverse ++ st.map (cv E)) :
    va_Run p l e R s m args below meth c H locs cells slots 0 0 (F0 m pc lsA st0) (st.map (cv E)) (Qw E Y H.size (As.map (cv E)).toArray) (fA E H.size) := by
  subst hn
  obtain ⟨⟨hcode, hini, hdc, hml⟩, hlk, hstt⟩ := hs
  have hPre := fun (U : State) (hU : U.heap = H) (hW : s.WarmedH U.vm) => Pw_at F hP hD hS hU hW
  obtain ⟨hx, hbc, hmlc, hown, hts, hnw, hK, hA, hZ, hT, -, hRf, hRl, hcc, hss⟩ := F
  have hG : GoodIn allW (mW d2) := good_all (fun w hw => by
    rcases List.mem_cons.mp hw with rfl | h
    · exact hcode
    · exact h)
  have hR : (rm D).frames + 1 ≤ R.frames ∧ 8 + (d2.2.2.1 + 11) + (rm D).locals ≤ R.locals := ⟨hRf, by show 8 + (d2.2.2.1 + 11) + 64 * D ≤ R.locals; omega⟩
  have hroom : 2 * (F0 m pc lsA st0).monitorRoom + ((st.map (cv E)).map fun v => v.category).sum ≤ 8 := by
    refine lv_room ?_
    rw [List.map_map]
    have : ∀ L : List Value, ((L.map ((fun v => v.category) ∘ cv E)).sum ≤ 2 * L.length) := by
      intro L
      induction L with
      | nil => exact Nat.le_refl 0
      | cons v L ih =>
        simp only [List.map_cons, List.sum_cons, List.length_cons, Function.comp]
        rcases lv_cat (cv E v) with h | h <;> rw [h] <;> omega
    have := this st
    omega
  have hpv : PreS s H (va_Pc (As.map (cv E)) (Pw E σ H.size)) (As.map (cv E)) := ⟨Pw_blind, fun U hU hW => ⟨rfl, hPre U hU hW⟩⟩
  have hMM := hM E H.size
  cases nest with
  | false =>
    refine va_runS (Qc := Qw E Y H.size) ⟨hx, hbc, hmlc, hown, hts⟩ hMM (va_cwS As.length hts (good_all ?_) rfl rfl rfl hdc hR) hpv rfl (List.length_map _) hsz hst0 hroom hi ⟨hcc, hss⟩
    intro w hw
    simp only [va_wsS, List.mem_append, List.mem_cons, List.not_mem_nil, or_false] at hw
    rcases hw with (rfl | rfl | rfl) | hw
    · exact hlk
    · exact hstt
    · exact hini
    · exact (hG w hw).1
  | true =>
    obtain ⟨host, hlk⟩ := hlk
    exact va_runSN (Qc := Qw E Y H.size) ⟨hx, hbc, hmlc, hown, hts⟩ hMM ⟨va_cnB As.length hts hG rfl rfl rfl (hnw _ hlk) (hts _ hini) hdc hR, hts _ hstt, trivial⟩ hpv rfl (List.length_map _) hsz hst0 hroom hi ⟨hcc, hss⟩
/-- EvM at another name of the depth -/
theorem EvM_cast {D1 D2 : Nat} {d2 : MD} {as : List Value} {Y : Option Value × Mem} (h : D1 = D2) (k : EvM l D1 d2 as σ Y) : EvM l D2 d2 as σ Y := h ▸ k
/-- a call of an instance method: o1 is the callee's pure answer, mk1 what it leaves -/
theorem g_callv {d2 : MD} {n : Nat} {nest : Bool} {b idx : Nat} {As S0 : List Value} {o1 : Option β} {mk1 : β → Option Value × Mem} {kf : β → Option α} (hi : Dc d pc (.invokevirtual idx) 3 nx) (hs : SVs d.1.cls idx d2 n nest) (hb : OB b d2.1.cls) (hn : As.length = n) (hst : st.length ≤ 4) (hS0 : S0 = As.reverse ++ .ref b :: st)
    (hM : ∀ y, o1 = some y → EvM l D d2 (.ref b :: As) σ (mk1 y)) (k : ∀ y, o1 = some y → G l sc (D + 1) d nx ls ((mk1 y).1.toList ++ st) (mk1 y).2 (kf y) mk) : G l sc (D + 1) d pc ls S0 σ (o1.bind kf) mk := by
  obtain ⟨hi, rfl⟩ := hi
  subst hS0
  intro v hv E A p e_ R s m args below meth c cells slots Q F K H locs lsA hP hD hS hl
  obtain ⟨y, hy, hv⟩ := Option.bind_eq_some_iff.mp hv
  have hrun := callV_of (l := l) (e := e_) (below := below) (meth := meth) F hl.1 hi hs hb hn hst (hM y hy) hP hD hS (st0 := (As.reverse ++ .ref b :: st).map (cv E)) (by rw [List.map_append, List.map_reverse]; rfl)
  have hfa := fA_A hD hS F.2.2.2.2.2.2.2.1
  refine va_callg hrun hS (fun q _ h => hfa q h) hfa (fun t H1 locs1 ht hB hS1 => ?_)
  subst ht
  have := k y hy v hv E A p e_ R s m args below meth c cells slots Q F K t.heap locs1 lsA hB.1 (wld_D hD) hS1 hl
  rw [List.map_append] at this
  have e2 : ((mk1 y).1.map (cv E)).toList = (mk1 y).1.toList.map (cv E) := by cases (mk1 y).1 <;> rfl
  rw [e2]
  exact this
theorem g_calls {d2 : MD} {n : Nat} {nest : Bool} {idx : Nat} {As S0 : List Value} {o1 : Option β} {mk1 : β → Option Value × Mem} {kf : β → Option α} (hi : Dc d pc (.invokestatic idx) 3 nx) (hs : SSs d.1.cls idx d2 n nest) (hn : As.length = n) (hst : st.length ≤ 4) (hS0 : S0 = As.reverse ++ st)
    (hM : ∀ y, o1 = some y → EvM l D d2 As σ (mk1 y)) (k : ∀ y, o1 = some y → G l sc (D + 1) d nx ls ((mk1 y).1.toList ++ st) (mk1 y).2 (kf y) mk) : G l sc (D + 1) d pc ls S0 σ (o1.bind kf) mk := by
  obtain ⟨hi, rfl⟩ := hi
  subst hS0
  intro v hv E A p e_ R s m args below meth c cells slots Q F K H locs lsA hP hD hS hl
  obtain ⟨y, hy, hv⟩ := Option.bind_eq_some_iff.mp hv
  have hrun := callS_of (l := l) (e := e_) (below := below) (meth := meth) F hl.1 hi hs hn hst (hM y hy) hP hD hS (st0 := (As.reverse ++ st).map (cv E)) (by rw [List.map_append, List.map_reverse])
  have hfa := fA_A hD hS F.2.2.2.2.2.2.2.1
  refine va_callg hrun hS (fun q _ h => hfa q h) hfa (fun t H1 locs1 ht hB hS1 => ?_)
  subst ht
  have := k y hy v hv E A p e_ R s m args below meth c cells slots Q F K t.heap locs1 lsA hB.1 (wld_D hD) hS1 hl
  rw [List.map_append] at this
  have e2 : ((mk1 y).1.map (cv E)).toList = (mk1 y).1.toList.map (cv E) := by cases (mk1 y).1 <;> rfl
  rw [e2]
  exact this
theorem g_callv_pi {d2 : MD} {n : Nat} {nest : Bool} {b idx : Nat} {As S0 : List Value} {o1 : Option (Int32)} {kf : Int32 → Option α} (hi : Dc d pc (.invokevirtual idx) 3 nx) (hs : SVs d.1.cls idx d2 n nest) (hb : OB b d2.1.cls) (hn : As.length = n) (hst : st.length ≤ 4) (hS0 : S0 = As.reverse ++ .ref b :: st) (hM : ∀ y, o1 = some y → EvM l D d2 (.ref b :: As) σ ((fun v => (some (.int v), σ)) y)) (k : ∀ y, G l sc (D + 1) d nx ls (.int y :: st) σ (kf y) mk) : G l sc (D + 1) d pc ls S0 σ (o1.bind kf) mk :=
  g_callv (mk1 := fun v => (some (.int v), σ)) hi hs hb hn hst hS0 hM (fun y _ => k y)
theorem g_callv_pr {d2 : MD} {n : Nat} {nest : Bool} {b idx : Nat} {As S0 : List Value} {o1 : Option (Nat)} {kf : Nat → Option α} (hi : Dc d pc (.invokevirtual idx) 3 nx) (hs : SVs d.1.cls idx d2 n nest) (hb : OB b d2.1.cls) (hn : As.length = n) (hst : st.length ≤ 4) (hS0 : S0 = As.reverse ++ .ref b :: st) (hM : ∀ y, o1 = some y → EvM l D d2 (.ref b :: As) σ ((fun v => (some (.ref v), σ)) y)) (k : ∀ y, G l sc (D + 1) d nx ls (.ref y :: st) σ (kf y) mk) : G l sc (D + 1) d pc ls S0 σ (o1.bind kf) mk :=
  g_callv (mk1 := fun v => (some (.ref v), σ)) hi hs hb hn hst hS0 hM (fun y _ => k y)
theorem g_callv_ii {d2 : MD} {n : Nat} {nest : Bool} {b idx : Nat} {As S0 : List Value} {o1 : Option (Int32 × Mem)} {kf : Int32 × Mem → Option α} (hi : Dc d pc (.invokevirtual idx) 3 nx) (hs : SVs d.1.cls idx d2 n nest) (hb : OB b d2.1.cls) (hn : As.length = n) (hst : st.length ≤ 4) (hS0 : S0 = As.reverse ++ .ref b :: st) (hM : ∀ y, o1 = some y → EvM l D d2 (.ref b :: As) σ ((fun v => (some (.int v.1), v.2)) y)) (k : ∀ (y : Int32) (τ : Mem), G l sc (D + 1) d nx ls (.int y :: st) τ (kf (y, τ)) mk) : G l sc (D + 1) d pc ls S0 σ (o1.bind kf) mk :=
  g_callv (mk1 := fun v => (some (.int v.1), v.2)) hi hs hb hn hst hS0 hM (fun y _ => by obtain ⟨a, b⟩ := y; exact k a b)
theorem g_callv_vv {d2 : MD} {n : Nat} {nest : Bool} {b idx : Nat} {As S0 : List Value} {o1 : Option (Mem)} {kf : Mem → Option α} (hi : Dc d pc (.invokevirtual idx) 3 nx) (hs : SVs d.1.cls idx d2 n nest) (hb : OB b d2.1.cls) (hn : As.length = n) (hst : st.length ≤ 4) (hS0 : S0 = As.reverse ++ .ref b :: st) (hM : ∀ y, o1 = some y → EvM l D d2 (.ref b :: As) σ ((fun v => (none, v)) y)) (k : ∀ y, G l sc (D + 1) d nx ls st y (kf y) mk) : G l sc (D + 1) d pc ls S0 σ (o1.bind kf) mk :=
  g_callv (mk1 := fun v => (none, v)) hi hs hb hn hst hS0 hM (fun y _ => k y)
theorem g_calls_pi {d2 : MD} {n : Nat} {nest : Bool} {idx : Nat} {As S0 : List Value} {o1 : Option (Int32)} {kf : Int32 → Option α} (hi : Dc d pc (.invokestatic idx) 3 nx) (hs : SSs d.1.cls idx d2 n nest) (hn : As.length = n) (hst : st.length ≤ 4) (hS0 : S0 = As.reverse ++ st) (hM : ∀ y, o1 = some y → EvM l D d2 As σ ((fun v => (some (.int v), σ)) y)) (k : ∀ y, G l sc (D + 1) d nx ls (.int y :: st) σ (kf y) mk) : G l sc (D + 1) d pc ls S0 σ (o1.bind kf) mk :=
  g_calls (mk1 := fun v => (some (.int v), σ)) hi hs hn hst hS0 hM (fun y _ => k y)
theorem g_calls_pr {d2 : MD} {n : Nat} {nest : Bool} {idx : Nat} {As S0 : List Value} {o1 : Option (Nat)} {kf : Nat → Option α} (hi : Dc d pc (.invokestatic idx) 3 nx) (hs : SSs d.1.cls idx d2 n nest) (hn : As.length = n) (hst : st.length ≤ 4) (hS0 : S0 = As.reverse ++ st) (hM : ∀ y, o1 = some y → EvM l D d2 As σ ((fun v => (some (.ref v), σ)) y)) (k : ∀ y, G l sc (D + 1) d nx ls (.ref y :: st) σ (kf y) mk) : G l sc (D + 1) d pc ls S0 σ (o1.bind kf) mk :=
  g_calls (mk1 := fun v => (some (.ref v), σ)) hi hs hn hst hS0 hM (fun y _ => k y)
theorem g_calls_ii {d2 : MD} {n : Nat} {nest : Bool} {idx : Nat} {As S0 : List Value} {o1 : Option (Int32 × Mem)} {kf : Int32 × Mem → Option α} (hi : Dc d pc (.invokestatic idx) 3 nx) (hs : SSs d.1.cls idx d2 n nest) (hn : As.length = n) (hst : st.length ≤ 4) (hS0 : S0 = As.reverse ++ st) (hM : ∀ y, o1 = some y → EvM l D d2 As σ ((fun v => (some (.int v.1), v.2)) y)) (k : ∀ (y : Int32) (τ : Mem), G l sc (D + 1) d nx ls (.int y :: st) τ (kf (y, τ)) mk) : G l sc (D + 1) d pc ls S0 σ (o1.bind kf) mk :=
  g_calls (mk1 := fun v => (some (.int v.1), v.2)) hi hs hn hst hS0 hM (fun y _ => by obtain ⟨a, b⟩ := y; exact k a b)
theorem g_calls_vv {d2 : MD} {n : Nat} {nest : Bool} {idx : Nat} {As S0 : List Value} {o1 : Option (Mem)} {kf : Mem → Option α} (hi : Dc d pc (.invokestatic idx) 3 nx) (hs : SSs d.1.cls idx d2 n nest) (hn : As.length = n) (hst : st.length ≤ 4) (hS0 : S0 = As.reverse ++ st) (hM : ∀ y, o1 = some y → EvM l D d2 As σ ((fun v => (none, v)) y)) (k : ∀ y, G l sc (D + 1) d nx ls st y (kf y) mk) : G l sc (D + 1) d pc ls S0 σ (o1.bind kf) mk :=
  g_calls (mk1 := fun v => (none, v)) hi hs hn hst hS0 hM (fun y _ => k y)
/-- a name for a number, for a memory -/
theorem g_nm {x : Int32} {kf : Int32 → Option α} (k : ∀ y, G l sc D d pc ls (.int y :: st) σ (kf y) mk) : G l sc D d pc ls (.int x :: st) σ ((some x).bind kf) mk := k x
theorem g_nml {x : Int64} {kf : Int64 → Option α} (k : ∀ y, G l sc D d pc ls (.long y :: st) σ (kf y) mk) : G l sc D d pc ls (.long x :: st) σ ((some x).bind kf) mk := k x
theorem g_mem {τ : Mem} {kf : Mem → Option α} (k : ∀ τ : Mem, G l sc D d pc ls st τ (kf τ) mk) : G l sc D d pc ls st τ ((some τ).bind kf) mk := k τ
theorem g_tabIn {dflt lo hh : Int} {offs : Array Int} {len : Nat} {x : Int32} {off : Int} {tgt : Nat} (hi : Dc d pc (.tableswitch dflt lo hh offs) len nx) (h1 : ¬ x.toInt < lo) (h2 : ¬ hh < x.toInt) (ho : offs[(x.toInt - lo).toNat]? = some off) (ht : (pc : Int) + off = (tgt : Int)) (k : G l sc D d tgt ls st σ o mk) : G l sc D d pc ls (.int x :: st) σ o mk := by
  obtain ⟨hi, -⟩ := hi
  intro v hv E A p e_ R s m args below meth c cells slots Q F K H locs lsA hP hD hS hl
  exact lv_tableIn F.1 F.2.1 hi h1 h2 ho ht (k v hv E A p e_ R s m args below meth c cells slots Q F K H locs lsA hP hD hS hl)
theorem g_tabOut {dflt lo hh : Int} {offs : Array Int} {len : Nat} {x : Int32} {tgt : Nat} (hi : Dc d pc (.tableswitch dflt lo hh offs) len nx) (h1 : x.toInt < lo ∨ hh < x.toInt) (ht : (pc : Int) + dflt = (tgt : Int)) (k : G l sc D d tgt ls st σ o mk) : G l sc D d pc ls (.int x :: st) σ o mk := by
  obtain ⟨hi, -⟩ := hi
  intro v hv E A p e_ R s m args below meth c cells slots Q F K H locs lsA hP hD hS hl
  exact lv_tableOut F.1 F.2.1 hi h1 ht (k v hv E A p e_ R s m args below meth c cells slots Q F K H locs lsA hP hD hS hl)
theorem g_lookup {dflt : Int} {ps : Array (Int × Int)} {len : Nat} {x : Int32} {off : Int} {tgt : Nat} (hi : Dc d pc (.lookupswitch dflt ps) len nx) (hp : (ps.toList.zip (ps.toList.drop 1)).all (fun (a, next) => a.1 < next.1) = true) (ho : Op.lookupswitch.offset ps.toList dflt x.toInt = off) (ht : (pc : Int) + off = (tgt : Int)) (k : G l sc D d tgt ls st σ o mk) : G l sc D d pc ls (.int x :: st) σ o mk := by
  obtain ⟨hi, -⟩ := hi
  intro v hv E A p e_ R s m args below meth c cells slots Q F K H locs lsA hP hD hS hl
  exact lv_lookup F.1 F.2.1 hi hp ho ht (k v hv E A p e_ R s m args below meth c cells slots Q F K H locs lsA hP hD hS hl)
theorem inB_lt {i : Int32} {n : Nat} (h : inB i n = true) : i.toNatClampNeg < n := Nat.not_le.mp fun q => inB_in h (Or.inr q)
/-- a method out of the walk of its body -/
theorem evM_of {as : List Value} {Y : Option Value × Mem} {nL : Nat} (hd : d.2.2.1 = nL) (hpl : plainName d.1.cls = true) (hnl : d.1 ≠ yL_law) (hlen : (lg_sl as).length ≤ nL)
    (hev : Ev l (0, fun _ => 0) D d 0 (lv_args 0 as) [] σ Y) : EvM l D d as σ Y := by
  intro E sz
  refine Met.ofW (cc := d.2.1) (maxL := d.2.2.1) (ret := d.2.2.2) hpl rfl ?_
  intro p e s m args below meth c s₁ B hml hv
  obtain ⟨rfl, hsz, hP, hK, hD0, hnw, hZ, hT⟩ := hv
  have hts := atoms_spec (ws := mW d) B.pre
  have hown : s.vm.findClass d.1.cls = some m.cls := findClass_of_methodNamed B.named
  have hlocks := B.notSynchronized
  have hr := B.returns
  have hx := B.exec
  have hb := B.bytes
  subst hsz
  have hD := fA_self (sz := s.heap.size) hD0
  have hA : ∀ q : Nat, s.heap.size ≤ q → fA E s.heap.size q := fun q h => Or.inr h
  have F : Fx E (fA E s.heap.size) (0, fun _ => 0) p (headSpec (mW d) (rm D)).room s m ((as.map (cv E)).toArray) c 0 0 d D := ⟨hx, hb, hml, hown, fun w hw => hts w (List.mem_cons_of_mem _ hw), hnw, hK, hA, hZ, hT, fun h => absurd h hnl, Nat.le_refl _, Nat.le_refl _, Nat.le_refl _, Nat.le_refl _⟩
  have hlg : ∀ L : List Value, (lg_sl (L.map (cv E))).length = (lg_sl L).length := by
    intro L
    simp only [lg_sl, List.length_flatMap, List.map_map]
    congr 1
    apply List.map_congr_left
    intro v _
    simp only [Function.comp, cv_cat]
    split <;> rfl
  have hla : ∀ (L : List Value) (i : Nat), lv_args i (L.map (cv E)) = (lv_args i L).map fun q => (q.1, cv E q.2) := by
    intro L
    induction L with
    | nil => intro i; rfl
    | cons v L ih => intro i; cases v <;> simp [lv_args, cv, ih, Value.category]
  have hl := lv_entry (as.map (cv E)) (n := d.2.2.1) (by rw [hlg, hd]; exact hlen)
  rw [lg_entry_eq]
  generalize (lg_sl (as.map (cv E)) ++ List.replicate (d.2.2.1 - (lg_sl (as.map (cv E))).length) Slot.unset).toArray = lsA at hl ⊢
  rw [hla] at hl
  refine hev E (fA E s.heap.size) p e _ s m _ below meth c 0 0 _ F ?_ s.heap [] lsA hP hD va_S.rf hl
  intro pcr lsr Hr locsr hPr hDr hSr hRet
  have hqq : ∀ t : State, t.heap = Hr → s.WarmedH t.vm → Qw E Y s.heap.size ((as.map (cv E)).toArray) s (.returned (Y.1.map (cv E))) t := fun t ht hW => ⟨rfl, ⟨by rw [ht]; exact hPr, hDr⟩, hSr.F ht⟩
  cases hY : Y.1 with
  | none =>
    rw [hY] at hRet
    rw [show Y.1.map (cv E) = none by rw [hY]; rfl] at hqq
    exact W.vret hx hb (hr.trans hRet.2) hqq hSr.2.2 hRet.1
  | some y =>
    rw [hY] at hRet
    rw [show Y.1.map (cv E) = some (cv E y) by rw [hY]; rfl] at hqq
    cases y with
    | int v =>
      obtain ⟨hRet, hz | ⟨hz, hb01⟩⟩ := hRet
      · exact W.iret (v := v) hx hb (hr.trans hz) hqq hSr.2.2 hRet
      · exact W.zret (v := v) hx hb (hr.trans hz) (bv_nar hb01).1 hqq hSr.2.2 hRet
    | ref v =>
      obtain ⟨hRet, C, hz⟩ := hRet
      exact W.aret hx hb (hr.trans hz) (Or.inl ⟨C, rfl⟩) (Or.inr ⟨_, rfl⟩) hqq hSr.2.2 hRet
    | _ => exact absurd hRet (fun h => h)
/-! the static row, the script, System.arraycopy -/
theorem g_gets {idx : Nat} {nest : Bool} (hi : Dc d pc (.getstatic idx) 3 nx) (hw : if nest then ∃ host, Cond.fieldLinkNest d.1.cls idx "PaperHour" "NEAREST" "[I" host ∈ nestW else Cond.fieldLink d.1.cls idx "PaperHour" "NEAREST" "[I" ∈ allW) (k : G l sc D d nx ls (.ref idNear :: st) σ o mk) : G l sc D d pc ls st σ o mk := by
  obtain ⟨hi, rfl⟩ := hi
  intro v hv E A p e_ R s m args below meth c cells slots Q F K H locs lsA hP hD hS hl
  cases nest with
  | false => exact va_gets F.1 F.2.1 F.2.2.2.2.2.2.2.2.1 hS F.2.2.2.1 (F.2.2.2.2.1 _ hw) (fun _ h => h) hi (k v hv E A p e_ R s m args below meth c cells slots Q F K H locs lsA hP hD hS hl)
  | true =>
    obtain ⟨host, hw⟩ := hw
    exact va_getsN F.1 F.2.1 F.2.2.2.2.2.2.2.2.1 hS F.2.2.2.1 (va_Nw.use rfl (F.2.2.2.2.2.1 _ hw)) (fun _ h => h) hi (k v hv E A p e_ R s m args below meth c cells slots Q F K H locs lsA hP hD hS hl)
theorem g_near {i : Int32} (hi : Dc d pc .iaload 1 nx) (k : inB i 6 = true → G l sc D d nx ls (.int (nearV i.toNatClampNeg) :: st) σ o mk) : G l sc D d pc ls (.int i :: .ref idNear :: st) σ (if inB i 6 = true then o else none) mk := by
  refine g_guard (fun hb => ?_)
  obtain ⟨hi, rfl⟩ := hi
  intro v hv E A p e_ R s m args below meth c cells slots Q F K H locs lsA hP hD hS hl
  exact va_ti F.1 F.2.1 F.2.2.2.2.2.2.2.2.2.1 hS (inB_in hb) rfl hi (k hb v hv E A p e_ R s m args below meth c cells slots Q F K H locs lsA hP hD hS hl)
theorem g_sld {i : Int32} (hlaw : d.1 = yL_law) (hi : Dc d pc .iaload 1 nx) (k : inB i sc.1 = true → G l sc D d nx ls (.int (sc.2 i.toNatClampNeg) :: st) σ o mk) : G l sc D d pc ls (.int i :: .ref idScr :: st) σ (if inB i sc.1 = true then o else none) mk := by
  refine g_guard (fun hb => ?_)
  obtain ⟨hi, rfl⟩ := hi
  intro v hv E A p e_ R s m args below meth c cells slots Q F K H locs lsA hP hD hS hl
  obtain ⟨hX, hbl, hbA⟩ := F.2.2.2.2.2.2.2.2.2.2.1 hlaw
  exact va_sld F.1 F.2.1 hX hbl hbA hS (inB_in hb) hi (k hb v hv E A p e_ R s m args below meth c cells slots Q F K H locs lsA hP hD hS hl)
theorem g_slen (hlaw : d.1 = yL_law) (hi : Dc d pc .arraylength 1 nx) (k : G l sc D d nx ls (.int (Int32.ofNat sc.1) :: st) σ o mk) : G l sc D d pc ls (.ref idScr :: st) σ o mk := by
  obtain ⟨hi, rfl⟩ := hi
  intro v hv E A p e_ R s m args below meth c cells slots Q F K H locs lsA hP hD hS hl
  obtain ⟨hX, hbl, hbA⟩ := F.2.2.2.2.2.2.2.2.2.2.1 hlaw
  exact va_slen F.1 F.2.1 hX hbl hbA hS hi (k v hv E A p e_ R s m args below meth c cells slots Q F K H locs lsA hP hD hS hl)
def okCopy (n0 n1 : Nat) (sp dp n : Int32) : Bool := decide (¬ sp < 0 ∧ ¬ dp < 0 ∧ ¬ n < 0 ∧ sp.toNatClampNeg + n.toNatClampNeg ≤ n0 ∧ dp.toNatClampNeg + n.toNatClampNeg ≤ n1)
theorem g_acopy {a b n0 n1 idx : Nat} {sp dp n : Int32} (hi : Dc d pc (.invokestatic idx) 3 nx) (hw : Cond.methodLink d.1.cls idx arraycopyName ∈ allW ∧ Cond.native arraycopyName ∈ allW ∧ Cond.static arraycopyName ∈ allW ∧ Cond.initialized "java/lang/System" ∈ allW) (hst : st.length ≤ 4) (ha : shp a = shA n0) (hb : shp b = shA n1) (k : okCopy n0 n1 sp dp n = true → G l sc (D + 1) d nx ls st (mcpy σ a sp.toNatClampNeg b dp.toNatClampNeg n.toNatClampNeg) o mk) :
    G l sc (D + 1) d pc ls (.int n :: .int dp :: .ref b :: .int sp :: .ref a :: st) σ (if okCopy n0 n1 sp dp n = true then o else none) mk := by
  refine g_guard (fun hok => ?_)
  obtain ⟨hi, rfl⟩ := hi
  obtain ⟨w1, w2, w3, w4⟩ := hw
  intro v hv E A p e_ R s m args below meth c cells slots Q F K H locs lsA hP hD hS hl
  obtain ⟨h1, h2, h3, h4, h5⟩ : ¬ sp < 0 ∧ ¬ dp < 0 ∧ ¬ n < 0 ∧ sp.toNatClampNeg + n.toNatClampNeg ≤ n0 ∧ dp.toNatClampNeg + n.toNatClampNeg ≤ n1 := by unfold okCopy at hok; exact of_decide_eq_true hok
  have hsum : ((st.map (cv E)).map fun v => v.category).sum ≤ 8 := by
    rw [List.map_map]
    have : ∀ L : List Value, ((L.map ((fun v => v.category) ∘ cv E)).sum ≤ 2 * L.length) := by
      intro L
      induction L with
      | nil => exact Nat.le_refl 0
      | cons v L ih =>
        simp only [List.map_cons, List.sum_cons, List.length_cons, Function.comp]
        rcases lv_cat (cv E v) with h | h <;> rw [h] <;> omega
    have := this st
    omega
  have hF := F
  obtain ⟨hx, hbc, hmlc, hown, hts, hnw, hK, hA, hZ, hT, -, hRf, hRl, hcc, hss⟩ := F
  have hwords : nativeFrameWords "java/lang/System" "arraycopy" 5 + 11 ≤ 50 := by decide +kernel
  refine va_copyi hx hbc (hmlc.trans hl.1.symm) hown (hts _ w1) (hts _ w2) (hts _ w3) (hts _ w4) hK hP hD hS a b 0 0 (ty := .int) (wld_arr ha) (wld_arr hb) rfl rfl rfl h1 h2 h3 h4 h5 (fun _ _ => rfl) (by omega) (by omega) hi (fun H1 locs1 hP1 hD1 hS1 => ?_)
  have e := wld_set (E := E) (σ := σ) (τ := mcpy σ a sp.toNatClampNeg b dp.toNatClampNeg n.toNatClampNeg) (a := b) (e := .inl (E.2.1 0, n1, .inl (va_cpy (σ a) (σ b) sp.toNatClampNeg dp.toNatClampNeg n.toNatClampNeg))) (shp_lt (by rw [hb]; simp [shA])) mcpy_ne (by rw [hb]; show _ = Sum.inl _; rw [mcpy_row]; rfl)
  rw [e] at hP1 hD1
  exact k hok v hv E A p e_ R s m args below meth c cells slots Q hF K H1 locs1 lsA hP1 hD1 hS1 hl
theorem cat_sum {E : HE} (st : List Value) (hst : st.length ≤ 4) : ((st.map (cv E)).map fun v => v.category).sum ≤ 8 := by
  rw [List.map_map]
  have : ∀ L : List Value, ((L.map ((fun v => v.category) ∘ cv E)).sum ≤ 2 * L.length) := by
    intro L
    induction L with
    | nil => exact Nat.le_refl 0
    | cons v L ih =>
      simp only [List.map_cons, List.sum_cons, List.length_cons, Function.comp]
      rcases lv_cat (cv E v) with h | h <;> rw [h] <;> omega
  have := this st
  omega
def imax (x y : Int32) : Int32 := if x < y then y else x
def iabs (x : Int32) : Int32 := if 0 ≤ x then x else 0 - x
theorem g_max {idx : Nat} {x y : Int32} (hi : Dc d pc (.invokestatic idx) 3 nx) (hw : Cond.methodLink d.1.cls idx Lib.Math.max.name ∈ allW ∧ Cond.static Lib.Math.max.name ∈ allW ∧ Cond.initialized "java/lang/Math" ∈ allW ∧ Cond.code Lib.Math.max.name Lib.Math.max.code 2 (some .int) ∈ allW) (hst : st.length ≤ 4) (k : G l sc (D + 1) d nx ls (.int (imax x y) :: st) σ o mk) : G l sc (D + 1) d pc ls (.int y :: .int x :: st) σ o mk := by
  obtain ⟨hi, rfl⟩ := hi
  obtain ⟨w1, w2, w3, w4⟩ := hw
  intro v hv E A p e_ R s m args below meth c cells slots Q F K H locs lsA hP hD hS hl
  have hsum := cat_sum (E := E) st hst
  have hF := F
  obtain ⟨hx, hbc, hmlc, hown, hts, hnw, hK, hA, hZ, hT, -, hRf, hRl, hcc, hss⟩ := F
  exact va_mmax hx hbc (hmlc.trans hl.1.symm) hown (hts _ w1) (hts _ w2) (hts _ w3) (hts _ w4) (by omega) (by omega) hcc hss hi (k v hv E A p e_ R s m args below meth c cells slots Q hF K H locs lsA hP hD hS hl)
theorem g_abs {idx : Nat} {x : Int32} (hi : Dc d pc (.invokestatic idx) 3 nx) (hw : Cond.methodLink d.1.cls idx Lib.Math.abs.name ∈ allW ∧ Cond.static Lib.Math.abs.name ∈ allW ∧ Cond.initialized "java/lang/Math" ∈ allW ∧ Cond.code Lib.Math.abs.name Lib.Math.abs.code 1 (some .int) ∈ allW) (hst : st.length ≤ 4) (k : G l sc (D + 1) d nx ls (.int (iabs x) :: st) σ o mk) : G l sc (D + 1) d pc ls (.int x :: st) σ o mk := by
  obtain ⟨hi, rfl⟩ := hi
  obtain ⟨w1, w2, w3, w4⟩ := hw
  intro v hv E A p e_ R s m args below meth c cells slots Q F K H locs lsA hP hD hS hl
  have hsum := cat_sum (E := E) st hst
  have hF := F
  obtain ⟨hx, hbc, hmlc, hown, hts, hnw, hK, hA, hZ, hT, -, hRf, hRl, hcc, hss⟩ := F
  exact va_mabs hx hbc (hmlc.trans hl.1.symm) hown (hts _ w1) (hts _ w2) (hts _ w3) (hts _ w4) (by omega) (by omega) hcc hss hi (k v hv E A p e_ R s m args below meth c cells slots Q hF K H locs lsA hP hD hS hl)
end GC2
