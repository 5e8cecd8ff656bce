set_option maxHeartbeats 4000000 in
set_option maxRecDepth 100000 in
theorem t_X8_in {l : Launch} {sc : Nat × (Nat → Int32)} {D : Nat} {σ : Mem} {x0 : Int32} {x1 : Int32} {x2 : Int32} : G l sc (D + 0) m_X8_in 0 [(0, .int x0), (1, .int x1), (2, .int x2)] [] σ (f_X8_in σ x0 x1 x2) (fun y => (some (.int y), σ)) := by
  unfold f_X8_in
  refine g_iload_n (n := 0) d_X8_in_0 rfl rfl ?_
  refine g_iload_n (n := 1) d_X8_in_1 rfl rfl ?_
  refine g_icmp_lt (tgt := 14) d_X8_in_2 (by decide) (fun c1 => ?_) (fun c1 => ?_)
  · refine g_iconst (v := 0) d_X8_in_14 (by decide) ?_
    exact g_iret d_X8_in_15 (Or.inr ⟨rfl, rfl⟩) rfl
  · refine g_iload_n (n := 0) d_X8_in_5 rfl rfl ?_
    refine g_iload_n (n := 2) d_X8_in_6 rfl rfl ?_
    refine g_icmp_gt (tgt := 14) d_X8_in_7 (by decide) (fun c2 => ?_) (fun c2 => ?_)
    · refine g_iconst (v := 0) d_X8_in_14 (by decide) ?_
      exact g_iret d_X8_in_15 (Or.inr ⟨rfl, rfl⟩) rfl
    · refine g_iconst (v := 1) d_X8_in_10 (by decide) ?_
      refine g_goto (tgt := 15) d_X8_in_11 (by decide) ?_
      exact g_iret d_X8_in_15 (Or.inr ⟨rfl, rfl⟩) rfl
theorem e_X8_in {l : Launch} {D : Nat} {σ : Mem} {x0 : Int32} {x1 : Int32} {x2 : Int32} {y : Int32} (hy : f_X8_in σ x0 x1 x2 = some y) : EvM l (D + 0) m_X8_in [.int x0, .int x1, .int x2] σ ((fun y => (some (.int y), σ)) y) :=
  evM_of (d := m_X8_in) (nL := 3) rfl (by decide +kernel) (fun h => absurd (congrArg MethodName.cls h) (by decide +kernel)) (Nat.le_of_ble_eq_true rfl) (t_X8_in y hy)

set_option maxHeartbeats 4000000 in
set_option maxRecDepth 100000 in
theorem t_X8_isIn {l : Launch} {sc : Nat × (Nat → Int32)} {D : Nat} {σ : Mem} {x0 : Int32} {x1 : Int32} : G l sc (D + 0) m_X8_isIn 0 [(0, .int x0), (1, .int x1)] [] σ (f_X8_isIn σ x0 x1) (fun y => (some (.int y), σ)) := by
  unfold f_X8_isIn
  refine g_iload_n (n := 0) d_X8_isIn_0 rfl rfl ?_
  refine g_iload_n (n := 1) d_X8_isIn_1 rfl rfl ?_
  refine g_ishr d_X8_isIn_2 ?_
  refine g_iconst (v := 1) d_X8_isIn_3 (by decide) ?_
  refine g_iand d_X8_isIn_4 ?_
  refine g_iconst (v := 1) d_X8_isIn_5 (by decide) ?_
  refine g_icmp_ne (tgt := 13) d_X8_isIn_6 (by decide) (fun c1 => ?_) (fun c1 => ?_)
  · refine g_iconst (v := 0) d_X8_isIn_13 (by decide) ?_
    exact g_iret d_X8_isIn_14 (Or.inr ⟨rfl, rfl⟩) rfl
  · refine g_iconst (v := 1) d_X8_isIn_9 (by decide) ?_
    refine g_goto (tgt := 14) d_X8_isIn_10 (by decide) ?_
    exact g_iret d_X8_isIn_14 (Or.inr ⟨rfl, rfl⟩) rfl
theorem e_X8_isIn {l : Launch} {D : Nat} {σ : Mem} {x0 : Int32} {x1 : Int32} {y : Int32} (hy : f_X8_isIn σ x0 x1 = some y) : EvM l (D + 0) m_X8_isIn [.int x0, .int x1] σ ((fun y => (some (.int y), σ)) y) :=
  evM_of (d := m_X8_isIn) (nL := 2) rfl (by decide +kernel) (fun h => absurd (congrArg MethodName.cls h) (by decide +kernel)) (Nat.le_of_ble_eq_true rfl) (t_X8_isIn y hy)

set_option maxHeartbeats 4000000 in
set_option maxRecDepth 100000 in
theorem t_X8_lay_b3 {l : Launch} {sc : Nat × (Nat → Int32)} {D : Nat} {n : Nat} {k3 : Nat → Int32 → Nat → Int32 → Int32 → Mem → Option Mem} {x0 : Nat} {x1 : Int32} {x2 : Nat} {x3 : Int32} {x4 : Int32} {σ : Mem} (hk3 : ∀ x0 x1 x2 x3 x4 σ, G l sc (D + 0) m_X8_lay 3 [(0, .ref x0), (1, .int x1), (2, .ref x2), (3, .int x3), (4, .int x4)] [] σ (k3 x0 x1 x2 x3 x4 σ) (fun τ => (none, τ))) : G l sc (D + 0) m_X8_lay 3 [(0, .ref x0), (1, .int x1), (2, .ref x2), (3, .int x3), (4, .int x4)] [] σ (f_X8_lay_b3 n k3 x0 x1 x2 x3 x4 σ) (fun τ => (none, τ)) := by
  unfold f_X8_lay_b3
  refine g_iload (n := 4) d_X8_lay_3 rfl ?_
  refine g_bipush (v := 33) d_X8_lay_5 (by decide) ?_
  refine g_icmp_ge (tgt := 28) d_X8_lay_7 (by decide) (fun c1 => ?_) (fun c1 => ?_)
  · exact g_vret d_X8_lay_28 rfl rfl
  · refine g_aload_n (n := 2) d_X8_lay_10 rfl rfl ?_
    refine g_iload_n (n := 3) d_X8_lay_11 rfl rfl ?_
    refine g_iload (n := 4) d_X8_lay_12 rfl ?_
    refine g_iadd d_X8_lay_14 ?_
    refine g_aload_n (n := 0) d_X8_lay_15 rfl rfl ?_
    refine g_iload_n (n := 1) d_X8_lay_16 rfl rfl ?_
    refine g_iload (n := 4) d_X8_lay_17 rfl ?_
    refine g_iadd d_X8_lay_19 ?_
    refine g_guard (fun h2 => ?_)
    refine g_iaload d_X8_lay_20 (shp_IA h2) (fun _ => ?_)
    refine g_guard (fun h3 => ?_)
    refine g_iastore d_X8_lay_21 (shp_IA h3) (fun _ => ?_)
    refine g_mem (fun σ4 => ?_)
    refine g_iinc (n := 4) (w := 1) d_X8_lay_22 rfl (by decide) (by decide) rfl ?_
    refine g_goto (tgt := 3) d_X8_lay_25 (by decide) ?_
    refine g_sub [1, 2, 3, 4, 0] rfl ?_
    exact hk3 _ _ _ _ _ _
set_option maxHeartbeats 4000000 in
set_option maxRecDepth 100000 in
theorem t_X8_lay_l3 {l : Launch} {sc : Nat × (Nat → Int32)} {D : Nat} {n : Nat} : ∀ (f : Nat) (x0 : Nat) (x1 : Int32) (x2 : Nat) (x3 : Int32) (x4 : Int32) (σ : Mem), G l sc (D + 0) m_X8_lay 3 [(0, .ref x0), (1, .int x1), (2, .ref x2), (3, .int x3), (4, .int x4)] [] σ (f_X8_lay_l3 n f x0 x1 x2 x3 x4 σ) (fun τ => (none, τ)) := by
  intro f
  induction f with
  | zero => intro x0 x1 x2 x3 x4 σ; exact g_none
  | succ f ih => intro x0 x1 x2 x3 x4 σ; exact t_X8_lay_b3 ih
set_option maxHeartbeats 4000000 in
set_option maxRecDepth 100000 in
theorem t_X8_lay {l : Launch} {sc : Nat × (Nat → Int32)} {D : Nat} {n : Nat} {x0 : Nat} {x1 : Int32} {x2 : Nat} {x3 : Int32} {σ : Mem} : G l sc (D + 0) m_X8_lay 0 [(0, .ref x0), (1, .int x1), (2, .ref x2), (3, .int x3)] [] σ (f_X8_lay n x0 x1 x2 x3 σ) (fun τ => (none, τ)) := by
  unfold f_X8_lay
  refine g_iconst (v := 0) d_X8_lay_0 (by decide) ?_
  refine g_istore d_X8_lay_1 (by decide) rfl ?_
  refine g_sub [1, 2, 3, 4, 0] rfl ?_
  exact t_X8_lay_l3  _ _ _ _ _ _ _
theorem e_X8_lay {l : Launch} {D : Nat} {n : Nat} {x0 : Nat} {x1 : Int32} {x2 : Nat} {x3 : Int32} {σ : Mem} {y : Mem} (hy : f_X8_lay n x0 x1 x2 x3 σ = some y) : EvM l (D + 0) m_X8_lay [.ref x0, .int x1, .ref x2, .int x3] σ ((fun τ => (none, τ)) y) :=
  evM_of (d := m_X8_lay) (nL := 5) rfl (by decide +kernel) (fun h => absurd (congrArg MethodName.cls h) (by decide +kernel)) (Nat.le_of_ble_eq_true rfl) (t_X8_lay y hy)

set_option maxHeartbeats 4000000 in
set_option maxRecDepth 100000 in
theorem t_X8_isTown {l : Launch} {sc : Nat × (Nat → Int32)} {D : Nat} {σ : Mem} : G l sc (D + 0) m_X8_isTown 0 [(0, .ref 77)] [] σ (f_X8_isTown σ ) (fun y => (some (.int y), σ)) := by
  unfold f_X8_isTown
  refine g_aload_n (n := 0) d_X8_isTown_0 rfl rfl ?_
  refine g_getr d_X8_isTown_1 fl_X8_22 sh_77 rfl ?_
  refine g_bipush (v := 8) d_X8_isTown_4 (by decide) ?_
  refine g_iaload d_X8_isTown_6 sh_82 (fun _ => ?_)
  refine g_iconst (v := 1) d_X8_isTown_7 (by decide) ?_
  refine g_icmp_ne (tgt := 15) d_X8_isTown_8 (by decide) (fun c1 => ?_) (fun c1 => ?_)
  · refine g_iconst (v := 0) d_X8_isTown_15 (by decide) ?_
    exact g_iret d_X8_isTown_16 (Or.inr ⟨rfl, rfl⟩) rfl
  · refine g_iconst (v := 1) d_X8_isTown_11 (by decide) ?_
    refine g_goto (tgt := 16) d_X8_isTown_12 (by decide) ?_
    exact g_iret d_X8_isTown_16 (Or.inr ⟨rfl, rfl⟩) rfl
theorem e_X8_isTown {l : Launch} {D : Nat} {σ : Mem} {y : Int32} (hy : f_X8_isTown σ = some y) : EvM l (D + 0) m_X8_isTown [.ref 77] σ ((fun y => (some (.int y), σ)) y) :=
  evM_of (d := m_X8_isTown) (nL := 1) rfl (by decide +kernel) (fun h => absurd (congrArg MethodName.cls h) (by decide +kernel)) (Nat.le_of_ble_eq_true rfl) (t_X8_isTown y hy)

set_option maxHeartbeats 4000000 in
set_option maxRecDepth 100000 in
theorem t_X8_isOne {l : Launch} {sc : Nat × (Nat → Int32)} {D : Nat} {σ : Mem} {x1 : Int32} : G l sc (D + 1) m_X8_isOne 0 [(0, .ref 77), (1, .int x1)] [] σ (f_X8_isOne σ x1) (fun y => (some (.int y), σ)) := by
  unfold f_X8_isOne
  refine g_iload_n (n := 1) d_X8_isOne_0 rfl rfl ?_
  refine g_iconst (v := 0) d_X8_isOne_1 (by decide) ?_
  refine g_aload_n (n := 0) d_X8_isOne_2 rfl rfl ?_
  refine g_getr d_X8_isOne_3 fl_X8_22 sh_77 rfl ?_
  refine g_iconst (v := 4) d_X8_isOne_6 (by decide) ?_
  refine g_iaload d_X8_isOne_7 sh_82 (fun _ => ?_)
  refine g_iconst (v := 1) d_X8_isOne_8 (by decide) ?_
  refine g_isub d_X8_isOne_9 ?_
  refine g_calls_pi (D := D + 0) (As := [.int x1, .int 0, .int ((σ 82 (4 : Int32).toNatClampNeg) - 1)]) d_X8_isOne_10 ss_X8_59 rfl (Nat.le_of_ble_eq_true rfl) rfl (fun _ hy => EvM_cast (by omega) (e_X8_in (D := D + 0) hy)) (fun y1 => ?_)
  refine g_guard (fun h2 => ?_)
  exact g_iret d_X8_isOne_13 (Or.inr ⟨rfl, h2⟩) rfl
theorem e_X8_isOne {l : Launch} {D : Nat} {σ : Mem} {x1 : Int32} {y : Int32} (hy : f_X8_isOne σ x1 = some y) : EvM l (D + 1) m_X8_isOne [.ref 77, .int x1] σ ((fun y => (some (.int y), σ)) y) :=
  evM_of (d := m_X8_isOne) (nL := 2) rfl (by decide +kernel) (fun h => absurd (congrArg MethodName.cls h) (by decide +kernel)) (Nat.le_of_ble_eq_true rfl) (t_X8_isOne y hy)

set_option maxHeartbeats 4000000 in
set_option maxRecDepth 100000 in
theorem t_X8_finds {l : Launch} {sc : Nat × (Nat → Int32)} {D : Nat} {x1 : Int32} {σ : Mem} : G l sc (D + 0) m_X8_finds 0 [(0, .ref 77), (1, .int x1)] [] σ (f_X8_finds x1 σ) (fun y => (some (.int y.1), y.2)) := by
  unfold f_X8_finds
  refine g_aload_n (n := 0) d_X8_finds_0 rfl rfl ?_
  refine g_iload_n (n := 1) d_X8_finds_1 rfl rfl ?_
  refine g_puti d_X8_finds_2 fl_X8_63 sh_77 rfl ?_
  refine g_mem (fun σ1 => ?_)
  refine g_ldc d_X8_finds_5 kc_X8_67 ?_
  refine g_iload_n (n := 1) d_X8_finds_7 rfl rfl ?_
  refine g_isub d_X8_finds_8 ?_
  exact g_iret d_X8_finds_9 (Or.inl rfl) rfl
theorem e_X8_finds {l : Launch} {D : Nat} {x1 : Int32} {σ : Mem} {y : (Int32 × Mem)} (hy : f_X8_finds x1 σ = some y) : EvM l (D + 0) m_X8_finds [.ref 77, .int x1] σ ((fun y => (some (.int y.1), y.2)) y) :=
  evM_of (d := m_X8_finds) (nL := 2) rfl (by decide +kernel) (fun h => absurd (congrArg MethodName.cls h) (by decide +kernel)) (Nat.le_of_ble_eq_true rfl) (t_X8_finds y hy)

set_option maxHeartbeats 4000000 in
set_option maxRecDepth 100000 in
theorem t_X8_done {l : Launch} {sc : Nat × (Nat → Int32)} {D : Nat} {x1 : Int32} {σ : Mem} : G l sc (D + 0) m_X8_done 0 [(0, .ref 77), (1, .int x1)] [] σ (f_X8_done x1 σ) (fun y => (some (.int y.1), y.2)) := by
  unfold f_X8_done
  refine g_aload_n (n := 0) d_X8_done_0 rfl rfl ?_
  refine g_iconst (v := 0) d_X8_done_1 (by decide) ?_
  refine g_puti d_X8_done_2 fl_X8_63 sh_77 rfl ?_
  refine g_mem (fun σ1 => ?_)
  refine g_iload_n (n := 1) d_X8_done_5 rfl rfl ?_
  exact g_iret d_X8_done_6 (Or.inl rfl) rfl
theorem e_X8_done {l : Launch} {D : Nat} {x1 : Int32} {σ : Mem} {y : (Int32 × Mem)} (hy : f_X8_done x1 σ = some y) : EvM l (D + 0) m_X8_done [.ref 77, .int x1] σ ((fun y => (some (.int y.1), y.2)) y) :=
  evM_of (d := m_X8_done) (nL := 2) rfl (by decide +kernel) (fun h => absurd (congrArg MethodName.cls h) (by decide +kernel)) (Nat.le_of_ble_eq_true rfl) (t_X8_done y hy)

set_option maxHeartbeats 4000000 in
set_option maxRecDepth 100000 in
theorem t_X8_isRow {l : Launch} {sc : Nat × (Nat → Int32)} {D : Nat} {σ : Mem} {x0 : Int32} : G l sc (D + 1) m_X8_isRow 0 [(0, .int x0)] [] σ (f_X8_isRow σ x0) (fun y => (some (.int y), σ)) := by
  unfold f_X8_isRow
  refine g_iload_n (n := 0) d_X8_isRow_0 rfl rfl ?_
  refine g_iconst (v := 0) d_X8_isRow_1 (by decide) ?_
  refine g_bipush (v := 7) d_X8_isRow_2 (by decide) ?_
  refine g_calls_pi (D := D + 0) (As := [.int x0, .int 0, .int 7]) d_X8_isRow_4 ss_X8_59 rfl (Nat.le_of_ble_eq_true rfl) rfl (fun _ hy => EvM_cast (by omega) (e_X8_in (D := D + 0) hy)) (fun y1 => ?_)
  refine g_guard (fun h2 => ?_)
  exact g_iret d_X8_isRow_7 (Or.inr ⟨rfl, h2⟩) rfl
theorem e_X8_isRow {l : Launch} {D : Nat} {σ : Mem} {x0 : Int32} {y : Int32} (hy : f_X8_isRow σ x0 = some y) : EvM l (D + 1) m_X8_isRow [.int x0] σ ((fun y => (some (.int y), σ)) y) :=
  evM_of (d := m_X8_isRow) (nL := 1) rfl (by decide +kernel) (fun h => absurd (congrArg MethodName.cls h) (by decide +kernel)) (Nat.le_of_ble_eq_true rfl) (t_X8_isRow y hy)

set_option maxHeartbeats 4000000 in
set_option maxRecDepth 100000 in
theorem t_X8_row_b52 {l : Launch} {sc : Nat × (Nat → Int32)} {D : Nat} {n : Nat} {k52 : Int32 → Int32 → Int32 → Mem → Option (Int32 × Mem)} {x1 : Int32} {x3 : Int32} {x4 : Int32} {σ : Mem} (hk52 : ∀ x1 x3 x4 σ, G l sc (D + 2) m_X8_row 52 [(0, .ref 77), (1, .int x1), (3, .int x3), (4, .int x4)] [] σ (k52 x1 x3 x4 σ) (fun y => (some (.int y.1), y.2))) : G l sc (D + 2) m_X8_row 52 [(0, .ref 77), (1, .int x1), (3, .int x3), (4, .int x4)] [] σ (f_X8_row_b52 n k52 x1 x3 x4 σ) (fun y => (some (.int y.1), y.2)) := by
  unfold f_X8_row_b52
  refine g_iload (n := 3) d_X8_row_52 rfl ?_
  refine g_bipush (v := 40) d_X8_row_54 (by decide) ?_
  refine g_icmp_ge (tgt := 78) d_X8_row_56 (by decide) (fun c1 => ?_) (fun c1 => ?_)
  · refine g_aload_n (n := 0) d_X8_row_78 rfl rfl ?_
    refine g_iload_n (n := 2) d_X8_row_79 rfl rfl ?_
    refine g_callv_ii (D := D + 1) (As := [.int x3]) d_X8_row_80 sv_X8_77 ob_77 rfl (Nat.le_of_ble_eq_true rfl) rfl (fun _ hy => EvM_cast (by omega) (e_X8_done (D := D + 1) hy)) (fun y2 σ3 => ?_)
    exact g_iret d_X8_row_83 (Or.inl rfl) rfl
  · refine g_aload_n (n := 0) d_X8_row_59 rfl rfl ?_
    refine g_getr d_X8_row_60 fl_X8_16 sh_77 rfl ?_
    refine g_bipush (v := 40) d_X8_row_63 (by decide) ?_
    refine g_iload_n (n := 1) d_X8_row_65 rfl rfl ?_
    refine g_imul d_X8_row_66 ?_
    refine g_iload (n := 3) d_X8_row_67 rfl ?_
    refine g_iadd d_X8_row_69 ?_
    refine g_iconst (v := 0) d_X8_row_70 (by decide) ?_
    refine g_iastore d_X8_row_71 sh_80 (fun _ => ?_)
    refine g_mem (fun σ4 => ?_)
    refine g_iinc (n := 3) (w := 1) d_X8_row_72 rfl (by decide) (by decide) rfl ?_
    refine g_goto (tgt := 52) d_X8_row_75 (by decide) ?_
    refine g_sub [1, 2, 3, 0] rfl ?_
    exact hk52 _ _ _ _
set_option maxHeartbeats 4000000 in
set_option maxRecDepth 100000 in
theorem t_X8_row_l52 {l : Launch} {sc : Nat × (Nat → Int32)} {D : Nat} {n : Nat} : ∀ (f : Nat) (x1 : Int32) (x3 : Int32) (x4 : Int32) (σ : Mem), G l sc (D + 2) m_X8_row 52 [(0, .ref 77), (1, .int x1), (3, .int x3), (4, .int x4)] [] σ (f_X8_row_l52 n f x1 x3 x4 σ) (fun y => (some (.int y.1), y.2)) := by
  intro f
  induction f with
  | zero => intro x1 x3 x4 σ; exact g_none
  | succ f ih => intro x1 x3 x4 σ; exact t_X8_row_b52 ih
set_option maxHeartbeats 4000000 in
set_option maxRecDepth 100000 in
theorem t_X8_row {l : Launch} {sc : Nat × (Nat → Int32)} {D : Nat} {n : Nat} {x1 : Int32} {x2 : Int32} {x3 : Int32} {σ : Mem} : G l sc (D + 2) m_X8_row 0 [(0, .ref 77), (1, .int x1), (2, .int x2), (3, .int x3)] [] σ (f_X8_row n x1 x2 x3 σ) (fun y => (some (.int y.1), y.2)) := by
  unfold f_X8_row
  refine g_iload_n (n := 1) d_X8_row_0 rfl rfl ?_
  refine g_calls_pi (D := D + 1) (As := [.int x1]) d_X8_row_1 ss_X8_68 rfl (Nat.le_of_ble_eq_true rfl) rfl (fun _ hy => EvM_cast (by omega) (e_X8_isRow (D := D + 0) hy)) (fun y1 => ?_)
  refine g_if_eq (tgt := 22) d_X8_row_4 (by decide) (fun c2 => ?_) (fun c2 => ?_)
  · refine g_ldc d_X8_row_22 kc_X8_72 ?_
    exact g_iret d_X8_row_24 (Or.inl rfl) rfl
  · refine g_iload_n (n := 2) d_X8_row_7 rfl rfl ?_
    refine g_iconst (v := 0) d_X8_row_8 (by decide) ?_
    refine g_iconst (v := 2) d_X8_row_9 (by decide) ?_
    refine g_calls_pi (D := D + 1) (As := [.int x2, .int 0, .int 2]) d_X8_row_10 ss_X8_59 rfl (Nat.le_of_ble_eq_true rfl) rfl (fun _ hy => EvM_cast (by omega) (e_X8_in (D := D + 1) hy)) (fun y3 => ?_)
    refine g_if_eq (tgt := 22) d_X8_row_13 (by decide) (fun c4 => ?_) (fun c4 => ?_)
    · refine g_ldc d_X8_row_22 kc_X8_72 ?_
      exact g_iret d_X8_row_24 (Or.inl rfl) rfl
    · refine g_iload_n (n := 3) d_X8_row_16 rfl rfl ?_
      refine g_bipush (v := 40) d_X8_row_17 (by decide) ?_
      refine g_icmp_le (tgt := 25) d_X8_row_19 (by decide) (fun c5 => ?_) (fun c5 => ?_)
      · refine g_iload_n (n := 3) d_X8_row_25 rfl rfl ?_
        refine g_if_ge (tgt := 35) d_X8_row_26 (by decide) (fun c6 => ?_) (fun c6 => ?_)
        · refine g_aload_n (n := 0) d_X8_row_35 rfl rfl ?_
          refine g_getr d_X8_row_36 fl_X8_7 sh_77 rfl ?_
          refine g_iload_n (n := 1) d_X8_row_39 rfl rfl ?_
          refine g_iload_n (n := 2) d_X8_row_40 rfl rfl ?_
          refine g_iastore d_X8_row_41 sh_78 (fun _ => ?_)
          refine g_mem (fun σ7 => ?_)
          refine g_aload_n (n := 0) d_X8_row_42 rfl rfl ?_
          refine g_getr d_X8_row_43 fl_X8_13 sh_77 rfl ?_
          refine g_iload_n (n := 1) d_X8_row_46 rfl rfl ?_
          refine g_iload_n (n := 3) d_X8_row_47 rfl rfl ?_
          refine g_iastore d_X8_row_48 sh_79 (fun _ => ?_)
          refine g_mem (fun σ8 => ?_)
          refine g_iconst (v := 0) d_X8_row_49 (by decide) ?_
          refine g_istore d_X8_row_50 (by decide) rfl ?_
          refine g_sub [1, 2, 4, 0] rfl ?_
          exact t_X8_row_l52  _ _ _ _ _
        · refine g_aload_n (n := 0) d_X8_row_29 rfl rfl ?_
          refine g_iconst (v := 4) d_X8_row_30 (by decide) ?_
          refine g_callv_ii (D := D + 1) (As := [.int 4]) d_X8_row_31 sv_X8_73 ob_77 rfl (Nat.le_of_ble_eq_true rfl) rfl (fun _ hy => EvM_cast (by omega) (e_X8_finds (D := D + 1) hy)) (fun y9 σ10 => ?_)
          exact g_iret d_X8_row_34 (Or.inl rfl) rfl
      · refine g_ldc d_X8_row_22 kc_X8_72 ?_
        exact g_iret d_X8_row_24 (Or.inl rfl) rfl
theorem e_X8_row {l : Launch} {D : Nat} {n : Nat} {x1 : Int32} {x2 : Int32} {x3 : Int32} {σ : Mem} {y : (Int32 × Mem)} (hy : f_X8_row n x1 x2 x3 σ = some y) : EvM l (D + 2) m_X8_row [.ref 77, .int x1, .int x2, .int x3] σ ((fun y => (some (.int y.1), y.2)) y) :=
  evM_of (d := m_X8_row) (nL := 5) rfl (by decide +kernel) (fun h => absurd (congrArg MethodName.cls h) (by decide +kernel)) (Nat.le_of_ble_eq_true rfl) (t_X8_row y hy)

set_option maxHeartbeats 4000000 in
set_option maxRecDepth 100000 in
theorem t_X8_set_b87 {l : Launch} {sc : Nat × (Nat → Int32)} {D : Nat} {x1 : Int32} {x2 : Int32} {s0 : Int32} {s1 : Int32} {σ : Mem} : G l sc (D + 2) m_X8_set 87 [(0, .ref 77), (1, .int x1), (2, .int x2)] [.int s0, .int s1, .ref 80] σ (f_X8_set_b87 x1 x2 s0 s1 σ) (fun y => (some (.int y.1), y.2)) := by
  unfold f_X8_set_b87
  refine g_iastore d_X8_set_87 sh_80 (fun _ => ?_)
  refine g_mem (fun σ1 => ?_)
  refine g_aload_n (n := 0) d_X8_set_88 rfl rfl ?_
  refine g_aload_n (n := 0) d_X8_set_89 rfl rfl ?_
  refine g_getr d_X8_set_90 fl_X8_16 sh_77 rfl ?_
  refine g_bipush (v := 40) d_X8_set_93 (by decide) ?_
  refine g_iload_n (n := 1) d_X8_set_95 rfl rfl ?_
  refine g_imul d_X8_set_96 ?_
  refine g_iload_n (n := 2) d_X8_set_97 rfl rfl ?_
  refine g_iadd d_X8_set_98 ?_
  refine g_iaload d_X8_set_99 sh_80 (fun _ => ?_)
  refine g_callv_ii (D := D + 1) (As := [.int (σ1 80 ((40 * x1) + x2).toNatClampNeg)]) d_X8_set_100 sv_X8_77 ob_77 rfl (Nat.le_of_ble_eq_true rfl) rfl (fun _ hy => EvM_cast (by omega) (e_X8_done (D := D + 1) hy)) (fun y2 σ3 => ?_)
  exact g_iret d_X8_set_103 (Or.inl rfl) rfl
set_option maxHeartbeats 4000000 in
set_option maxRecDepth 100000 in
theorem t_X8_set {l : Launch} {sc : Nat × (Nat → Int32)} {D : Nat} {x1 : Int32} {x2 : Int32} {x3 : Int32} {σ : Mem} : G l sc (D + 2) m_X8_set 0 [(0, .ref 77), (1, .int x1), (2, .int x2), (3, .int x3)] [] σ (f_X8_set x1 x2 x3 σ) (fun y => (some (.int y.1), y.2)) := by
  unfold f_X8_set
  refine g_iload_n (n := 1) d_X8_set_0 rfl rfl ?_
  refine g_calls_pi (D := D + 1) (As := [.int x1]) d_X8_set_1 ss_X8_68 rfl (Nat.le_of_ble_eq_true rfl) rfl (fun _ hy => EvM_cast (by omega) (e_X8_isRow (D := D + 0) hy)) (fun y1 => ?_)
  refine g_if_ne (tgt := 10) d_X8_set_4 (by decide) (fun c2 => ?_) (fun c2 => ?_)
  · refine g_aload_n (n := 0) d_X8_set_10 rfl rfl ?_
    refine g_getr d_X8_set_11 fl_X8_7 sh_77 rfl ?_
    refine g_iload_n (n := 1) d_X8_set_14 rfl rfl ?_
    refine g_iaload d_X8_set_15 sh_78 (fun _ => ?_)
    refine g_if_ge (tgt := 25) d_X8_set_16 (by decide) (fun c3 => ?_) (fun c3 => ?_)
    · refine g_iload_n (n := 2) d_X8_set_25 rfl rfl ?_
      refine g_iconst (v := 0) d_X8_set_26 (by decide) ?_
      refine g_aload_n (n := 0) d_X8_set_27 rfl rfl ?_
      refine g_getr d_X8_set_28 fl_X8_13 sh_77 rfl ?_
      refine g_iload_n (n := 1) d_X8_set_31 rfl rfl ?_
      refine g_iaload d_X8_set_32 sh_79 (fun _ => ?_)
      refine g_iconst (v := 1) d_X8_set_33 (by decide) ?_
      refine g_isub d_X8_set_34 ?_
      refine g_calls_pi (D := D + 1) (As := [.int x2, .int 0, .int ((σ 79 x1.toNatClampNeg) - 1)]) d_X8_set_35 ss_X8_59 rfl (Nat.le_of_ble_eq_true rfl) rfl (fun _ hy => EvM_cast (by omega) (e_X8_in (D := D + 1) hy)) (fun y4 => ?_)
      refine g_if_ne (tgt := 47) d_X8_set_38 (by decide) (fun c5 => ?_) (fun c5 => ?_)
      · refine g_aload_n (n := 0) d_X8_set_47 rfl rfl ?_
        refine g_getr d_X8_set_48 fl_X8_16 sh_77 rfl ?_
        refine g_bipush (v := 40) d_X8_set_51 (by decide) ?_
        refine g_iload_n (n := 1) d_X8_set_53 rfl rfl ?_
        refine g_imul d_X8_set_54 ?_
        refine g_iload_n (n := 2) d_X8_set_55 rfl rfl ?_
        refine g_iadd d_X8_set_56 ?_
        refine g_aload_n (n := 0) d_X8_set_57 rfl rfl ?_
        refine g_getr d_X8_set_58 fl_X8_7 sh_77 rfl ?_
        refine g_iload_n (n := 1) d_X8_set_61 rfl rfl ?_
        refine g_iaload d_X8_set_62 sh_78 (fun _ => ?_)
        refine g_if_ne (tgt := 71) d_X8_set_63 (by decide) (fun c6 => ?_) (fun c6 => ?_)
        · refine g_aload_n (n := 0) d_X8_set_71 rfl rfl ?_
          refine g_getr d_X8_set_72 fl_X8_7 sh_77 rfl ?_
          refine g_iload_n (n := 1) d_X8_set_75 rfl rfl ?_
          refine g_iaload d_X8_set_76 sh_78 (fun _ => ?_)
          refine g_iconst (v := 1) d_X8_set_77 (by decide) ?_
          refine g_icmp_ne (tgt := 86) d_X8_set_78 (by decide) (fun c7 => ?_) (fun c7 => ?_)
          · refine g_iload_n (n := 3) d_X8_set_86 rfl rfl ?_
            refine g_sub [0, 1, 2] rfl ?_
            exact t_X8_set_b87 
          · refine g_iload_n (n := 3) d_X8_set_81 rfl rfl ?_
            refine g_i2s d_X8_set_82 ?_
            refine g_goto (tgt := 87) d_X8_set_83 (by decide) ?_
            refine g_sub [0, 1, 2] rfl ?_
            exact t_X8_set_b87 
        · refine g_iload_n (n := 3) d_X8_set_66 rfl rfl ?_
          refine g_i2b d_X8_set_67 ?_
          refine g_goto (tgt := 87) d_X8_set_68 (by decide) ?_
          refine g_sub [0, 1, 2] rfl ?_
          exact t_X8_set_b87 
      · refine g_aload_n (n := 0) d_X8_set_41 rfl rfl ?_
        refine g_iconst (v := 2) d_X8_set_42 (by decide) ?_
        refine g_callv_ii (D := D + 1) (As := [.int 2]) d_X8_set_43 sv_X8_73 ob_77 rfl (Nat.le_of_ble_eq_true rfl) rfl (fun _ hy => EvM_cast (by omega) (e_X8_finds (D := D + 1) hy)) (fun y8 σ9 => ?_)
        exact g_iret d_X8_set_46 (Or.inl rfl) rfl
    · refine g_aload_n (n := 0) d_X8_set_19 rfl rfl ?_
      refine g_iconst (v := 1) d_X8_set_20 (by decide) ?_
      refine g_callv_ii (D := D + 1) (As := [.int 1]) d_X8_set_21 sv_X8_73 ob_77 rfl (Nat.le_of_ble_eq_true rfl) rfl (fun _ hy => EvM_cast (by omega) (e_X8_finds (D := D + 1) hy)) (fun y10 σ11 => ?_)
      exact g_iret d_X8_set_24 (Or.inl rfl) rfl
  · refine g_ldc d_X8_set_7 kc_X8_72 ?_
    exact g_iret d_X8_set_9 (Or.inl rfl) rfl
theorem e_X8_set {l : Launch} {D : Nat} {x1 : Int32} {x2 : Int32} {x3 : Int32} {σ : Mem} {y : (Int32 × Mem)} (hy : f_X8_set x1 x2 x3 σ = some y) : EvM l (D + 2) m_X8_set [.ref 77, .int x1, .int x2, .int x3] σ ((fun y => (some (.int y.1), y.2)) y) :=
  evM_of (d := m_X8_set) (nL := 4) rfl (by decide +kernel) (fun h => absurd (congrArg MethodName.cls h) (by decide +kernel)) (Nat.le_of_ble_eq_true rfl) (t_X8_set y hy)

set_option maxHeartbeats 4000000 in
set_option maxRecDepth 100000 in
theorem t_X8_isPart {l : Launch} {sc : Nat × (Nat → Int32)} {D : Nat} {σ : Mem} {x0 : Int32} {x1 : Int32} {x2 : Int32} : G l sc (D + 0) m_X8_isPart 0 [(0, .int x0), (1, .int x1), (2, .int x2)] [] σ (f_X8_isPart σ x0 x1 x2) (fun y => (some (.int y), σ)) := by
  unfold f_X8_isPart
  refine g_iload_n (n := 0) d_X8_isPart_0 rfl rfl ?_
  refine g_if_lt (tgt := 24) d_X8_isPart_1 (by decide) (fun c1 => ?_) (fun c1 => ?_)
  · refine g_iconst (v := 0) d_X8_isPart_24 (by decide) ?_
    exact g_iret d_X8_isPart_25 (Or.inr ⟨rfl, rfl⟩) rfl
  · refine g_iload_n (n := 1) d_X8_isPart_4 rfl rfl ?_
    refine g_if_lt (tgt := 24) d_X8_isPart_5 (by decide) (fun c2 => ?_) (fun c2 => ?_)
    · refine g_iconst (v := 0) d_X8_isPart_24 (by decide) ?_
      exact g_iret d_X8_isPart_25 (Or.inr ⟨rfl, rfl⟩) rfl
    · refine g_iload_n (n := 1) d_X8_isPart_8 rfl rfl ?_
      refine g_iload_n (n := 2) d_X8_isPart_9 rfl rfl ?_
      refine g_icmp_gt (tgt := 24) d_X8_isPart_10 (by decide) (fun c3 => ?_) (fun c3 => ?_)
      · refine g_iconst (v := 0) d_X8_isPart_24 (by decide) ?_
        exact g_iret d_X8_isPart_25 (Or.inr ⟨rfl, rfl⟩) rfl
      · refine g_iload_n (n := 0) d_X8_isPart_13 rfl rfl ?_
        refine g_iload_n (n := 2) d_X8_isPart_14 rfl rfl ?_
        refine g_iload_n (n := 1) d_X8_isPart_15 rfl rfl ?_
        refine g_isub d_X8_isPart_16 ?_
        refine g_icmp_gt (tgt := 24) d_X8_isPart_17 (by decide) (fun c4 => ?_) (fun c4 => ?_)
        · refine g_iconst (v := 0) d_X8_isPart_24 (by decide) ?_
          exact g_iret d_X8_isPart_25 (Or.inr ⟨rfl, rfl⟩) rfl
        · refine g_iconst (v := 1) d_X8_isPart_20 (by decide) ?_
          refine g_goto (tgt := 25) d_X8_isPart_21 (by decide) ?_
          exact g_iret d_X8_isPart_25 (Or.inr ⟨rfl, rfl⟩) rfl
theorem e_X8_isPart {l : Launch} {D : Nat} {σ : Mem} {x0 : Int32} {x1 : Int32} {x2 : Int32} {y : Int32} (hy : f_X8_isPart σ x0 x1 x2 = some y) : EvM l (D + 0) m_X8_isPart [.int x0, .int x1, .int x2] σ ((fun y => (some (.int y), σ)) y) :=
  evM_of (d := m_X8_isPart) (nL := 3) rfl (by decide +kernel) (fun h => absurd (congrArg MethodName.cls h) (by decide +kernel)) (Nat.le_of_ble_eq_true rfl) (t_X8_isPart y hy)

set_option maxHeartbeats 4000000 in
set_option maxRecDepth 100000 in
theorem t_X8_copy_b35 {l : Launch} {sc : Nat × (Nat → Int32)} {D : Nat} {n : Nat} {σ : Mem} : G l sc (D + 2) m_X8_copy 35 [(0, .ref 77)] [] σ (f_X8_copy_b35 n σ) (fun y => (some (.int y.1), y.2)) := by
  unfold f_X8_copy_b35
  refine g_aload_n (n := 0) d_X8_copy_35 rfl rfl ?_
  refine g_iconst (v := 1) d_X8_copy_36 (by decide) ?_
  refine g_callv_ii (D := D + 1) (As := [.int 1]) d_X8_copy_37 sv_X8_73 ob_77 rfl (Nat.le_of_ble_eq_true rfl) rfl (fun _ hy => EvM_cast (by omega) (e_X8_finds (D := D + 1) hy)) (fun y1 σ2 => ?_)
  exact g_iret d_X8_copy_40 (Or.inl rfl) rfl
set_option maxHeartbeats 4000000 in
set_option maxRecDepth 100000 in
theorem t_X8_copy_b93 {l : Launch} {sc : Nat × (Nat → Int32)} {D : Nat} {n : Nat} {σ : Mem} : G l sc (D + 2) m_X8_copy 93 [(0, .ref 77)] [] σ (f_X8_copy_b93 n σ) (fun y => (some (.int y.1), y.2)) := by
  unfold f_X8_copy_b93
  refine g_aload_n (n := 0) d_X8_copy_93 rfl rfl ?_
  refine g_iconst (v := 2) d_X8_copy_94 (by decide) ?_
  refine g_callv_ii (D := D + 1) (As := [.int 2]) d_X8_copy_95 sv_X8_73 ob_77 rfl (Nat.le_of_ble_eq_true rfl) rfl (fun _ hy => EvM_cast (by omega) (e_X8_finds (D := D + 1) hy)) (fun y1 σ2 => ?_)
  exact g_iret d_X8_copy_98 (Or.inl rfl) rfl
set_option maxHeartbeats 4000000 in
set_option maxRecDepth 100000 in
theorem t_X8_copy_b144 {l : Launch} {sc : Nat × (Nat → Int32)} {D : Nat} {n : Nat} {k120 : Int32 → Int32 → Int32 → Int32 → Int32 → Int32 → Int32 → Mem → Option (Int32 × Mem)} {x1 : Int32} {x2 : Int32} {x3 : Int32} {x4 : Int32} {x5 : Int32} {x6 : Int32} {x7 : Int32} {s0 : Int32} {σ : Mem} (hk120 : ∀ x1 x2 x3 x4 x5 x6 x7 σ, G l sc (D + 2) m_X8_copy 120 [(0, .ref 77), (1, .int x1), (2, .int x2), (3, .int x3), (4, .int x4), (5, .int x5), (6, .int x6), (7, .int x7)] [] σ (k120 x1 x2 x3 x4 x5 x6 x7 σ) (fun y => (some (.int y.1), y.2))) : G l sc (D + 2) m_X8_copy 144 [(0, .ref 77), (1, .int x1), (2, .int x2), (3, .int x3), (4, .int x4), (5, .int x5), (6, .int x6), (7, .int x7)] [.int s0] σ (f_X8_copy_b144 n k120 x1 x2 x3 x4 x5 x6 x7 s0 σ) (fun y => (some (.int y.1), y.2)) := by
  unfold f_X8_copy_b144
  refine g_istore d_X8_copy_144 (by decide) rfl ?_
  refine g_aload_n (n := 1) d_X8_copy_146 rfl rfl ?_
  refine g_getr d_X8_copy_147 fl_X8_16 sh_77 rfl ?_
  refine g_bipush (v := 40) d_X8_copy_150 (by decide) ?_
  refine g_iload_n (n := 4) d_X8_copy_152 rfl rfl ?_
  refine g_imul d_X8_copy_153 ?_
  refine g_iload (n := 5) d_X8_copy_154 rfl ?_
  refine g_iadd d_X8_copy_156 ?_
  refine g_iload (n := 0) d_X8_copy_157 rfl ?_
  refine g_iadd d_X8_copy_159 ?_
  refine g_aload_n (n := 1) d_X8_copy_160 rfl rfl ?_
  refine g_getr d_X8_copy_161 fl_X8_16 sh_77 rfl ?_
  refine g_bipush (v := 40) d_X8_copy_164 (by decide) ?_
  refine g_iload_n (n := 2) d_X8_copy_166 rfl rfl ?_
  refine g_imul d_X8_copy_167 ?_
  refine g_iload_n (n := 3) d_X8_copy_168 rfl rfl ?_
  refine g_iadd d_X8_copy_169 ?_
  refine g_iload (n := 0) d_X8_copy_170 rfl ?_
  refine g_iadd d_X8_copy_172 ?_
  refine g_iaload d_X8_copy_173 sh_80 (fun _ => ?_)
  refine g_iastore d_X8_copy_174 sh_80 (fun _ => ?_)
  refine g_mem (fun σ1 => ?_)
  refine g_iinc (n := 8) (w := 1) d_X8_copy_175 rfl (by decide) (by decide) rfl ?_
  refine g_goto (tgt := 120) d_X8_copy_178 (by decide) ?_
  refine g_sub [2, 3, 4, 5, 6, 7, 8, 0] rfl ?_
  exact hk120 _ _ _ _ _ _ _ _
set_option maxHeartbeats 4000000 in
set_option maxRecDepth 100000 in
theorem t_X8_copy_b120 {l : Launch} {sc : Nat × (Nat → Int32)} {D : Nat} {n : Nat} {k120 : Int32 → Int32 → Int32 → Int32 → Int32 → Int32 → Int32 → Mem → Option (Int32 × Mem)} {x1 : Int32} {x2 : Int32} {x3 : Int32} {x4 : Int32} {x5 : Int32} {x6 : Int32} {x7 : Int32} {σ : Mem} (hk120 : ∀ x1 x2 x3 x4 x5 x6 x7 σ, G l sc (D + 2) m_X8_copy 120 [(0, .ref 77), (1, .int x1), (2, .int x2), (3, .int x3), (4, .int x4), (5, .int x5), (6, .int x6), (7, .int x7)] [] σ (k120 x1 x2 x3 x4 x5 x6 x7 σ) (fun y => (some (.int y.1), y.2))) : G l sc (D + 2) m_X8_copy 120 [(0, .ref 77), (1, .int x1), (2, .int x2), (3, .int x3), (4, .int x4), (5, .int x5), (6, .int x6), (7, .int x7)] [] σ (f_X8_copy_b120 n k120 x1 x2 x3 x4 x5 x6 x7 σ) (fun y => (some (.int y.1), y.2)) := by
  unfold f_X8_copy_b120
  refine g_iload (n := 7) d_X8_copy_120 rfl ?_
  refine g_iload (n := 5) d_X8_copy_122 rfl ?_
  refine g_icmp_ge (tgt := 181) d_X8_copy_124 (by decide) (fun c1 => ?_) (fun c1 => ?_)
  · refine g_aload_n (n := 0) d_X8_copy_181 rfl rfl ?_
    refine g_iload (n := 5) d_X8_copy_182 rfl ?_
    refine g_callv_ii (D := D + 1) (As := [.int x5]) d_X8_copy_184 sv_X8_77 ob_77 rfl (Nat.le_of_ble_eq_true rfl) rfl (fun _ hy => EvM_cast (by omega) (e_X8_done (D := D + 1) hy)) (fun y2 σ3 => ?_)
    exact g_iret d_X8_copy_187 (Or.inl rfl) rfl
  · refine g_iload (n := 6) d_X8_copy_127 rfl ?_
    refine g_if_eq (tgt := 142) d_X8_copy_129 (by decide) (fun c4 => ?_) (fun c4 => ?_)
    · refine g_iload (n := 7) d_X8_copy_142 rfl ?_
      refine g_sub [0, 1, 2, 3, 4, 5, 6, 7] rfl ?_
      exact t_X8_copy_b144 hk120
    · refine g_iload (n := 5) d_X8_copy_132 rfl ?_
      refine g_iconst (v := 1) d_X8_copy_134 (by decide) ?_
      refine g_isub d_X8_copy_135 ?_
      refine g_iload (n := 7) d_X8_copy_136 rfl ?_
      refine g_isub d_X8_copy_138 ?_
      refine g_goto (tgt := 144) d_X8_copy_139 (by decide) ?_
      refine g_sub [0, 1, 2, 3, 4, 5, 6, 7] rfl ?_
      exact t_X8_copy_b144 hk120
set_option maxHeartbeats 4000000 in
set_option maxRecDepth 100000 in
theorem t_X8_copy_l120 {l : Launch} {sc : Nat × (Nat → Int32)} {D : Nat} {n : Nat} : ∀ (f : Nat) (x1 : Int32) (x2 : Int32) (x3 : Int32) (x4 : Int32) (x5 : Int32) (x6 : Int32) (x7 : Int32) (σ : Mem), G l sc (D + 2) m_X8_copy 120 [(0, .ref 77), (1, .int x1), (2, .int x2), (3, .int x3), (4, .int x4), (5, .int x5), (6, .int x6), (7, .int x7)] [] σ (f_X8_copy_l120 n f x1 x2 x3 x4 x5 x6 x7 σ) (fun y => (some (.int y.1), y.2)) := by
  intro f
  induction f with
  | zero => intro x1 x2 x3 x4 x5 x6 x7 σ; exact g_none
  | succ f ih => intro x1 x2 x3 x4 x5 x6 x7 σ; exact t_X8_copy_b120 ih
set_option maxHeartbeats 4000000 in
set_option maxRecDepth 100000 in
theorem t_X8_copy_b115 {l : Launch} {sc : Nat × (Nat → Int32)} {D : Nat} {n : Nat} {x1 : Int32} {x2 : Int32} {x3 : Int32} {x4 : Int32} {x5 : Int32} {s0 : Int32} {σ : Mem} : G l sc (D + 2) m_X8_copy 115 [(0, .ref 77), (1, .int x1), (2, .int x2), (3, .int x3), (4, .int x4), (5, .int x5)] [.int s0] σ (f_X8_copy_b115 n x1 x2 x3 x4 x5 s0 σ) (fun y => (some (.int y.1), y.2)) := by
  unfold f_X8_copy_b115
  refine g_istore d_X8_copy_115 (by decide) rfl ?_
  refine g_iconst (v := 0) d_X8_copy_117 (by decide) ?_
  refine g_istore d_X8_copy_118 (by decide) rfl ?_
  refine g_sub [2, 3, 4, 5, 6, 7, 1, 0] rfl ?_
  exact t_X8_copy_l120  _ _ _ _ _ _ _ _ _
set_option maxHeartbeats 4000000 in
set_option maxRecDepth 100000 in
theorem t_X8_copy_b114 {l : Launch} {sc : Nat × (Nat → Int32)} {D : Nat} {n : Nat} {x1 : Int32} {x2 : Int32} {x3 : Int32} {x4 : Int32} {x5 : Int32} {σ : Mem} : G l sc (D + 2) m_X8_copy 114 [(0, .ref 77), (1, .int x1), (2, .int x2), (3, .int x3), (4, .int x4), (5, .int x5)] [] σ (f_X8_copy_b114 n x1 x2 x3 x4 x5 σ) (fun y => (some (.int y.1), y.2)) := by
  unfold f_X8_copy_b114
  refine g_iconst (v := 0) d_X8_copy_114 (by decide) ?_
  refine g_sub [0, 1, 2, 3, 4, 5] rfl ?_
  exact t_X8_copy_b115 
set_option maxHeartbeats 4000000 in
set_option maxRecDepth 100000 in
theorem t_X8_copy {l : Launch} {sc : Nat × (Nat → Int32)} {D : Nat} {n : Nat} {x1 : Int32} {x2 : Int32} {x3 : Int32} {x4 : Int32} {x5 : Int32} {σ : Mem} : G l sc (D + 2) m_X8_copy 0 [(0, .ref 77), (1, .int x1), (2, .int x2), (3, .int x3), (4, .int x4), (5, .int x5)] [] σ (f_X8_copy n x1 x2 x3 x4 x5 σ) (fun y => (some (.int y.1), y.2)) := by
  unfold f_X8_copy
  refine g_iload_n (n := 1) d_X8_copy_0 rfl rfl ?_
  refine g_calls_pi (D := D + 1) (As := [.int x1]) d_X8_copy_1 ss_X8_68 rfl (Nat.le_of_ble_eq_true rfl) rfl (fun _ hy => EvM_cast (by omega) (e_X8_isRow (D := D + 0) hy)) (fun y1 => ?_)
  refine g_if_eq (tgt := 14) d_X8_copy_4 (by decide) (fun c2 => ?_) (fun c2 => ?_)
  · refine g_ldc d_X8_copy_14 kc_X8_72 ?_
    exact g_iret d_X8_copy_16 (Or.inl rfl) rfl
  · refine g_iload_n (n := 3) d_X8_copy_7 rfl rfl ?_
    refine g_calls_pi (D := D + 1) (As := [.int x3]) d_X8_copy_8 ss_X8_68 rfl (Nat.le_of_ble_eq_true rfl) rfl (fun _ hy => EvM_cast (by omega) (e_X8_isRow (D := D + 0) hy)) (fun y3 => ?_)
    refine g_if_ne (tgt := 17) d_X8_copy_11 (by decide) (fun c4 => ?_) (fun c4 => ?_)
    · refine g_aload_n (n := 0) d_X8_copy_17 rfl rfl ?_
      refine g_getr d_X8_copy_18 fl_X8_7 sh_77 rfl ?_
      refine g_iload_n (n := 1) d_X8_copy_21 rfl rfl ?_
      refine g_iaload d_X8_copy_22 sh_78 (fun _ => ?_)
      refine g_if_lt (tgt := 35) d_X8_copy_23 (by decide) (fun c5 => ?_) (fun c5 => ?_)
      · refine g_sub [0] rfl ?_
        exact t_X8_copy_b35 
      · refine g_aload_n (n := 0) d_X8_copy_26 rfl rfl ?_
        refine g_getr d_X8_copy_27 fl_X8_7 sh_77 rfl ?_
        refine g_iload_n (n := 3) d_X8_copy_30 rfl rfl ?_
        refine g_iaload d_X8_copy_31 sh_78 (fun _ => ?_)
        refine g_if_ge (tgt := 41) d_X8_copy_32 (by decide) (fun c6 => ?_) (fun c6 => ?_)
        · refine g_aload_n (n := 0) d_X8_copy_41 rfl rfl ?_
          refine g_getr d_X8_copy_42 fl_X8_7 sh_77 rfl ?_
          refine g_iload_n (n := 1) d_X8_copy_45 rfl rfl ?_
          refine g_iaload d_X8_copy_46 sh_78 (fun _ => ?_)
          refine g_aload_n (n := 0) d_X8_copy_47 rfl rfl ?_
          refine g_getr d_X8_copy_48 fl_X8_7 sh_77 rfl ?_
          refine g_iload_n (n := 3) d_X8_copy_51 rfl rfl ?_
          refine g_iaload d_X8_copy_52 sh_78 (fun _ => ?_)
          refine g_icmp_eq (tgt := 62) d_X8_copy_53 (by decide) (fun c7 => ?_) (fun c7 => ?_)
          · refine g_iload_n (n := 2) d_X8_copy_62 rfl rfl ?_
            refine g_iload (n := 5) d_X8_copy_63 rfl ?_
            refine g_aload_n (n := 0) d_X8_copy_65 rfl rfl ?_
            refine g_getr d_X8_copy_66 fl_X8_13 sh_77 rfl ?_
            refine g_iload_n (n := 1) d_X8_copy_69 rfl rfl ?_
            refine g_iaload d_X8_copy_70 sh_79 (fun _ => ?_)
            refine g_calls_pi (D := D + 1) (As := [.int x2, .int x5, .int (σ 79 x1.toNatClampNeg)]) d_X8_copy_71 ss_X8_80 rfl (Nat.le_of_ble_eq_true rfl) rfl (fun _ hy => EvM_cast (by omega) (e_X8_isPart (D := D + 1) hy)) (fun y8 => ?_)
            refine g_if_eq (tgt := 93) d_X8_copy_74 (by decide) (fun c9 => ?_) (fun c9 => ?_)
            · refine g_sub [0] rfl ?_
              exact t_X8_copy_b93 
            · refine g_iload (n := 4) d_X8_copy_77 rfl ?_
              refine g_iload (n := 5) d_X8_copy_79 rfl ?_
              refine g_aload_n (n := 0) d_X8_copy_81 rfl rfl ?_
              refine g_getr d_X8_copy_82 fl_X8_13 sh_77 rfl ?_
              refine g_iload_n (n := 3) d_X8_copy_85 rfl rfl ?_
              refine g_iaload d_X8_copy_86 sh_79 (fun _ => ?_)
              refine g_calls_pi (D := D + 1) (As := [.int x4, .int x5, .int (σ 79 x3.toNatClampNeg)]) d_X8_copy_87 ss_X8_80 rfl (Nat.le_of_ble_eq_true rfl) rfl (fun _ hy => EvM_cast (by omega) (e_X8_isPart (D := D + 1) hy)) (fun y10 => ?_)
              refine g_if_ne (tgt := 99) d_X8_copy_90 (by decide) (fun c11 => ?_) (fun c11 => ?_)
              · refine g_iload_n (n := 1) d_X8_copy_99 rfl rfl ?_
                refine g_iload_n (n := 3) d_X8_copy_100 rfl rfl ?_
                refine g_icmp_ne (tgt := 114) d_X8_copy_101 (by decide) (fun c12 => ?_) (fun c12 => ?_)
                · refine g_sub [0, 1, 2, 3, 4, 5] rfl ?_
                  exact t_X8_copy_b114 
                · refine g_iload (n := 4) d_X8_copy_104 rfl ?_
                  refine g_iload_n (n := 2) d_X8_copy_106 rfl rfl ?_
                  refine g_icmp_le (tgt := 114) d_X8_copy_107 (by decide) (fun c13 => ?_) (fun c13 => ?_)
                  · refine g_sub [0, 1, 2, 3, 4, 5] rfl ?_
                    exact t_X8_copy_b114 
                  · refine g_iconst (v := 1) d_X8_copy_110 (by decide) ?_
                    refine g_goto (tgt := 115) d_X8_copy_111 (by decide) ?_
                    refine g_sub [0, 1, 2, 3, 4, 5] rfl ?_
                    exact t_X8_copy_b115 
              · refine g_sub [0] rfl ?_
                exact t_X8_copy_b93 
          · refine g_aload_n (n := 0) d_X8_copy_56 rfl rfl ?_
            refine g_iconst (v := 5) d_X8_copy_57 (by decide) ?_
            refine g_callv_ii (D := D + 1) (As := [.int 5]) d_X8_copy_58 sv_X8_73 ob_77 rfl (Nat.le_of_ble_eq_true rfl) rfl (fun _ hy => EvM_cast (by omega) (e_X8_finds (D := D + 1) hy)) (fun y14 σ15 => ?_)
            exact g_iret d_X8_copy_61 (Or.inl rfl) rfl
        · refine g_sub [0] rfl ?_
          exact t_X8_copy_b35 
    · refine g_ldc d_X8_copy_14 kc_X8_72 ?_
      exact g_iret d_X8_copy_16 (Or.inl rfl) rfl
theorem e_X8_copy {l : Launch} {D : Nat} {n : Nat} {x1 : Int32} {x2 : Int32} {x3 : Int32} {x4 : Int32} {x5 : Int32} {σ : Mem} {y : (Int32 × Mem)} (hy : f_X8_copy n x1 x2 x3 x4 x5 σ = some y) : EvM l (D + 2) m_X8_copy [.ref 77, .int x1, .int x2, .int x3, .int x4, .int x5] σ ((fun y => (some (.int y.1), y.2)) y) :=
  evM_of (d := m_X8_copy) (nL := 9) rfl (by decide +kernel) (fun h => absurd (congrArg MethodName.cls h) (by decide +kernel)) (Nat.le_of_ble_eq_true rfl) (t_X8_copy y hy)

set_option maxHeartbeats 4000000 in
set_option maxRecDepth 100000 in
theorem t_X8_drop {l : Launch} {sc : Nat × (Nat → Int32)} {D : Nat} {x1 : Int32} {σ : Mem} : G l sc (D + 2) m_X8_drop 0 [(0, .ref 77), (1, .int x1)] [] σ (f_X8_drop x1 σ) (fun y => (some (.int y.1), y.2)) := by
  unfold f_X8_drop
  refine g_iload_n (n := 1) d_X8_drop_0 rfl rfl ?_
  refine g_calls_pi (D := D + 1) (As := [.int x1]) d_X8_drop_1 ss_X8_68 rfl (Nat.le_of_ble_eq_true rfl) rfl (fun _ hy => EvM_cast (by omega) (e_X8_isRow (D := D + 0) hy)) (fun y1 => ?_)
  refine g_if_ne (tgt := 10) d_X8_drop_4 (by decide) (fun c2 => ?_) (fun c2 => ?_)
  · refine g_aload_n (n := 0) d_X8_drop_10 rfl rfl ?_
    refine g_getr d_X8_drop_11 fl_X8_7 sh_77 rfl ?_
    refine g_iload_n (n := 1) d_X8_drop_14 rfl rfl ?_
    refine g_iaload d_X8_drop_15 sh_78 (fun _ => ?_)
    refine g_if_ge (tgt := 25) d_X8_drop_16 (by decide) (fun c3 => ?_) (fun c3 => ?_)
    · refine g_aload_n (n := 0) d_X8_drop_25 rfl rfl ?_
      refine g_getr d_X8_drop_26 fl_X8_7 sh_77 rfl ?_
      refine g_iload_n (n := 1) d_X8_drop_29 rfl rfl ?_
      refine g_iconst (v := -1) d_X8_drop_30 (by decide) ?_
      refine g_iastore d_X8_drop_31 sh_78 (fun _ => ?_)
      refine g_mem (fun σ4 => ?_)
      refine g_aload_n (n := 0) d_X8_drop_32 rfl rfl ?_
      refine g_aload_n (n := 0) d_X8_drop_33 rfl rfl ?_
      refine g_getr d_X8_drop_34 fl_X8_13 sh_77 rfl ?_
      refine g_iload_n (n := 1) d_X8_drop_37 rfl rfl ?_
      refine g_iaload d_X8_drop_38 sh_79 (fun _ => ?_)
      refine g_callv_ii (D := D + 1) (As := [.int (σ4 79 x1.toNatClampNeg)]) d_X8_drop_39 sv_X8_77 ob_77 rfl (Nat.le_of_ble_eq_true rfl) rfl (fun _ hy => EvM_cast (by omega) (e_X8_done (D := D + 1) hy)) (fun y5 σ6 => ?_)
      exact g_iret d_X8_drop_42 (Or.inl rfl) rfl
    · refine g_aload_n (n := 0) d_X8_drop_19 rfl rfl ?_
      refine g_iconst (v := 1) d_X8_drop_20 (by decide) ?_
      refine g_callv_ii (D := D + 1) (As := [.int 1]) d_X8_drop_21 sv_X8_73 ob_77 rfl (Nat.le_of_ble_eq_true rfl) rfl (fun _ hy => EvM_cast (by omega) (e_X8_finds (D := D + 1) hy)) (fun y7 σ8 => ?_)
      exact g_iret d_X8_drop_24 (Or.inl rfl) rfl
  · refine g_ldc d_X8_drop_7 kc_X8_72 ?_
    exact g_iret d_X8_drop_9 (Or.inl rfl) rfl
theorem e_X8_drop {l : Launch} {D : Nat} {x1 : Int32} {σ : Mem} {y : (Int32 × Mem)} (hy : f_X8_drop x1 σ = some y) : EvM l (D + 2) m_X8_drop [.ref 77, .int x1] σ ((fun y => (some (.int y.1), y.2)) y) :=
  evM_of (d := m_X8_drop) (nL := 2) rfl (by decide +kernel) (fun h => absurd (congrArg MethodName.cls h) (by decide +kernel)) (Nat.le_of_ble_eq_true rfl) (t_X8_drop y hy)

set_option maxHeartbeats 4000000 in
set_option maxRecDepth 100000 in
theorem t_X8_feed {l : Launch} {sc : Nat × (Nat → Int32)} {D : Nat} {x1 : Int32} {σ : Mem} : G l sc (D + 1) m_X8_feed 0 [(0, .ref 77), (1, .int x1)] [] σ (f_X8_feed x1 σ) (fun y => (some (.int y.1), y.2)) := by
  unfold f_X8_feed
  refine g_iload_n (n := 1) d_X8_feed_0 rfl rfl ?_
  refine g_iconst (v := 0) d_X8_feed_1 (by decide) ?_
  refine g_sipush (v := 255) d_X8_feed_2 (by decide) ?_
  refine g_calls_pi (D := D + 0) (As := [.int x1, .int 0, .int 255]) d_X8_feed_5 ss_X8_59 rfl (Nat.le_of_ble_eq_true rfl) rfl (fun _ hy => EvM_cast (by omega) (e_X8_in (D := D + 0) hy)) (fun y1 => ?_)
  refine g_if_ne (tgt := 14) d_X8_feed_8 (by decide) (fun c2 => ?_) (fun c2 => ?_)
  · refine g_aload_n (n := 0) d_X8_feed_14 rfl rfl ?_
    refine g_geti d_X8_feed_15 fl_X8_83 sh_77 rfl ?_
    refine g_bipush (v := 100) d_X8_feed_18 (by decide) ?_
    refine g_icmp_ne (tgt := 26) d_X8_feed_20 (by decide) (fun c3 => ?_) (fun c3 => ?_)
    · refine g_aload_n (n := 0) d_X8_feed_26 rfl rfl ?_
      refine g_getr d_X8_feed_27 fl_X8_19 sh_77 rfl ?_
      refine g_aload_n (n := 0) d_X8_feed_30 rfl rfl ?_
      refine g_geti d_X8_feed_31 fl_X8_83 sh_77 rfl ?_
      refine g_iload_n (n := 1) d_X8_feed_34 rfl rfl ?_
      refine g_iastore d_X8_feed_35 sh_81 (fun _ => ?_)
      refine g_mem (fun σ4 => ?_)
      refine g_aload_n (n := 0) d_X8_feed_36 rfl rfl ?_
      refine g_dup d_X8_feed_37 rfl ?_
      refine g_geti d_X8_feed_38 fl_X8_83 sh_77 rfl ?_
      refine g_iconst (v := 1) d_X8_feed_41 (by decide) ?_
      refine g_iadd d_X8_feed_42 ?_
      refine g_puti d_X8_feed_43 fl_X8_83 sh_77 rfl ?_
      refine g_mem (fun σ5 => ?_)
      refine g_aload_n (n := 0) d_X8_feed_46 rfl rfl ?_
      refine g_geti d_X8_feed_47 fl_X8_83 sh_77 rfl ?_
      exact g_iret d_X8_feed_50 (Or.inl rfl) rfl
    · refine g_ldc d_X8_feed_23 kc_X8_86 ?_
      exact g_iret d_X8_feed_25 (Or.inl rfl) rfl
  · refine g_ldc d_X8_feed_11 kc_X8_72 ?_
    exact g_iret d_X8_feed_13 (Or.inl rfl) rfl
theorem e_X8_feed {l : Launch} {D : Nat} {x1 : Int32} {σ : Mem} {y : (Int32 × Mem)} (hy : f_X8_feed x1 σ = some y) : EvM l (D + 1) m_X8_feed [.ref 77, .int x1] σ ((fun y => (some (.int y.1), y.2)) y) :=
  evM_of (d := m_X8_feed) (nL := 2) rfl (by decide +kernel) (fun h => absurd (congrArg MethodName.cls h) (by decide +kernel)) (Nat.le_of_ble_eq_true rfl) (t_X8_feed y hy)

set_option maxHeartbeats 4000000 in
set_option maxRecDepth 100000 in
theorem t_X8_nextToken_b193 {l : Launch} {sc : Nat × (Nat → Int32)} {D : Nat} {n : Nat} {s0 : Int32} {σ : Mem} : G l sc (D + 1) m_X8_nextToken 193 [(0, .ref 77)] [.int s0, .ref 77] σ (f_X8_nextToken_b193 n s0 σ) (fun τ => (none, τ)) := by
  unfold f_X8_nextToken_b193
  refine g_puti d_X8_nextToken_193 fl_X8_96 sh_77 rfl ?_
  refine g_mem (fun σ1 => ?_)
  refine g_aload_n (n := 0) d_X8_nextToken_196 rfl rfl ?_
  refine g_dup d_X8_nextToken_197 rfl ?_
  refine g_geti d_X8_nextToken_198 fl_X8_87 sh_77 rfl ?_
  refine g_iconst (v := 1) d_X8_nextToken_201 (by decide) ?_
  refine g_iadd d_X8_nextToken_202 ?_
  refine g_puti d_X8_nextToken_203 fl_X8_87 sh_77 rfl ?_
  refine g_mem (fun σ2 => ?_)
  exact g_vret d_X8_nextToken_206 rfl rfl
set_option maxHeartbeats 4000000 in
set_option maxRecDepth 100000 in
theorem t_X8_nextToken_b187 {l : Launch} {sc : Nat × (Nat → Int32)} {D : Nat} {n : Nat} {x1 : Int32} {σ : Mem} : G l sc (D + 1) m_X8_nextToken 187 [(0, .ref 77), (1, .int x1)] [.ref 77] σ (f_X8_nextToken_b187 n x1 σ) (fun τ => (none, τ)) := by
  unfold f_X8_nextToken_b187
  refine g_iload_n (n := 1) d_X8_nextToken_187 rfl rfl ?_
  refine g_goto (tgt := 193) d_X8_nextToken_188 (by decide) ?_
  refine g_sub [0] rfl ?_
  exact t_X8_nextToken_b193 
set_option maxHeartbeats 4000000 in
set_option maxRecDepth 100000 in
theorem t_X8_nextToken_b159 {l : Launch} {sc : Nat × (Nat → Int32)} {D : Nat} {n : Nat} {s0 : Int32} {σ : Mem} : G l sc (D + 1) m_X8_nextToken 159 [] [.int s0, .ref 77] σ (f_X8_nextToken_b159 n s0 σ) (fun τ => (none, τ)) := by
  unfold f_X8_nextToken_b159
  refine g_puti d_X8_nextToken_159 fl_X8_96 sh_77 rfl ?_
  refine g_mem (fun σ1 => ?_)
  exact g_vret d_X8_nextToken_162 rfl rfl
set_option maxHeartbeats 4000000 in
set_option maxRecDepth 100000 in
theorem t_X8_nextToken_b139 {l : Launch} {sc : Nat × (Nat → Int32)} {D : Nat} {n : Nat} {σ : Mem} : G l sc (D + 1) m_X8_nextToken 139 [(0, .ref 77)] [] σ (f_X8_nextToken_b139 n σ) (fun τ => (none, τ)) := by
  unfold f_X8_nextToken_b139
  refine g_aload_n (n := 0) d_X8_nextToken_139 rfl rfl ?_
  refine g_aload_n (n := 0) d_X8_nextToken_140 rfl rfl ?_
  refine g_geti d_X8_nextToken_141 fl_X8_87 sh_77 rfl ?_
  refine g_aload_n (n := 0) d_X8_nextToken_144 rfl rfl ?_
  refine g_geti d_X8_nextToken_145 fl_X8_90 sh_77 rfl ?_
  refine g_isub d_X8_nextToken_148 ?_
  refine g_iconst (v := 2) d_X8_nextToken_149 (by decide) ?_
  refine g_icmp_le (tgt := 158) d_X8_nextToken_150 (by decide) (fun c1 => ?_) (fun c1 => ?_)
  · refine g_iconst (v := -1) d_X8_nextToken_158 (by decide) ?_
    refine g_sub [] rfl ?_
    exact t_X8_nextToken_b159 
  · refine g_bipush (v := -3) d_X8_nextToken_153 (by decide) ?_
    refine g_goto (tgt := 159) d_X8_nextToken_155 (by decide) ?_
    refine g_sub [] rfl ?_
    exact t_X8_nextToken_b159 
set_option maxHeartbeats 4000000 in
set_option maxRecDepth 100000 in
theorem t_X8_nextToken_b123 {l : Launch} {sc : Nat × (Nat → Int32)} {D : Nat} {n : Nat} {k52 : Mem → Option Mem} {s0 : Int32} {σ : Mem} (hk52 : ∀ σ, G l sc (D + 1) m_X8_nextToken 52 [(0, .ref 77)] [] σ (k52 σ) (fun τ => (none, τ))) : G l sc (D + 1) m_X8_nextToken 123 [(0, .ref 77)] [.int s0, .ref 77] σ (f_X8_nextToken_b123 n k52 s0 σ) (fun τ => (none, τ)) := by
  unfold f_X8_nextToken_b123
  refine g_puti d_X8_nextToken_123 fl_X8_93 sh_77 rfl ?_
  refine g_mem (fun σ1 => ?_)
  refine g_aload_n (n := 0) d_X8_nextToken_126 rfl rfl ?_
  refine g_dup d_X8_nextToken_127 rfl ?_
  refine g_geti d_X8_nextToken_128 fl_X8_87 sh_77 rfl ?_
  refine g_iconst (v := 1) d_X8_nextToken_131 (by decide) ?_
  refine g_iadd d_X8_nextToken_132 ?_
  refine g_puti d_X8_nextToken_133 fl_X8_87 sh_77 rfl ?_
  refine g_mem (fun σ2 => ?_)
  refine g_goto (tgt := 52) d_X8_nextToken_136 (by decide) ?_
  refine g_sub [0] rfl ?_
  exact hk52 _
set_option maxHeartbeats 4000000 in
set_option maxRecDepth 100000 in
theorem t_X8_nextToken_b52 {l : Launch} {sc : Nat × (Nat → Int32)} {D : Nat} {n : Nat} {k52 : Mem → Option Mem} {σ : Mem} (hk52 : ∀ σ, G l sc (D + 1) m_X8_nextToken 52 [(0, .ref 77)] [] σ (k52 σ) (fun τ => (none, τ))) : G l sc (D + 1) m_X8_nextToken 52 [(0, .ref 77)] [] σ (f_X8_nextToken_b52 n k52 σ) (fun τ => (none, τ)) := by
  unfold f_X8_nextToken_b52
  refine g_aload_n (n := 0) d_X8_nextToken_52 rfl rfl ?_
  refine g_geti d_X8_nextToken_53 fl_X8_87 sh_77 rfl ?_
  refine g_aload_n (n := 0) d_X8_nextToken_56 rfl rfl ?_
  refine g_geti d_X8_nextToken_57 fl_X8_83 sh_77 rfl ?_
  refine g_icmp_ge (tgt := 139) d_X8_nextToken_60 (by decide) (fun c1 => ?_) (fun c1 => ?_)
  · refine g_sub [0] rfl ?_
    exact t_X8_nextToken_b139 
  · refine g_aload_n (n := 0) d_X8_nextToken_63 rfl rfl ?_
    refine g_getr d_X8_nextToken_64 fl_X8_19 sh_77 rfl ?_
    refine g_aload_n (n := 0) d_X8_nextToken_67 rfl rfl ?_
    refine g_geti d_X8_nextToken_68 fl_X8_87 sh_77 rfl ?_
    refine g_iaload d_X8_nextToken_71 sh_81 (fun _ => ?_)
    refine g_bipush (v := 48) d_X8_nextToken_72 (by decide) ?_
    refine g_bipush (v := 57) d_X8_nextToken_74 (by decide) ?_
    refine g_calls_pi (D := D + 0) (As := [.int (σ 81 (σ 77 6).toNatClampNeg), .int 48, .int 57]) d_X8_nextToken_76 ss_X8_59 rfl (Nat.le_of_ble_eq_true rfl) rfl (fun _ hy => EvM_cast (by omega) (e_X8_in (D := D + 0) hy)) (fun y2 => ?_)
    refine g_if_eq (tgt := 139) d_X8_nextToken_79 (by decide) (fun c3 => ?_) (fun c3 => ?_)
    · refine g_sub [0] rfl ?_
      exact t_X8_nextToken_b139 
    · refine g_aload_n (n := 0) d_X8_nextToken_82 rfl rfl ?_
      refine g_aload_n (n := 0) d_X8_nextToken_83 rfl rfl ?_
      refine g_geti d_X8_nextToken_84 fl_X8_87 sh_77 rfl ?_
      refine g_aload_n (n := 0) d_X8_nextToken_87 rfl rfl ?_
      refine g_geti d_X8_nextToken_88 fl_X8_90 sh_77 rfl ?_
      refine g_isub d_X8_nextToken_91 ?_
      refine g_iconst (v := 2) d_X8_nextToken_92 (by decide) ?_
      refine g_icmp_ge (tgt := 119) d_X8_nextToken_93 (by decide) (fun c4 => ?_) (fun c4 => ?_)
      · refine g_aload_n (n := 0) d_X8_nextToken_119 rfl rfl ?_
        refine g_geti d_X8_nextToken_120 fl_X8_93 sh_77 rfl ?_
        refine g_sub [0] rfl ?_
        exact t_X8_nextToken_b123 hk52
      · refine g_bipush (v := 10) d_X8_nextToken_96 (by decide) ?_
        refine g_aload_n (n := 0) d_X8_nextToken_98 rfl rfl ?_
        refine g_geti d_X8_nextToken_99 fl_X8_93 sh_77 rfl ?_
        refine g_imul d_X8_nextToken_102 ?_
        refine g_aload_n (n := 0) d_X8_nextToken_103 rfl rfl ?_
        refine g_getr d_X8_nextToken_104 fl_X8_19 sh_77 rfl ?_
        refine g_aload_n (n := 0) d_X8_nextToken_107 rfl rfl ?_
        refine g_geti d_X8_nextToken_108 fl_X8_87 sh_77 rfl ?_
        refine g_iaload d_X8_nextToken_111 sh_81 (fun _ => ?_)
        refine g_iadd d_X8_nextToken_112 ?_
        refine g_bipush (v := 48) d_X8_nextToken_113 (by decide) ?_
        refine g_isub d_X8_nextToken_115 ?_
        refine g_goto (tgt := 123) d_X8_nextToken_116 (by decide) ?_
        refine g_sub [0] rfl ?_
        exact t_X8_nextToken_b123 hk52
set_option maxHeartbeats 4000000 in
set_option maxRecDepth 100000 in
theorem t_X8_nextToken_l52 {l : Launch} {sc : Nat × (Nat → Int32)} {D : Nat} {n : Nat} : ∀ (f : Nat) (σ : Mem), G l sc (D + 1) m_X8_nextToken 52 [(0, .ref 77)] [] σ (f_X8_nextToken_l52 n f σ) (fun τ => (none, τ)) := by
  intro f
  induction f with
  | zero => intro  σ; exact g_none
  | succ f ih => intro  σ; exact t_X8_nextToken_b52 ih
set_option maxHeartbeats 4000000 in
set_option maxRecDepth 100000 in
theorem t_X8_nextToken {l : Launch} {sc : Nat × (Nat → Int32)} {D : Nat} {n : Nat} {σ : Mem} : G l sc (D + 1) m_X8_nextToken 0 [(0, .ref 77)] [] σ (f_X8_nextToken n σ) (fun τ => (none, τ)) := by
  unfold f_X8_nextToken
  refine g_aload_n (n := 0) d_X8_nextToken_0 rfl rfl ?_
  refine g_aload_n (n := 0) d_X8_nextToken_1 rfl rfl ?_
  refine g_geti d_X8_nextToken_2 fl_X8_87 sh_77 rfl ?_
  refine g_puti d_X8_nextToken_5 fl_X8_90 sh_77 rfl ?_
  refine g_mem (fun σ1 => ?_)
  refine g_aload_n (n := 0) d_X8_nextToken_8 rfl rfl ?_
  refine g_iconst (v := 0) d_X8_nextToken_9 (by decide) ?_
  refine g_puti d_X8_nextToken_10 fl_X8_93 sh_77 rfl ?_
  refine g_mem (fun σ2 => ?_)
  refine g_aload_n (n := 0) d_X8_nextToken_13 rfl rfl ?_
  refine g_geti d_X8_nextToken_14 fl_X8_87 sh_77 rfl ?_
  refine g_aload_n (n := 0) d_X8_nextToken_17 rfl rfl ?_
  refine g_geti d_X8_nextToken_18 fl_X8_83 sh_77 rfl ?_
  refine g_icmp_ne (tgt := 31) d_X8_nextToken_21 (by decide) (fun c3 => ?_) (fun c3 => ?_)
  · refine g_aload_n (n := 0) d_X8_nextToken_31 rfl rfl ?_
    refine g_getr d_X8_nextToken_32 fl_X8_19 sh_77 rfl ?_
    refine g_aload_n (n := 0) d_X8_nextToken_35 rfl rfl ?_
    refine g_geti d_X8_nextToken_36 fl_X8_87 sh_77 rfl ?_
    refine g_iaload d_X8_nextToken_39 sh_81 (fun _ => ?_)
    refine g_nm (fun y4 => ?_)
    refine g_istore_n d_X8_nextToken_40 rfl (by decide) rfl ?_
    refine g_iload_n (n := 0) d_X8_nextToken_41 rfl rfl ?_
    refine g_bipush (v := 48) d_X8_nextToken_42 (by decide) ?_
    refine g_bipush (v := 57) d_X8_nextToken_44 (by decide) ?_
    refine g_calls_pi (D := D + 0) (As := [.int y4, .int 48, .int 57]) d_X8_nextToken_46 ss_X8_59 rfl (Nat.le_of_ble_eq_true rfl) rfl (fun _ hy => EvM_cast (by omega) (e_X8_in (D := D + 0) hy)) (fun y5 => ?_)
    refine g_if_eq (tgt := 163) d_X8_nextToken_49 (by decide) (fun c6 => ?_) (fun c6 => ?_)
    · refine g_aload_n (n := 1) d_X8_nextToken_163 rfl rfl ?_
      refine g_iload_n (n := 0) d_X8_nextToken_164 rfl rfl ?_
      refine g_bipush (v := 97) d_X8_nextToken_165 (by decide) ?_
      refine g_bipush (v := 122) d_X8_nextToken_167 (by decide) ?_
      refine g_calls_pi (D := D + 0) (As := [.int y4, .int 97, .int 122]) d_X8_nextToken_169 ss_X8_59 rfl (Nat.le_of_ble_eq_true rfl) rfl (fun _ hy => EvM_cast (by omega) (e_X8_in (D := D + 0) hy)) (fun y7 => ?_)
      refine g_if_ne (tgt := 187) d_X8_nextToken_172 (by decide) (fun c8 => ?_) (fun c8 => ?_)
      · refine g_sub [1, 0] rfl ?_
        exact t_X8_nextToken_b187 
      · refine g_iload_n (n := 0) d_X8_nextToken_175 rfl rfl ?_
        refine g_bipush (v := 44) d_X8_nextToken_176 (by decide) ?_
        refine g_icmp_eq (tgt := 187) d_X8_nextToken_178 (by decide) (fun c9 => ?_) (fun c9 => ?_)
        · refine g_sub [1, 0] rfl ?_
          exact t_X8_nextToken_b187 
        · refine g_iload_n (n := 0) d_X8_nextToken_181 rfl rfl ?_
          refine g_bipush (v := 59) d_X8_nextToken_182 (by decide) ?_
          refine g_icmp_ne (tgt := 191) d_X8_nextToken_184 (by decide) (fun c10 => ?_) (fun c10 => ?_)
          · refine g_bipush (v := -3) d_X8_nextToken_191 (by decide) ?_
            refine g_sub [1] rfl ?_
            exact t_X8_nextToken_b193 
          · refine g_sub [1, 0] rfl ?_
            exact t_X8_nextToken_b187 
    · refine g_sub [1] rfl ?_
      exact t_X8_nextToken_l52  _ _
  · refine g_aload_n (n := 0) d_X8_nextToken_24 rfl rfl ?_
    refine g_bipush (v := -2) d_X8_nextToken_25 (by decide) ?_
    refine g_puti d_X8_nextToken_27 fl_X8_96 sh_77 rfl ?_
    refine g_mem (fun σ11 => ?_)
    exact g_vret d_X8_nextToken_30 rfl rfl
theorem e_X8_nextToken {l : Launch} {D : Nat} {n : Nat} {σ : Mem} {y : Mem} (hy : f_X8_nextToken n σ = some y) : EvM l (D + 1) m_X8_nextToken [.ref 77] σ ((fun τ => (none, τ)) y) :=
  evM_of (d := m_X8_nextToken) (nL := 2) rfl (by decide +kernel) (fun h => absurd (congrArg MethodName.cls h) (by decide +kernel)) (Nat.le_of_ble_eq_true rfl) (t_X8_nextToken y hy)

set_option maxHeartbeats 4000000 in
set_option maxRecDepth 100000 in
theorem t_X8_fails {l : Launch} {sc : Nat × (Nat → Int32)} {D : Nat} {x1 : Int32} {σ : Mem} : G l sc (D + 0) m_X8_fails 0 [(0, .ref 77), (1, .int x1)] [] σ (f_X8_fails x1 σ) (fun y => (some (.int y.1), y.2)) := by
  unfold f_X8_fails
  refine g_aload_n (n := 0) d_X8_fails_0 rfl rfl ?_
  refine g_iload_n (n := 1) d_X8_fails_1 rfl rfl ?_
  refine g_puti d_X8_fails_2 fl_X8_99 sh_77 rfl ?_
  refine g_mem (fun σ1 => ?_)
  refine g_iconst (v := 0) d_X8_fails_5 (by decide) ?_
  exact g_iret d_X8_fails_6 (Or.inr ⟨rfl, rfl⟩) rfl
theorem e_X8_fails {l : Launch} {D : Nat} {x1 : Int32} {σ : Mem} {y : (Int32 × Mem)} (hy : f_X8_fails x1 σ = some y) : EvM l (D + 0) m_X8_fails [.ref 77, .int x1] σ ((fun y => (some (.int y.1), y.2)) y) :=
  evM_of (d := m_X8_fails) (nL := 2) rfl (by decide +kernel) (fun h => absurd (congrArg MethodName.cls h) (by decide +kernel)) (Nat.le_of_ble_eq_true rfl) (t_X8_fails y hy)

set_option maxHeartbeats 4000000 in
set_option maxRecDepth 100000 in
theorem t_X8_isSign_b20 {l : Launch} {sc : Nat × (Nat → Int32)} {D : Nat} {n : Nat} {σ : Mem} : G l sc (D + 2) m_X8_isSign 20 [] [] σ (f_X8_isSign_b20 n σ) (fun y => (some (.int y.1), y.2)) := by
  unfold f_X8_isSign_b20
  refine g_iconst (v := 1) d_X8_isSign_20 (by decide) ?_
  refine g_goto (tgt := 25) d_X8_isSign_21 (by decide) ?_
  exact g_iret d_X8_isSign_25 (Or.inr ⟨rfl, rfl⟩) rfl
set_option maxHeartbeats 4000000 in
set_option maxRecDepth 100000 in
theorem t_X8_isSign {l : Launch} {sc : Nat × (Nat → Int32)} {D : Nat} {n : Nat} {x1 : Int32} {σ : Mem} : G l sc (D + 2) m_X8_isSign 0 [(0, .ref 77), (1, .int x1)] [] σ (f_X8_isSign n x1 σ) (fun y => (some (.int y.1), y.2)) := by
  unfold f_X8_isSign
  refine g_aload_n (n := 0) d_X8_isSign_0 rfl rfl ?_
  refine g_callv_vv (D := D + 1) (As := []) d_X8_isSign_1 sv_X8_102 ob_77 rfl (Nat.le_of_ble_eq_true rfl) rfl (fun _ hy => EvM_cast (by omega) (e_X8_nextToken (D := D + 0) hy)) (fun σ2 => ?_)
  refine g_aload_n (n := 0) d_X8_isSign_4 rfl rfl ?_
  refine g_geti d_X8_isSign_5 fl_X8_96 sh_77 rfl ?_
  refine g_iload_n (n := 1) d_X8_isSign_8 rfl rfl ?_
  refine g_icmp_eq (tgt := 20) d_X8_isSign_9 (by decide) (fun c3 => ?_) (fun c3 => ?_)
  · refine g_sub [] rfl ?_
    exact t_X8_isSign_b20 
  · refine g_aload_n (n := 0) d_X8_isSign_12 rfl rfl ?_
    refine g_iconst (v := 1) d_X8_isSign_13 (by decide) ?_
    refine g_callv_ii (D := D + 1) (As := [.int 1]) d_X8_isSign_14 sv_X8_105 ob_77 rfl (Nat.le_of_ble_eq_true rfl) rfl (fun _ hy => EvM_cast (by omega) (e_X8_fails (D := D + 1) hy)) (fun y4 σ5 => ?_)
    refine g_if_eq (tgt := 24) d_X8_isSign_17 (by decide) (fun c6 => ?_) (fun c6 => ?_)
    · refine g_iconst (v := 0) d_X8_isSign_24 (by decide) ?_
      exact g_iret d_X8_isSign_25 (Or.inr ⟨rfl, rfl⟩) rfl
    · refine g_sub [] rfl ?_
      exact t_X8_isSign_b20 
theorem e_X8_isSign {l : Launch} {D : Nat} {n : Nat} {x1 : Int32} {σ : Mem} {y : (Int32 × Mem)} (hy : f_X8_isSign n x1 σ = some y) : EvM l (D + 2) m_X8_isSign [.ref 77, .int x1] σ ((fun y => (some (.int y.1), y.2)) y) :=
  evM_of (d := m_X8_isSign) (nL := 2) rfl (by decide +kernel) (fun h => absurd (congrArg MethodName.cls h) (by decide +kernel)) (Nat.le_of_ble_eq_true rfl) (t_X8_isSign y hy)

set_option maxHeartbeats 4000000 in
set_option maxRecDepth 100000 in
theorem t_X8_isNumber_b38 {l : Launch} {sc : Nat × (Nat → Int32)} {D : Nat} {n : Nat} {σ : Mem} : G l sc (D + 2) m_X8_isNumber 38 [] [] σ (f_X8_isNumber_b38 n σ) (fun y => (some (.int y.1), y.2)) := by
  unfold f_X8_isNumber_b38
  refine g_iconst (v := 1) d_X8_isNumber_38 (by decide) ?_
  refine g_goto (tgt := 43) d_X8_isNumber_39 (by decide) ?_
  exact g_iret d_X8_isNumber_43 (Or.inr ⟨rfl, rfl⟩) rfl
set_option maxHeartbeats 4000000 in
set_option maxRecDepth 100000 in
theorem t_X8_isNumber {l : Launch} {sc : Nat × (Nat → Int32)} {D : Nat} {n : Nat} {x1 : Int32} {x2 : Int32} {σ : Mem} : G l sc (D + 2) m_X8_isNumber 0 [(0, .ref 77), (1, .int x1), (2, .int x2)] [] σ (f_X8_isNumber n x1 x2 σ) (fun y => (some (.int y.1), y.2)) := by
  unfold f_X8_isNumber
  refine g_aload_n (n := 0) d_X8_isNumber_0 rfl rfl ?_
  refine g_callv_vv (D := D + 1) (As := []) d_X8_isNumber_1 sv_X8_102 ob_77 rfl (Nat.le_of_ble_eq_true rfl) rfl (fun _ hy => EvM_cast (by omega) (e_X8_nextToken (D := D + 0) hy)) (fun σ2 => ?_)
  refine g_aload_n (n := 0) d_X8_isNumber_4 rfl rfl ?_
  refine g_geti d_X8_isNumber_5 fl_X8_96 sh_77 rfl ?_
  refine g_iconst (v := -1) d_X8_isNumber_8 (by decide) ?_
  refine g_icmp_eq (tgt := 18) d_X8_isNumber_9 (by decide) (fun c3 => ?_) (fun c3 => ?_)
  · refine g_aload_n (n := 0) d_X8_isNumber_18 rfl rfl ?_
    refine g_geti d_X8_isNumber_19 fl_X8_93 sh_77 rfl ?_
    refine g_iload_n (n := 1) d_X8_isNumber_22 rfl rfl ?_
    refine g_iload_n (n := 2) d_X8_isNumber_23 rfl rfl ?_
    refine g_calls_pi (D := D + 1) (As := [.int (σ2 77 9), .int x1, .int x2]) d_X8_isNumber_24 ss_X8_59 rfl (Nat.le_of_ble_eq_true rfl) rfl (fun _ hy => EvM_cast (by omega) (e_X8_in (D := D + 1) hy)) (fun y4 => ?_)
    refine g_if_ne (tgt := 38) d_X8_isNumber_27 (by decide) (fun c5 => ?_) (fun c5 => ?_)
    · refine g_sub [] rfl ?_
      exact t_X8_isNumber_b38 
    · refine g_aload_n (n := 0) d_X8_isNumber_30 rfl rfl ?_
      refine g_iconst (v := 2) d_X8_isNumber_31 (by decide) ?_
      refine g_callv_ii (D := D + 1) (As := [.int 2]) d_X8_isNumber_32 sv_X8_105 ob_77 rfl (Nat.le_of_ble_eq_true rfl) rfl (fun _ hy => EvM_cast (by omega) (e_X8_fails (D := D + 1) hy)) (fun y6 σ7 => ?_)
      refine g_if_eq (tgt := 42) d_X8_isNumber_35 (by decide) (fun c8 => ?_) (fun c8 => ?_)
      · refine g_iconst (v := 0) d_X8_isNumber_42 (by decide) ?_
        exact g_iret d_X8_isNumber_43 (Or.inr ⟨rfl, rfl⟩) rfl
      · refine g_sub [] rfl ?_
        exact t_X8_isNumber_b38 
  · refine g_aload_n (n := 0) d_X8_isNumber_12 rfl rfl ?_
    refine g_iconst (v := 1) d_X8_isNumber_13 (by decide) ?_
    refine g_callv_ii (D := D + 1) (As := [.int 1]) d_X8_isNumber_14 sv_X8_105 ob_77 rfl (Nat.le_of_ble_eq_true rfl) rfl (fun _ hy => EvM_cast (by omega) (e_X8_fails (D := D + 1) hy)) (fun y9 σ10 => ?_)
    refine g_guard (fun h11 => ?_)
    exact g_iret d_X8_isNumber_17 (Or.inr ⟨rfl, h11⟩) rfl
theorem e_X8_isNumber {l : Launch} {D : Nat} {n : Nat} {x1 : Int32} {x2 : Int32} {σ : Mem} {y : (Int32 × Mem)} (hy : f_X8_isNumber n x1 x2 σ = some y) : EvM l (D + 2) m_X8_isNumber [.ref 77, .int x1, .int x2] σ ((fun y => (some (.int y.1), y.2)) y) :=
  evM_of (d := m_X8_isNumber) (nL := 3) rfl (by decide +kernel) (fun h => absurd (congrArg MethodName.cls h) (by decide +kernel)) (Nat.le_of_ble_eq_true rfl) (t_X8_isNumber y hy)

set_option maxHeartbeats 4000000 in
set_option maxRecDepth 100000 in
theorem t_X8_sortBy {l : Launch} {sc : Nat × (Nat → Int32)} {D : Nat} {σ : Mem} {x0 : Int32} : G l sc (D + 0) m_X8_sortBy 0 [(0, .int x0)] [] σ (f_X8_sortBy σ x0) (fun y => (some (.int y), σ)) := by
  unfold f_X8_sortBy
  refine g_iload_n (n := 0) d_X8_sortBy_0 rfl rfl ?_
  refine g_bipush (v := 102) d_X8_sortBy_1 (by decide) ?_
  refine g_icmp_ne (tgt := 10) d_X8_sortBy_3 (by decide) (fun c1 => ?_) (fun c1 => ?_)
  · refine g_iload_n (n := 0) d_X8_sortBy_10 rfl rfl ?_
    refine g_bipush (v := 115) d_X8_sortBy_11 (by decide) ?_
    refine g_icmp_ne (tgt := 20) d_X8_sortBy_13 (by decide) (fun c2 => ?_) (fun c2 => ?_)
    · refine g_iload_n (n := 0) d_X8_sortBy_20 rfl rfl ?_
      refine g_bipush (v := 97) d_X8_sortBy_21 (by decide) ?_
      refine g_icmp_ne (tgt := 30) d_X8_sortBy_23 (by decide) (fun c3 => ?_) (fun c3 => ?_)
      · refine g_iload_n (n := 0) d_X8_sortBy_30 rfl rfl ?_
        refine g_bipush (v := 111) d_X8_sortBy_31 (by decide) ?_
        refine g_icmp_ne (tgt := 40) d_X8_sortBy_33 (by decide) (fun c4 => ?_) (fun c4 => ?_)
        · refine g_iload_n (n := 0) d_X8_sortBy_40 rfl rfl ?_
          refine g_bipush (v := 104) d_X8_sortBy_41 (by decide) ?_
          refine g_icmp_ne (tgt := 50) d_X8_sortBy_43 (by decide) (fun c5 => ?_) (fun c5 => ?_)
          · refine g_iconst (v := 0) d_X8_sortBy_50 (by decide) ?_
            exact g_iret d_X8_sortBy_51 (Or.inl rfl) rfl
          · refine g_iconst (v := 5) d_X8_sortBy_46 (by decide) ?_
            refine g_goto (tgt := 51) d_X8_sortBy_47 (by decide) ?_
            exact g_iret d_X8_sortBy_51 (Or.inl rfl) rfl
        · refine g_iconst (v := 4) d_X8_sortBy_36 (by decide) ?_
          refine g_goto (tgt := 51) d_X8_sortBy_37 (by decide) ?_
          exact g_iret d_X8_sortBy_51 (Or.inl rfl) rfl
      · refine g_iconst (v := 3) d_X8_sortBy_26 (by decide) ?_
        refine g_goto (tgt := 51) d_X8_sortBy_27 (by decide) ?_
        exact g_iret d_X8_sortBy_51 (Or.inl rfl) rfl
    · refine g_iconst (v := 2) d_X8_sortBy_16 (by decide) ?_
      refine g_goto (tgt := 51) d_X8_sortBy_17 (by decide) ?_
      exact g_iret d_X8_sortBy_51 (Or.inl rfl) rfl
  · refine g_iconst (v := 1) d_X8_sortBy_6 (by decide) ?_
    refine g_goto (tgt := 51) d_X8_sortBy_7 (by decide) ?_
    exact g_iret d_X8_sortBy_51 (Or.inl rfl) rfl
theorem e_X8_sortBy {l : Launch} {D : Nat} {σ : Mem} {x0 : Int32} {y : Int32} (hy : f_X8_sortBy σ x0 = some y) : EvM l (D + 0) m_X8_sortBy [.int x0] σ ((fun y => (some (.int y), σ)) y) :=
  evM_of (d := m_X8_sortBy) (nL := 1) rfl (by decide +kernel) (fun h => absurd (congrArg MethodName.cls h) (by decide +kernel)) (Nat.le_of_ble_eq_true rfl) (t_X8_sortBy y hy)

set_option maxHeartbeats 4000000 in
set_option maxRecDepth 100000 in
theorem t_X8_isThree_b85 {l : Launch} {sc : Nat × (Nat → Int32)} {D : Nat} {n : Nat} {k3 : Int32 → Int32 → Int32 → Int32 → Int32 → Int32 → Int32 → Mem → Option (Int32 × Mem)} {x1 : Int32} {x2 : Int32} {x3 : Int32} {x4 : Int32} {x5 : Int32} {x6 : Int32} {x7 : Int32} {s0 : Int32} {σ : Mem} (hk3 : ∀ x1 x2 x3 x4 x5 x6 x7 σ, G l sc (D + 3) m_X8_isThree 3 [(0, .ref 77), (1, .int x1), (2, .int x2), (3, .int x3), (4, .int x4), (5, .int x5), (6, .int x6), (7, .int x7)] [] σ (k3 x1 x2 x3 x4 x5 x6 x7 σ) (fun y => (some (.int y.1), y.2))) : G l sc (D + 3) m_X8_isThree 85 [(0, .ref 77), (1, .int x1), (2, .int x2), (3, .int x3), (4, .int x4), (5, .int x5), (6, .int x6), (7, .int x7)] [.int s0, .ref 77] σ (f_X8_isThree_b85 n k3 x1 x2 x3 x4 x5 x6 x7 s0 σ) (fun y => (some (.int y.1), y.2)) := by
  unfold f_X8_isThree_b85
  refine g_callv_ii (D := D + 2) (As := [.int s0]) d_X8_isThree_85 sv_X8_112 ob_77 rfl (Nat.le_of_ble_eq_true rfl) rfl (fun _ hy => EvM_cast (by omega) (e_X8_isSign (D := D + 0) hy)) (fun y1 σ2 => ?_)
  refine g_if_ne (tgt := 93) d_X8_isThree_88 (by decide) (fun c3 => ?_) (fun c3 => ?_)
  · refine g_iinc (n := 7) (w := 1) d_X8_isThree_93 rfl (by decide) (by decide) rfl ?_
    refine g_goto (tgt := 3) d_X8_isThree_96 (by decide) ?_
    refine g_sub [1, 2, 3, 4, 5, 6, 7, 0] rfl ?_
    exact hk3 _ _ _ _ _ _ _ _
  · refine g_iconst (v := 0) d_X8_isThree_91 (by decide) ?_
    exact g_iret d_X8_isThree_92 (Or.inr ⟨rfl, rfl⟩) rfl
set_option maxHeartbeats 4000000 in
set_option maxRecDepth 100000 in
theorem t_X8_isThree_b66 {l : Launch} {sc : Nat × (Nat → Int32)} {D : Nat} {n : Nat} {k3 : Int32 → Int32 → Int32 → Int32 → Int32 → Int32 → Int32 → Mem → Option (Int32 × Mem)} {x1 : Int32} {x2 : Int32} {x3 : Int32} {x4 : Int32} {x5 : Int32} {x6 : Int32} {x7 : Int32} {s0 : Int32} {σ : Mem} (hk3 : ∀ x1 x2 x3 x4 x5 x6 x7 σ, G l sc (D + 3) m_X8_isThree 3 [(0, .ref 77), (1, .int x1), (2, .int x2), (3, .int x3), (4, .int x4), (5, .int x5), (6, .int x6), (7, .int x7)] [] σ (k3 x1 x2 x3 x4 x5 x6 x7 σ) (fun y => (some (.int y.1), y.2))) : G l sc (D + 3) m_X8_isThree 66 [(0, .ref 77), (1, .int x1), (2, .int x2), (3, .int x3), (4, .int x4), (5, .int x5), (6, .int x6), (7, .int x7)] [.int s0, .ref 83] σ (f_X8_isThree_b66 n k3 x1 x2 x3 x4 x5 x6 x7 s0 σ) (fun y => (some (.int y.1), y.2)) := by
  unfold f_X8_isThree_b66
  refine g_aload_n (n := 0) d_X8_isThree_66 rfl rfl ?_
  refine g_geti d_X8_isThree_67 fl_X8_93 sh_77 rfl ?_
  refine g_iastore d_X8_isThree_70 sh_83 (fun _ => ?_)
  refine g_mem (fun σ1 => ?_)
  refine g_aload_n (n := 0) d_X8_isThree_71 rfl rfl ?_
  refine g_iload (n := 7) d_X8_isThree_72 rfl ?_
  refine g_iconst (v := 2) d_X8_isThree_74 (by decide) ?_
  refine g_icmp_ne (tgt := 83) d_X8_isThree_75 (by decide) (fun c2 => ?_) (fun c2 => ?_)
  · refine g_bipush (v := 44) d_X8_isThree_83 (by decide) ?_
    refine g_sub [0, 1, 2, 3, 4, 5, 6, 7] rfl ?_
    exact t_X8_isThree_b85 hk3
  · refine g_bipush (v := 59) d_X8_isThree_78 (by decide) ?_
    refine g_goto (tgt := 85) d_X8_isThree_80 (by decide) ?_
    refine g_sub [0, 1, 2, 3, 4, 5, 6, 7] rfl ?_
    exact t_X8_isThree_b85 hk3
set_option maxHeartbeats 4000000 in
set_option maxRecDepth 100000 in
theorem t_X8_isThree_b33 {l : Launch} {sc : Nat × (Nat → Int32)} {D : Nat} {n : Nat} {k3 : Int32 → Int32 → Int32 → Int32 → Int32 → Int32 → Int32 → Mem → Option (Int32 × Mem)} {x1 : Int32} {x2 : Int32} {x3 : Int32} {x4 : Int32} {x5 : Int32} {x6 : Int32} {x7 : Int32} {s0 : Int32} {s1 : Int32} {σ : Mem} (hk3 : ∀ x1 x2 x3 x4 x5 x6 x7 σ, G l sc (D + 3) m_X8_isThree 3 [(0, .ref 77), (1, .int x1), (2, .int x2), (3, .int x3), (4, .int x4), (5, .int x5), (6, .int x6), (7, .int x7)] [] σ (k3 x1 x2 x3 x4 x5 x6 x7 σ) (fun y => (some (.int y.1), y.2))) : G l sc (D + 3) m_X8_isThree 33 [(0, .ref 77), (1, .int x1), (2, .int x2), (3, .int x3), (4, .int x4), (5, .int x5), (6, .int x6), (7, .int x7)] [.int s0, .int s1, .ref 77] σ (f_X8_isThree_b33 n k3 x1 x2 x3 x4 x5 x6 x7 s0 s1 σ) (fun y => (some (.int y.1), y.2)) := by
  unfold f_X8_isThree_b33
  refine g_callv_ii (D := D + 2) (As := [.int s1, .int s0]) d_X8_isThree_33 sv_X8_108 ob_77 rfl (Nat.le_of_ble_eq_true rfl) rfl (fun _ hy => EvM_cast (by omega) (e_X8_isNumber (D := D + 0) hy)) (fun y1 σ2 => ?_)
  refine g_if_ne (tgt := 41) d_X8_isThree_36 (by decide) (fun c3 => ?_) (fun c3 => ?_)
  · refine g_aload_n (n := 0) d_X8_isThree_41 rfl rfl ?_
    refine g_getr d_X8_isThree_42 fl_X8_25 sh_77 rfl ?_
    refine g_iload (n := 7) d_X8_isThree_45 rfl ?_
    refine g_if_ne (tgt := 54) d_X8_isThree_47 (by decide) (fun c4 => ?_) (fun c4 => ?_)
    · refine g_iload (n := 7) d_X8_isThree_54 rfl ?_
      refine g_iconst (v := 1) d_X8_isThree_56 (by decide) ?_
      refine g_icmp_ne (tgt := 64) d_X8_isThree_57 (by decide) (fun c5 => ?_) (fun c5 => ?_)
      · refine g_iload (n := 5) d_X8_isThree_64 rfl ?_
        refine g_sub [0, 1, 2, 3, 4, 5, 6, 7] rfl ?_
        exact t_X8_isThree_b66 hk3
      · refine g_iload_n (n := 3) d_X8_isThree_60 rfl rfl ?_
        refine g_goto (tgt := 66) d_X8_isThree_61 (by decide) ?_
        refine g_sub [0, 1, 2, 3, 4, 5, 6, 7] rfl ?_
        exact t_X8_isThree_b66 hk3
    · refine g_iload_n (n := 1) d_X8_isThree_50 rfl rfl ?_
      refine g_goto (tgt := 66) d_X8_isThree_51 (by decide) ?_
      refine g_sub [0, 1, 2, 3, 4, 5, 6, 7] rfl ?_
      exact t_X8_isThree_b66 hk3
  · refine g_iconst (v := 0) d_X8_isThree_39 (by decide) ?_
    exact g_iret d_X8_isThree_40 (Or.inr ⟨rfl, rfl⟩) rfl
set_option maxHeartbeats 4000000 in
set_option maxRecDepth 100000 in
theorem t_X8_isThree_b3 {l : Launch} {sc : Nat × (Nat → Int32)} {D : Nat} {n : Nat} {k3 : Int32 → Int32 → Int32 → Int32 → Int32 → Int32 → Int32 → Mem → Option (Int32 × Mem)} {x1 : Int32} {x2 : Int32} {x3 : Int32} {x4 : Int32} {x5 : Int32} {x6 : Int32} {x7 : Int32} {σ : Mem} (hk3 : ∀ x1 x2 x3 x4 x5 x6 x7 σ, G l sc (D + 3) m_X8_isThree 3 [(0, .ref 77), (1, .int x1), (2, .int x2), (3, .int x3), (4, .int x4), (5, .int x5), (6, .int x6), (7, .int x7)] [] σ (k3 x1 x2 x3 x4 x5 x6 x7 σ) (fun y => (some (.int y.1), y.2))) : G l sc (D + 3) m_X8_isThree 3 [(0, .ref 77), (1, .int x1), (2, .int x2), (3, .int x3), (4, .int x4), (5, .int x5), (6, .int x6), (7, .int x7)] [] σ (f_X8_isThree_b3 n k3 x1 x2 x3 x4 x5 x6 x7 σ) (fun y => (some (.int y.1), y.2)) := by
  unfold f_X8_isThree_b3
  refine g_iload (n := 7) d_X8_isThree_3 rfl ?_
  refine g_iconst (v := 3) d_X8_isThree_5 (by decide) ?_
  refine g_icmp_ge (tgt := 99) d_X8_isThree_6 (by decide) (fun c1 => ?_) (fun c1 => ?_)
  · refine g_iconst (v := 1) d_X8_isThree_99 (by decide) ?_
    exact g_iret d_X8_isThree_100 (Or.inr ⟨rfl, rfl⟩) rfl
  · refine g_aload_n (n := 0) d_X8_isThree_9 rfl rfl ?_
    refine g_iconst (v := 0) d_X8_isThree_10 (by decide) ?_
    refine g_iload (n := 7) d_X8_isThree_11 rfl ?_
    refine g_if_ne (tgt := 20) d_X8_isThree_13 (by decide) (fun c2 => ?_) (fun c2 => ?_)
    · refine g_iload (n := 7) d_X8_isThree_20 rfl ?_
      refine g_iconst (v := 1) d_X8_isThree_22 (by decide) ?_
      refine g_icmp_ne (tgt := 31) d_X8_isThree_23 (by decide) (fun c3 => ?_) (fun c3 => ?_)
      · refine g_iload (n := 6) d_X8_isThree_31 rfl ?_
        refine g_sub [0, 1, 2, 3, 4, 5, 6, 7] rfl ?_
        exact t_X8_isThree_b33 hk3
      · refine g_iload (n := 4) d_X8_isThree_26 rfl ?_
        refine g_goto (tgt := 33) d_X8_isThree_28 (by decide) ?_
        refine g_sub [0, 1, 2, 3, 4, 5, 6, 7] rfl ?_
        exact t_X8_isThree_b33 hk3
    · refine g_iload_n (n := 2) d_X8_isThree_16 rfl rfl ?_
      refine g_goto (tgt := 33) d_X8_isThree_17 (by decide) ?_
      refine g_sub [0, 1, 2, 3, 4, 5, 6, 7] rfl ?_
      exact t_X8_isThree_b33 hk3
set_option maxHeartbeats 4000000 in
set_option maxRecDepth 100000 in
theorem t_X8_isThree_l3 {l : Launch} {sc : Nat × (Nat → Int32)} {D : Nat} {n : Nat} : ∀ (f : Nat) (x1 : Int32) (x2 : Int32) (x3 : Int32) (x4 : Int32) (x5 : Int32) (x6 : Int32) (x7 : Int32) (σ : Mem), G l sc (D + 3) m_X8_isThree 3 [(0, .ref 77), (1, .int x1), (2, .int x2), (3, .int x3), (4, .int x4), (5, .int x5), (6, .int x6), (7, .int x7)] [] σ (f_X8_isThree_l3 n f x1 x2 x3 x4 x5 x6 x7 σ) (fun y => (some (.int y.1), y.2)) := by
  intro f
  induction f with
  | zero => intro x1 x2 x3 x4 x5 x6 x7 σ; exact g_none
  | succ f ih => intro x1 x2 x3 x4 x5 x6 x7 σ; exact t_X8_isThree_b3 ih
set_option maxHeartbeats 4000000 in
set_option maxRecDepth 100000 in
theorem t_X8_isThree {l : Launch} {sc : Nat × (Nat → Int32)} {D : Nat} {n : Nat} {x1 : Int32} {x2 : Int32} {x3 : Int32} {x4 : Int32} {x5 : Int32} {x6 : Int32} {σ : Mem} : G l sc (D + 3) m_X8_isThree 0 [(0, .ref 77), (1, .int x1), (2, .int x2), (3, .int x3), (4, .int x4), (5, .int x5), (6, .int x6)] [] σ (f_X8_isThree n x1 x2 x3 x4 x5 x6 σ) (fun y => (some (.int y.1), y.2)) := by
  unfold f_X8_isThree
  refine g_iconst (v := 0) d_X8_isThree_0 (by decide) ?_
  refine g_istore d_X8_isThree_1 (by decide) rfl ?_
  refine g_sub [1, 2, 3, 4, 5, 6, 7, 0] rfl ?_
  exact t_X8_isThree_l3  _ _ _ _ _ _ _ _ _
theorem e_X8_isThree {l : Launch} {D : Nat} {n : Nat} {x1 : Int32} {x2 : Int32} {x3 : Int32} {x4 : Int32} {x5 : Int32} {x6 : Int32} {σ : Mem} {y : (Int32 × Mem)} (hy : f_X8_isThree n x1 x2 x3 x4 x5 x6 σ = some y) : EvM l (D + 3) m_X8_isThree [.ref 77, .int x1, .int x2, .int x3, .int x4, .int x5, .int x6] σ ((fun y => (some (.int y.1), y.2)) y) :=
  evM_of (d := m_X8_isThree) (nL := 8) rfl (by decide +kernel) (fun h => absurd (congrArg MethodName.cls h) (by decide +kernel)) (Nat.le_of_ble_eq_true rfl) (t_X8_isThree y hy)

set_option maxHeartbeats 4000000 in
set_option maxRecDepth 100000 in
theorem t_X8_isReader_b18 {l : Launch} {sc : Nat × (Nat → Int32)} {D : Nat} {n : Nat} {s0 : Int32} {σ : Mem} : G l sc (D + 4) m_X8_isReader 18 [(0, .ref 77)] [.int s0] σ (f_X8_isReader_b18 n s0 σ) (fun y => (some (.int y.1), y.2)) := by
  unfold f_X8_isReader_b18
  refine g_istore_n d_X8_isReader_18 rfl (by decide) rfl ?_
  refine g_iload_n (n := 0) d_X8_isReader_19 rfl rfl ?_
  refine g_if_ne (tgt := 29) d_X8_isReader_20 (by decide) (fun c1 => ?_) (fun c1 => ?_)
  · refine g_aload_n (n := 1) d_X8_isReader_29 rfl rfl ?_
    refine g_getr d_X8_isReader_30 fl_X8_25 sh_77 rfl ?_
    refine g_iconst (v := 4) d_X8_isReader_33 (by decide) ?_
    refine g_iaload d_X8_isReader_34 sh_83 (fun _ => ?_)
    refine g_nm (fun y2 => ?_)
    refine g_istore_n d_X8_isReader_35 rfl (by decide) rfl ?_
    refine g_iload_n (n := 0) d_X8_isReader_36 rfl rfl ?_
    refine g_bipush (v := 6) d_X8_isReader_37 (by decide) ?_
    refine g_icmp_ne (tgt := 48) d_X8_isReader_39 (by decide) (fun c3 => ?_) (fun c3 => ?_)
    · refine g_aload_n (n := 2) d_X8_isReader_48 rfl rfl ?_
      refine g_getr d_X8_isReader_49 fl_X8_25 sh_77 rfl ?_
      refine g_bipush (v := 9) d_X8_isReader_52 (by decide) ?_
      refine g_iload_n (n := 0) d_X8_isReader_54 rfl rfl ?_
      refine g_iadd d_X8_isReader_55 ?_
      refine g_iload_n (n := 1) d_X8_isReader_56 rfl rfl ?_
      refine g_iastore d_X8_isReader_57 sh_83 (fun _ => ?_)
      refine g_mem (fun σ4 => ?_)
      refine g_aload_n (n := 2) d_X8_isReader_58 rfl rfl ?_
      refine g_bipush (v := 15) d_X8_isReader_59 (by decide) ?_
      refine g_iload_n (n := 0) d_X8_isReader_61 rfl rfl ?_
      refine g_iadd d_X8_isReader_62 ?_
      refine g_bipush (v := 9) d_X8_isReader_63 (by decide) ?_
      refine g_bipush (v := 21) d_X8_isReader_65 (by decide) ?_
      refine g_iload_n (n := 0) d_X8_isReader_67 rfl rfl ?_
      refine g_iadd d_X8_isReader_68 ?_
      refine g_bipush (v := 30) d_X8_isReader_69 (by decide) ?_
      refine g_bipush (v := 27) d_X8_isReader_71 (by decide) ?_
      refine g_iload_n (n := 0) d_X8_isReader_73 rfl rfl ?_
      refine g_iadd d_X8_isReader_74 ?_
      refine g_bipush (v := 9) d_X8_isReader_75 (by decide) ?_
      refine g_callv_ii (D := D + 3) (As := [.int (15 + y2), .int 9, .int (21 + y2), .int 30, .int (27 + y2), .int 9]) d_X8_isReader_77 sv_X8_118 ob_77 rfl (Nat.le_of_ble_eq_true rfl) rfl (fun _ hy => EvM_cast (by omega) (e_X8_isThree (D := D + 0) hy)) (fun y5 σ6 => ?_)
      refine g_if_ne (tgt := 85) d_X8_isReader_80 (by decide) (fun c7 => ?_) (fun c7 => ?_)
      · refine g_aload_n (n := 2) d_X8_isReader_85 rfl rfl ?_
        refine g_getr d_X8_isReader_86 fl_X8_25 sh_77 rfl ?_
        refine g_iconst (v := 4) d_X8_isReader_89 (by decide) ?_
        refine g_dup2 d_X8_isReader_90 rfl rfl ?_
        refine g_iaload d_X8_isReader_91 sh_83 (fun _ => ?_)
        refine g_iconst (v := 1) d_X8_isReader_92 (by decide) ?_
        refine g_iadd d_X8_isReader_93 ?_
        refine g_iastore d_X8_isReader_94 sh_83 (fun _ => ?_)
        refine g_mem (fun σ8 => ?_)
        refine g_iconst (v := 1) d_X8_isReader_95 (by decide) ?_
        exact g_iret d_X8_isReader_96 (Or.inr ⟨rfl, rfl⟩) rfl
      · refine g_iconst (v := 0) d_X8_isReader_83 (by decide) ?_
        exact g_iret d_X8_isReader_84 (Or.inr ⟨rfl, rfl⟩) rfl
    · refine g_aload_n (n := 2) d_X8_isReader_42 rfl rfl ?_
      refine g_iconst (v := 3) d_X8_isReader_43 (by decide) ?_
      refine g_callv_ii (D := D + 3) (As := [.int 3]) d_X8_isReader_44 sv_X8_105 ob_77 rfl (Nat.le_of_ble_eq_true rfl) rfl (fun _ hy => EvM_cast (by omega) (e_X8_fails (D := D + 3) hy)) (fun y9 σ10 => ?_)
      refine g_guard (fun h11 => ?_)
      exact g_iret d_X8_isReader_47 (Or.inr ⟨rfl, h11⟩) rfl
  · refine g_aload_n (n := 1) d_X8_isReader_23 rfl rfl ?_
    refine g_iconst (v := 1) d_X8_isReader_24 (by decide) ?_
    refine g_callv_ii (D := D + 3) (As := [.int 1]) d_X8_isReader_25 sv_X8_105 ob_77 rfl (Nat.le_of_ble_eq_true rfl) rfl (fun _ hy => EvM_cast (by omega) (e_X8_fails (D := D + 3) hy)) (fun y12 σ13 => ?_)
    refine g_guard (fun h14 => ?_)
    exact g_iret d_X8_isReader_28 (Or.inr ⟨rfl, h14⟩) rfl
set_option maxHeartbeats 4000000 in
set_option maxRecDepth 100000 in
theorem t_X8_isReader {l : Launch} {sc : Nat × (Nat → Int32)} {D : Nat} {n : Nat} {σ : Mem} : G l sc (D + 4) m_X8_isReader 0 [(0, .ref 77)] [] σ (f_X8_isReader n σ) (fun y => (some (.int y.1), y.2)) := by
  unfold f_X8_isReader
  refine g_aload_n (n := 0) d_X8_isReader_0 rfl rfl ?_
  refine g_geti d_X8_isReader_1 fl_X8_96 sh_77 rfl ?_
  refine g_if_le (tgt := 17) d_X8_isReader_4 (by decide) (fun c1 => ?_) (fun c1 => ?_)
  · refine g_iconst (v := 0) d_X8_isReader_17 (by decide) ?_
    refine g_sub [0] rfl ?_
    exact t_X8_isReader_b18 
  · refine g_aload_n (n := 0) d_X8_isReader_7 rfl rfl ?_
    refine g_geti d_X8_isReader_8 fl_X8_96 sh_77 rfl ?_
    refine g_calls_pi (D := D + 3) (As := [.int (σ 77 8)]) d_X8_isReader_11 ss_X8_115 rfl (Nat.le_of_ble_eq_true rfl) rfl (fun _ hy => EvM_cast (by omega) (e_X8_sortBy (D := D + 3) hy)) (fun y2 => ?_)
    refine g_goto (tgt := 18) d_X8_isReader_14 (by decide) ?_
    refine g_sub [0] rfl ?_
    exact t_X8_isReader_b18 
theorem e_X8_isReader {l : Launch} {D : Nat} {n : Nat} {σ : Mem} {y : (Int32 × Mem)} (hy : f_X8_isReader n σ = some y) : EvM l (D + 4) m_X8_isReader [.ref 77] σ ((fun y => (some (.int y.1), y.2)) y) :=
  evM_of (d := m_X8_isReader) (nL := 3) rfl (by decide +kernel) (fun h => absurd (congrArg MethodName.cls h) (by decide +kernel)) (Nat.le_of_ble_eq_true rfl) (t_X8_isReader y hy)

set_option maxHeartbeats 4000000 in
set_option maxRecDepth 100000 in
theorem t_X8_isRead_b79 {l : Launch} {sc : Nat × (Nat → Int32)} {D : Nat} {n : Nat} {k79 : Mem → Option (Int32 × Mem)} {σ : Mem} (hk79 : ∀ σ, G l sc (D + 5) m_X8_isRead 79 [(0, .ref 77)] [] σ (k79 σ) (fun y => (some (.int y.1), y.2))) : G l sc (D + 5) m_X8_isRead 79 [(0, .ref 77)] [] σ (f_X8_isRead_b79 n k79 σ) (fun y => (some (.int y.1), y.2)) := by
  unfold f_X8_isRead_b79
  refine g_aload_n (n := 0) d_X8_isRead_79 rfl rfl ?_
  refine g_geti d_X8_isRead_80 fl_X8_96 sh_77 rfl ?_
  refine g_bipush (v := -2) d_X8_isRead_83 (by decide) ?_
  refine g_icmp_eq (tgt := 104) d_X8_isRead_85 (by decide) (fun c1 => ?_) (fun c1 => ?_)
  · refine g_iconst (v := 1) d_X8_isRead_104 (by decide) ?_
    exact g_iret d_X8_isRead_105 (Or.inr ⟨rfl, rfl⟩) rfl
  · refine g_aload_n (n := 0) d_X8_isRead_88 rfl rfl ?_
    refine g_callv_ii (D := D + 4) (As := []) d_X8_isRead_89 sv_X8_122 ob_77 rfl (Nat.le_of_ble_eq_true rfl) rfl (fun _ hy => EvM_cast (by omega) (e_X8_isReader (D := D + 0) hy)) (fun y2 σ3 => ?_)
    refine g_if_ne (tgt := 97) d_X8_isRead_92 (by decide) (fun c4 => ?_) (fun c4 => ?_)
    · refine g_aload_n (n := 0) d_X8_isRead_97 rfl rfl ?_
      refine g_callv_vv (D := D + 4) (As := []) d_X8_isRead_98 sv_X8_102 ob_77 rfl (Nat.le_of_ble_eq_true rfl) rfl (fun _ hy => EvM_cast (by omega) (e_X8_nextToken (D := D + 3) hy)) (fun σ6 => ?_)
      refine g_goto (tgt := 79) d_X8_isRead_101 (by decide) ?_
      refine g_sub [0] rfl ?_
      exact hk79 _
    · refine g_iconst (v := 0) d_X8_isRead_95 (by decide) ?_
      exact g_iret d_X8_isRead_96 (Or.inr ⟨rfl, rfl⟩) rfl
set_option maxHeartbeats 4000000 in
set_option maxRecDepth 100000 in
theorem t_X8_isRead_l79 {l : Launch} {sc : Nat × (Nat → Int32)} {D : Nat} {n : Nat} : ∀ (f : Nat) (σ : Mem), G l sc (D + 5) m_X8_isRead 79 [(0, .ref 77)] [] σ (f_X8_isRead_l79 n f σ) (fun y => (some (.int y.1), y.2)) := by
  intro f
  induction f with
  | zero => intro  σ; exact g_none
  | succ f ih => intro  σ; exact t_X8_isRead_b79 ih
set_option maxHeartbeats 4000000 in
set_option maxRecDepth 100000 in
theorem t_X8_isRead_b2 {l : Launch} {sc : Nat × (Nat → Int32)} {D : Nat} {n : Nat} {k2 : Int32 → Mem → Option (Int32 × Mem)} {x1 : Int32} {σ : Mem} (hk2 : ∀ x1 σ, G l sc (D + 5) m_X8_isRead 2 [(0, .ref 77), (1, .int x1)] [] σ (k2 x1 σ) (fun y => (some (.int y.1), y.2))) : G l sc (D + 5) m_X8_isRead 2 [(0, .ref 77), (1, .int x1)] [] σ (f_X8_isRead_b2 n k2 x1 σ) (fun y => (some (.int y.1), y.2)) := by
  unfold f_X8_isRead_b2
  refine g_iload_n (n := 1) d_X8_isRead_2 rfl rfl ?_
  refine g_bipush (v := 33) d_X8_isRead_3 (by decide) ?_
  refine g_icmp_ge (tgt := 21) d_X8_isRead_5 (by decide) (fun c1 => ?_) (fun c1 => ?_)
  · refine g_aload_n (n := 0) d_X8_isRead_21 rfl rfl ?_
    refine g_iconst (v := 0) d_X8_isRead_22 (by decide) ?_
    refine g_puti d_X8_isRead_23 fl_X8_87 sh_77 rfl ?_
    refine g_mem (fun σ2 => ?_)
    refine g_aload_n (n := 0) d_X8_isRead_26 rfl rfl ?_
    refine g_bipush (v := 112) d_X8_isRead_27 (by decide) ?_
    refine g_callv_ii (D := D + 4) (As := [.int 112]) d_X8_isRead_29 sv_X8_112 ob_77 rfl (Nat.le_of_ble_eq_true rfl) rfl (fun _ hy => EvM_cast (by omega) (e_X8_isSign (D := D + 2) hy)) (fun y3 σ4 => ?_)
    refine g_if_eq (tgt := 53) d_X8_isRead_32 (by decide) (fun c5 => ?_) (fun c5 => ?_)
    · refine g_iconst (v := 0) d_X8_isRead_53 (by decide) ?_
      exact g_iret d_X8_isRead_54 (Or.inr ⟨rfl, rfl⟩) rfl
    · refine g_aload_n (n := 0) d_X8_isRead_35 rfl rfl ?_
      refine g_iconst (v := 5) d_X8_isRead_36 (by decide) ?_
      refine g_bipush (v := 9) d_X8_isRead_37 (by decide) ?_
      refine g_bipush (v := 6) d_X8_isRead_39 (by decide) ?_
      refine g_bipush (v := 20) d_X8_isRead_41 (by decide) ?_
      refine g_bipush (v := 7) d_X8_isRead_43 (by decide) ?_
      refine g_bipush (v := 60) d_X8_isRead_45 (by decide) ?_
      refine g_callv_ii (D := D + 4) (As := [.int 5, .int 9, .int 6, .int 20, .int 7, .int 60]) d_X8_isRead_47 sv_X8_118 ob_77 rfl (Nat.le_of_ble_eq_true rfl) rfl (fun _ hy => EvM_cast (by omega) (e_X8_isThree (D := D + 1) hy)) (fun y6 σ7 => ?_)
      refine g_if_ne (tgt := 55) d_X8_isRead_50 (by decide) (fun c8 => ?_) (fun c8 => ?_)
      · refine g_aload_n (n := 0) d_X8_isRead_55 rfl rfl ?_
        refine g_getr d_X8_isRead_56 fl_X8_25 sh_77 rfl ?_
        refine g_iconst (v := 0) d_X8_isRead_59 (by decide) ?_
        refine g_aload_n (n := 0) d_X8_isRead_60 rfl rfl ?_
        refine g_getr d_X8_isRead_61 fl_X8_25 sh_77 rfl ?_
        refine g_iconst (v := 5) d_X8_isRead_64 (by decide) ?_
        refine g_iaload d_X8_isRead_65 sh_83 (fun _ => ?_)
        refine g_iastore d_X8_isRead_66 sh_83 (fun _ => ?_)
        refine g_mem (fun σ9 => ?_)
        refine g_aload_n (n := 0) d_X8_isRead_67 rfl rfl ?_
        refine g_getr d_X8_isRead_68 fl_X8_25 sh_77 rfl ?_
        refine g_bipush (v := 8) d_X8_isRead_71 (by decide) ?_
        refine g_iconst (v := 1) d_X8_isRead_73 (by decide) ?_
        refine g_iastore d_X8_isRead_74 sh_83 (fun _ => ?_)
        refine g_mem (fun σ10 => ?_)
        refine g_aload_n (n := 0) d_X8_isRead_75 rfl rfl ?_
        refine g_callv_vv (D := D + 4) (As := []) d_X8_isRead_76 sv_X8_102 ob_77 rfl (Nat.le_of_ble_eq_true rfl) rfl (fun _ hy => EvM_cast (by omega) (e_X8_nextToken (D := D + 3) hy)) (fun σ12 => ?_)
        refine g_sub [0] rfl ?_
        exact t_X8_isRead_l79  _ _
      · refine g_iconst (v := 0) d_X8_isRead_53 (by decide) ?_
        exact g_iret d_X8_isRead_54 (Or.inr ⟨rfl, rfl⟩) rfl
  · refine g_aload_n (n := 0) d_X8_isRead_8 rfl rfl ?_
    refine g_getr d_X8_isRead_9 fl_X8_25 sh_77 rfl ?_
    refine g_iload_n (n := 1) d_X8_isRead_12 rfl rfl ?_
    refine g_iconst (v := 0) d_X8_isRead_13 (by decide) ?_
    refine g_iastore d_X8_isRead_14 sh_83 (fun _ => ?_)
    refine g_mem (fun σ13 => ?_)
    refine g_iinc (n := 1) (w := 1) d_X8_isRead_15 rfl (by decide) (by decide) rfl ?_
    refine g_goto (tgt := 2) d_X8_isRead_18 (by decide) ?_
    refine g_sub [1, 0] rfl ?_
    exact hk2 _ _
set_option maxHeartbeats 4000000 in
set_option maxRecDepth 100000 in
theorem t_X8_isRead_l2 {l : Launch} {sc : Nat × (Nat → Int32)} {D : Nat} {n : Nat} : ∀ (f : Nat) (x1 : Int32) (σ : Mem), G l sc (D + 5) m_X8_isRead 2 [(0, .ref 77), (1, .int x1)] [] σ (f_X8_isRead_l2 n f x1 σ) (fun y => (some (.int y.1), y.2)) := by
  intro f
  induction f with
  | zero => intro x1 σ; exact g_none
  | succ f ih => intro x1 σ; exact t_X8_isRead_b2 ih
set_option maxHeartbeats 4000000 in
set_option maxRecDepth 100000 in
theorem t_X8_isRead {l : Launch} {sc : Nat × (Nat → Int32)} {D : Nat} {n : Nat} {σ : Mem} : G l sc (D + 5) m_X8_isRead 0 [(0, .ref 77)] [] σ (f_X8_isRead n σ) (fun y => (some (.int y.1), y.2)) := by
  unfold f_X8_isRead
  refine g_iconst (v := 0) d_X8_isRead_0 (by decide) ?_
  refine g_istore_n d_X8_isRead_1 rfl (by decide) rfl ?_
  refine g_sub [1, 0] rfl ?_
  exact t_X8_isRead_l2  _ _ _
theorem e_X8_isRead {l : Launch} {D : Nat} {n : Nat} {σ : Mem} {y : (Int32 × Mem)} (hy : f_X8_isRead n σ = some y) : EvM l (D + 5) m_X8_isRead [.ref 77] σ ((fun y => (some (.int y.1), y.2)) y) :=
  evM_of (d := m_X8_isRead) (nL := 2) rfl (by decide +kernel) (fun h => absurd (congrArg MethodName.cls h) (by decide +kernel)) (Nat.le_of_ble_eq_true rfl) (t_X8_isRead y hy)
