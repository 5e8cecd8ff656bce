set_option maxHeartbeats 4000000 in
set_option maxRecDepth 100000 in
theorem t_X6_suppose {l : Launch} {sc : Nat × (Nat → Int32)} {D : Nat} {t : Nat} {x1 : Int32} {x2 : Int32} {x3 : Int32} {σ : Mem} : G l sc (D + 0) m_X6_suppose 0 [(0, .ref t), (1, .int x1), (2, .int x2), (3, .int x3)] [] σ (f_X6_suppose t x1 x2 x3 σ) (fun τ => (none, τ)) := by
  unfold f_X6_suppose
  refine g_iload_n (n := 2) d_X6_suppose_0 rfl rfl ?_
  refine g_if_ne (tgt := 14) d_X6_suppose_1 (by decide) (fun c1 => ?_) (fun c1 => ?_)
  · refine g_iload_n (n := 2) d_X6_suppose_14 rfl rfl ?_
    refine g_iconst (v := 1) d_X6_suppose_15 (by decide) ?_
    refine g_icmp_ne (tgt := 29) d_X6_suppose_16 (by decide) (fun c2 => ?_) (fun c2 => ?_)
    · refine g_aload_n (n := 0) d_X6_suppose_29 rfl rfl ?_
      refine g_guard (fun h3 => ?_)
      refine g_getr d_X6_suppose_30 fl_X6_15 (shp_town h3).1 rfl ?_
      refine g_iload_n (n := 1) d_X6_suppose_33 rfl rfl ?_
      refine g_iload_n (n := 3) d_X6_suppose_34 rfl rfl ?_
      refine g_iastore d_X6_suppose_35 (shp_town h3).2.2.1 (fun _ => ?_)
      refine g_mem (fun σ4 => ?_)
      exact g_vret d_X6_suppose_36 rfl rfl
    · refine g_aload_n (n := 0) d_X6_suppose_19 rfl rfl ?_
      refine g_guard (fun h5 => ?_)
      refine g_getr d_X6_suppose_20 fl_X6_21 (shp_town h5).1 rfl ?_
      refine g_iload_n (n := 1) d_X6_suppose_23 rfl rfl ?_
      refine g_iload_n (n := 3) d_X6_suppose_24 rfl rfl ?_
      refine g_iastore d_X6_suppose_25 (shp_town h5).2.2.2.2 (fun _ => ?_)
      refine g_mem (fun σ6 => ?_)
      refine g_goto (tgt := 36) d_X6_suppose_26 (by decide) ?_
      exact g_vret d_X6_suppose_36 rfl rfl
  · refine g_aload_n (n := 0) d_X6_suppose_4 rfl rfl ?_
    refine g_guard (fun h7 => ?_)
    refine g_getr d_X6_suppose_5 fl_X6_9 (shp_town h7).1 rfl ?_
    refine g_iload_n (n := 1) d_X6_suppose_8 rfl rfl ?_
    refine g_iload_n (n := 3) d_X6_suppose_9 rfl rfl ?_
    refine g_iastore d_X6_suppose_10 (shp_town h7).2.1 (fun _ => ?_)
    refine g_mem (fun σ8 => ?_)
    refine g_goto (tgt := 36) d_X6_suppose_11 (by decide) ?_
    exact g_vret d_X6_suppose_36 rfl rfl
theorem e_X6_suppose {l : Launch} {D : Nat} {t : Nat} {x1 : Int32} {x2 : Int32} {x3 : Int32} {σ : Mem} {y : Mem} (hy : f_X6_suppose t x1 x2 x3 σ = some y) : EvM l (D + 0) m_X6_suppose [.ref t, .int x1, .int x2, .int x3] σ ((fun τ => (none, τ)) y) :=
  evM_of (d := m_X6_suppose) (nL := 4) rfl (by decide +kernel) (fun h => absurd (congrArg MethodName.cls h) (by decide +kernel)) (Nat.le_of_ble_eq_true rfl) (t_X6_suppose y hy)

set_option maxHeartbeats 4000000 in
set_option maxRecDepth 100000 in
theorem t_X7_found {l : Launch} {sc : Nat × (Nat → Int32)} {D : Nat} {x1 : Int32} {σ : Mem} : G l sc (D + 0) m_X7_found 0 [(0, .ref 0), (1, .int x1)] [] σ (f_X7_found x1 σ) (fun y => (some (.int y.1), y.2)) := by
  unfold f_X7_found
  refine g_aload_n (n := 0) d_X7_found_0 rfl rfl ?_
  refine g_iload_n (n := 1) d_X7_found_1 rfl rfl ?_
  refine g_puti d_X7_found_2 fl_X7_298 sh_0 rfl ?_
  refine g_mem (fun σ1 => ?_)
  refine g_ldcw d_X7_found_5 kc_X7_301 ?_
  refine g_iload_n (n := 1) d_X7_found_8 rfl rfl ?_
  refine g_isub d_X7_found_9 ?_
  exact g_iret d_X7_found_10 (Or.inl rfl) rfl
theorem e_X7_found {l : Launch} {D : Nat} {x1 : Int32} {σ : Mem} {y : (Int32 × Mem)} (hy : f_X7_found x1 σ = some y) : EvM l (D + 0) m_X7_found [.ref 0, .int x1] σ ((fun y => (some (.int y.1), y.2)) y) :=
  evM_of (d := m_X7_found) (nL := 2) rfl (by decide +kernel) (fun h => absurd (congrArg MethodName.cls h) (by decide +kernel)) (Nat.le_of_ble_eq_true rfl) (t_X7_found y hy)

set_option maxHeartbeats 4000000 in
set_option maxRecDepth 100000 in
theorem t_X7_foundNothing {l : Launch} {sc : Nat × (Nat → Int32)} {D : Nat} {x1 : Int32} {σ : Mem} : G l sc (D + 0) m_X7_foundNothing 0 [(0, .ref 0), (1, .int x1)] [] σ (f_X7_foundNothing x1 σ) (fun y => (some (.int y.1), y.2)) := by
  unfold f_X7_foundNothing
  refine g_aload_n (n := 0) d_X7_foundNothing_0 rfl rfl ?_
  refine g_iconst (v := 0) d_X7_foundNothing_1 (by decide) ?_
  refine g_puti d_X7_foundNothing_2 fl_X7_298 sh_0 rfl ?_
  refine g_mem (fun σ1 => ?_)
  refine g_iload_n (n := 1) d_X7_foundNothing_5 rfl rfl ?_
  exact g_iret d_X7_foundNothing_6 (Or.inl rfl) rfl
theorem e_X7_foundNothing {l : Launch} {D : Nat} {x1 : Int32} {σ : Mem} {y : (Int32 × Mem)} (hy : f_X7_foundNothing x1 σ = some y) : EvM l (D + 0) m_X7_foundNothing [.ref 0, .int x1] σ ((fun y => (some (.int y.1), y.2)) y) :=
  evM_of (d := m_X7_foundNothing) (nL := 2) rfl (by decide +kernel) (fun h => absurd (congrArg MethodName.cls h) (by decide +kernel)) (Nat.le_of_ble_eq_true rfl) (t_X7_foundNothing y hy)

set_option maxHeartbeats 4000000 in
set_option maxRecDepth 100000 in
theorem t_X7_row {l : Launch} {sc : Nat × (Nat → Int32)} {D : Nat} {n : Nat} {x1 : Int32} {x2 : Int32} {x3 : Int32} {σ : Mem} : G l sc (D + 2) m_X7_row 0 [(0, .ref 0), (1, .int x1), (2, .int x2), (3, .int x3)] [] σ (f_X7_row n x1 x2 x3 σ) (fun y => (some (.int y.1), y.2)) := by
  unfold f_X7_row
  refine g_iload_n (n := 1) d_X7_row_0 rfl rfl ?_
  refine g_calls_pi (D := D + 1) (As := [.int x1]) d_X7_row_1 ss_X7_67 rfl (Nat.le_of_ble_eq_true rfl) rfl (fun _ hy => EvM_cast (by omega) (e_X2_isNumber (D := D + 1) hy)) (fun y1 => ?_)
  refine g_if_eq (tgt := 22) d_X7_row_4 (by decide) (fun c2 => ?_) (fun c2 => ?_)
  · refine g_ldc d_X7_row_22 kc_X7_71 ?_
    exact g_iret d_X7_row_24 (Or.inl rfl) rfl
  · refine g_iload_n (n := 2) d_X7_row_7 rfl rfl ?_
    refine g_if_lt (tgt := 22) d_X7_row_8 (by decide) (fun c3 => ?_) (fun c3 => ?_)
    · refine g_ldc d_X7_row_22 kc_X7_71 ?_
      exact g_iret d_X7_row_24 (Or.inl rfl) rfl
    · refine g_iload_n (n := 2) d_X7_row_11 rfl rfl ?_
      refine g_iconst (v := 3) d_X7_row_12 (by decide) ?_
      refine g_icmp_ge (tgt := 22) d_X7_row_13 (by decide) (fun c4 => ?_) (fun c4 => ?_)
      · refine g_ldc d_X7_row_22 kc_X7_71 ?_
        exact g_iret d_X7_row_24 (Or.inl rfl) rfl
      · refine g_iload_n (n := 3) d_X7_row_16 rfl rfl ?_
        refine g_bipush (v := 40) d_X7_row_17 (by decide) ?_
        refine g_icmp_le (tgt := 25) d_X7_row_19 (by decide) (fun c5 => ?_) (fun c5 => ?_)
        · refine g_iload_n (n := 3) d_X7_row_25 rfl rfl ?_
          refine g_if_ge (tgt := 35) d_X7_row_26 (by decide) (fun c6 => ?_) (fun c6 => ?_)
          · refine g_aload_n (n := 0) d_X7_row_35 rfl rfl ?_
            refine g_getr d_X7_row_36 fl_X7_10 sh_0 rfl ?_
            refine g_iload_n (n := 1) d_X7_row_39 rfl rfl ?_
            refine g_iload_n (n := 2) d_X7_row_40 rfl rfl ?_
            refine g_iload_n (n := 3) d_X7_row_41 rfl rfl ?_
            refine g_callv_vv (D := D + 1) (As := [.int x1, .int x2, .int x3]) d_X7_row_42 sv_X7_76 ob_1 rfl (Nat.le_of_ble_eq_true rfl) rfl (fun _ hy => EvM_cast (by omega) (e_X2_lay (D := D + 0) hy)) (fun σ8 => ?_)
            refine g_aload_n (n := 0) d_X7_row_45 rfl rfl ?_
            refine g_iload_n (n := 3) d_X7_row_46 rfl rfl ?_
            refine g_callv_ii (D := D + 1) (As := [.int x3]) d_X7_row_47 sv_X7_80 ob_0 rfl (Nat.le_of_ble_eq_true rfl) rfl (fun _ hy => EvM_cast (by omega) (e_X7_foundNothing (D := D + 1) hy)) (fun y9 σ10 => ?_)
            exact g_iret d_X7_row_50 (Or.inl rfl) rfl
          · refine g_aload_n (n := 0) d_X7_row_29 rfl rfl ?_
            refine g_iconst (v := 4) d_X7_row_30 (by decide) ?_
            refine g_callv_ii (D := D + 1) (As := [.int 4]) d_X7_row_31 sv_X7_72 ob_0 rfl (Nat.le_of_ble_eq_true rfl) rfl (fun _ hy => EvM_cast (by omega) (e_X7_found (D := D + 1) hy)) (fun y11 σ12 => ?_)
            exact g_iret d_X7_row_34 (Or.inl rfl) rfl
        · refine g_ldc d_X7_row_22 kc_X7_71 ?_
          exact g_iret d_X7_row_24 (Or.inl rfl) rfl
theorem e_X7_row {l : Launch} {D : Nat} {n : Nat} {x1 : Int32} {x2 : Int32} {x3 : Int32} {σ : Mem} {y : (Int32 × Mem)} (hy : f_X7_row n x1 x2 x3 σ = some y) : EvM l (D + 2) m_X7_row [.ref 0, .int x1, .int x2, .int x3] σ ((fun y => (some (.int y.1), y.2)) y) :=
  evM_of (d := m_X7_row) (nL := 4) rfl (by decide +kernel) (fun h => absurd (congrArg MethodName.cls h) (by decide +kernel)) (Nat.le_of_ble_eq_true rfl) (t_X7_row y hy)

set_option maxHeartbeats 4000000 in
set_option maxRecDepth 100000 in
theorem t_X7_set {l : Launch} {sc : Nat × (Nat → Int32)} {D : Nat} {x1 : Int32} {x2 : Int32} {x3 : Int32} {σ : Mem} : G l sc (D + 2) m_X7_set 0 [(0, .ref 0), (1, .int x1), (2, .int x2), (3, .int x3)] [] σ (f_X7_set x1 x2 x3 σ) (fun y => (some (.int y.1), y.2)) := by
  unfold f_X7_set
  refine g_iload_n (n := 1) d_X7_set_0 rfl rfl ?_
  refine g_calls_pi (D := D + 1) (As := [.int x1]) d_X7_set_1 ss_X7_67 rfl (Nat.le_of_ble_eq_true rfl) rfl (fun _ hy => EvM_cast (by omega) (e_X2_isNumber (D := D + 1) hy)) (fun y1 => ?_)
  refine g_if_ne (tgt := 10) d_X7_set_4 (by decide) (fun c2 => ?_) (fun c2 => ?_)
  · refine g_aload_n (n := 0) d_X7_set_10 rfl rfl ?_
    refine g_getr d_X7_set_11 fl_X7_10 sh_0 rfl ?_
    refine g_iload_n (n := 1) d_X7_set_14 rfl rfl ?_
    refine g_iload_n (n := 2) d_X7_set_15 rfl rfl ?_
    refine g_iconst (v := 1) d_X7_set_16 (by decide) ?_
    refine g_callv_pi (D := D + 1) (As := [.int x1, .int x2, .int 1]) d_X7_set_17 sv_X7_83 ob_1 rfl (Nat.le_of_ble_eq_true rfl) rfl (fun _ hy => EvM_cast (by omega) (e_X2_findingOf (D := D + 0) hy)) (fun y3 => ?_)
    refine g_istore d_X7_set_20 (by decide) rfl ?_
    refine g_iload (n := 0) d_X7_set_22 rfl ?_
    refine g_if_eq (tgt := 34) d_X7_set_24 (by decide) (fun c4 => ?_) (fun c4 => ?_)
    · refine g_aload_n (n := 1) d_X7_set_34 rfl rfl ?_
      refine g_aload_n (n := 1) d_X7_set_35 rfl rfl ?_
      refine g_getr d_X7_set_36 fl_X7_10 sh_0 rfl ?_
      refine g_iload_n (n := 2) d_X7_set_39 rfl rfl ?_
      refine g_iload_n (n := 3) d_X7_set_40 rfl rfl ?_
      refine g_iload_n (n := 4) d_X7_set_41 rfl rfl ?_
      refine g_callv_ii (D := D + 1) (As := [.int x1, .int x2, .int x3]) d_X7_set_42 sv_X7_87 ob_1 rfl (Nat.le_of_ble_eq_true rfl) rfl (fun _ hy => EvM_cast (by omega) (e_X2_put (D := D + 1) hy)) (fun y5 σ6 => ?_)
      refine g_callv_ii (D := D + 1) (As := [.int y5]) d_X7_set_45 sv_X7_80 ob_0 rfl (Nat.le_of_ble_eq_true rfl) rfl (fun _ hy => EvM_cast (by omega) (e_X7_foundNothing (D := D + 1) hy)) (fun y7 σ8 => ?_)
      exact g_iret d_X7_set_48 (Or.inl rfl) rfl
    · refine g_aload_n (n := 1) d_X7_set_27 rfl rfl ?_
      refine g_iload (n := 0) d_X7_set_28 rfl ?_
      refine g_callv_ii (D := D + 1) (As := [.int y3]) d_X7_set_30 sv_X7_72 ob_0 rfl (Nat.le_of_ble_eq_true rfl) rfl (fun _ hy => EvM_cast (by omega) (e_X7_found (D := D + 1) hy)) (fun y9 σ10 => ?_)
      exact g_iret d_X7_set_33 (Or.inl rfl) rfl
  · refine g_ldc d_X7_set_7 kc_X7_71 ?_
    exact g_iret d_X7_set_9 (Or.inl rfl) rfl
theorem e_X7_set {l : Launch} {D : Nat} {x1 : Int32} {x2 : Int32} {x3 : Int32} {σ : Mem} {y : (Int32 × Mem)} (hy : f_X7_set x1 x2 x3 σ = some y) : EvM l (D + 2) m_X7_set [.ref 0, .int x1, .int x2, .int x3] σ ((fun y => (some (.int y.1), y.2)) y) :=
  evM_of (d := m_X7_set) (nL := 5) rfl (by decide +kernel) (fun h => absurd (congrArg MethodName.cls h) (by decide +kernel)) (Nat.le_of_ble_eq_true rfl) (t_X7_set y hy)

set_option maxHeartbeats 4000000 in
set_option maxRecDepth 100000 in
theorem t_X7_copy_b39 {l : Launch} {sc : Nat × (Nat → Int32)} {D : Nat} {σ : Mem} : G l sc (D + 1) m_X7_copy 39 [(0, .ref 0)] [] σ (f_X7_copy_b39 σ) (fun y => (some (.int y.1), y.2)) := by
  unfold f_X7_copy_b39
  refine g_aload_n (n := 0) d_X7_copy_39 rfl rfl ?_
  refine g_iconst (v := 1) d_X7_copy_40 (by decide) ?_
  refine g_callv_ii (D := D + 0) (As := [.int 1]) d_X7_copy_41 sv_X7_72 ob_0 rfl (Nat.le_of_ble_eq_true rfl) rfl (fun _ hy => EvM_cast (by omega) (e_X7_found (D := D + 0) hy)) (fun y1 σ2 => ?_)
  exact g_iret d_X7_copy_44 (Or.inl rfl) rfl
set_option maxHeartbeats 4000000 in
set_option maxRecDepth 100000 in
theorem t_X7_copy_b101 {l : Launch} {sc : Nat × (Nat → Int32)} {D : Nat} {σ : Mem} : G l sc (D + 1) m_X7_copy 101 [(0, .ref 0)] [] σ (f_X7_copy_b101 σ) (fun y => (some (.int y.1), y.2)) := by
  unfold f_X7_copy_b101
  refine g_aload_n (n := 0) d_X7_copy_101 rfl rfl ?_
  refine g_iconst (v := 2) d_X7_copy_102 (by decide) ?_
  refine g_callv_ii (D := D + 0) (As := [.int 2]) d_X7_copy_103 sv_X7_72 ob_0 rfl (Nat.le_of_ble_eq_true rfl) rfl (fun _ hy => EvM_cast (by omega) (e_X7_found (D := D + 0) hy)) (fun y1 σ2 => ?_)
  exact g_iret d_X7_copy_106 (Or.inl rfl) rfl
set_option maxHeartbeats 4000000 in
set_option maxRecDepth 100000 in
theorem t_X7_copy {l : Launch} {sc : Nat × (Nat → Int32)} {D : Nat} {x1 : Int32} {x2 : Int32} {x3 : Int32} {x4 : Int32} {x5 : Int32} {σ : Mem} : G l sc (D + 1) m_X7_copy 0 [(0, .ref 0), (1, .int x1), (2, .int x2), (3, .int x3), (4, .int x4), (5, .int x5)] [] σ (f_X7_copy x1 x2 x3 x4 x5 σ) (fun y => (some (.int y.1), y.2)) := by
  unfold f_X7_copy
  refine g_iload_n (n := 1) d_X7_copy_0 rfl rfl ?_
  refine g_calls_pi (D := D + 0) (As := [.int x1]) d_X7_copy_1 ss_X7_67 rfl (Nat.le_of_ble_eq_true rfl) rfl (fun _ hy => EvM_cast (by omega) (e_X2_isNumber (D := D + 0) hy)) (fun y1 => ?_)
  refine g_if_eq (tgt := 14) d_X7_copy_4 (by decide) (fun c2 => ?_) (fun c2 => ?_)
  · refine g_ldc d_X7_copy_14 kc_X7_71 ?_
    exact g_iret d_X7_copy_16 (Or.inl rfl) rfl
  · refine g_iload_n (n := 3) d_X7_copy_7 rfl rfl ?_
    refine g_calls_pi (D := D + 0) (As := [.int x3]) d_X7_copy_8 ss_X7_67 rfl (Nat.le_of_ble_eq_true rfl) rfl (fun _ hy => EvM_cast (by omega) (e_X2_isNumber (D := D + 0) hy)) (fun y3 => ?_)
    refine g_if_ne (tgt := 17) d_X7_copy_11 (by decide) (fun c4 => ?_) (fun c4 => ?_)
    · refine g_aload_n (n := 0) d_X7_copy_17 rfl rfl ?_
      refine g_getr d_X7_copy_18 fl_X7_10 sh_0 rfl ?_
      refine g_iload_n (n := 1) d_X7_copy_21 rfl rfl ?_
      refine g_callv_pi (D := D + 0) (As := [.int x1]) d_X7_copy_22 sv_X7_90 ob_1 rfl (Nat.le_of_ble_eq_true rfl) rfl (fun _ hy => EvM_cast (by omega) (e_X2_isMissing (D := D + 0) hy)) (fun y5 => ?_)
      refine g_if_ne (tgt := 39) d_X7_copy_25 (by decide) (fun c6 => ?_) (fun c6 => ?_)
      · refine g_sub [0] rfl ?_
        exact t_X7_copy_b39 
      · refine g_aload_n (n := 0) d_X7_copy_28 rfl rfl ?_
        refine g_getr d_X7_copy_29 fl_X7_10 sh_0 rfl ?_
        refine g_iload_n (n := 3) d_X7_copy_32 rfl rfl ?_
        refine g_callv_pi (D := D + 0) (As := [.int x3]) d_X7_copy_33 sv_X7_90 ob_1 rfl (Nat.le_of_ble_eq_true rfl) rfl (fun _ hy => EvM_cast (by omega) (e_X2_isMissing (D := D + 0) hy)) (fun y7 => ?_)
        refine g_if_eq (tgt := 45) d_X7_copy_36 (by decide) (fun c8 => ?_) (fun c8 => ?_)
        · refine g_aload_n (n := 0) d_X7_copy_45 rfl rfl ?_
          refine g_getr d_X7_copy_46 fl_X7_10 sh_0 rfl ?_
          refine g_getr d_X7_copy_49 fl_X7_93 sh_1 rfl ?_
          refine g_iload_n (n := 1) d_X7_copy_52 rfl rfl ?_
          refine g_iaload d_X7_copy_53 sh_2 (fun _ => ?_)
          refine g_aload_n (n := 0) d_X7_copy_54 rfl rfl ?_
          refine g_getr d_X7_copy_55 fl_X7_10 sh_0 rfl ?_
          refine g_getr d_X7_copy_58 fl_X7_93 sh_1 rfl ?_
          refine g_iload_n (n := 3) d_X7_copy_61 rfl rfl ?_
          refine g_iaload d_X7_copy_62 sh_2 (fun _ => ?_)
          refine g_icmp_eq (tgt := 72) d_X7_copy_63 (by decide) (fun c9 => ?_) (fun c9 => ?_)
          · refine g_aload_n (n := 0) d_X7_copy_72 rfl rfl ?_
            refine g_getr d_X7_copy_73 fl_X7_10 sh_0 rfl ?_
            refine g_iload_n (n := 1) d_X7_copy_76 rfl rfl ?_
            refine g_iload_n (n := 2) d_X7_copy_77 rfl rfl ?_
            refine g_iload (n := 5) d_X7_copy_78 rfl ?_
            refine g_callv_pi (D := D + 0) (As := [.int x1, .int x2, .int x5]) d_X7_copy_80 sv_X7_97 ob_1 rfl (Nat.le_of_ble_eq_true rfl) rfl (fun _ hy => EvM_cast (by omega) (e_X2_hasSpan (D := D + 0) hy)) (fun y10 => ?_)
            refine g_if_eq (tgt := 101) d_X7_copy_83 (by decide) (fun c11 => ?_) (fun c11 => ?_)
            · refine g_sub [0] rfl ?_
              exact t_X7_copy_b101 
            · refine g_aload_n (n := 0) d_X7_copy_86 rfl rfl ?_
              refine g_getr d_X7_copy_87 fl_X7_10 sh_0 rfl ?_
              refine g_iload_n (n := 3) d_X7_copy_90 rfl rfl ?_
              refine g_iload (n := 4) d_X7_copy_91 rfl ?_
              refine g_iload (n := 5) d_X7_copy_93 rfl ?_
              refine g_callv_pi (D := D + 0) (As := [.int x3, .int x4, .int x5]) d_X7_copy_95 sv_X7_97 ob_1 rfl (Nat.le_of_ble_eq_true rfl) rfl (fun _ hy => EvM_cast (by omega) (e_X2_hasSpan (D := D + 0) hy)) (fun y12 => ?_)
              refine g_if_ne (tgt := 107) d_X7_copy_98 (by decide) (fun c13 => ?_) (fun c13 => ?_)
              · refine g_aload_n (n := 0) d_X7_copy_107 rfl rfl ?_
                refine g_getr d_X7_copy_108 fl_X7_10 sh_0 rfl ?_
                refine g_getr d_X7_copy_111 fl_X7_101 sh_1 rfl ?_
                refine g_iload_n (n := 1) d_X7_copy_114 rfl rfl ?_
                refine g_aaload d_X7_copy_115 sh_4 (fun h14 => ?_)
                refine g_iload_n (n := 2) d_X7_copy_116 rfl rfl ?_
                refine g_aload_n (n := 0) d_X7_copy_117 rfl rfl ?_
                refine g_getr d_X7_copy_118 fl_X7_10 sh_0 rfl ?_
                refine g_getr d_X7_copy_121 fl_X7_101 sh_1 rfl ?_
                refine g_iload_n (n := 3) d_X7_copy_124 rfl rfl ?_
                refine g_aaload d_X7_copy_125 sh_4 (fun h15 => ?_)
                refine g_iload (n := 4) d_X7_copy_126 rfl ?_
                refine g_iload (n := 5) d_X7_copy_128 rfl ?_
                refine g_acopy (D := D + 0) d_X7_copy_130 ac_X7_105 (Nat.le_of_ble_eq_true rfl) (shp_rows (inB_lt h14)) (shp_rows (inB_lt h15)) (fun _ => ?_)
                refine g_mem (fun σ16 => ?_)
                refine g_aload_n (n := 0) d_X7_copy_133 rfl rfl ?_
                refine g_iload (n := 5) d_X7_copy_134 rfl ?_
                refine g_callv_ii (D := D + 0) (As := [.int x5]) d_X7_copy_136 sv_X7_80 ob_0 rfl (Nat.le_of_ble_eq_true rfl) rfl (fun _ hy => EvM_cast (by omega) (e_X7_foundNothing (D := D + 0) hy)) (fun y17 σ18 => ?_)
                exact g_iret d_X7_copy_139 (Or.inl rfl) rfl
              · refine g_sub [0] rfl ?_
                exact t_X7_copy_b101 
          · refine g_aload_n (n := 0) d_X7_copy_66 rfl rfl ?_
            refine g_iconst (v := 5) d_X7_copy_67 (by decide) ?_
            refine g_callv_ii (D := D + 0) (As := [.int 5]) d_X7_copy_68 sv_X7_72 ob_0 rfl (Nat.le_of_ble_eq_true rfl) rfl (fun _ hy => EvM_cast (by omega) (e_X7_found (D := D + 0) hy)) (fun y19 σ20 => ?_)
            exact g_iret d_X7_copy_71 (Or.inl rfl) rfl
        · refine g_sub [0] rfl ?_
          exact t_X7_copy_b39 
    · refine g_ldc d_X7_copy_14 kc_X7_71 ?_
      exact g_iret d_X7_copy_16 (Or.inl rfl) rfl
theorem e_X7_copy {l : Launch} {D : Nat} {x1 : Int32} {x2 : Int32} {x3 : Int32} {x4 : Int32} {x5 : Int32} {σ : Mem} {y : (Int32 × Mem)} (hy : f_X7_copy x1 x2 x3 x4 x5 σ = some y) : EvM l (D + 1) m_X7_copy [.ref 0, .int x1, .int x2, .int x3, .int x4, .int x5] σ ((fun y => (some (.int y.1), y.2)) y) :=
  evM_of (d := m_X7_copy) (nL := 6) rfl (by decide +kernel) (fun h => absurd (congrArg MethodName.cls h) (by decide +kernel)) (Nat.le_of_ble_eq_true rfl) (t_X7_copy y hy)

set_option maxHeartbeats 4000000 in
set_option maxRecDepth 100000 in
theorem t_X7_drop {l : Launch} {sc : Nat × (Nat → Int32)} {D : Nat} {x1 : Int32} {σ : Mem} : G l sc (D + 1) m_X7_drop 0 [(0, .ref 0), (1, .int x1)] [] σ (f_X7_drop x1 σ) (fun y => (some (.int y.1), y.2)) := by
  unfold f_X7_drop
  refine g_iload_n (n := 1) d_X7_drop_0 rfl rfl ?_
  refine g_calls_pi (D := D + 0) (As := [.int x1]) d_X7_drop_1 ss_X7_67 rfl (Nat.le_of_ble_eq_true rfl) rfl (fun _ hy => EvM_cast (by omega) (e_X2_isNumber (D := D + 0) hy)) (fun y1 => ?_)
  refine g_if_ne (tgt := 10) d_X7_drop_4 (by decide) (fun c2 => ?_) (fun c2 => ?_)
  · refine g_aload_n (n := 0) d_X7_drop_10 rfl rfl ?_
    refine g_getr d_X7_drop_11 fl_X7_10 sh_0 rfl ?_
    refine g_iload_n (n := 1) d_X7_drop_14 rfl rfl ?_
    refine g_callv_pi (D := D + 0) (As := [.int x1]) d_X7_drop_15 sv_X7_90 ob_1 rfl (Nat.le_of_ble_eq_true rfl) rfl (fun _ hy => EvM_cast (by omega) (e_X2_isMissing (D := D + 0) hy)) (fun y3 => ?_)
    refine g_if_eq (tgt := 27) d_X7_drop_18 (by decide) (fun c4 => ?_) (fun c4 => ?_)
    · refine g_aload_n (n := 0) d_X7_drop_27 rfl rfl ?_
      refine g_aload_n (n := 0) d_X7_drop_28 rfl rfl ?_
      refine g_getr d_X7_drop_29 fl_X7_10 sh_0 rfl ?_
      refine g_iload_n (n := 1) d_X7_drop_32 rfl rfl ?_
      refine g_callv_ii (D := D + 0) (As := [.int x1]) d_X7_drop_33 sv_X7_111 ob_1 rfl (Nat.le_of_ble_eq_true rfl) rfl (fun _ hy => EvM_cast (by omega) (e_X2_takeAway (D := D + 0) hy)) (fun y5 σ6 => ?_)
      refine g_callv_ii (D := D + 0) (As := [.int y5]) d_X7_drop_36 sv_X7_80 ob_0 rfl (Nat.le_of_ble_eq_true rfl) rfl (fun _ hy => EvM_cast (by omega) (e_X7_foundNothing (D := D + 0) hy)) (fun y7 σ8 => ?_)
      exact g_iret d_X7_drop_39 (Or.inl rfl) rfl
    · refine g_aload_n (n := 0) d_X7_drop_21 rfl rfl ?_
      refine g_iconst (v := 1) d_X7_drop_22 (by decide) ?_
      refine g_callv_ii (D := D + 0) (As := [.int 1]) d_X7_drop_23 sv_X7_72 ob_0 rfl (Nat.le_of_ble_eq_true rfl) rfl (fun _ hy => EvM_cast (by omega) (e_X7_found (D := D + 0) hy)) (fun y9 σ10 => ?_)
      exact g_iret d_X7_drop_26 (Or.inl rfl) rfl
  · refine g_ldc d_X7_drop_7 kc_X7_71 ?_
    exact g_iret d_X7_drop_9 (Or.inl rfl) rfl
theorem e_X7_drop {l : Launch} {D : Nat} {x1 : Int32} {σ : Mem} {y : (Int32 × Mem)} (hy : f_X7_drop x1 σ = some y) : EvM l (D + 1) m_X7_drop [.ref 0, .int x1] σ ((fun y => (some (.int y.1), y.2)) y) :=
  evM_of (d := m_X7_drop) (nL := 2) rfl (by decide +kernel) (fun h => absurd (congrArg MethodName.cls h) (by decide +kernel)) (Nat.le_of_ble_eq_true rfl) (t_X7_drop y hy)

set_option maxHeartbeats 4000000 in
set_option maxRecDepth 100000 in
theorem t_X7_feed {l : Launch} {sc : Nat × (Nat → Int32)} {D : Nat} {x1 : Int32} {σ : Mem} : G l sc (D + 1) m_X7_feed 0 [(0, .ref 0), (1, .int x1)] [] σ (f_X7_feed x1 σ) (fun y => (some (.int y.1), y.2)) := by
  unfold f_X7_feed
  refine g_iload_n (n := 1) d_X7_feed_0 rfl rfl ?_
  refine g_if_lt (tgt := 11) d_X7_feed_1 (by decide) (fun c1 => ?_) (fun c1 => ?_)
  · refine g_ldc d_X7_feed_11 kc_X7_71 ?_
    exact g_iret d_X7_feed_13 (Or.inl rfl) rfl
  · refine g_iload_n (n := 1) d_X7_feed_4 rfl rfl ?_
    refine g_sipush (v := 255) d_X7_feed_5 (by decide) ?_
    refine g_icmp_le (tgt := 14) d_X7_feed_8 (by decide) (fun c2 => ?_) (fun c2 => ?_)
    · refine g_aload_n (n := 0) d_X7_feed_14 rfl rfl ?_
      refine g_getr d_X7_feed_15 fl_X7_19 sh_0 rfl ?_
      refine g_iload_n (n := 1) d_X7_feed_18 rfl rfl ?_
      refine g_callv_ii (D := D + 0) (As := [.int x1]) d_X7_feed_19 sv_X7_114 ob_13 rfl (Nat.le_of_ble_eq_true rfl) rfl (fun _ hy => EvM_cast (by omega) (e_X5_append (D := D + 0) hy)) (fun y3 σ4 => ?_)
      refine g_if_eq (tgt := 35) d_X7_feed_22 (by decide) (fun c5 => ?_) (fun c5 => ?_)
      · refine g_ldc d_X7_feed_35 kc_X7_121 ?_
        exact g_iret d_X7_feed_37 (Or.inl rfl) rfl
      · refine g_aload_n (n := 0) d_X7_feed_25 rfl rfl ?_
        refine g_getr d_X7_feed_26 fl_X7_19 sh_0 rfl ?_
        refine g_geti d_X7_feed_29 fl_X7_117 sh_13 rfl ?_
        refine g_goto (tgt := 37) d_X7_feed_32 (by decide) ?_
        exact g_iret d_X7_feed_37 (Or.inl rfl) rfl
    · refine g_ldc d_X7_feed_11 kc_X7_71 ?_
      exact g_iret d_X7_feed_13 (Or.inl rfl) rfl
theorem e_X7_feed {l : Launch} {D : Nat} {x1 : Int32} {σ : Mem} {y : (Int32 × Mem)} (hy : f_X7_feed x1 σ = some y) : EvM l (D + 1) m_X7_feed [.ref 0, .int x1] σ ((fun y => (some (.int y.1), y.2)) y) :=
  evM_of (d := m_X7_feed) (nL := 2) rfl (by decide +kernel) (fun h => absurd (congrArg MethodName.cls h) (by decide +kernel)) (Nat.le_of_ble_eq_true rfl) (t_X7_feed y hy)

set_option maxHeartbeats 4000000 in
set_option maxRecDepth 100000 in
theorem t_X7_town {l : Launch} {sc : Nat × (Nat → Int32)} {D : Nat} {n : Nat} {σ : Mem} : G l sc (D + 4) m_X7_town 0 [(0, .ref 0)] [] σ (f_X7_town n σ) (fun y => (some (.int y.1), y.2)) := by
  unfold f_X7_town
  refine g_aload_n (n := 0) d_X7_town_0 rfl rfl ?_
  refine g_getr d_X7_town_1 fl_X7_19 sh_0 rfl ?_
  refine g_aload_n (n := 0) d_X7_town_4 rfl rfl ?_
  refine g_getr d_X7_town_5 fl_X7_30 sh_0 rfl ?_
  refine g_callv_ii (D := D + 3) (As := [.ref 20]) d_X7_town_8 sv_X7_122 ob_13 rfl (Nat.le_of_ble_eq_true rfl) rfl (fun _ hy => EvM_cast (by omega) (e_X5_readInto (D := D + 0) hy)) (fun y1 σ2 => ?_)
  refine g_istore_n d_X7_town_11 rfl (by decide) rfl ?_
  refine g_aload_n (n := 1) d_X7_town_12 rfl rfl ?_
  refine g_getr d_X7_town_13 fl_X7_19 sh_0 rfl ?_
  refine g_iconst (v := 0) d_X7_town_16 (by decide) ?_
  refine g_puti d_X7_town_17 fl_X7_117 sh_13 rfl ?_
  refine g_mem (fun σ3 => ?_)
  refine g_iload_n (n := 0) d_X7_town_20 rfl rfl ?_
  refine g_if_ne (tgt := 35) d_X7_town_21 (by decide) (fun c4 => ?_) (fun c4 => ?_)
  · refine g_aload_n (n := 1) d_X7_town_35 rfl rfl ?_
    refine g_getr d_X7_town_36 fl_X7_30 sh_0 rfl ?_
    refine g_iconst (v := 1) d_X7_town_39 (by decide) ?_
    refine g_putb d_X7_town_40 fl_X7_130 sh_20 rfl (fun _ => ?_)
    refine g_mem (fun σ5 => ?_)
    refine g_aload_n (n := 1) d_X7_town_43 rfl rfl ?_
    refine g_getr d_X7_town_44 fl_X7_30 sh_0 rfl ?_
    refine g_callv_vv (D := D + 3) (As := []) d_X7_town_47 sv_X7_134 ob_20 rfl (Nat.le_of_ble_eq_true rfl) rfl (fun _ hy => EvM_cast (by omega) (e_X6_begin (D := D + 2) hy)) (fun σ7 => ?_)
    refine g_aload_n (n := 1) d_X7_town_50 rfl rfl ?_
    refine g_getr d_X7_town_51 fl_X7_26 sh_0 rfl ?_
    refine g_aload_n (n := 1) d_X7_town_54 rfl rfl ?_
    refine g_getr d_X7_town_55 fl_X7_30 sh_0 rfl ?_
    refine g_callv_vv (D := D + 3) (As := [.ref 20]) d_X7_town_58 sv_X7_137 ob_15 rfl (Nat.le_of_ble_eq_true rfl) rfl (fun _ hy => EvM_cast (by omega) (e_X6_takeOver (D := D + 2) hy)) (fun σ9 => ?_)
    refine g_aload_n (n := 1) d_X7_town_61 rfl rfl ?_
    refine g_getr d_X7_town_62 fl_X7_42 sh_0 rfl ?_
    refine g_callv_vv (D := D + 3) (As := []) d_X7_town_65 sv_X7_141 ob_35 rfl (Nat.le_of_ble_eq_true rfl) rfl (fun _ hy => EvM_cast (by omega) (e_X0_forget (D := D + 3) hy)) (fun σ11 => ?_)
    refine g_aload_n (n := 1) d_X7_town_68 rfl rfl ?_
    refine g_getr d_X7_town_69 fl_X7_26 sh_0 rfl ?_
    refine g_geti d_X7_town_72 fl_X7_144 sh_15 rfl ?_
    exact g_iret d_X7_town_75 (Or.inl rfl) rfl
  · refine g_ldc d_X7_town_24 kc_X7_126 ?_
    refine g_aload_n (n := 1) d_X7_town_26 rfl rfl ?_
    refine g_getr d_X7_town_27 fl_X7_19 sh_0 rfl ?_
    refine g_geti d_X7_town_30 fl_X7_127 sh_13 rfl ?_
    refine g_isub d_X7_town_33 ?_
    exact g_iret d_X7_town_34 (Or.inl rfl) rfl
theorem e_X7_town {l : Launch} {D : Nat} {n : Nat} {σ : Mem} {y : (Int32 × Mem)} (hy : f_X7_town n σ = some y) : EvM l (D + 4) m_X7_town [.ref 0] σ ((fun y => (some (.int y.1), y.2)) y) :=
  evM_of (d := m_X7_town) (nL := 2) rfl (by decide +kernel) (fun h => absurd (congrArg MethodName.cls h) (by decide +kernel)) (Nat.le_of_ble_eq_true rfl) (t_X7_town y hy)

set_option maxHeartbeats 4000000 in
set_option maxRecDepth 100000 in
theorem t_X7_fault {l : Launch} {sc : Nat × (Nat → Int32)} {D : Nat} {σ : Mem} : G l sc (D + 0) m_X7_fault 0 [(0, .ref 0)] [] σ (f_X7_fault σ ) (fun y => (some (.int y), σ)) := by
  unfold f_X7_fault
  refine g_aload_n (n := 0) d_X7_fault_0 rfl rfl ?_
  refine g_getr d_X7_fault_1 fl_X7_19 sh_0 rfl ?_
  refine g_geti d_X7_fault_4 fl_X7_147 sh_13 rfl ?_
  exact g_iret d_X7_fault_7 (Or.inl rfl) rfl
theorem e_X7_fault {l : Launch} {D : Nat} {σ : Mem} {y : Int32} (hy : f_X7_fault σ = some y) : EvM l (D + 0) m_X7_fault [.ref 0] σ ((fun y => (some (.int y), σ)) y) :=
  evM_of (d := m_X7_fault) (nL := 1) rfl (by decide +kernel) (fun h => absurd (congrArg MethodName.cls h) (by decide +kernel)) (Nat.le_of_ble_eq_true rfl) (t_X7_fault y hy)

set_option maxHeartbeats 4000000 in
set_option maxRecDepth 100000 in
theorem t_X7_give {l : Launch} {sc : Nat × (Nat → Int32)} {D : Nat} {n : Nat} {x1 : Int32} {σ : Mem} : G l sc (D + 4) m_X7_give 0 [(0, .ref 0), (1, .int x1)] [] σ (f_X7_give n x1 σ) (fun y => (some (.int y.1), y.2)) := by
  unfold f_X7_give
  refine g_aload_n (n := 0) d_X7_give_0 rfl rfl ?_
  refine g_getr d_X7_give_1 fl_X7_26 sh_0 rfl ?_
  refine g_iload_n (n := 1) d_X7_give_4 rfl rfl ?_
  refine g_callv_pi (D := D + 3) (As := [.int x1]) d_X7_give_5 sv_X7_150 ob_15 rfl (Nat.le_of_ble_eq_true rfl) rfl (fun _ hy => EvM_cast (by omega) (e_X6_has (D := D + 3) hy)) (fun y1 => ?_)
  refine g_if_ne (tgt := 14) d_X7_give_8 (by decide) (fun c2 => ?_) (fun c2 => ?_)
  · refine g_aload_n (n := 0) d_X7_give_14 rfl rfl ?_
    refine g_getr d_X7_give_15 fl_X7_26 sh_0 rfl ?_
    refine g_iload_n (n := 1) d_X7_give_18 rfl rfl ?_
    refine g_callv_pi (D := D + 3) (As := [.int x1]) d_X7_give_19 sv_X7_153 ob_15 rfl (Nat.le_of_ble_eq_true rfl) rfl (fun _ hy => EvM_cast (by omega) (e_X6_canHave (D := D + 1) hy)) (fun y3 => ?_)
    refine g_if_ne (tgt := 28) d_X7_give_22 (by decide) (fun c4 => ?_) (fun c4 => ?_)
    · refine g_aload_n (n := 0) d_X7_give_28 rfl rfl ?_
      refine g_getr d_X7_give_29 fl_X7_42 sh_0 rfl ?_
      refine g_aload_n (n := 0) d_X7_give_32 rfl rfl ?_
      refine g_getr d_X7_give_33 fl_X7_26 sh_0 rfl ?_
      refine g_iload_n (n := 1) d_X7_give_36 rfl rfl ?_
      refine g_callv_vv (D := D + 3) (As := [.ref 15, .int x1]) d_X7_give_37 sv_X7_157 ob_35 rfl (Nat.le_of_ble_eq_true rfl) rfl (fun _ hy => EvM_cast (by omega) (e_X0_keep (D := D + 2) hy)) (fun σ6 => ?_)
      refine g_aload_n (n := 0) d_X7_give_40 rfl rfl ?_
      refine g_getr d_X7_give_41 fl_X7_26 sh_0 rfl ?_
      refine g_iload_n (n := 1) d_X7_give_44 rfl rfl ?_
      refine g_callv_ii (D := D + 3) (As := [.int x1]) d_X7_give_45 sv_X7_161 ob_15 rfl (Nat.le_of_ble_eq_true rfl) rfl (fun _ hy => EvM_cast (by omega) (e_X6_hand (D := D + 0) hy)) (fun y7 σ8 => ?_)
      exact g_iret d_X7_give_48 (Or.inl rfl) rfl
    · refine g_ldc d_X7_give_25 kc_X7_156 ?_
      exact g_iret d_X7_give_27 (Or.inl rfl) rfl
  · refine g_ldc d_X7_give_11 kc_X7_71 ?_
    exact g_iret d_X7_give_13 (Or.inl rfl) rfl
theorem e_X7_give {l : Launch} {D : Nat} {n : Nat} {x1 : Int32} {σ : Mem} {y : (Int32 × Mem)} (hy : f_X7_give n x1 σ = some y) : EvM l (D + 4) m_X7_give [.ref 0, .int x1] σ ((fun y => (some (.int y.1), y.2)) y) :=
  evM_of (d := m_X7_give) (nL := 2) rfl (by decide +kernel) (fun h => absurd (congrArg MethodName.cls h) (by decide +kernel)) (Nat.le_of_ble_eq_true rfl) (t_X7_give y hy)

set_option maxHeartbeats 4000000 in
set_option maxRecDepth 100000 in
theorem t_X7_pause {l : Launch} {sc : Nat × (Nat → Int32)} {D : Nat} {x1 : Int32} {σ : Mem} : G l sc (D + 2) m_X7_pause 0 [(0, .ref 0), (1, .int x1)] [] σ (f_X7_pause x1 σ) (fun y => (some (.int y.1), y.2)) := by
  unfold f_X7_pause
  refine g_aload_n (n := 0) d_X7_pause_0 rfl rfl ?_
  refine g_getr d_X7_pause_1 fl_X7_26 sh_0 rfl ?_
  refine g_geti d_X7_pause_4 fl_X7_130 sh_15 rfl ?_
  refine g_if_ne (tgt := 13) d_X7_pause_7 (by decide) (fun c1 => ?_) (fun c1 => ?_)
  · refine g_iload_n (n := 1) d_X7_pause_13 rfl rfl ?_
    refine g_iconst (v := 1) d_X7_pause_14 (by decide) ?_
    refine g_icmp_lt (tgt := 24) d_X7_pause_15 (by decide) (fun c2 => ?_) (fun c2 => ?_)
    · refine g_ldc d_X7_pause_24 kc_X7_71 ?_
      exact g_iret d_X7_pause_26 (Or.inl rfl) rfl
    · refine g_iload_n (n := 1) d_X7_pause_18 rfl rfl ?_
      refine g_bipush (v := 24) d_X7_pause_19 (by decide) ?_
      refine g_icmp_le (tgt := 27) d_X7_pause_21 (by decide) (fun c3 => ?_) (fun c3 => ?_)
      · refine g_aload_n (n := 0) d_X7_pause_27 rfl rfl ?_
        refine g_getr d_X7_pause_28 fl_X7_26 sh_0 rfl ?_
        refine g_geti d_X7_pause_31 fl_X7_164 sh_15 rfl ?_
        refine g_iload_n (n := 1) d_X7_pause_34 rfl rfl ?_
        refine g_iadd d_X7_pause_35 ?_
        refine g_sipush (v := 999) d_X7_pause_36 (by decide) ?_
        refine g_icmp_le (tgt := 45) d_X7_pause_39 (by decide) (fun c4 => ?_) (fun c4 => ?_)
        · refine g_aload_n (n := 0) d_X7_pause_45 rfl rfl ?_
          refine g_getr d_X7_pause_46 fl_X7_42 sh_0 rfl ?_
          refine g_aload_n (n := 0) d_X7_pause_49 rfl rfl ?_
          refine g_getr d_X7_pause_50 fl_X7_26 sh_0 rfl ?_
          refine g_iconst (v := -1) d_X7_pause_53 (by decide) ?_
          refine g_callv_vv (D := D + 1) (As := [.ref 15, .int (-1)]) d_X7_pause_54 sv_X7_157 ob_35 rfl (Nat.le_of_ble_eq_true rfl) rfl (fun _ hy => EvM_cast (by omega) (e_X0_keep (D := D + 0) hy)) (fun σ6 => ?_)
          refine g_aload_n (n := 0) d_X7_pause_57 rfl rfl ?_
          refine g_getr d_X7_pause_58 fl_X7_26 sh_0 rfl ?_
          refine g_dup d_X7_pause_61 rfl ?_
          refine g_geti d_X7_pause_62 fl_X7_164 sh_15 rfl ?_
          refine g_iload_n (n := 1) d_X7_pause_65 rfl rfl ?_
          refine g_iadd d_X7_pause_66 ?_
          refine g_puti d_X7_pause_67 fl_X7_164 sh_15 rfl ?_
          refine g_mem (fun σ7 => ?_)
          refine g_aload_n (n := 0) d_X7_pause_70 rfl rfl ?_
          refine g_getr d_X7_pause_71 fl_X7_26 sh_0 rfl ?_
          refine g_geti d_X7_pause_74 fl_X7_164 sh_15 rfl ?_
          exact g_iret d_X7_pause_77 (Or.inl rfl) rfl
        · refine g_ldc d_X7_pause_42 kc_X7_121 ?_
          exact g_iret d_X7_pause_44 (Or.inl rfl) rfl
      · refine g_ldc d_X7_pause_24 kc_X7_71 ?_
        exact g_iret d_X7_pause_26 (Or.inl rfl) rfl
  · refine g_ldc d_X7_pause_10 kc_X7_156 ?_
    exact g_iret d_X7_pause_12 (Or.inl rfl) rfl
theorem e_X7_pause {l : Launch} {D : Nat} {x1 : Int32} {σ : Mem} {y : (Int32 × Mem)} (hy : f_X7_pause x1 σ = some y) : EvM l (D + 2) m_X7_pause [.ref 0, .int x1] σ ((fun y => (some (.int y.1), y.2)) y) :=
  evM_of (d := m_X7_pause) (nL := 2) rfl (by decide +kernel) (fun h => absurd (congrArg MethodName.cls h) (by decide +kernel)) (Nat.le_of_ble_eq_true rfl) (t_X7_pause y hy)

set_option maxHeartbeats 4000000 in
set_option maxRecDepth 100000 in
theorem t_X7_value {l : Launch} {sc : Nat × (Nat → Int32)} {D : Nat} {x1 : Int32} {x2 : Int32} {σ : Mem} : G l sc (D + 2) m_X7_value 0 [(0, .ref 0), (1, .int x1), (2, .int x2)] [] σ (f_X7_value x1 x2 σ) (fun y => (some (.int y.1), y.2)) := by
  unfold f_X7_value
  refine g_aload_n (n := 0) d_X7_value_0 rfl rfl ?_
  refine g_getr d_X7_value_1 fl_X7_26 sh_0 rfl ?_
  refine g_iload_n (n := 1) d_X7_value_4 rfl rfl ?_
  refine g_callv_pi (D := D + 1) (As := [.int x1]) d_X7_value_5 sv_X7_150 ob_15 rfl (Nat.le_of_ble_eq_true rfl) rfl (fun _ hy => EvM_cast (by omega) (e_X6_has (D := D + 1) hy)) (fun y1 => ?_)
  refine g_if_eq (tgt := 21) d_X7_value_8 (by decide) (fun c2 => ?_) (fun c2 => ?_)
  · refine g_ldc d_X7_value_21 kc_X7_71 ?_
    exact g_iret d_X7_value_23 (Or.inl rfl) rfl
  · refine g_iload_n (n := 2) d_X7_value_11 rfl rfl ?_
    refine g_if_lt (tgt := 21) d_X7_value_12 (by decide) (fun c3 => ?_) (fun c3 => ?_)
    · refine g_ldc d_X7_value_21 kc_X7_71 ?_
      exact g_iret d_X7_value_23 (Or.inl rfl) rfl
    · refine g_iload_n (n := 2) d_X7_value_15 rfl rfl ?_
      refine g_bipush (v := 30) d_X7_value_16 (by decide) ?_
      refine g_icmp_le (tgt := 24) d_X7_value_18 (by decide) (fun c4 => ?_) (fun c4 => ?_)
      · refine g_aload_n (n := 0) d_X7_value_24 rfl rfl ?_
        refine g_getr d_X7_value_25 fl_X7_42 sh_0 rfl ?_
        refine g_aload_n (n := 0) d_X7_value_28 rfl rfl ?_
        refine g_getr d_X7_value_29 fl_X7_26 sh_0 rfl ?_
        refine g_iload_n (n := 1) d_X7_value_32 rfl rfl ?_
        refine g_callv_vv (D := D + 1) (As := [.ref 15, .int x1]) d_X7_value_33 sv_X7_157 ob_35 rfl (Nat.le_of_ble_eq_true rfl) rfl (fun _ hy => EvM_cast (by omega) (e_X0_keep (D := D + 0) hy)) (fun σ6 => ?_)
        refine g_aload_n (n := 0) d_X7_value_36 rfl rfl ?_
        refine g_getr d_X7_value_37 fl_X7_26 sh_0 rfl ?_
        refine g_getr d_X7_value_40 fl_X7_167 sh_15 rfl ?_
        refine g_iload_n (n := 1) d_X7_value_43 rfl rfl ?_
        refine g_iaload d_X7_value_44 sh_18 (fun _ => ?_)
        refine g_nm (fun y7 => ?_)
        refine g_istore_n d_X7_value_45 rfl (by decide) rfl ?_
        refine g_aload_n (n := 1) d_X7_value_46 rfl rfl ?_
        refine g_getr d_X7_value_47 fl_X7_26 sh_0 rfl ?_
        refine g_getr d_X7_value_50 fl_X7_167 sh_15 rfl ?_
        refine g_iload_n (n := 2) d_X7_value_53 rfl rfl ?_
        refine g_iload_n (n := 3) d_X7_value_54 rfl rfl ?_
        refine g_iastore d_X7_value_55 sh_18 (fun _ => ?_)
        refine g_mem (fun σ8 => ?_)
        refine g_iload_n (n := 0) d_X7_value_56 rfl rfl ?_
        exact g_iret d_X7_value_57 (Or.inl rfl) rfl
      · refine g_ldc d_X7_value_21 kc_X7_71 ?_
        exact g_iret d_X7_value_23 (Or.inl rfl) rfl
theorem e_X7_value {l : Launch} {D : Nat} {x1 : Int32} {x2 : Int32} {σ : Mem} {y : (Int32 × Mem)} (hy : f_X7_value x1 x2 σ = some y) : EvM l (D + 2) m_X7_value [.ref 0, .int x1, .int x2] σ ((fun y => (some (.int y.1), y.2)) y) :=
  evM_of (d := m_X7_value) (nL := 4) rfl (by decide +kernel) (fun h => absurd (congrArg MethodName.cls h) (by decide +kernel)) (Nat.le_of_ble_eq_true rfl) (t_X7_value y hy)

set_option maxHeartbeats 4000000 in
set_option maxRecDepth 100000 in
theorem t_X7_move {l : Launch} {sc : Nat × (Nat → Int32)} {D : Nat} {x1 : Int32} {x2 : Int32} {σ : Mem} : G l sc (D + 2) m_X7_move 0 [(0, .ref 0), (1, .int x1), (2, .int x2)] [] σ (f_X7_move x1 x2 σ) (fun y => (some (.int y.1), y.2)) := by
  unfold f_X7_move
  refine g_aload_n (n := 0) d_X7_move_0 rfl rfl ?_
  refine g_getr d_X7_move_1 fl_X7_26 sh_0 rfl ?_
  refine g_iload_n (n := 1) d_X7_move_4 rfl rfl ?_
  refine g_callv_pi (D := D + 1) (As := [.int x1]) d_X7_move_5 sv_X7_150 ob_15 rfl (Nat.le_of_ble_eq_true rfl) rfl (fun _ hy => EvM_cast (by omega) (e_X6_has (D := D + 1) hy)) (fun y1 => ?_)
  refine g_if_eq (tgt := 21) d_X7_move_8 (by decide) (fun c2 => ?_) (fun c2 => ?_)
  · refine g_ldc d_X7_move_21 kc_X7_71 ?_
    exact g_iret d_X7_move_23 (Or.inl rfl) rfl
  · refine g_iload_n (n := 2) d_X7_move_11 rfl rfl ?_
    refine g_if_lt (tgt := 21) d_X7_move_12 (by decide) (fun c3 => ?_) (fun c3 => ?_)
    · refine g_ldc d_X7_move_21 kc_X7_71 ?_
      exact g_iret d_X7_move_23 (Or.inl rfl) rfl
    · refine g_iload_n (n := 2) d_X7_move_15 rfl rfl ?_
      refine g_bipush (v := 9) d_X7_move_16 (by decide) ?_
      refine g_icmp_le (tgt := 24) d_X7_move_18 (by decide) (fun c4 => ?_) (fun c4 => ?_)
      · refine g_aload_n (n := 0) d_X7_move_24 rfl rfl ?_
        refine g_getr d_X7_move_25 fl_X7_42 sh_0 rfl ?_
        refine g_aload_n (n := 0) d_X7_move_28 rfl rfl ?_
        refine g_getr d_X7_move_29 fl_X7_26 sh_0 rfl ?_
        refine g_iload_n (n := 1) d_X7_move_32 rfl rfl ?_
        refine g_callv_vv (D := D + 1) (As := [.ref 15, .int x1]) d_X7_move_33 sv_X7_157 ob_35 rfl (Nat.le_of_ble_eq_true rfl) rfl (fun _ hy => EvM_cast (by omega) (e_X0_keep (D := D + 0) hy)) (fun σ6 => ?_)
        refine g_aload_n (n := 0) d_X7_move_36 rfl rfl ?_
        refine g_getr d_X7_move_37 fl_X7_26 sh_0 rfl ?_
        refine g_getr d_X7_move_40 fl_X7_170 sh_15 rfl ?_
        refine g_iload_n (n := 1) d_X7_move_43 rfl rfl ?_
        refine g_iaload d_X7_move_44 sh_17 (fun _ => ?_)
        refine g_nm (fun y7 => ?_)
        refine g_istore_n d_X7_move_45 rfl (by decide) rfl ?_
        refine g_aload_n (n := 1) d_X7_move_46 rfl rfl ?_
        refine g_getr d_X7_move_47 fl_X7_26 sh_0 rfl ?_
        refine g_getr d_X7_move_50 fl_X7_170 sh_15 rfl ?_
        refine g_iload_n (n := 2) d_X7_move_53 rfl rfl ?_
        refine g_iload_n (n := 3) d_X7_move_54 rfl rfl ?_
        refine g_iastore d_X7_move_55 sh_17 (fun _ => ?_)
        refine g_mem (fun σ8 => ?_)
        refine g_iload_n (n := 0) d_X7_move_56 rfl rfl ?_
        exact g_iret d_X7_move_57 (Or.inl rfl) rfl
      · refine g_ldc d_X7_move_21 kc_X7_71 ?_
        exact g_iret d_X7_move_23 (Or.inl rfl) rfl
theorem e_X7_move {l : Launch} {D : Nat} {x1 : Int32} {x2 : Int32} {σ : Mem} {y : (Int32 × Mem)} (hy : f_X7_move x1 x2 σ = some y) : EvM l (D + 2) m_X7_move [.ref 0, .int x1, .int x2] σ ((fun y => (some (.int y.1), y.2)) y) :=
  evM_of (d := m_X7_move) (nL := 4) rfl (by decide +kernel) (fun h => absurd (congrArg MethodName.cls h) (by decide +kernel)) (Nat.le_of_ble_eq_true rfl) (t_X7_move y hy)

set_option maxHeartbeats 4000000 in
set_option maxRecDepth 100000 in
theorem t_X7_undo {l : Launch} {sc : Nat × (Nat → Int32)} {D : Nat} {σ : Mem} : G l sc (D + 2) m_X7_undo 0 [(0, .ref 0)] [] σ (f_X7_undo σ) (fun y => (some (.int y.1), y.2)) := by
  unfold f_X7_undo
  refine g_aload_n (n := 0) d_X7_undo_0 rfl rfl ?_
  refine g_getr d_X7_undo_1 fl_X7_42 sh_0 rfl ?_
  refine g_geti d_X7_undo_4 fl_X7_173 sh_35 rfl ?_
  refine g_if_gt (tgt := 13) d_X7_undo_7 (by decide) (fun c1 => ?_) (fun c1 => ?_)
  · refine g_aload_n (n := 0) d_X7_undo_13 rfl rfl ?_
    refine g_getr d_X7_undo_14 fl_X7_42 sh_0 rfl ?_
    refine g_aload_n (n := 0) d_X7_undo_17 rfl rfl ?_
    refine g_getr d_X7_undo_18 fl_X7_26 sh_0 rfl ?_
    refine g_callv_vv (D := D + 1) (As := [.ref 15]) d_X7_undo_21 sv_X7_176 ob_35 rfl (Nat.le_of_ble_eq_true rfl) rfl (fun _ hy => EvM_cast (by omega) (e_X0_takeBack (D := D + 0) hy)) (fun σ3 => ?_)
    refine g_aload_n (n := 0) d_X7_undo_24 rfl rfl ?_
    refine g_getr d_X7_undo_25 fl_X7_42 sh_0 rfl ?_
    refine g_geti d_X7_undo_28 fl_X7_173 sh_35 rfl ?_
    exact g_iret d_X7_undo_31 (Or.inl rfl) rfl
  · refine g_ldc d_X7_undo_10 kc_X7_156 ?_
    exact g_iret d_X7_undo_12 (Or.inl rfl) rfl
theorem e_X7_undo {l : Launch} {D : Nat} {σ : Mem} {y : (Int32 × Mem)} (hy : f_X7_undo σ = some y) : EvM l (D + 2) m_X7_undo [.ref 0] σ ((fun y => (some (.int y.1), y.2)) y) :=
  evM_of (d := m_X7_undo) (nL := 1) rfl (by decide +kernel) (fun h => absurd (congrArg MethodName.cls h) (by decide +kernel)) (Nat.le_of_ble_eq_true rfl) (t_X7_undo y hy)

set_option maxHeartbeats 4000000 in
set_option maxRecDepth 100000 in
theorem t_X7_reader {l : Launch} {sc : Nat × (Nat → Int32)} {D : Nat} {σ : Mem} {x1 : Int32} {x2 : Int32} : G l sc (D + 3) m_X7_reader 0 [(0, .ref 0), (1, .int x1), (2, .int x2)] [] σ (f_X7_reader σ x1 x2) (fun y => (some (.int y), σ)) := by
  unfold f_X7_reader
  refine g_aload_n (n := 0) d_X7_reader_0 rfl rfl ?_
  refine g_getr d_X7_reader_1 fl_X7_26 sh_0 rfl ?_
  refine g_iload_n (n := 1) d_X7_reader_4 rfl rfl ?_
  refine g_callv_pi (D := D + 2) (As := [.int x1]) d_X7_reader_5 sv_X7_150 ob_15 rfl (Nat.le_of_ble_eq_true rfl) rfl (fun _ hy => EvM_cast (by omega) (e_X6_has (D := D + 2) hy)) (fun y1 => ?_)
  refine g_if_ne (tgt := 14) d_X7_reader_8 (by decide) (fun c2 => ?_) (fun c2 => ?_)
  · refine g_iload_n (n := 2) d_X7_reader_14 rfl rfl ?_
    refine g_if (fun c3 => ?_) (fun c3 => ?_)
    · refine g_tabIn (tgt := 48) d_X7_reader_15 (by rw [c3]; decide) (by rw [c3]; decide) (by rw [c3]; rfl) (by decide) ?_
      refine g_aload_n (n := 0) d_X7_reader_48 rfl rfl ?_
      refine g_getr d_X7_reader_49 fl_X7_26 sh_0 rfl ?_
      refine g_getr d_X7_reader_52 fl_X7_170 sh_15 rfl ?_
      refine g_iload_n (n := 1) d_X7_reader_55 rfl rfl ?_
      refine g_iaload d_X7_reader_56 sh_17 (fun _ => ?_)
      exact g_iret d_X7_reader_57 (Or.inl rfl) rfl
    refine g_if (fun c4 => ?_) (fun c4 => ?_)
    · refine g_tabIn (tgt := 58) d_X7_reader_15 (by rw [c4]; decide) (by rw [c4]; decide) (by rw [c4]; rfl) (by decide) ?_
      refine g_aload_n (n := 0) d_X7_reader_58 rfl rfl ?_
      refine g_getr d_X7_reader_59 fl_X7_26 sh_0 rfl ?_
      refine g_getr d_X7_reader_62 fl_X7_167 sh_15 rfl ?_
      refine g_iload_n (n := 1) d_X7_reader_65 rfl rfl ?_
      refine g_iaload d_X7_reader_66 sh_18 (fun _ => ?_)
      exact g_iret d_X7_reader_67 (Or.inl rfl) rfl
    refine g_if (fun c5 => ?_) (fun c5 => ?_)
    · refine g_tabIn (tgt := 68) d_X7_reader_15 (by rw [c5]; decide) (by rw [c5]; decide) (by rw [c5]; rfl) (by decide) ?_
      refine g_aload_n (n := 0) d_X7_reader_68 rfl rfl ?_
      refine g_getr d_X7_reader_69 fl_X7_26 sh_0 rfl ?_
      refine g_getr d_X7_reader_72 fl_X7_179 sh_15 rfl ?_
      refine g_iload_n (n := 1) d_X7_reader_75 rfl rfl ?_
      refine g_iaload d_X7_reader_76 sh_19 (fun _ => ?_)
      exact g_iret d_X7_reader_77 (Or.inl rfl) rfl
    refine g_if (fun c6 => ?_) (fun c6 => ?_)
    · refine g_tabIn (tgt := 78) d_X7_reader_15 (by rw [c6]; decide) (by rw [c6]; decide) (by rw [c6]; rfl) (by decide) ?_
      refine g_aload_n (n := 0) d_X7_reader_78 rfl rfl ?_
      refine g_getr d_X7_reader_79 fl_X7_26 sh_0 rfl ?_
      refine g_iload_n (n := 1) d_X7_reader_82 rfl rfl ?_
      refine g_callv_pi (D := D + 2) (As := [.int x1]) d_X7_reader_83 sv_X7_182 ob_15 rfl (Nat.le_of_ble_eq_true rfl) rfl (fun _ hy => EvM_cast (by omega) (e_X6_hasRead (D := D + 2) hy)) (fun y7 => ?_)
      refine g_if_eq (tgt := 93) d_X7_reader_86 (by decide) (fun c8 => ?_) (fun c8 => ?_)
      · refine g_iconst (v := 0) d_X7_reader_93 (by decide) ?_
        exact g_iret d_X7_reader_94 (Or.inl rfl) rfl
      · refine g_iconst (v := 1) d_X7_reader_89 (by decide) ?_
        refine g_goto (tgt := 94) d_X7_reader_90 (by decide) ?_
        exact g_iret d_X7_reader_94 (Or.inl rfl) rfl
    refine g_if (fun c9 => ?_) (fun c9 => ?_)
    · refine g_tabIn (tgt := 95) d_X7_reader_15 (by rw [c9]; decide) (by rw [c9]; decide) (by rw [c9]; rfl) (by decide) ?_
      refine g_aload_n (n := 0) d_X7_reader_95 rfl rfl ?_
      refine g_getr d_X7_reader_96 fl_X7_26 sh_0 rfl ?_
      refine g_iload_n (n := 1) d_X7_reader_99 rfl rfl ?_
      refine g_callv_pi (D := D + 2) (As := [.int x1]) d_X7_reader_100 sv_X7_153 ob_15 rfl (Nat.le_of_ble_eq_true rfl) rfl (fun _ hy => EvM_cast (by omega) (e_X6_canHave (D := D + 0) hy)) (fun y10 => ?_)
      refine g_if_eq (tgt := 110) d_X7_reader_103 (by decide) (fun c11 => ?_) (fun c11 => ?_)
      · refine g_iconst (v := 0) d_X7_reader_110 (by decide) ?_
        exact g_iret d_X7_reader_111 (Or.inl rfl) rfl
      · refine g_iconst (v := 1) d_X7_reader_106 (by decide) ?_
        refine g_goto (tgt := 111) d_X7_reader_107 (by decide) ?_
        exact g_iret d_X7_reader_111 (Or.inl rfl) rfl
    refine g_tabOut (tgt := 112) d_X7_reader_15 (by have := lv_neT (a := 0) c3 rfl; have := lv_neT (a := 1) c4 rfl; have := lv_neT (a := 2) c5 rfl; have := lv_neT (a := 3) c6 rfl; have := lv_neT (a := 4) c9 rfl; omega) (by decide) ?_
    refine g_ldc d_X7_reader_112 kc_X7_71 ?_
    exact g_iret d_X7_reader_114 (Or.inl rfl) rfl
  · refine g_ldc d_X7_reader_11 kc_X7_71 ?_
    exact g_iret d_X7_reader_13 (Or.inl rfl) rfl
theorem e_X7_reader {l : Launch} {D : Nat} {σ : Mem} {x1 : Int32} {x2 : Int32} {y : Int32} (hy : f_X7_reader σ x1 x2 = some y) : EvM l (D + 3) m_X7_reader [.ref 0, .int x1, .int x2] σ ((fun y => (some (.int y), σ)) y) :=
  evM_of (d := m_X7_reader) (nL := 3) rfl (by decide +kernel) (fun h => absurd (congrArg MethodName.cls h) (by decide +kernel)) (Nat.le_of_ble_eq_true rfl) (t_X7_reader y hy)

set_option maxHeartbeats 4000000 in
set_option maxRecDepth 100000 in
theorem t_X7_would {l : Launch} {sc : Nat × (Nat → Int32)} {D : Nat} {n : Nat} {σ : Mem} {x1 : Int32} {x2 : Int32} : G l sc (D + 3) m_X7_would 0 [(0, .ref 0), (1, .int x1), (2, .int x2)] [] σ (f_X7_would n σ x1 x2) (fun y => (some (.int y), σ)) := by
  unfold f_X7_would
  refine g_aload_n (n := 0) d_X7_would_0 rfl rfl ?_
  refine g_getr d_X7_would_1 fl_X7_26 sh_0 rfl ?_
  refine g_iload_n (n := 1) d_X7_would_4 rfl rfl ?_
  refine g_callv_pi (D := D + 2) (As := [.int x1]) d_X7_would_5 sv_X7_150 ob_15 rfl (Nat.le_of_ble_eq_true rfl) rfl (fun _ hy => EvM_cast (by omega) (e_X6_has (D := D + 2) hy)) (fun y1 => ?_)
  refine g_if_eq (tgt := 20) d_X7_would_8 (by decide) (fun c2 => ?_) (fun c2 => ?_)
  · refine g_ldc d_X7_would_20 kc_X7_71 ?_
    exact g_iret d_X7_would_22 (Or.inl rfl) rfl
  · refine g_iload_n (n := 2) d_X7_would_11 rfl rfl ?_
    refine g_if_lt (tgt := 20) d_X7_would_12 (by decide) (fun c3 => ?_) (fun c3 => ?_)
    · refine g_ldc d_X7_would_20 kc_X7_71 ?_
      exact g_iret d_X7_would_22 (Or.inl rfl) rfl
    · refine g_iload_n (n := 2) d_X7_would_15 rfl rfl ?_
      refine g_iconst (v := 1) d_X7_would_16 (by decide) ?_
      refine g_icmp_le (tgt := 23) d_X7_would_17 (by decide) (fun c4 => ?_) (fun c4 => ?_)
      · refine g_aload_n (n := 0) d_X7_would_23 rfl rfl ?_
        refine g_getr d_X7_would_24 fl_X7_26 sh_0 rfl ?_
        refine g_iload_n (n := 1) d_X7_would_27 rfl rfl ?_
        refine g_callv_pi (D := D + 2) (As := [.int x1]) d_X7_would_28 sv_X7_153 ob_15 rfl (Nat.le_of_ble_eq_true rfl) rfl (fun _ hy => EvM_cast (by omega) (e_X6_canHave (D := D + 0) hy)) (fun y5 => ?_)
        refine g_if_ne (tgt := 37) d_X7_would_31 (by decide) (fun c6 => ?_) (fun c6 => ?_)
        · refine g_iload_n (n := 2) d_X7_would_37 rfl rfl ?_
          refine g_if_ne (tgt := 52) d_X7_would_38 (by decide) (fun c7 => ?_) (fun c7 => ?_)
          · refine g_aload_n (n := 0) d_X7_would_52 rfl rfl ?_
            refine g_getr d_X7_would_53 fl_X7_26 sh_0 rfl ?_
            refine g_iload_n (n := 1) d_X7_would_56 rfl rfl ?_
            refine g_callv_pi (D := D + 2) (As := [.int x1]) d_X7_would_57 sv_X7_189 ob_15 rfl (Nat.le_of_ble_eq_true rfl) rfl (fun _ hy => EvM_cast (by omega) (e_X6_brings (D := D + 0) hy)) (fun y8 => ?_)
            exact g_iret d_X7_would_60 (Or.inl rfl) rfl
          · refine g_aload_n (n := 0) d_X7_would_41 rfl rfl ?_
            refine g_getr d_X7_would_42 fl_X7_26 sh_0 rfl ?_
            refine g_iload_n (n := 1) d_X7_would_45 rfl rfl ?_
            refine g_callv_pi (D := D + 2) (As := [.int x1]) d_X7_would_46 sv_X7_186 ob_15 rfl (Nat.le_of_ble_eq_true rfl) rfl (fun _ hy => EvM_cast (by omega) (e_X6_comes (D := D + 1) hy)) (fun y9 => ?_)
            refine g_goto (tgt := 60) d_X7_would_49 (by decide) ?_
            exact g_iret d_X7_would_60 (Or.inl rfl) rfl
        · refine g_ldc d_X7_would_34 kc_X7_185 ?_
          exact g_iret d_X7_would_36 (Or.inl rfl) rfl
      · refine g_ldc d_X7_would_20 kc_X7_71 ?_
        exact g_iret d_X7_would_22 (Or.inl rfl) rfl
theorem e_X7_would {l : Launch} {D : Nat} {n : Nat} {σ : Mem} {x1 : Int32} {x2 : Int32} {y : Int32} (hy : f_X7_would n σ x1 x2 = some y) : EvM l (D + 3) m_X7_would [.ref 0, .int x1, .int x2] σ ((fun y => (some (.int y), σ)) y) :=
  evM_of (d := m_X7_would) (nL := 3) rfl (by decide +kernel) (fun h => absurd (congrArg MethodName.cls h) (by decide +kernel)) (Nat.le_of_ble_eq_true rfl) (t_X7_would y hy)

set_option maxHeartbeats 4000000 in
set_option maxRecDepth 100000 in
theorem t_X7_best {l : Launch} {sc : Nat × (Nat → Int32)} {D : Nat} {n : Nat} {x1 : Int32} {σ : Mem} : G l sc (D + 14) m_X7_best 0 [(0, .ref 0), (1, .int x1)] [] σ (f_X7_best n x1 σ) (fun y => (some (.int y.1), y.2)) := by
  unfold f_X7_best
  refine g_aload_n (n := 0) d_X7_best_0 rfl rfl ?_
  refine g_getr d_X7_best_1 fl_X7_26 sh_0 rfl ?_
  refine g_geti d_X7_best_4 fl_X7_130 sh_15 rfl ?_
  refine g_if_ne (tgt := 13) d_X7_best_7 (by decide) (fun c1 => ?_) (fun c1 => ?_)
  · refine g_iload_n (n := 1) d_X7_best_13 rfl rfl ?_
    refine g_bipush (v := -2) d_X7_best_14 (by decide) ?_
    refine g_icmp_lt (tgt := 25) d_X7_best_16 (by decide) (fun c2 => ?_) (fun c2 => ?_)
    · refine g_ldc d_X7_best_25 kc_X7_71 ?_
      exact g_iret d_X7_best_27 (Or.inl rfl) rfl
    · refine g_iload_n (n := 1) d_X7_best_19 rfl rfl ?_
      refine g_bipush (v := 6) d_X7_best_20 (by decide) ?_
      refine g_icmp_lt (tgt := 28) d_X7_best_22 (by decide) (fun c3 => ?_) (fun c3 => ?_)
      · refine g_aload_n (n := 0) d_X7_best_28 rfl rfl ?_
        refine g_getr d_X7_best_29 fl_X7_49 sh_0 rfl ?_
        refine g_aload_n (n := 0) d_X7_best_32 rfl rfl ?_
        refine g_getr d_X7_best_33 fl_X7_26 sh_0 rfl ?_
        refine g_callv_vv (D := D + 13) (As := [.ref 15]) d_X7_best_36 sv_X7_192 ob_61 rfl (Nat.le_of_ble_eq_true rfl) rfl (fun _ hy => EvM_cast (by omega) (e_X3_forMost (D := D + 0) hy)) (fun σ5 => ?_)
        refine g_iload_n (n := 1) d_X7_best_39 rfl rfl ?_
        refine g_bipush (v := -2) d_X7_best_40 (by decide) ?_
        refine g_icmp_ne (tgt := 53) d_X7_best_42 (by decide) (fun c6 => ?_) (fun c6 => ?_)
        · refine g_iload_n (n := 1) d_X7_best_53 rfl rfl ?_
          refine g_iconst (v := -1) d_X7_best_54 (by decide) ?_
          refine g_icmp_ne (tgt := 68) d_X7_best_55 (by decide) (fun c7 => ?_) (fun c7 => ?_)
          · refine g_aload_n (n := 0) d_X7_best_68 rfl rfl ?_
            refine g_getr d_X7_best_69 fl_X7_49 sh_0 rfl ?_
            refine g_iload_n (n := 1) d_X7_best_72 rfl rfl ?_
            refine g_callv_pi (D := D + 13) (As := [.int x1]) d_X7_best_73 sv_X7_199 ob_61 rfl (Nat.le_of_ble_eq_true rfl) rfl (fun _ hy => EvM_cast (by omega) (e_X3_told (D := D + 13) hy)) (fun y8 => ?_)
            exact g_iret d_X7_best_76 (Or.inl rfl) rfl
          · refine g_aload_n (n := 0) d_X7_best_58 rfl rfl ?_
            refine g_getr d_X7_best_59 fl_X7_49 sh_0 rfl ?_
            refine g_geti d_X7_best_62 fl_X7_196 sh_61 rfl ?_
            refine g_goto (tgt := 76) d_X7_best_65 (by decide) ?_
            exact g_iret d_X7_best_76 (Or.inl rfl) rfl
        · refine g_aload_n (n := 0) d_X7_best_45 rfl rfl ?_
          refine g_getr d_X7_best_46 fl_X7_49 sh_0 rfl ?_
          refine g_geti d_X7_best_49 fl_X7_195 sh_61 rfl ?_
          exact g_iret d_X7_best_52 (Or.inl rfl) rfl
      · refine g_ldc d_X7_best_25 kc_X7_71 ?_
        exact g_iret d_X7_best_27 (Or.inl rfl) rfl
  · refine g_ldc d_X7_best_10 kc_X7_156 ?_
    exact g_iret d_X7_best_12 (Or.inl rfl) rfl
theorem e_X7_best {l : Launch} {D : Nat} {n : Nat} {x1 : Int32} {σ : Mem} {y : (Int32 × Mem)} (hy : f_X7_best n x1 σ = some y) : EvM l (D + 14) m_X7_best [.ref 0, .int x1] σ ((fun y => (some (.int y.1), y.2)) y) :=
  evM_of (d := m_X7_best) (nL := 2) rfl (by decide +kernel) (fun h => absurd (congrArg MethodName.cls h) (by decide +kernel)) (Nat.le_of_ble_eq_true rfl) (t_X7_best y hy)

set_option maxHeartbeats 4000000 in
set_option maxRecDepth 100000 in
theorem t_X7_soonest {l : Launch} {sc : Nat × (Nat → Int32)} {D : Nat} {n : Nat} {x1 : Int32} {x2 : Int32} {σ : Mem} : G l sc (D + 14) m_X7_soonest 0 [(0, .ref 0), (1, .int x1), (2, .int x2)] [] σ (f_X7_soonest n x1 x2 σ) (fun y => (some (.int y.1), y.2)) := by
  unfold f_X7_soonest
  refine g_aload_n (n := 0) d_X7_soonest_0 rfl rfl ?_
  refine g_getr d_X7_soonest_1 fl_X7_26 sh_0 rfl ?_
  refine g_geti d_X7_soonest_4 fl_X7_130 sh_15 rfl ?_
  refine g_if_ne (tgt := 13) d_X7_soonest_7 (by decide) (fun c1 => ?_) (fun c1 => ?_)
  · refine g_iload_n (n := 1) d_X7_soonest_13 rfl rfl ?_
    refine g_if_lt (tgt := 39) d_X7_soonest_14 (by decide) (fun c2 => ?_) (fun c2 => ?_)
    · refine g_ldc d_X7_soonest_39 kc_X7_71 ?_
      exact g_iret d_X7_soonest_41 (Or.inl rfl) rfl
    · refine g_iload_n (n := 1) d_X7_soonest_17 rfl rfl ?_
      refine g_aload_n (n := 0) d_X7_soonest_18 rfl rfl ?_
      refine g_getr d_X7_soonest_19 fl_X7_26 sh_0 rfl ?_
      refine g_callv_pi (D := D + 13) (As := []) d_X7_soonest_22 sv_X7_202 ob_15 rfl (Nat.le_of_ble_eq_true rfl) rfl (fun _ hy => EvM_cast (by omega) (e_X6_everybody (D := D + 13) hy)) (fun y3 => ?_)
      refine g_icmp_gt (tgt := 39) d_X7_soonest_25 (by decide) (fun c4 => ?_) (fun c4 => ?_)
      · refine g_ldc d_X7_soonest_39 kc_X7_71 ?_
        exact g_iret d_X7_soonest_41 (Or.inl rfl) rfl
      · refine g_iload_n (n := 2) d_X7_soonest_28 rfl rfl ?_
        refine g_iconst (v := -1) d_X7_soonest_29 (by decide) ?_
        refine g_icmp_lt (tgt := 39) d_X7_soonest_30 (by decide) (fun c5 => ?_) (fun c5 => ?_)
        · refine g_ldc d_X7_soonest_39 kc_X7_71 ?_
          exact g_iret d_X7_soonest_41 (Or.inl rfl) rfl
        · refine g_iload_n (n := 2) d_X7_soonest_33 rfl rfl ?_
          refine g_bipush (v := 6) d_X7_soonest_34 (by decide) ?_
          refine g_icmp_lt (tgt := 42) d_X7_soonest_36 (by decide) (fun c6 => ?_) (fun c6 => ?_)
          · refine g_aload_n (n := 0) d_X7_soonest_42 rfl rfl ?_
            refine g_getr d_X7_soonest_43 fl_X7_49 sh_0 rfl ?_
            refine g_aload_n (n := 0) d_X7_soonest_46 rfl rfl ?_
            refine g_getr d_X7_soonest_47 fl_X7_26 sh_0 rfl ?_
            refine g_iload_n (n := 1) d_X7_soonest_50 rfl rfl ?_
            refine g_callv_vv (D := D + 13) (As := [.ref 15, .int x1]) d_X7_soonest_51 sv_X7_206 ob_61 rfl (Nat.le_of_ble_eq_true rfl) rfl (fun _ hy => EvM_cast (by omega) (e_X3_forSoonest (D := D + 0) hy)) (fun σ8 => ?_)
            refine g_aload_n (n := 0) d_X7_soonest_54 rfl rfl ?_
            refine g_getr d_X7_soonest_55 fl_X7_49 sh_0 rfl ?_
            refine g_geti d_X7_soonest_58 fl_X7_209 sh_61 rfl ?_
            refine g_if_ne (tgt := 67) d_X7_soonest_61 (by decide) (fun c9 => ?_) (fun c9 => ?_)
            · refine g_iload_n (n := 2) d_X7_soonest_67 rfl rfl ?_
              refine g_iconst (v := -1) d_X7_soonest_68 (by decide) ?_
              refine g_icmp_ne (tgt := 82) d_X7_soonest_69 (by decide) (fun c10 => ?_) (fun c10 => ?_)
              · refine g_aload_n (n := 0) d_X7_soonest_82 rfl rfl ?_
                refine g_getr d_X7_soonest_83 fl_X7_49 sh_0 rfl ?_
                refine g_iload_n (n := 2) d_X7_soonest_86 rfl rfl ?_
                refine g_callv_pi (D := D + 13) (As := [.int x2]) d_X7_soonest_87 sv_X7_199 ob_61 rfl (Nat.le_of_ble_eq_true rfl) rfl (fun _ hy => EvM_cast (by omega) (e_X3_told (D := D + 13) hy)) (fun y11 => ?_)
                exact g_iret d_X7_soonest_90 (Or.inl rfl) rfl
              · refine g_aload_n (n := 0) d_X7_soonest_72 rfl rfl ?_
                refine g_getr d_X7_soonest_73 fl_X7_49 sh_0 rfl ?_
                refine g_geti d_X7_soonest_76 fl_X7_196 sh_61 rfl ?_
                refine g_goto (tgt := 90) d_X7_soonest_79 (by decide) ?_
                exact g_iret d_X7_soonest_90 (Or.inl rfl) rfl
            · refine g_ldc d_X7_soonest_64 kc_X7_185 ?_
              exact g_iret d_X7_soonest_66 (Or.inl rfl) rfl
          · refine g_ldc d_X7_soonest_39 kc_X7_71 ?_
            exact g_iret d_X7_soonest_41 (Or.inl rfl) rfl
  · refine g_ldc d_X7_soonest_10 kc_X7_156 ?_
    exact g_iret d_X7_soonest_12 (Or.inl rfl) rfl
theorem e_X7_soonest {l : Launch} {D : Nat} {n : Nat} {x1 : Int32} {x2 : Int32} {σ : Mem} {y : (Int32 × Mem)} (hy : f_X7_soonest n x1 x2 σ = some y) : EvM l (D + 14) m_X7_soonest [.ref 0, .int x1, .int x2] σ ((fun y => (some (.int y.1), y.2)) y) :=
  evM_of (d := m_X7_soonest) (nL := 3) rfl (by decide +kernel) (fun h => absurd (congrArg MethodName.cls h) (by decide +kernel)) (Nat.le_of_ble_eq_true rfl) (t_X7_soonest y hy)

set_option maxHeartbeats 4000000 in
set_option maxRecDepth 100000 in
theorem t_X7_copies {l : Launch} {sc : Nat × (Nat → Int32)} {D : Nat} {n : Nat} {x1 : Int32} {x2 : Int32} {σ : Mem} : G l sc (D + 14) m_X7_copies 0 [(0, .ref 0), (1, .int x1), (2, .int x2)] [] σ (f_X7_copies n x1 x2 σ) (fun y => (some (.int y.1), y.2)) := by
  unfold f_X7_copies
  refine g_aload_n (n := 0) d_X7_copies_0 rfl rfl ?_
  refine g_getr d_X7_copies_1 fl_X7_26 sh_0 rfl ?_
  refine g_geti d_X7_copies_4 fl_X7_130 sh_15 rfl ?_
  refine g_if_ne (tgt := 13) d_X7_copies_7 (by decide) (fun c1 => ?_) (fun c1 => ?_)
  · refine g_iload_n (n := 1) d_X7_copies_13 rfl rfl ?_
    refine g_iconst (v := 1) d_X7_copies_14 (by decide) ?_
    refine g_icmp_lt (tgt := 34) d_X7_copies_15 (by decide) (fun c2 => ?_) (fun c2 => ?_)
    · refine g_ldc d_X7_copies_34 kc_X7_71 ?_
      exact g_iret d_X7_copies_36 (Or.inl rfl) rfl
    · refine g_iload_n (n := 1) d_X7_copies_18 rfl rfl ?_
      refine g_iconst (v := 3) d_X7_copies_19 (by decide) ?_
      refine g_icmp_gt (tgt := 34) d_X7_copies_20 (by decide) (fun c3 => ?_) (fun c3 => ?_)
      · refine g_ldc d_X7_copies_34 kc_X7_71 ?_
        exact g_iret d_X7_copies_36 (Or.inl rfl) rfl
      · refine g_iload_n (n := 2) d_X7_copies_23 rfl rfl ?_
        refine g_iconst (v := -1) d_X7_copies_24 (by decide) ?_
        refine g_icmp_lt (tgt := 34) d_X7_copies_25 (by decide) (fun c4 => ?_) (fun c4 => ?_)
        · refine g_ldc d_X7_copies_34 kc_X7_71 ?_
          exact g_iret d_X7_copies_36 (Or.inl rfl) rfl
        · refine g_iload_n (n := 2) d_X7_copies_28 rfl rfl ?_
          refine g_bipush (v := 6) d_X7_copies_29 (by decide) ?_
          refine g_icmp_lt (tgt := 37) d_X7_copies_31 (by decide) (fun c5 => ?_) (fun c5 => ?_)
          · refine g_iload_n (n := 2) d_X7_copies_37 rfl rfl ?_
            refine g_aload_n (n := 0) d_X7_copies_38 rfl rfl ?_
            refine g_getr d_X7_copies_39 fl_X7_26 sh_0 rfl ?_
            refine g_geti d_X7_copies_42 fl_X7_144 sh_15 rfl ?_
            refine g_icmp_lt (tgt := 51) d_X7_copies_45 (by decide) (fun c6 => ?_) (fun c6 => ?_)
            · refine g_aload_n (n := 0) d_X7_copies_51 rfl rfl ?_
              refine g_getr d_X7_copies_52 fl_X7_49 sh_0 rfl ?_
              refine g_aload_n (n := 0) d_X7_copies_55 rfl rfl ?_
              refine g_getr d_X7_copies_56 fl_X7_26 sh_0 rfl ?_
              refine g_callv_vv (D := D + 13) (As := [.ref 15]) d_X7_copies_59 sv_X7_211 ob_61 rfl (Nat.le_of_ble_eq_true rfl) rfl (fun _ hy => EvM_cast (by omega) (e_X3_forSets (D := D + 0) hy)) (fun σ8 => ?_)
              refine g_aload_n (n := 0) d_X7_copies_62 rfl rfl ?_
              refine g_getr d_X7_copies_63 fl_X7_56 sh_0 rfl ?_
              refine g_iload_n (n := 1) d_X7_copies_66 rfl rfl ?_
              refine g_aload_n (n := 0) d_X7_copies_67 rfl rfl ?_
              refine g_getr d_X7_copies_68 fl_X7_26 sh_0 rfl ?_
              refine g_aload_n (n := 0) d_X7_copies_71 rfl rfl ?_
              refine g_getr d_X7_copies_72 fl_X7_49 sh_0 rfl ?_
              refine g_getr d_X7_copies_75 fl_X7_214 sh_61 rfl ?_
              refine g_callv_vv (D := D + 13) (As := [.int x1, .ref 15, .ref 69]) d_X7_copies_78 sv_X7_217 ob_70 rfl (Nat.le_of_ble_eq_true rfl) rfl (fun _ hy => EvM_cast (by omega) (e_X4_of (D := D + 3) hy)) (fun σ10 => ?_)
              refine g_iload_n (n := 2) d_X7_copies_81 rfl rfl ?_
              refine g_iconst (v := -1) d_X7_copies_82 (by decide) ?_
              refine g_icmp_ne (tgt := 110) d_X7_copies_83 (by decide) (fun c11 => ?_) (fun c11 => ?_)
              · refine g_aload_n (n := 0) d_X7_copies_110 rfl rfl ?_
                refine g_getr d_X7_copies_111 fl_X7_56 sh_0 rfl ?_
                refine g_getr d_X7_copies_114 fl_X7_227 sh_70 rfl ?_
                refine g_iload_n (n := 2) d_X7_copies_117 rfl rfl ?_
                refine g_iaload d_X7_copies_118 sh_73 (fun _ => ?_)
                exact g_iret d_X7_copies_119 (Or.inl rfl) rfl
              · refine g_aload_n (n := 0) d_X7_copies_86 rfl rfl ?_
                refine g_getr d_X7_copies_87 fl_X7_56 sh_0 rfl ?_
                refine g_geti d_X7_copies_90 fl_X7_221 sh_70 rfl ?_
                refine g_iload_n (n := 1) d_X7_copies_93 rfl rfl ?_
                refine g_aload_n (n := 0) d_X7_copies_94 rfl rfl ?_
                refine g_getr d_X7_copies_95 fl_X7_26 sh_0 rfl ?_
                refine g_geti d_X7_copies_98 fl_X7_224 sh_15 rfl ?_
                refine g_imul d_X7_copies_101 ?_
                refine g_isub d_X7_copies_102 ?_
                refine g_sipush (v := 1000) d_X7_copies_103 (by decide) ?_
                refine g_iadd d_X7_copies_106 ?_
                refine g_goto (tgt := 119) d_X7_copies_107 (by decide) ?_
                exact g_iret d_X7_copies_119 (Or.inl rfl) rfl
            · refine g_ldc d_X7_copies_48 kc_X7_185 ?_
              exact g_iret d_X7_copies_50 (Or.inl rfl) rfl
          · refine g_ldc d_X7_copies_34 kc_X7_71 ?_
            exact g_iret d_X7_copies_36 (Or.inl rfl) rfl
  · refine g_ldc d_X7_copies_10 kc_X7_156 ?_
    exact g_iret d_X7_copies_12 (Or.inl rfl) rfl
theorem e_X7_copies {l : Launch} {D : Nat} {n : Nat} {x1 : Int32} {x2 : Int32} {σ : Mem} {y : (Int32 × Mem)} (hy : f_X7_copies n x1 x2 σ = some y) : EvM l (D + 14) m_X7_copies [.ref 0, .int x1, .int x2] σ ((fun y => (some (.int y.1), y.2)) y) :=
  evM_of (d := m_X7_copies) (nL := 3) rfl (by decide +kernel) (fun h => absurd (congrArg MethodName.cls h) (by decide +kernel)) (Nat.le_of_ble_eq_true rfl) (t_X7_copies y hy)

set_option maxHeartbeats 4000000 in
set_option maxRecDepth 100000 in
theorem t_X7_isTold {l : Launch} {sc : Nat × (Nat → Int32)} {D : Nat} {σ : Mem} {x0 : Int32} {x1 : Int32} {x2 : Int32} : G l sc (D + 1) m_X7_isTold 0 [(0, .int x0), (1, .int x1), (2, .int x2)] [] σ (f_X7_isTold σ x0 x1 x2) (fun y => (some (.int y), σ)) := by
  unfold f_X7_isTold
  refine g_iload_n (n := 0) d_X7_isTold_0 rfl rfl ?_
  refine g_calls_pi (D := D + 0) (As := [.int x0]) d_X7_isTold_1 ss_X7_67 rfl (Nat.le_of_ble_eq_true rfl) rfl (fun _ hy => EvM_cast (by omega) (e_X2_isNumber (D := D + 0) hy)) (fun y1 => ?_)
  refine g_if_eq (tgt := 33) d_X7_isTold_4 (by decide) (fun c2 => ?_) (fun c2 => ?_)
  · refine g_iconst (v := 0) d_X7_isTold_33 (by decide) ?_
    exact g_iret d_X7_isTold_34 (Or.inr ⟨rfl, rfl⟩) rfl
  · refine g_iload_n (n := 1) d_X7_isTold_7 rfl rfl ?_
    refine g_iconst (v := 1) d_X7_isTold_8 (by decide) ?_
    refine g_icmp_lt (tgt := 33) d_X7_isTold_9 (by decide) (fun c3 => ?_) (fun c3 => ?_)
    · refine g_iconst (v := 0) d_X7_isTold_33 (by decide) ?_
      exact g_iret d_X7_isTold_34 (Or.inr ⟨rfl, rfl⟩) rfl
    · refine g_iload_n (n := 1) d_X7_isTold_12 rfl rfl ?_
      refine g_bipush (v := 6) d_X7_isTold_13 (by decide) ?_
      refine g_icmp_gt (tgt := 33) d_X7_isTold_15 (by decide) (fun c4 => ?_) (fun c4 => ?_)
      · refine g_iconst (v := 0) d_X7_isTold_33 (by decide) ?_
        exact g_iret d_X7_isTold_34 (Or.inr ⟨rfl, rfl⟩) rfl
      · refine g_iload_n (n := 2) d_X7_isTold_18 rfl rfl ?_
        refine g_if_lt (tgt := 33) d_X7_isTold_19 (by decide) (fun c5 => ?_) (fun c5 => ?_)
        · refine g_iconst (v := 0) d_X7_isTold_33 (by decide) ?_
          exact g_iret d_X7_isTold_34 (Or.inr ⟨rfl, rfl⟩) rfl
        · refine g_iload_n (n := 2) d_X7_isTold_22 rfl rfl ?_
          refine g_sipush (v := 999) d_X7_isTold_23 (by decide) ?_
          refine g_icmp_gt (tgt := 33) d_X7_isTold_26 (by decide) (fun c6 => ?_) (fun c6 => ?_)
          · refine g_iconst (v := 0) d_X7_isTold_33 (by decide) ?_
            exact g_iret d_X7_isTold_34 (Or.inr ⟨rfl, rfl⟩) rfl
          · refine g_iconst (v := 1) d_X7_isTold_29 (by decide) ?_
            refine g_goto (tgt := 34) d_X7_isTold_30 (by decide) ?_
            exact g_iret d_X7_isTold_34 (Or.inr ⟨rfl, rfl⟩) rfl
theorem e_X7_isTold {l : Launch} {D : Nat} {σ : Mem} {x0 : Int32} {x1 : Int32} {x2 : Int32} {y : Int32} (hy : f_X7_isTold σ x0 x1 x2 = some y) : EvM l (D + 1) m_X7_isTold [.int x0, .int x1, .int x2] σ ((fun y => (some (.int y), σ)) y) :=
  evM_of (d := m_X7_isTold) (nL := 3) rfl (by decide +kernel) (fun h => absurd (congrArg MethodName.cls h) (by decide +kernel)) (Nat.le_of_ble_eq_true rfl) (t_X7_isTold y hy)

set_option maxHeartbeats 4000000 in
set_option maxRecDepth 100000 in
theorem t_X7_fits_b167 {l : Launch} {sc : Nat × (Nat → Int32)} {D : Nat} {n : Nat} {k104 : Int32 → Int32 → Int32 → Int32 → Int32 → Int32 → Int32 → Int32 → Int32 → Mem → Option (Int32 × Mem)} {x1 : Int32} {x2 : Int32} {x3 : Int32} {x4 : Int32} {x5 : Int32} {x6 : Int32} {x9 : Int32} {x10 : Int32} {x11 : Int32} {σ : Mem} (hk104 : ∀ x1 x2 x3 x4 x5 x6 x9 x10 x11 σ, G l sc (D + 5) m_X7_fits 104 [(0, .ref 0), (1, .int x1), (2, .int x2), (3, .int x3), (4, .int x4), (5, .int x5), (6, .int x6), (9, .int x9), (10, .int x10), (11, .int x11)] [] σ (k104 x1 x2 x3 x4 x5 x6 x9 x10 x11 σ) (fun y => (some (.int y.1), y.2))) : G l sc (D + 5) m_X7_fits 167 [(0, .ref 0), (1, .int x1), (2, .int x2), (3, .int x3), (4, .int x4), (5, .int x5), (6, .int x6), (9, .int x9), (10, .int x10), (11, .int x11)] [] σ (f_X7_fits_b167 n k104 x1 x2 x3 x4 x5 x6 x9 x10 x11 σ) (fun y => (some (.int y.1), y.2)) := by
  unfold f_X7_fits_b167
  refine g_iinc (n := 9) (w := 1) d_X7_fits_167 rfl (by decide) (by decide) rfl ?_
  refine g_goto (tgt := 104) d_X7_fits_170 (by decide) ?_
  refine g_sub [1, 2, 3, 4, 5, 6, 7, 8, 9, 0] rfl ?_
  exact hk104 _ _ _ _ _ _ _ _ _ _
set_option maxHeartbeats 4000000 in
set_option maxRecDepth 100000 in
theorem t_X7_fits_b104 {l : Launch} {sc : Nat × (Nat → Int32)} {D : Nat} {n : Nat} {k104 : Int32 → Int32 → Int32 → Int32 → Int32 → Int32 → Int32 → Int32 → Int32 → Mem → Option (Int32 × Mem)} {x1 : Int32} {x2 : Int32} {x3 : Int32} {x4 : Int32} {x5 : Int32} {x6 : Int32} {x9 : Int32} {x10 : Int32} {x11 : Int32} {σ : Mem} (hk104 : ∀ x1 x2 x3 x4 x5 x6 x9 x10 x11 σ, G l sc (D + 5) m_X7_fits 104 [(0, .ref 0), (1, .int x1), (2, .int x2), (3, .int x3), (4, .int x4), (5, .int x5), (6, .int x6), (9, .int x9), (10, .int x10), (11, .int x11)] [] σ (k104 x1 x2 x3 x4 x5 x6 x9 x10 x11 σ) (fun y => (some (.int y.1), y.2))) : G l sc (D + 5) m_X7_fits 104 [(0, .ref 0), (1, .int x1), (2, .int x2), (3, .int x3), (4, .int x4), (5, .int x5), (6, .int x6), (9, .int x9), (10, .int x10), (11, .int x11)] [] σ (f_X7_fits_b104 n k104 x1 x2 x3 x4 x5 x6 x9 x10 x11 σ) (fun y => (some (.int y.1), y.2)) := by
  unfold f_X7_fits_b104
  refine g_iload (n := 9) d_X7_fits_104 rfl ?_
  refine g_iload (n := 7) d_X7_fits_106 rfl ?_
  refine g_icmp_gt (tgt := 173) d_X7_fits_108 (by decide) (fun c1 => ?_) (fun c1 => ?_)
  · refine g_aload_n (n := 0) d_X7_fits_173 rfl rfl ?_
    refine g_iload (n := 8) d_X7_fits_174 rfl ?_
    refine g_callv_ii (D := D + 4) (As := [.int x10]) d_X7_fits_176 sv_X7_80 ob_0 rfl (Nat.le_of_ble_eq_true rfl) rfl (fun _ hy => EvM_cast (by omega) (e_X7_foundNothing (D := D + 4) hy)) (fun y2 σ3 => ?_)
    exact g_iret d_X7_fits_179 (Or.inl rfl) rfl
  · refine g_aload_n (n := 0) d_X7_fits_111 rfl rfl ?_
    refine g_getr d_X7_fits_112 fl_X7_30 sh_0 rfl ?_
    refine g_aload_n (n := 0) d_X7_fits_115 rfl rfl ?_
    refine g_getr d_X7_fits_116 fl_X7_26 sh_0 rfl ?_
    refine g_callv_vv (D := D + 4) (As := [.ref 15]) d_X7_fits_119 sv_X7_137 ob_20 rfl (Nat.le_of_ble_eq_true rfl) rfl (fun _ hy => EvM_cast (by omega) (e_X6_takeOver (D := D + 3) hy)) (fun σ5 => ?_)
    refine g_aload_n (n := 0) d_X7_fits_122 rfl rfl ?_
    refine g_getr d_X7_fits_123 fl_X7_30 sh_0 rfl ?_
    refine g_iload_n (n := 1) d_X7_fits_126 rfl rfl ?_
    refine g_iload (n := 6) d_X7_fits_127 rfl ?_
    refine g_iload (n := 9) d_X7_fits_129 rfl ?_
    refine g_callv_vv (D := D + 4) (As := [.int x1, .int x6, .int x11]) d_X7_fits_131 sv_X7_233 ob_20 rfl (Nat.le_of_ble_eq_true rfl) rfl (fun _ hy => EvM_cast (by omega) (e_X6_suppose (D := D + 4) hy)) (fun σ7 => ?_)
    refine g_aload_n (n := 0) d_X7_fits_134 rfl rfl ?_
    refine g_getr d_X7_fits_135 fl_X7_30 sh_0 rfl ?_
    refine g_aload_n (n := 0) d_X7_fits_138 rfl rfl ?_
    refine g_getr d_X7_fits_139 fl_X7_10 sh_0 rfl ?_
    refine g_getr d_X7_fits_142 fl_X7_101 sh_1 rfl ?_
    refine g_iload_n (n := 2) d_X7_fits_145 rfl rfl ?_
    refine g_aaload d_X7_fits_146 sh_4 (fun h8 => ?_)
    refine g_iload_n (n := 3) d_X7_fits_147 rfl rfl ?_
    refine g_iload (n := 4) d_X7_fits_148 rfl ?_
    refine g_callv_ii (D := D + 4) (As := [.ref (5 + x2.toNatClampNeg), .int x3, .int x4]) d_X7_fits_150 sv_X7_236 ob_20 rfl (Nat.le_of_ble_eq_true rfl) rfl (fun _ hy => EvM_cast (by omega) (e_X6_handAlong (D := D + 0) hy)) (fun y9 σ10 => ?_)
    refine g_iload (n := 5) d_X7_fits_153 rfl ?_
    refine g_icmp_ne (tgt := 167) d_X7_fits_155 (by decide) (fun c11 => ?_) (fun c11 => ?_)
    · refine g_sub [0, 1, 2, 3, 4, 5, 6, 7, 8, 9] rfl ?_
      exact t_X7_fits_b167 hk104
    · refine g_iload (n := 8) d_X7_fits_158 rfl ?_
      refine g_iconst (v := 1) d_X7_fits_160 (by decide) ?_
      refine g_iload (n := 9) d_X7_fits_161 rfl ?_
      refine g_ishl d_X7_fits_163 ?_
      refine g_ior d_X7_fits_164 ?_
      refine g_nm (fun y12 => ?_)
      refine g_istore d_X7_fits_165 (by decide) rfl ?_
      refine g_sub [1, 2, 3, 4, 5, 6, 7, 8, 0, 9] rfl ?_
      exact t_X7_fits_b167 hk104
set_option maxHeartbeats 4000000 in
set_option maxRecDepth 100000 in
theorem t_X7_fits_l104 {l : Launch} {sc : Nat × (Nat → Int32)} {D : Nat} {n : Nat} : ∀ (f : Nat) (x1 : Int32) (x2 : Int32) (x3 : Int32) (x4 : Int32) (x5 : Int32) (x6 : Int32) (x9 : Int32) (x10 : Int32) (x11 : Int32) (σ : Mem), G l sc (D + 5) m_X7_fits 104 [(0, .ref 0), (1, .int x1), (2, .int x2), (3, .int x3), (4, .int x4), (5, .int x5), (6, .int x6), (9, .int x9), (10, .int x10), (11, .int x11)] [] σ (f_X7_fits_l104 n f x1 x2 x3 x4 x5 x6 x9 x10 x11 σ) (fun y => (some (.int y.1), y.2)) := by
  intro f
  induction f with
  | zero => intro x1 x2 x3 x4 x5 x6 x9 x10 x11 σ; exact g_none
  | succ f ih => intro x1 x2 x3 x4 x5 x6 x9 x10 x11 σ; exact t_X7_fits_b104 ih
set_option maxHeartbeats 4000000 in
set_option maxRecDepth 100000 in
theorem t_X7_fits_b95 {l : Launch} {sc : Nat × (Nat → Int32)} {D : Nat} {n : Nat} {x1 : Int32} {x2 : Int32} {x3 : Int32} {x4 : Int32} {x5 : Int32} {x6 : Int32} {x8 : Int32} {s0 : Int32} {σ : Mem} : G l sc (D + 5) m_X7_fits 95 [(0, .ref 0), (1, .int x1), (2, .int x2), (3, .int x3), (4, .int x4), (5, .int x5), (6, .int x6), (8, .int x8)] [.int s0] σ (f_X7_fits_b95 n x1 x2 x3 x4 x5 x6 x8 s0 σ) (fun y => (some (.int y.1), y.2)) := by
  unfold f_X7_fits_b95
  refine g_istore d_X7_fits_95 (by decide) rfl ?_
  refine g_iconst (v := 0) d_X7_fits_97 (by decide) ?_
  refine g_istore d_X7_fits_98 (by decide) rfl ?_
  refine g_iload (n := 9) d_X7_fits_100 rfl ?_
  refine g_istore d_X7_fits_102 (by decide) rfl ?_
  refine g_sub [3, 4, 5, 6, 7, 8, 9, 2, 1, 0] rfl ?_
  exact t_X7_fits_l104  _ _ _ _ _ _ _ _ _ _ _
set_option maxHeartbeats 4000000 in
set_option maxRecDepth 100000 in
theorem t_X7_fits_b71 {l : Launch} {sc : Nat × (Nat → Int32)} {D : Nat} {n : Nat} {x1 : Int32} {x2 : Int32} {x3 : Int32} {x4 : Int32} {x5 : Int32} {x6 : Int32} {s0 : Int32} {σ : Mem} : G l sc (D + 5) m_X7_fits 71 [(0, .ref 0), (1, .int x1), (2, .int x2), (3, .int x3), (4, .int x4), (5, .int x5), (6, .int x6)] [.int s0] σ (f_X7_fits_b71 n x1 x2 x3 x4 x5 x6 s0 σ) (fun y => (some (.int y.1), y.2)) := by
  unfold f_X7_fits_b71
  refine g_istore d_X7_fits_71 (by decide) rfl ?_
  refine g_iload (n := 7) d_X7_fits_73 rfl ?_
  refine g_if_ne (tgt := 82) d_X7_fits_75 (by decide) (fun c1 => ?_) (fun c1 => ?_)
  · refine g_iload (n := 7) d_X7_fits_82 rfl ?_
    refine g_iconst (v := 1) d_X7_fits_84 (by decide) ?_
    refine g_icmp_ne (tgt := 93) d_X7_fits_85 (by decide) (fun c2 => ?_) (fun c2 => ?_)
    · refine g_bipush (v := 9) d_X7_fits_93 (by decide) ?_
      refine g_sub [1, 2, 3, 4, 5, 6, 7, 0] rfl ?_
      exact t_X7_fits_b95 
    · refine g_bipush (v := 9) d_X7_fits_88 (by decide) ?_
      refine g_goto (tgt := 95) d_X7_fits_90 (by decide) ?_
      refine g_sub [1, 2, 3, 4, 5, 6, 7, 0] rfl ?_
      exact t_X7_fits_b95 
  · refine g_iconst (v := 5) d_X7_fits_78 (by decide) ?_
    refine g_goto (tgt := 95) d_X7_fits_79 (by decide) ?_
    refine g_sub [1, 2, 3, 4, 5, 6, 7, 0] rfl ?_
    exact t_X7_fits_b95 
set_option maxHeartbeats 4000000 in
set_option maxRecDepth 100000 in
theorem t_X7_fits {l : Launch} {sc : Nat × (Nat → Int32)} {D : Nat} {n : Nat} {x1 : Int32} {x2 : Int32} {x3 : Int32} {x4 : Int32} {x5 : Int32} {x6 : Int32} {σ : Mem} : G l sc (D + 5) m_X7_fits 0 [(0, .ref 0), (1, .int x1), (2, .int x2), (3, .int x3), (4, .int x4), (5, .int x5), (6, .int x6)] [] σ (f_X7_fits n x1 x2 x3 x4 x5 x6 σ) (fun y => (some (.int y.1), y.2)) := by
  unfold f_X7_fits
  refine g_aload_n (n := 0) d_X7_fits_0 rfl rfl ?_
  refine g_getr d_X7_fits_1 fl_X7_26 sh_0 rfl ?_
  refine g_iload_n (n := 1) d_X7_fits_4 rfl rfl ?_
  refine g_callv_pi (D := D + 4) (As := [.int x1]) d_X7_fits_5 sv_X7_150 ob_15 rfl (Nat.le_of_ble_eq_true rfl) rfl (fun _ hy => EvM_cast (by omega) (e_X6_has (D := D + 4) hy)) (fun y1 => ?_)
  refine g_if_eq (tgt := 33) d_X7_fits_8 (by decide) (fun c2 => ?_) (fun c2 => ?_)
  · refine g_ldc d_X7_fits_33 kc_X7_71 ?_
    exact g_iret d_X7_fits_35 (Or.inl rfl) rfl
  · refine g_iload_n (n := 2) d_X7_fits_11 rfl rfl ?_
    refine g_iload (n := 4) d_X7_fits_12 rfl ?_
    refine g_iload (n := 5) d_X7_fits_14 rfl ?_
    refine g_calls_pi (D := D + 4) (As := [.int x2, .int x4, .int x5]) d_X7_fits_16 ss_X7_230 rfl (Nat.le_of_ble_eq_true rfl) rfl (fun _ hy => EvM_cast (by omega) (e_X7_isTold (D := D + 3) hy)) (fun y3 => ?_)
    refine g_if_eq (tgt := 33) d_X7_fits_19 (by decide) (fun c4 => ?_) (fun c4 => ?_)
    · refine g_ldc d_X7_fits_33 kc_X7_71 ?_
      exact g_iret d_X7_fits_35 (Or.inl rfl) rfl
    · refine g_iload (n := 6) d_X7_fits_22 rfl ?_
      refine g_if_lt (tgt := 33) d_X7_fits_24 (by decide) (fun c5 => ?_) (fun c5 => ?_)
      · refine g_ldc d_X7_fits_33 kc_X7_71 ?_
        exact g_iret d_X7_fits_35 (Or.inl rfl) rfl
      · refine g_iload (n := 6) d_X7_fits_27 rfl ?_
        refine g_iconst (v := 2) d_X7_fits_29 (by decide) ?_
        refine g_icmp_le (tgt := 36) d_X7_fits_30 (by decide) (fun c6 => ?_) (fun c6 => ?_)
        · refine g_aload_n (n := 0) d_X7_fits_36 rfl rfl ?_
          refine g_getr d_X7_fits_37 fl_X7_10 sh_0 rfl ?_
          refine g_iload_n (n := 2) d_X7_fits_40 rfl rfl ?_
          refine g_iload_n (n := 3) d_X7_fits_41 rfl rfl ?_
          refine g_iload (n := 4) d_X7_fits_42 rfl ?_
          refine g_callv_pi (D := D + 4) (As := [.int x2, .int x3, .int x4]) d_X7_fits_44 sv_X7_83 ob_1 rfl (Nat.le_of_ble_eq_true rfl) rfl (fun _ hy => EvM_cast (by omega) (e_X2_findingOf (D := D + 3) hy)) (fun y7 => ?_)
          refine g_istore d_X7_fits_47 (by decide) rfl ?_
          refine g_iload (n := 0) d_X7_fits_49 rfl ?_
          refine g_if_eq (tgt := 61) d_X7_fits_51 (by decide) (fun c8 => ?_) (fun c8 => ?_)
          · refine g_iload (n := 7) d_X7_fits_61 rfl ?_
            refine g_if_ne (tgt := 70) d_X7_fits_63 (by decide) (fun c9 => ?_) (fun c9 => ?_)
            · refine g_iconst (v := 0) d_X7_fits_70 (by decide) ?_
              refine g_sub [1, 2, 3, 4, 5, 6, 7] rfl ?_
              exact t_X7_fits_b71 
            · refine g_iconst (v := 1) d_X7_fits_66 (by decide) ?_
              refine g_goto (tgt := 71) d_X7_fits_67 (by decide) ?_
              refine g_sub [1, 2, 3, 4, 5, 6, 7] rfl ?_
              exact t_X7_fits_b71 
          · refine g_aload_n (n := 1) d_X7_fits_54 rfl rfl ?_
            refine g_iload (n := 0) d_X7_fits_55 rfl ?_
            refine g_callv_ii (D := D + 4) (As := [.int y7]) d_X7_fits_57 sv_X7_72 ob_0 rfl (Nat.le_of_ble_eq_true rfl) rfl (fun _ hy => EvM_cast (by omega) (e_X7_found (D := D + 4) hy)) (fun y10 σ11 => ?_)
            exact g_iret d_X7_fits_60 (Or.inl rfl) rfl
        · refine g_ldc d_X7_fits_33 kc_X7_71 ?_
          exact g_iret d_X7_fits_35 (Or.inl rfl) rfl
theorem e_X7_fits {l : Launch} {D : Nat} {n : Nat} {x1 : Int32} {x2 : Int32} {x3 : Int32} {x4 : Int32} {x5 : Int32} {x6 : Int32} {σ : Mem} {y : (Int32 × Mem)} (hy : f_X7_fits n x1 x2 x3 x4 x5 x6 σ = some y) : EvM l (D + 5) m_X7_fits [.ref 0, .int x1, .int x2, .int x3, .int x4, .int x5, .int x6] σ ((fun y => (some (.int y.1), y.2)) y) :=
  evM_of (d := m_X7_fits) (nL := 12) rfl (by decide +kernel) (fun h => absurd (congrArg MethodName.cls h) (by decide +kernel)) (Nat.le_of_ble_eq_true rfl) (t_X7_fits y hy)
