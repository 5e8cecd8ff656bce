set_option maxHeartbeats 4000000 in
set_option maxRecDepth 100000 in
theorem t_X8_kind {l : Launch} {sc : Nat × (Nat → Int32)} {D : Nat} {σ : Mem} {x1 : Int32} : G l sc (D + 2) m_X8_kind 0 [(0, .ref 77), (1, .int x1)] [] σ (f_X8_kind σ x1) (fun y => (some (.int y), σ)) := by
  unfold f_X8_kind
  refine g_aload_n (n := 0) d_X8_kind_0 rfl rfl ?_
  refine g_iload_n (n := 1) d_X8_kind_1 rfl rfl ?_
  refine g_callv_pi (D := D + 1) (As := [.int x1]) d_X8_kind_2 sv_X8_150 ob_77 rfl (Nat.le_of_ble_eq_true rfl) rfl (fun _ hy => EvM_cast (by omega) (e_X8_isOne (D := D + 0) hy)) (fun y1 => ?_)
  refine g_if_eq (tgt := 20) d_X8_kind_5 (by decide) (fun c2 => ?_) (fun c2 => ?_)
  · refine g_ldc d_X8_kind_20 kc_X8_72 ?_
    exact g_iret d_X8_kind_22 (Or.inl rfl) rfl
  · refine g_aload_n (n := 0) d_X8_kind_8 rfl rfl ?_
    refine g_getr d_X8_kind_9 fl_X8_22 sh_77 rfl ?_
    refine g_bipush (v := 9) d_X8_kind_12 (by decide) ?_
    refine g_iload_n (n := 1) d_X8_kind_14 rfl rfl ?_
    refine g_iadd d_X8_kind_15 ?_
    refine g_iaload d_X8_kind_16 sh_82 (fun _ => ?_)
    refine g_goto (tgt := 22) d_X8_kind_17 (by decide) ?_
    exact g_iret d_X8_kind_22 (Or.inl rfl) rfl
theorem e_X8_kind {l : Launch} {D : Nat} {σ : Mem} {x1 : Int32} {y : Int32} (hy : f_X8_kind σ x1 = some y) : EvM l (D + 2) m_X8_kind [.ref 77, .int x1] σ ((fun y => (some (.int y), σ)) y) :=
  evM_of (d := m_X8_kind) (nL := 2) rfl (by decide +kernel) (fun h => absurd (congrArg MethodName.cls h) (by decide +kernel)) (Nat.le_of_ble_eq_true rfl) (t_X8_kind y hy)

set_option maxHeartbeats 4000000 in
set_option maxRecDepth 100000 in
theorem t_X8_parentOf_b10 {l : Launch} {sc : Nat × (Nat → Int32)} {D : Nat} {σ : Mem} : G l sc (D + 0) m_X8_parentOf 10 [] [] σ (f_X8_parentOf_b10 σ ) (fun y => (some (.int y), σ)) := by
  unfold f_X8_parentOf_b10
  refine g_iconst (v := 0) d_X8_parentOf_10 (by decide) ?_
  refine g_goto (tgt := 24) d_X8_parentOf_11 (by decide) ?_
  exact g_iret d_X8_parentOf_24 (Or.inl rfl) rfl
set_option maxHeartbeats 4000000 in
set_option maxRecDepth 100000 in
theorem t_X8_parentOf {l : Launch} {sc : Nat × (Nat → Int32)} {D : Nat} {σ : Mem} {x0 : Int32} : G l sc (D + 0) m_X8_parentOf 0 [(0, .int x0)] [] σ (f_X8_parentOf σ x0) (fun y => (some (.int y), σ)) := by
  unfold f_X8_parentOf
  refine g_iload_n (n := 0) d_X8_parentOf_0 rfl rfl ?_
  refine g_iconst (v := 1) d_X8_parentOf_1 (by decide) ?_
  refine g_icmp_eq (tgt := 10) d_X8_parentOf_2 (by decide) (fun c1 => ?_) (fun c1 => ?_)
  · refine g_sub [] rfl ?_
    exact t_X8_parentOf_b10 
  · refine g_iload_n (n := 0) d_X8_parentOf_5 rfl rfl ?_
    refine g_iconst (v := 4) d_X8_parentOf_6 (by decide) ?_
    refine g_icmp_ne (tgt := 14) d_X8_parentOf_7 (by decide) (fun c2 => ?_) (fun c2 => ?_)
    · refine g_iload_n (n := 0) d_X8_parentOf_14 rfl rfl ?_
      refine g_iconst (v := 5) d_X8_parentOf_15 (by decide) ?_
      refine g_icmp_ne (tgt := 23) d_X8_parentOf_16 (by decide) (fun c3 => ?_) (fun c3 => ?_)
      · refine g_iconst (v := 1) d_X8_parentOf_23 (by decide) ?_
        exact g_iret d_X8_parentOf_24 (Or.inl rfl) rfl
      · refine g_iconst (v := 4) d_X8_parentOf_19 (by decide) ?_
        refine g_goto (tgt := 24) d_X8_parentOf_20 (by decide) ?_
        exact g_iret d_X8_parentOf_24 (Or.inl rfl) rfl
    · refine g_sub [] rfl ?_
      exact t_X8_parentOf_b10 
theorem e_X8_parentOf {l : Launch} {D : Nat} {σ : Mem} {x0 : Int32} {y : Int32} (hy : f_X8_parentOf σ x0 = some y) : EvM l (D + 0) m_X8_parentOf [.int x0] σ ((fun y => (some (.int y), σ)) y) :=
  evM_of (d := m_X8_parentOf) (nL := 1) rfl (by decide +kernel) (fun h => absurd (congrArg MethodName.cls h) (by decide +kernel)) (Nat.le_of_ble_eq_true rfl) (t_X8_parentOf y hy)

set_option maxHeartbeats 4000000 in
set_option maxRecDepth 100000 in
theorem t_X8_as_b52 {l : Launch} {sc : Nat × (Nat → Int32)} {D : Nat} {x1 : Int32} {s0 : Int32} {σ : Mem} : G l sc (D + 2) m_X8_as 52 [(0, .ref 77), (1, .int x1)] [.int s0] σ (f_X8_as_b52 x1 s0 σ) (fun y => (some (.int y.1), y.2)) := by
  unfold f_X8_as_b52
  refine g_istore d_X8_as_52 (by decide) rfl ?_
  refine g_iload (n := 0) d_X8_as_54 rfl ?_
  refine g_if_eq (tgt := 67) d_X8_as_56 (by decide) (fun c1 => ?_) (fun c1 => ?_)
  · refine g_aload_n (n := 1) d_X8_as_67 rfl rfl ?_
    refine g_iconst (v := 3) d_X8_as_68 (by decide) ?_
    refine g_callv_ii (D := D + 1) (As := [.int 3]) d_X8_as_69 sv_X8_73 ob_77 rfl (Nat.le_of_ble_eq_true rfl) rfl (fun _ hy => EvM_cast (by omega) (e_X8_finds (D := D + 1) hy)) (fun y2 σ3 => ?_)
    exact g_iret d_X8_as_72 (Or.inl rfl) rfl
  · refine g_aload_n (n := 1) d_X8_as_59 rfl rfl ?_
    refine g_iload_n (n := 2) d_X8_as_60 rfl rfl ?_
    refine g_callv_ii (D := D + 1) (As := [.int x1]) d_X8_as_61 sv_X8_77 ob_77 rfl (Nat.le_of_ble_eq_true rfl) rfl (fun _ hy => EvM_cast (by omega) (e_X8_done (D := D + 1) hy)) (fun y4 σ5 => ?_)
    refine g_goto (tgt := 72) d_X8_as_64 (by decide) ?_
    exact g_iret d_X8_as_72 (Or.inl rfl) rfl
set_option maxHeartbeats 4000000 in
set_option maxRecDepth 100000 in
theorem t_X8_as_b47 {l : Launch} {sc : Nat × (Nat → Int32)} {D : Nat} {x1 : Int32} {σ : Mem} : G l sc (D + 2) m_X8_as 47 [(0, .ref 77), (1, .int x1)] [] σ (f_X8_as_b47 x1 σ) (fun y => (some (.int y.1), y.2)) := by
  unfold f_X8_as_b47
  refine g_iconst (v := 1) d_X8_as_47 (by decide) ?_
  refine g_goto (tgt := 52) d_X8_as_48 (by decide) ?_
  refine g_sub [0, 1] rfl ?_
  exact t_X8_as_b52 
set_option maxHeartbeats 4000000 in
set_option maxRecDepth 100000 in
theorem t_X8_as {l : Launch} {sc : Nat × (Nat → Int32)} {D : Nat} {x1 : Int32} {x2 : Int32} {σ : Mem} : G l sc (D + 2) m_X8_as 0 [(0, .ref 77), (1, .int x1), (2, .int x2)] [] σ (f_X8_as x1 x2 σ) (fun y => (some (.int y.1), y.2)) := by
  unfold f_X8_as
  refine g_aload_n (n := 0) d_X8_as_0 rfl rfl ?_
  refine g_iload_n (n := 1) d_X8_as_1 rfl rfl ?_
  refine g_callv_pi (D := D + 1) (As := [.int x1]) d_X8_as_2 sv_X8_150 ob_77 rfl (Nat.le_of_ble_eq_true rfl) rfl (fun _ hy => EvM_cast (by omega) (e_X8_isOne (D := D + 0) hy)) (fun y1 => ?_)
  refine g_if_eq (tgt := 17) d_X8_as_5 (by decide) (fun c2 => ?_) (fun c2 => ?_)
  · refine g_ldc d_X8_as_17 kc_X8_72 ?_
    exact g_iret d_X8_as_19 (Or.inl rfl) rfl
  · refine g_iload_n (n := 2) d_X8_as_8 rfl rfl ?_
    refine g_iconst (v := 0) d_X8_as_9 (by decide) ?_
    refine g_iconst (v := 5) d_X8_as_10 (by decide) ?_
    refine g_calls_pi (D := D + 1) (As := [.int x2, .int 0, .int 5]) d_X8_as_11 ss_X8_59 rfl (Nat.le_of_ble_eq_true rfl) rfl (fun _ hy => EvM_cast (by omega) (e_X8_in (D := D + 1) hy)) (fun y3 => ?_)
    refine g_if_ne (tgt := 20) d_X8_as_14 (by decide) (fun c4 => ?_) (fun c4 => ?_)
    · refine g_aload_n (n := 0) d_X8_as_20 rfl rfl ?_
      refine g_getr d_X8_as_21 fl_X8_22 sh_77 rfl ?_
      refine g_bipush (v := 9) d_X8_as_24 (by decide) ?_
      refine g_iload_n (n := 1) d_X8_as_26 rfl rfl ?_
      refine g_iadd d_X8_as_27 ?_
      refine g_iaload d_X8_as_28 sh_82 (fun _ => ?_)
      refine g_nm (fun y5 => ?_)
      refine g_istore_n d_X8_as_29 rfl (by decide) rfl ?_
      refine g_iload_n (n := 3) d_X8_as_30 rfl rfl ?_
      refine g_if_eq (tgt := 47) d_X8_as_31 (by decide) (fun c6 => ?_) (fun c6 => ?_)
      · refine g_sub [1, 2] rfl ?_
        exact t_X8_as_b47 
      · refine g_iload_n (n := 0) d_X8_as_34 rfl rfl ?_
        refine g_iload_n (n := 3) d_X8_as_35 rfl rfl ?_
        refine g_icmp_eq (tgt := 47) d_X8_as_36 (by decide) (fun c7 => ?_) (fun c7 => ?_)
        · refine g_sub [1, 2] rfl ?_
          exact t_X8_as_b47 
        · refine g_iload_n (n := 0) d_X8_as_39 rfl rfl ?_
          refine g_calls_pi (D := D + 1) (As := [.int y5]) d_X8_as_40 ss_X8_212 rfl (Nat.le_of_ble_eq_true rfl) rfl (fun _ hy => EvM_cast (by omega) (e_X8_parentOf (D := D + 1) hy)) (fun y8 => ?_)
          refine g_iload_n (n := 3) d_X8_as_43 rfl rfl ?_
          refine g_icmp_ne (tgt := 51) d_X8_as_44 (by decide) (fun c9 => ?_) (fun c9 => ?_)
          · refine g_iconst (v := 0) d_X8_as_51 (by decide) ?_
            refine g_sub [1, 2] rfl ?_
            exact t_X8_as_b52 
          · refine g_sub [1, 2] rfl ?_
            exact t_X8_as_b47 
    · refine g_ldc d_X8_as_17 kc_X8_72 ?_
      exact g_iret d_X8_as_19 (Or.inl rfl) rfl
theorem e_X8_as {l : Launch} {D : Nat} {x1 : Int32} {x2 : Int32} {σ : Mem} {y : (Int32 × Mem)} (hy : f_X8_as x1 x2 σ = some y) : EvM l (D + 2) m_X8_as [.ref 77, .int x1, .int x2] σ ((fun y => (some (.int y.1), y.2)) y) :=
  evM_of (d := m_X8_as) (nL := 5) rfl (by decide +kernel) (fun h => absurd (congrArg MethodName.cls h) (by decide +kernel)) (Nat.le_of_ble_eq_true rfl) (t_X8_as y hy)

set_option maxHeartbeats 4000000 in
set_option maxRecDepth 100000 in
theorem t_X8_begins {l : Launch} {sc : Nat × (Nat → Int32)} {D : Nat} {x1 : Int32} {σ : Mem} : G l sc (D + 0) m_X8_begins 0 [(0, .ref 77), (1, .int x1)] [] σ (f_X8_begins x1 σ) (fun τ => (none, τ)) := by
  unfold f_X8_begins
  refine g_aload_n (n := 0) d_X8_begins_0 rfl rfl ?_
  refine g_geti d_X8_begins_1 fl_X8_215 sh_77 rfl ?_
  refine g_bipush (v := 16) d_X8_begins_4 (by decide) ?_
  refine g_icmp_ge (tgt := 29) d_X8_begins_6 (by decide) (fun c1 => ?_) (fun c1 => ?_)
  · exact g_vret d_X8_begins_29 rfl rfl
  · refine g_aload_n (n := 0) d_X8_begins_9 rfl rfl ?_
    refine g_getr d_X8_begins_10 fl_X8_41 sh_77 rfl ?_
    refine g_aload_n (n := 0) d_X8_begins_13 rfl rfl ?_
    refine g_geti d_X8_begins_14 fl_X8_215 sh_77 rfl ?_
    refine g_iload_n (n := 1) d_X8_begins_17 rfl rfl ?_
    refine g_iastore d_X8_begins_18 sh_88 (fun _ => ?_)
    refine g_mem (fun σ2 => ?_)
    refine g_aload_n (n := 0) d_X8_begins_19 rfl rfl ?_
    refine g_dup d_X8_begins_20 rfl ?_
    refine g_geti d_X8_begins_21 fl_X8_215 sh_77 rfl ?_
    refine g_iconst (v := 1) d_X8_begins_24 (by decide) ?_
    refine g_iadd d_X8_begins_25 ?_
    refine g_puti d_X8_begins_26 fl_X8_215 sh_77 rfl ?_
    refine g_mem (fun σ3 => ?_)
    exact g_vret d_X8_begins_29 rfl rfl
theorem e_X8_begins {l : Launch} {D : Nat} {x1 : Int32} {σ : Mem} {y : Mem} (hy : f_X8_begins x1 σ = some y) : EvM l (D + 0) m_X8_begins [.ref 77, .int x1] σ ((fun τ => (none, τ)) y) :=
  evM_of (d := m_X8_begins) (nL := 2) rfl (by decide +kernel) (fun h => absurd (congrArg MethodName.cls h) (by decide +kernel)) (Nat.le_of_ble_eq_true rfl) (t_X8_begins y hy)

set_option maxHeartbeats 4000000 in
set_option maxRecDepth 100000 in
theorem t_X8_markFresh {l : Launch} {sc : Nat × (Nat → Int32)} {D : Nat} {x1 : Int32} {σ : Mem} : G l sc (D + 1) m_X8_markFresh 0 [(0, .ref 77), (1, .int x1)] [] σ (f_X8_markFresh x1 σ) (fun y => (some (.int y.1), y.2)) := by
  unfold f_X8_markFresh
  refine g_aload_n (n := 0) d_X8_markFresh_0 rfl rfl ?_
  refine g_bipush (v := 21) d_X8_markFresh_1 (by decide) ?_
  refine g_callv_vv (D := D + 0) (As := [.int 21]) d_X8_markFresh_3 sv_X8_218 ob_77 rfl (Nat.le_of_ble_eq_true rfl) rfl (fun _ hy => EvM_cast (by omega) (e_X8_begins (D := D + 0) hy)) (fun σ2 => ?_)
  refine g_aload_n (n := 0) d_X8_markFresh_6 rfl rfl ?_
  refine g_bipush (v := 20) d_X8_markFresh_7 (by decide) ?_
  refine g_callv_vv (D := D + 0) (As := [.int 20]) d_X8_markFresh_9 sv_X8_218 ob_77 rfl (Nat.le_of_ble_eq_true rfl) rfl (fun _ hy => EvM_cast (by omega) (e_X8_begins (D := D + 0) hy)) (fun σ4 => ?_)
  refine g_iload_n (n := 1) d_X8_markFresh_12 rfl rfl ?_
  refine g_aload_n (n := 0) d_X8_markFresh_13 rfl rfl ?_
  refine g_getr d_X8_markFresh_14 fl_X8_22 sh_77 rfl ?_
  refine g_bipush (v := 15) d_X8_markFresh_17 (by decide) ?_
  refine g_iload_n (n := 1) d_X8_markFresh_19 rfl rfl ?_
  refine g_iadd d_X8_markFresh_20 ?_
  refine g_iaload d_X8_markFresh_21 sh_82 (fun _ => ?_)
  refine g_iadd d_X8_markFresh_22 ?_
  exact g_iret d_X8_markFresh_23 (Or.inl rfl) rfl
theorem e_X8_markFresh {l : Launch} {D : Nat} {x1 : Int32} {σ : Mem} {y : (Int32 × Mem)} (hy : f_X8_markFresh x1 σ = some y) : EvM l (D + 1) m_X8_markFresh [.ref 77, .int x1] σ ((fun y => (some (.int y.1), y.2)) y) :=
  evM_of (d := m_X8_markFresh) (nL := 2) rfl (by decide +kernel) (fun h => absurd (congrArg MethodName.cls h) (by decide +kernel)) (Nat.le_of_ble_eq_true rfl) (t_X8_markFresh y hy)

set_option maxHeartbeats 4000000 in
set_option maxRecDepth 100000 in
theorem t_X8_markNew {l : Launch} {sc : Nat × (Nat → Int32)} {D : Nat} {x1 : Int32} {σ : Mem} : G l sc (D + 2) m_X8_markNew 0 [(0, .ref 77), (1, .int x1)] [] σ (f_X8_markNew x1 σ) (fun y => (some (.int y.1), y.2)) := by
  unfold f_X8_markNew
  refine g_aload_n (n := 0) d_X8_markNew_0 rfl rfl ?_
  refine g_getr d_X8_markNew_1 fl_X8_22 sh_77 rfl ?_
  refine g_bipush (v := 9) d_X8_markNew_4 (by decide) ?_
  refine g_iload_n (n := 1) d_X8_markNew_6 rfl rfl ?_
  refine g_iadd d_X8_markNew_7 ?_
  refine g_iaload d_X8_markNew_8 sh_82 (fun _ => ?_)
  refine g_nm (fun y1 => ?_)
  refine g_istore_n d_X8_markNew_9 rfl (by decide) rfl ?_
  refine g_iload_n (n := 0) d_X8_markNew_10 rfl rfl ?_
  refine g_iconst (v := 2) d_X8_markNew_11 (by decide) ?_
  refine g_icmp_ne (tgt := 29) d_X8_markNew_12 (by decide) (fun c2 => ?_) (fun c2 => ?_)
  · refine g_iload_n (n := 0) d_X8_markNew_29 rfl rfl ?_
    refine g_iconst (v := 3) d_X8_markNew_30 (by decide) ?_
    refine g_icmp_ne (tgt := 50) d_X8_markNew_31 (by decide) (fun c3 => ?_) (fun c3 => ?_)
    · refine g_aload_n (n := 1) d_X8_markNew_50 rfl rfl ?_
      refine g_iload_n (n := 2) d_X8_markNew_51 rfl rfl ?_
      refine g_callv_ii (D := D + 1) (As := [.int x1]) d_X8_markNew_52 sv_X8_222 ob_77 rfl (Nat.le_of_ble_eq_true rfl) rfl (fun _ hy => EvM_cast (by omega) (e_X8_markFresh (D := D + 0) hy)) (fun y4 σ5 => ?_)
      exact g_iret d_X8_markNew_55 (Or.inl rfl) rfl
    · refine g_aload_n (n := 1) d_X8_markNew_34 rfl rfl ?_
      refine g_bipush (v := 22) d_X8_markNew_35 (by decide) ?_
      refine g_callv_vv (D := D + 1) (As := [.int 22]) d_X8_markNew_37 sv_X8_218 ob_77 rfl (Nat.le_of_ble_eq_true rfl) rfl (fun _ hy => EvM_cast (by omega) (e_X8_begins (D := D + 1) hy)) (fun σ7 => ?_)
      refine g_aload_n (n := 1) d_X8_markNew_40 rfl rfl ?_
      refine g_iload_n (n := 2) d_X8_markNew_41 rfl rfl ?_
      refine g_callv_ii (D := D + 1) (As := [.int x1]) d_X8_markNew_42 sv_X8_222 ob_77 rfl (Nat.le_of_ble_eq_true rfl) rfl (fun _ hy => EvM_cast (by omega) (e_X8_markFresh (D := D + 0) hy)) (fun y8 σ9 => ?_)
      refine g_sipush (v := 1000) d_X8_markNew_45 (by decide) ?_
      refine g_isub d_X8_markNew_48 ?_
      exact g_iret d_X8_markNew_49 (Or.inl rfl) rfl
  · refine g_aload_n (n := 1) d_X8_markNew_15 rfl rfl ?_
    refine g_bipush (v := 24) d_X8_markNew_16 (by decide) ?_
    refine g_callv_vv (D := D + 1) (As := [.int 24]) d_X8_markNew_18 sv_X8_218 ob_77 rfl (Nat.le_of_ble_eq_true rfl) rfl (fun _ hy => EvM_cast (by omega) (e_X8_begins (D := D + 1) hy)) (fun σ11 => ?_)
    refine g_iconst (v := 2) d_X8_markNew_21 (by decide) ?_
    refine g_aload_n (n := 1) d_X8_markNew_22 rfl rfl ?_
    refine g_iload_n (n := 2) d_X8_markNew_23 rfl rfl ?_
    refine g_callv_ii (D := D + 1) (As := [.int x1]) d_X8_markNew_24 sv_X8_222 ob_77 rfl (Nat.le_of_ble_eq_true rfl) rfl (fun _ hy => EvM_cast (by omega) (e_X8_markFresh (D := D + 0) hy)) (fun y12 σ13 => ?_)
    refine g_imul d_X8_markNew_27 ?_
    exact g_iret d_X8_markNew_28 (Or.inl rfl) rfl
theorem e_X8_markNew {l : Launch} {D : Nat} {x1 : Int32} {σ : Mem} {y : (Int32 × Mem)} (hy : f_X8_markNew x1 σ = some y) : EvM l (D + 2) m_X8_markNew [.ref 77, .int x1] σ ((fun y => (some (.int y.1), y.2)) y) :=
  evM_of (d := m_X8_markNew) (nL := 3) rfl (by decide +kernel) (fun h => absurd (congrArg MethodName.cls h) (by decide +kernel)) (Nat.le_of_ble_eq_true rfl) (t_X8_markNew y hy)

set_option maxHeartbeats 4000000 in
set_option maxRecDepth 100000 in
theorem t_X8_sizeOld {l : Launch} {sc : Nat × (Nat → Int32)} {D : Nat} {x1 : Int32} {σ : Mem} : G l sc (D + 1) m_X8_sizeOld 0 [(0, .ref 77), (1, .int x1)] [] σ (f_X8_sizeOld x1 σ) (fun y => (some (.int y.1), y.2)) := by
  unfold f_X8_sizeOld
  refine g_aload_n (n := 0) d_X8_sizeOld_0 rfl rfl ?_
  refine g_bipush (v := 13) d_X8_sizeOld_1 (by decide) ?_
  refine g_callv_vv (D := D + 0) (As := [.int 13]) d_X8_sizeOld_3 sv_X8_218 ob_77 rfl (Nat.le_of_ble_eq_true rfl) rfl (fun _ hy => EvM_cast (by omega) (e_X8_begins (D := D + 0) hy)) (fun σ2 => ?_)
  refine g_aload_n (n := 0) d_X8_sizeOld_6 rfl rfl ?_
  refine g_bipush (v := 10) d_X8_sizeOld_7 (by decide) ?_
  refine g_callv_vv (D := D + 0) (As := [.int 10]) d_X8_sizeOld_9 sv_X8_218 ob_77 rfl (Nat.le_of_ble_eq_true rfl) rfl (fun _ hy => EvM_cast (by omega) (e_X8_begins (D := D + 0) hy)) (fun σ4 => ?_)
  refine g_aload_n (n := 0) d_X8_sizeOld_12 rfl rfl ?_
  refine g_getr d_X8_sizeOld_13 fl_X8_22 sh_77 rfl ?_
  refine g_bipush (v := 21) d_X8_sizeOld_16 (by decide) ?_
  refine g_iload_n (n := 1) d_X8_sizeOld_18 rfl rfl ?_
  refine g_iadd d_X8_sizeOld_19 ?_
  refine g_iaload d_X8_sizeOld_20 sh_82 (fun _ => ?_)
  refine g_bipush (v := 100) d_X8_sizeOld_21 (by decide) ?_
  refine g_isub d_X8_sizeOld_23 ?_
  exact g_iret d_X8_sizeOld_24 (Or.inl rfl) rfl
theorem e_X8_sizeOld {l : Launch} {D : Nat} {x1 : Int32} {σ : Mem} {y : (Int32 × Mem)} (hy : f_X8_sizeOld x1 σ = some y) : EvM l (D + 1) m_X8_sizeOld [.ref 77, .int x1] σ ((fun y => (some (.int y.1), y.2)) y) :=
  evM_of (d := m_X8_sizeOld) (nL := 2) rfl (by decide +kernel) (fun h => absurd (congrArg MethodName.cls h) (by decide +kernel)) (Nat.le_of_ble_eq_true rfl) (t_X8_sizeOld y hy)

set_option maxHeartbeats 4000000 in
set_option maxRecDepth 100000 in
theorem t_X8_sizeOf_b51 {l : Launch} {sc : Nat × (Nat → Int32)} {D : Nat} {x1 : Int32} {x2 : Int32} {σ : Mem} : G l sc (D + 3) m_X8_sizeOf 51 [(0, .ref 77), (1, .int x1), (2, .int x2)] [] σ (f_X8_sizeOf_b51 x1 x2 σ) (fun y => (some (.int y.1), y.2)) := by
  unfold f_X8_sizeOf_b51
  refine g_aload_n (n := 0) d_X8_sizeOf_51 rfl rfl ?_
  refine g_bipush (v := 11) d_X8_sizeOf_52 (by decide) ?_
  refine g_callv_vv (D := D + 2) (As := [.int 11]) d_X8_sizeOf_54 sv_X8_218 ob_77 rfl (Nat.le_of_ble_eq_true rfl) rfl (fun _ hy => EvM_cast (by omega) (e_X8_begins (D := D + 2) hy)) (fun σ2 => ?_)
  refine g_aload_n (n := 0) d_X8_sizeOf_57 rfl rfl ?_
  refine g_bipush (v := 10) d_X8_sizeOf_58 (by decide) ?_
  refine g_callv_vv (D := D + 2) (As := [.int 10]) d_X8_sizeOf_60 sv_X8_218 ob_77 rfl (Nat.le_of_ble_eq_true rfl) rfl (fun _ hy => EvM_cast (by omega) (e_X8_begins (D := D + 2) hy)) (fun σ4 => ?_)
  refine g_aload_n (n := 0) d_X8_sizeOf_63 rfl rfl ?_
  refine g_getr d_X8_sizeOf_64 fl_X8_22 sh_77 rfl ?_
  refine g_bipush (v := 21) d_X8_sizeOf_67 (by decide) ?_
  refine g_iload_n (n := 1) d_X8_sizeOf_69 rfl rfl ?_
  refine g_iadd d_X8_sizeOf_70 ?_
  refine g_iaload d_X8_sizeOf_71 sh_82 (fun _ => ?_)
  refine g_aload_n (n := 0) d_X8_sizeOf_72 rfl rfl ?_
  refine g_iload_n (n := 1) d_X8_sizeOf_73 rfl rfl ?_
  refine g_callv_ii (D := D + 2) (As := [.int x1]) d_X8_sizeOf_74 sv_X8_228 ob_77 rfl (Nat.le_of_ble_eq_true rfl) rfl (fun _ hy => EvM_cast (by omega) (e_X8_markNew (D := D + 0) hy)) (fun y5 σ6 => ?_)
  refine g_iadd d_X8_sizeOf_77 ?_
  refine g_nm (fun y7 => ?_)
  refine g_istore_n d_X8_sizeOf_78 rfl (by decide) rfl ?_
  refine g_iload_n (n := 3) d_X8_sizeOf_79 rfl rfl ?_
  refine g_iconst (v := 2) d_X8_sizeOf_80 (by decide) ?_
  refine g_icmp_ne (tgt := 89) d_X8_sizeOf_81 (by decide) (fun c8 => ?_) (fun c8 => ?_)
  · refine g_iload_n (n := 0) d_X8_sizeOf_89 rfl rfl ?_
    exact g_iret d_X8_sizeOf_90 (Or.inl rfl) rfl
  · refine g_iload_n (n := 0) d_X8_sizeOf_84 rfl rfl ?_
    refine g_ineg d_X8_sizeOf_85 ?_
    refine g_goto (tgt := 90) d_X8_sizeOf_86 (by decide) ?_
    exact g_iret d_X8_sizeOf_90 (Or.inl rfl) rfl
set_option maxHeartbeats 4000000 in
set_option maxRecDepth 100000 in
theorem t_X8_sizeOf {l : Launch} {sc : Nat × (Nat → Int32)} {D : Nat} {x1 : Int32} {σ : Mem} : G l sc (D + 3) m_X8_sizeOf 0 [(0, .ref 77), (1, .int x1)] [] σ (f_X8_sizeOf x1 σ) (fun y => (some (.int y.1), y.2)) := by
  unfold f_X8_sizeOf
  refine g_aload_n (n := 0) d_X8_sizeOf_0 rfl rfl ?_
  refine g_getr d_X8_sizeOf_1 fl_X8_22 sh_77 rfl ?_
  refine g_bipush (v := 9) d_X8_sizeOf_4 (by decide) ?_
  refine g_iload_n (n := 1) d_X8_sizeOf_6 rfl rfl ?_
  refine g_iadd d_X8_sizeOf_7 ?_
  refine g_iaload d_X8_sizeOf_8 sh_82 (fun _ => ?_)
  refine g_nm (fun y1 => ?_)
  refine g_istore_n d_X8_sizeOf_9 rfl (by decide) rfl ?_
  refine g_iload_n (n := 0) d_X8_sizeOf_10 rfl rfl ?_
  refine g_iconst (v := 5) d_X8_sizeOf_11 (by decide) ?_
  refine g_icmp_ne (tgt := 29) d_X8_sizeOf_12 (by decide) (fun c2 => ?_) (fun c2 => ?_)
  · refine g_iload_n (n := 0) d_X8_sizeOf_29 rfl rfl ?_
    refine g_iconst (v := 4) d_X8_sizeOf_30 (by decide) ?_
    refine g_icmp_ne (tgt := 40) d_X8_sizeOf_31 (by decide) (fun c3 => ?_) (fun c3 => ?_)
    · refine g_iload_n (n := 0) d_X8_sizeOf_40 rfl rfl ?_
      refine g_iconst (v := 2) d_X8_sizeOf_41 (by decide) ?_
      refine g_icmp_ne (tgt := 51) d_X8_sizeOf_42 (by decide) (fun c4 => ?_) (fun c4 => ?_)
      · refine g_sub [1, 2, 0] rfl ?_
        exact t_X8_sizeOf_b51 
      · refine g_aload_n (n := 1) d_X8_sizeOf_45 rfl rfl ?_
        refine g_bipush (v := 12) d_X8_sizeOf_46 (by decide) ?_
        refine g_callv_vv (D := D + 2) (As := [.int 12]) d_X8_sizeOf_48 sv_X8_218 ob_77 rfl (Nat.le_of_ble_eq_true rfl) rfl (fun _ hy => EvM_cast (by omega) (e_X8_begins (D := D + 2) hy)) (fun σ6 => ?_)
        refine g_sub [1, 2, 0] rfl ?_
        exact t_X8_sizeOf_b51 
    · refine g_aload_n (n := 1) d_X8_sizeOf_34 rfl rfl ?_
      refine g_iload_n (n := 2) d_X8_sizeOf_35 rfl rfl ?_
      refine g_callv_ii (D := D + 2) (As := [.int x1]) d_X8_sizeOf_36 sv_X8_225 ob_77 rfl (Nat.le_of_ble_eq_true rfl) rfl (fun _ hy => EvM_cast (by omega) (e_X8_sizeOld (D := D + 1) hy)) (fun y7 σ8 => ?_)
      exact g_iret d_X8_sizeOf_39 (Or.inl rfl) rfl
  · refine g_aload_n (n := 1) d_X8_sizeOf_15 rfl rfl ?_
    refine g_bipush (v := 14) d_X8_sizeOf_16 (by decide) ?_
    refine g_callv_vv (D := D + 2) (As := [.int 14]) d_X8_sizeOf_18 sv_X8_218 ob_77 rfl (Nat.le_of_ble_eq_true rfl) rfl (fun _ hy => EvM_cast (by omega) (e_X8_begins (D := D + 2) hy)) (fun σ10 => ?_)
    refine g_iconst (v := 2) d_X8_sizeOf_21 (by decide) ?_
    refine g_aload_n (n := 1) d_X8_sizeOf_22 rfl rfl ?_
    refine g_iload_n (n := 2) d_X8_sizeOf_23 rfl rfl ?_
    refine g_callv_ii (D := D + 2) (As := [.int x1]) d_X8_sizeOf_24 sv_X8_225 ob_77 rfl (Nat.le_of_ble_eq_true rfl) rfl (fun _ hy => EvM_cast (by omega) (e_X8_sizeOld (D := D + 1) hy)) (fun y11 σ12 => ?_)
    refine g_imul d_X8_sizeOf_27 ?_
    exact g_iret d_X8_sizeOf_28 (Or.inl rfl) rfl
theorem e_X8_sizeOf {l : Launch} {D : Nat} {x1 : Int32} {σ : Mem} {y : (Int32 × Mem)} (hy : f_X8_sizeOf x1 σ = some y) : EvM l (D + 3) m_X8_sizeOf [.ref 77, .int x1] σ ((fun y => (some (.int y.1), y.2)) y) :=
  evM_of (d := m_X8_sizeOf) (nL := 4) rfl (by decide +kernel) (fun h => absurd (congrArg MethodName.cls h) (by decide +kernel)) (Nat.le_of_ble_eq_true rfl) (t_X8_sizeOf y hy)

set_option maxHeartbeats 4000000 in
set_option maxRecDepth 100000 in
theorem t_X8_markOf {l : Launch} {sc : Nat × (Nat → Int32)} {D : Nat} {x1 : Int32} {σ : Mem} : G l sc (D + 4) m_X8_markOf 0 [(0, .ref 77), (1, .int x1)] [] σ (f_X8_markOf x1 σ) (fun y => (some (.int y.1), y.2)) := by
  unfold f_X8_markOf
  refine g_aload_n (n := 0) d_X8_markOf_0 rfl rfl ?_
  refine g_getr d_X8_markOf_1 fl_X8_22 sh_77 rfl ?_
  refine g_bipush (v := 9) d_X8_markOf_4 (by decide) ?_
  refine g_iload_n (n := 1) d_X8_markOf_6 rfl rfl ?_
  refine g_iadd d_X8_markOf_7 ?_
  refine g_iaload d_X8_markOf_8 sh_82 (fun _ => ?_)
  refine g_iconst (v := 4) d_X8_markOf_9 (by decide) ?_
  refine g_icmp_ge (tgt := 19) d_X8_markOf_10 (by decide) (fun c1 => ?_) (fun c1 => ?_)
  · refine g_aload_n (n := 0) d_X8_markOf_19 rfl rfl ?_
    refine g_bipush (v := 23) d_X8_markOf_20 (by decide) ?_
    refine g_callv_vv (D := D + 3) (As := [.int 23]) d_X8_markOf_22 sv_X8_218 ob_77 rfl (Nat.le_of_ble_eq_true rfl) rfl (fun _ hy => EvM_cast (by omega) (e_X8_begins (D := D + 3) hy)) (fun σ3 => ?_)
    refine g_aload_n (n := 0) d_X8_markOf_25 rfl rfl ?_
    refine g_bipush (v := 20) d_X8_markOf_26 (by decide) ?_
    refine g_callv_vv (D := D + 3) (As := [.int 20]) d_X8_markOf_28 sv_X8_218 ob_77 rfl (Nat.le_of_ble_eq_true rfl) rfl (fun _ hy => EvM_cast (by omega) (e_X8_begins (D := D + 3) hy)) (fun σ5 => ?_)
    refine g_iload_n (n := 1) d_X8_markOf_31 rfl rfl ?_
    refine g_aload_n (n := 0) d_X8_markOf_32 rfl rfl ?_
    refine g_iload_n (n := 1) d_X8_markOf_33 rfl rfl ?_
    refine g_callv_ii (D := D + 3) (As := [.int x1]) d_X8_markOf_34 sv_X8_231 ob_77 rfl (Nat.le_of_ble_eq_true rfl) rfl (fun _ hy => EvM_cast (by omega) (e_X8_sizeOf (D := D + 0) hy)) (fun y6 σ7 => ?_)
    refine g_isub d_X8_markOf_37 ?_
    exact g_iret d_X8_markOf_38 (Or.inl rfl) rfl
  · refine g_aload_n (n := 0) d_X8_markOf_13 rfl rfl ?_
    refine g_iload_n (n := 1) d_X8_markOf_14 rfl rfl ?_
    refine g_callv_ii (D := D + 3) (As := [.int x1]) d_X8_markOf_15 sv_X8_228 ob_77 rfl (Nat.le_of_ble_eq_true rfl) rfl (fun _ hy => EvM_cast (by omega) (e_X8_markNew (D := D + 1) hy)) (fun y8 σ9 => ?_)
    exact g_iret d_X8_markOf_18 (Or.inl rfl) rfl
theorem e_X8_markOf {l : Launch} {D : Nat} {x1 : Int32} {σ : Mem} {y : (Int32 × Mem)} (hy : f_X8_markOf x1 σ = some y) : EvM l (D + 4) m_X8_markOf [.ref 77, .int x1] σ ((fun y => (some (.int y.1), y.2)) y) :=
  evM_of (d := m_X8_markOf) (nL := 2) rfl (by decide +kernel) (fun h => absurd (congrArg MethodName.cls h) (by decide +kernel)) (Nat.le_of_ble_eq_true rfl) (t_X8_markOf y hy)

set_option maxHeartbeats 4000000 in
set_option maxRecDepth 100000 in
theorem t_X8_ask {l : Launch} {sc : Nat × (Nat → Int32)} {D : Nat} {x1 : Int32} {x2 : Int32} {σ : Mem} : G l sc (D + 5) m_X8_ask 0 [(0, .ref 77), (1, .int x1), (2, .int x2)] [] σ (f_X8_ask x1 x2 σ) (fun y => (some (.int y.1), y.2)) := by
  unfold f_X8_ask
  refine g_aload_n (n := 0) d_X8_ask_0 rfl rfl ?_
  refine g_iload_n (n := 1) d_X8_ask_1 rfl rfl ?_
  refine g_callv_pi (D := D + 4) (As := [.int x1]) d_X8_ask_2 sv_X8_150 ob_77 rfl (Nat.le_of_ble_eq_true rfl) rfl (fun _ hy => EvM_cast (by omega) (e_X8_isOne (D := D + 3) hy)) (fun y1 => ?_)
  refine g_if_eq (tgt := 17) d_X8_ask_5 (by decide) (fun c2 => ?_) (fun c2 => ?_)
  · refine g_ldc d_X8_ask_17 kc_X8_72 ?_
    exact g_iret d_X8_ask_19 (Or.inl rfl) rfl
  · refine g_iload_n (n := 2) d_X8_ask_8 rfl rfl ?_
    refine g_iconst (v := 0) d_X8_ask_9 (by decide) ?_
    refine g_iconst (v := 1) d_X8_ask_10 (by decide) ?_
    refine g_calls_pi (D := D + 4) (As := [.int x2, .int 0, .int 1]) d_X8_ask_11 ss_X8_59 rfl (Nat.le_of_ble_eq_true rfl) rfl (fun _ hy => EvM_cast (by omega) (e_X8_in (D := D + 4) hy)) (fun y3 => ?_)
    refine g_if_ne (tgt := 20) d_X8_ask_14 (by decide) (fun c4 => ?_) (fun c4 => ?_)
    · refine g_aload_n (n := 0) d_X8_ask_20 rfl rfl ?_
      refine g_iconst (v := 0) d_X8_ask_21 (by decide) ?_
      refine g_puti d_X8_ask_22 fl_X8_215 sh_77 rfl ?_
      refine g_mem (fun σ5 => ?_)
      refine g_iload_n (n := 2) d_X8_ask_25 rfl rfl ?_
      refine g_if_ne (tgt := 37) d_X8_ask_26 (by decide) (fun c6 => ?_) (fun c6 => ?_)
      · refine g_aload_n (n := 0) d_X8_ask_37 rfl rfl ?_
        refine g_iload_n (n := 1) d_X8_ask_38 rfl rfl ?_
        refine g_callv_ii (D := D + 4) (As := [.int x1]) d_X8_ask_39 sv_X8_234 ob_77 rfl (Nat.le_of_ble_eq_true rfl) rfl (fun _ hy => EvM_cast (by omega) (e_X8_markOf (D := D + 0) hy)) (fun y7 σ8 => ?_)
        exact g_iret d_X8_ask_42 (Or.inl rfl) rfl
      · refine g_aload_n (n := 0) d_X8_ask_29 rfl rfl ?_
        refine g_iload_n (n := 1) d_X8_ask_30 rfl rfl ?_
        refine g_callv_ii (D := D + 4) (As := [.int x1]) d_X8_ask_31 sv_X8_231 ob_77 rfl (Nat.le_of_ble_eq_true rfl) rfl (fun _ hy => EvM_cast (by omega) (e_X8_sizeOf (D := D + 1) hy)) (fun y9 σ10 => ?_)
        refine g_goto (tgt := 42) d_X8_ask_34 (by decide) ?_
        exact g_iret d_X8_ask_42 (Or.inl rfl) rfl
    · refine g_ldc d_X8_ask_17 kc_X8_72 ?_
      exact g_iret d_X8_ask_19 (Or.inl rfl) rfl
theorem e_X8_ask {l : Launch} {D : Nat} {x1 : Int32} {x2 : Int32} {σ : Mem} {y : (Int32 × Mem)} (hy : f_X8_ask x1 x2 σ = some y) : EvM l (D + 5) m_X8_ask [.ref 77, .int x1, .int x2] σ ((fun y => (some (.int y.1), y.2)) y) :=
  evM_of (d := m_X8_ask) (nL := 3) rfl (by decide +kernel) (fun h => absurd (congrArg MethodName.cls h) (by decide +kernel)) (Nat.le_of_ble_eq_true rfl) (t_X8_ask y hy)

set_option maxHeartbeats 4000000 in
set_option maxRecDepth 100000 in
theorem t_X8_trace {l : Launch} {sc : Nat × (Nat → Int32)} {D : Nat} {σ : Mem} {x1 : Int32} : G l sc (D + 1) m_X8_trace 0 [(0, .ref 77), (1, .int x1)] [] σ (f_X8_trace σ x1) (fun y => (some (.int y), σ)) := by
  unfold f_X8_trace
  refine g_iload_n (n := 1) d_X8_trace_0 rfl rfl ?_
  refine g_iconst (v := 0) d_X8_trace_1 (by decide) ?_
  refine g_aload_n (n := 0) d_X8_trace_2 rfl rfl ?_
  refine g_geti d_X8_trace_3 fl_X8_215 sh_77 rfl ?_
  refine g_iconst (v := 1) d_X8_trace_6 (by decide) ?_
  refine g_isub d_X8_trace_7 ?_
  refine g_calls_pi (D := D + 0) (As := [.int x1, .int 0, .int ((σ 77 20) - 1)]) d_X8_trace_8 ss_X8_59 rfl (Nat.le_of_ble_eq_true rfl) rfl (fun _ hy => EvM_cast (by omega) (e_X8_in (D := D + 0) hy)) (fun y1 => ?_)
  refine g_if_eq (tgt := 23) d_X8_trace_11 (by decide) (fun c2 => ?_) (fun c2 => ?_)
  · refine g_ldc d_X8_trace_23 kc_X8_167 ?_
    exact g_iret d_X8_trace_25 (Or.inl rfl) rfl
  · refine g_aload_n (n := 0) d_X8_trace_14 rfl rfl ?_
    refine g_getr d_X8_trace_15 fl_X8_41 sh_77 rfl ?_
    refine g_iload_n (n := 1) d_X8_trace_18 rfl rfl ?_
    refine g_iaload d_X8_trace_19 sh_88 (fun _ => ?_)
    refine g_goto (tgt := 25) d_X8_trace_20 (by decide) ?_
    exact g_iret d_X8_trace_25 (Or.inl rfl) rfl
theorem e_X8_trace {l : Launch} {D : Nat} {σ : Mem} {x1 : Int32} {y : Int32} (hy : f_X8_trace σ x1 = some y) : EvM l (D + 1) m_X8_trace [.ref 77, .int x1] σ ((fun y => (some (.int y), σ)) y) :=
  evM_of (d := m_X8_trace) (nL := 2) rfl (by decide +kernel) (fun h => absurd (congrArg MethodName.cls h) (by decide +kernel)) (Nat.le_of_ble_eq_true rfl) (t_X8_trace y hy)

set_option maxHeartbeats 4000000 in
set_option maxRecDepth 100000 in
theorem t_X8_count_b25 {l : Launch} {sc : Nat × (Nat → Int32)} {D : Nat} {n : Nat} {σ : Mem} {k4 : Int32 → Int32 → Int32 → Option Int32} {x1 : Int32} {x3 : Int32} {s0 : Int32} {s1 : Int32} (hk4 : ∀ x1 x2 x3, G l sc (D + 0) m_X8_count 4 [(0, .ref 77), (1, .int x1), (2, .int x2), (3, .int x3)] [] σ (k4 x1 x2 x3) (fun y => (some (.int y), σ))) : G l sc (D + 0) m_X8_count 25 [(0, .ref 77), (1, .int x1), (3, .int x3)] [.int s0, .int s1] σ (f_X8_count_b25 n σ k4 x1 x3 s0 s1) (fun y => (some (.int y), σ)) := by
  unfold f_X8_count_b25
  refine g_iadd d_X8_count_25 ?_
  refine g_nm (fun y1 => ?_)
  refine g_istore_n d_X8_count_26 rfl (by decide) rfl ?_
  refine g_iinc (n := 3) (w := 1) d_X8_count_27 rfl (by decide) (by decide) rfl ?_
  refine g_goto (tgt := 4) d_X8_count_30 (by decide) ?_
  refine g_sub [2, 3, 1, 0] rfl ?_
  exact hk4 _ _ _
set_option maxHeartbeats 4000000 in
set_option maxRecDepth 100000 in
theorem t_X8_count_b4 {l : Launch} {sc : Nat × (Nat → Int32)} {D : Nat} {n : Nat} {σ : Mem} {k4 : Int32 → Int32 → Int32 → Option Int32} {x1 : Int32} {x2 : Int32} {x3 : Int32} (hk4 : ∀ x1 x2 x3, G l sc (D + 0) m_X8_count 4 [(0, .ref 77), (1, .int x1), (2, .int x2), (3, .int x3)] [] σ (k4 x1 x2 x3) (fun y => (some (.int y), σ))) : G l sc (D + 0) m_X8_count 4 [(0, .ref 77), (1, .int x1), (2, .int x2), (3, .int x3)] [] σ (f_X8_count_b4 n σ k4 x1 x2 x3) (fun y => (some (.int y), σ)) := by
  unfold f_X8_count_b4
  refine g_iload_n (n := 3) d_X8_count_4 rfl rfl ?_
  refine g_bipush (v := 8) d_X8_count_5 (by decide) ?_
  refine g_icmp_ge (tgt := 33) d_X8_count_7 (by decide) (fun c1 => ?_) (fun c1 => ?_)
  · refine g_iload_n (n := 1) d_X8_count_33 rfl rfl ?_
    refine g_if (fun c2 => ?_) (fun c2 => ?_)
    · refine g_tabIn (tgt := 80) d_X8_count_34 (by rw [c2]; decide) (by rw [c2]; decide) (by rw [c2]; rfl) (by decide) ?_
      refine g_iload_n (n := 2) d_X8_count_80 rfl rfl ?_
      exact g_iret d_X8_count_81 (Or.inl rfl) rfl
    refine g_if (fun c3 => ?_) (fun c3 => ?_)
    · refine g_tabIn (tgt := 82) d_X8_count_34 (by rw [c3]; decide) (by rw [c3]; decide) (by rw [c3]; rfl) (by decide) ?_
      refine g_aload_n (n := 0) d_X8_count_82 rfl rfl ?_
      refine g_getr d_X8_count_83 fl_X8_22 sh_77 rfl ?_
      refine g_iconst (v := 4) d_X8_count_86 (by decide) ?_
      refine g_iaload d_X8_count_87 sh_82 (fun _ => ?_)
      exact g_iret d_X8_count_88 (Or.inl rfl) rfl
    refine g_if (fun c4 => ?_) (fun c4 => ?_)
    · refine g_tabIn (tgt := 89) d_X8_count_34 (by rw [c4]; decide) (by rw [c4]; decide) (by rw [c4]; rfl) (by decide) ?_
      refine g_aload_n (n := 0) d_X8_count_89 rfl rfl ?_
      refine g_getr d_X8_count_90 fl_X8_22 sh_77 rfl ?_
      refine g_iconst (v := 1) d_X8_count_93 (by decide) ?_
      refine g_iaload d_X8_count_94 sh_82 (fun _ => ?_)
      exact g_iret d_X8_count_95 (Or.inl rfl) rfl
    refine g_if (fun c5 => ?_) (fun c5 => ?_)
    · refine g_tabIn (tgt := 96) d_X8_count_34 (by rw [c5]; decide) (by rw [c5]; decide) (by rw [c5]; rfl) (by decide) ?_
      refine g_aload_n (n := 0) d_X8_count_96 rfl rfl ?_
      refine g_getr d_X8_count_97 fl_X8_22 sh_77 rfl ?_
      refine g_iconst (v := 0) d_X8_count_100 (by decide) ?_
      refine g_iaload d_X8_count_101 sh_82 (fun _ => ?_)
      exact g_iret d_X8_count_102 (Or.inl rfl) rfl
    refine g_if (fun c6 => ?_) (fun c6 => ?_)
    · refine g_tabIn (tgt := 103) d_X8_count_34 (by rw [c6]; decide) (by rw [c6]; decide) (by rw [c6]; rfl) (by decide) ?_
      refine g_aload_n (n := 0) d_X8_count_103 rfl rfl ?_
      refine g_getr d_X8_count_104 fl_X8_22 sh_77 rfl ?_
      refine g_iconst (v := 2) d_X8_count_107 (by decide) ?_
      refine g_iaload d_X8_count_108 sh_82 (fun _ => ?_)
      exact g_iret d_X8_count_109 (Or.inl rfl) rfl
    refine g_if (fun c7 => ?_) (fun c7 => ?_)
    · refine g_tabIn (tgt := 110) d_X8_count_34 (by rw [c7]; decide) (by rw [c7]; decide) (by rw [c7]; rfl) (by decide) ?_
      refine g_aload_n (n := 0) d_X8_count_110 rfl rfl ?_
      refine g_getr d_X8_count_111 fl_X8_22 sh_77 rfl ?_
      refine g_iconst (v := 3) d_X8_count_114 (by decide) ?_
      refine g_iaload d_X8_count_115 sh_82 (fun _ => ?_)
      exact g_iret d_X8_count_116 (Or.inl rfl) rfl
    refine g_if (fun c8 => ?_) (fun c8 => ?_)
    · refine g_tabIn (tgt := 117) d_X8_count_34 (by rw [c8]; decide) (by rw [c8]; decide) (by rw [c8]; rfl) (by decide) ?_
      refine g_aload_n (n := 0) d_X8_count_117 rfl rfl ?_
      refine g_geti d_X8_count_118 fl_X8_137 sh_77 rfl ?_
      exact g_iret d_X8_count_121 (Or.inl rfl) rfl
    refine g_if (fun c9 => ?_) (fun c9 => ?_)
    · refine g_tabIn (tgt := 122) d_X8_count_34 (by rw [c9]; decide) (by rw [c9]; decide) (by rw [c9]; rfl) (by decide) ?_
      refine g_aload_n (n := 0) d_X8_count_122 rfl rfl ?_
      refine g_geti d_X8_count_123 fl_X8_83 sh_77 rfl ?_
      exact g_iret d_X8_count_126 (Or.inl rfl) rfl
    refine g_tabOut (tgt := 127) d_X8_count_34 (by have := lv_neT (a := 0) c2 rfl; have := lv_neT (a := 1) c3 rfl; have := lv_neT (a := 2) c4 rfl; have := lv_neT (a := 3) c5 rfl; have := lv_neT (a := 4) c6 rfl; have := lv_neT (a := 5) c7 rfl; have := lv_neT (a := 6) c8 rfl; have := lv_neT (a := 7) c9 rfl; omega) (by decide) ?_
    refine g_ldc d_X8_count_127 kc_X8_72 ?_
    exact g_iret d_X8_count_129 (Or.inl rfl) rfl
  · refine g_iload_n (n := 2) d_X8_count_10 rfl rfl ?_
    refine g_aload_n (n := 0) d_X8_count_11 rfl rfl ?_
    refine g_getr d_X8_count_12 fl_X8_7 sh_77 rfl ?_
    refine g_iload_n (n := 3) d_X8_count_15 rfl rfl ?_
    refine g_iaload d_X8_count_16 sh_78 (fun _ => ?_)
    refine g_if_ge (tgt := 24) d_X8_count_17 (by decide) (fun c10 => ?_) (fun c10 => ?_)
    · refine g_iconst (v := 1) d_X8_count_24 (by decide) ?_
      refine g_sub [0, 1, 3] rfl ?_
      exact t_X8_count_b25 hk4
    · refine g_iconst (v := 0) d_X8_count_20 (by decide) ?_
      refine g_goto (tgt := 25) d_X8_count_21 (by decide) ?_
      refine g_sub [0, 1, 3] rfl ?_
      exact t_X8_count_b25 hk4
set_option maxHeartbeats 4000000 in
set_option maxRecDepth 100000 in
theorem t_X8_count_l4 {l : Launch} {sc : Nat × (Nat → Int32)} {D : Nat} {n : Nat} {σ : Mem} : ∀ (f : Nat) (x1 : Int32) (x2 : Int32) (x3 : Int32), G l sc (D + 0) m_X8_count 4 [(0, .ref 77), (1, .int x1), (2, .int x2), (3, .int x3)] [] σ (f_X8_count_l4 n σ f x1 x2 x3) (fun y => (some (.int y), σ)) := by
  intro f
  induction f with
  | zero => intro x1 x2 x3; exact g_none
  | succ f ih => intro x1 x2 x3; exact t_X8_count_b4 ih
set_option maxHeartbeats 4000000 in
set_option maxRecDepth 100000 in
theorem t_X8_count {l : Launch} {sc : Nat × (Nat → Int32)} {D : Nat} {n : Nat} {σ : Mem} {x1 : Int32} : G l sc (D + 0) m_X8_count 0 [(0, .ref 77), (1, .int x1)] [] σ (f_X8_count n σ x1) (fun y => (some (.int y), σ)) := by
  unfold f_X8_count
  refine g_iconst (v := 0) d_X8_count_0 (by decide) ?_
  refine g_istore_n d_X8_count_1 rfl (by decide) rfl ?_
  refine g_iconst (v := 0) d_X8_count_2 (by decide) ?_
  refine g_istore_n d_X8_count_3 rfl (by decide) rfl ?_
  refine g_sub [2, 3, 1, 0] rfl ?_
  exact t_X8_count_l4  _ _ _ _
theorem e_X8_count {l : Launch} {D : Nat} {n : Nat} {σ : Mem} {x1 : Int32} {y : Int32} (hy : f_X8_count n σ x1 = some y) : EvM l (D + 0) m_X8_count [.ref 77, .int x1] σ ((fun y => (some (.int y), σ)) y) :=
  evM_of (d := m_X8_count) (nL := 4) rfl (by decide +kernel) (fun h => absurd (congrArg MethodName.cls h) (by decide +kernel)) (Nat.le_of_ble_eq_true rfl) (t_X8_count y hy)

set_option maxHeartbeats 4000000 in
set_option maxRecDepth 100000 in
theorem t_X8_status {l : Launch} {sc : Nat × (Nat → Int32)} {D : Nat} {σ : Mem} : G l sc (D + 0) m_X8_status 0 [(0, .ref 77)] [] σ (f_X8_status σ ) (fun y => (some (.int y), σ)) := by
  unfold f_X8_status
  refine g_aload_n (n := 0) d_X8_status_0 rfl rfl ?_
  refine g_geti d_X8_status_1 fl_X8_63 sh_77 rfl ?_
  exact g_iret d_X8_status_4 (Or.inl rfl) rfl
theorem e_X8_status {l : Launch} {D : Nat} {σ : Mem} {y : Int32} (hy : f_X8_status σ = some y) : EvM l (D + 0) m_X8_status [.ref 77] σ ((fun y => (some (.int y), σ)) y) :=
  evM_of (d := m_X8_status) (nL := 1) rfl (by decide +kernel) (fun h => absurd (congrArg MethodName.cls h) (by decide +kernel)) (Nat.le_of_ble_eq_true rfl) (t_X8_status y hy)
