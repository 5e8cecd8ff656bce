set_option maxHeartbeats 4000000 in
set_option maxRecDepth 100000 in
theorem t_X0_forget {l : Launch} {sc : Nat × (Nat → Int32)} {D : Nat} {σ : Mem} : G l sc (D + 0) m_X0_forget 0 [(0, .ref 35)] [] σ (f_X0_forget σ) (fun τ => (none, τ)) := by
  unfold f_X0_forget
  refine g_aload_n (n := 0) d_X0_forget_0 rfl rfl ?_
  refine g_iconst (v := 0) d_X0_forget_1 (by decide) ?_
  refine g_puti d_X0_forget_2 fl_X0_14 sh_35 rfl ?_
  refine g_mem (fun σ1 => ?_)
  refine g_aload_n (n := 0) d_X0_forget_5 rfl rfl ?_
  refine g_iconst (v := 0) d_X0_forget_6 (by decide) ?_
  refine g_puti d_X0_forget_7 fl_X0_18 sh_35 rfl ?_
  refine g_mem (fun σ2 => ?_)
  exact g_vret d_X0_forget_10 rfl rfl
theorem e_X0_forget {l : Launch} {D : Nat} {σ : Mem} {y : Mem} (hy : f_X0_forget σ = some y) : EvM l (D + 0) m_X0_forget [.ref 35] σ ((fun τ => (none, τ)) y) :=
  evM_of (d := m_X0_forget) (nL := 1) rfl (by decide +kernel) (fun h => absurd (congrArg MethodName.cls h) (by decide +kernel)) (Nat.le_of_ble_eq_true rfl) (t_X0_forget y hy)

set_option maxHeartbeats 4000000 in
set_option maxRecDepth 100000 in
theorem t_X6_has {l : Launch} {sc : Nat × (Nat → Int32)} {D : Nat} {σ : Mem} {t : Nat} {x1 : Int32} : G l sc (D + 0) m_X6_has 0 [(0, .ref t), (1, .int x1)] [] σ (f_X6_has σ t x1) (fun y => (some (.int y), σ)) := by
  unfold f_X6_has
  refine g_iload_n (n := 1) d_X6_has_0 rfl rfl ?_
  refine g_if_lt (tgt := 16) d_X6_has_1 (by decide) (fun c1 => ?_) (fun c1 => ?_)
  · refine g_iconst (v := 0) d_X6_has_16 (by decide) ?_
    exact g_iret d_X6_has_17 (Or.inr ⟨rfl, rfl⟩) rfl
  · refine g_iload_n (n := 1) d_X6_has_4 rfl rfl ?_
    refine g_aload_n (n := 0) d_X6_has_5 rfl rfl ?_
    refine g_guard (fun h2 => ?_)
    refine g_geti d_X6_has_6 fl_X6_38 (shp_town h2).1 rfl ?_
    refine g_icmp_ge (tgt := 16) d_X6_has_9 (by decide) (fun c3 => ?_) (fun c3 => ?_)
    · refine g_iconst (v := 0) d_X6_has_16 (by decide) ?_
      exact g_iret d_X6_has_17 (Or.inr ⟨rfl, rfl⟩) rfl
    · refine g_iconst (v := 1) d_X6_has_12 (by decide) ?_
      refine g_goto (tgt := 17) d_X6_has_13 (by decide) ?_
      exact g_iret d_X6_has_17 (Or.inr ⟨rfl, rfl⟩) rfl
theorem e_X6_has {l : Launch} {D : Nat} {σ : Mem} {t : Nat} {x1 : Int32} {y : Int32} (hy : f_X6_has σ t x1 = some y) : EvM l (D + 0) m_X6_has [.ref t, .int x1] σ ((fun y => (some (.int y), σ)) y) :=
  evM_of (d := m_X6_has) (nL := 2) rfl (by decide +kernel) (fun h => absurd (congrArg MethodName.cls h) (by decide +kernel)) (Nat.le_of_ble_eq_true rfl) (t_X6_has y hy)

set_option maxHeartbeats 4000000 in
set_option maxRecDepth 100000 in
theorem t_X0_keep_b108 {l : Launch} {sc : Nat × (Nat → Int32)} {D : Nat} {x1 : Nat} {x3 : Nat} {s0 : Int32} {s1 : Int32} {s2 : Nat} {σ : Mem} : G l sc (D + 1) m_X0_keep 108 [(1, .ref x1), (3, .ref x3)] [.int s0, .int s1, .ref s2] σ (f_X0_keep_b108 x1 x3 s0 s1 s2 σ) (fun τ => (none, τ)) := by
  unfold f_X0_keep_b108
  refine g_guard (fun h1 => ?_)
  refine g_iastore d_X0_keep_108 (shp_IA h1) (fun _ => ?_)
  refine g_mem (fun σ2 => ?_)
  refine g_aload_n (n := 1) d_X0_keep_109 rfl rfl ?_
  refine g_iconst (v := 3) d_X0_keep_110 (by decide) ?_
  refine g_aload_n (n := 0) d_X0_keep_111 rfl rfl ?_
  refine g_guard (fun h3 => ?_)
  refine g_geti d_X0_keep_112 fl_X0_34 (shp_town h3).1 rfl ?_
  refine g_guard (fun h4 => ?_)
  refine g_iastore d_X0_keep_115 (shp_IA h4) (fun _ => ?_)
  refine g_mem (fun σ5 => ?_)
  refine g_aload_n (n := 1) d_X0_keep_116 rfl rfl ?_
  refine g_iconst (v := 4) d_X0_keep_117 (by decide) ?_
  refine g_aload_n (n := 0) d_X0_keep_118 rfl rfl ?_
  refine g_geti d_X0_keep_119 fl_X0_37 (shp_town h3).1 rfl ?_
  refine g_iastore d_X0_keep_122 (shp_IA h4) (fun _ => ?_)
  refine g_mem (fun σ6 => ?_)
  refine g_aload_n (n := 1) d_X0_keep_123 rfl rfl ?_
  refine g_iconst (v := 5) d_X0_keep_124 (by decide) ?_
  refine g_aload_n (n := 0) d_X0_keep_125 rfl rfl ?_
  refine g_geti d_X0_keep_126 fl_X0_40 (shp_town h3).1 rfl ?_
  refine g_iastore d_X0_keep_129 (shp_IA h4) (fun _ => ?_)
  refine g_mem (fun σ7 => ?_)
  refine g_aload_n (n := 1) d_X0_keep_130 rfl rfl ?_
  refine g_bipush (v := 6) d_X0_keep_131 (by decide) ?_
  refine g_aload_n (n := 0) d_X0_keep_133 rfl rfl ?_
  refine g_geti d_X0_keep_134 fl_X0_43 (shp_town h3).1 rfl ?_
  refine g_iastore d_X0_keep_137 (shp_IA h4) (fun _ => ?_)
  refine g_mem (fun σ8 => ?_)
  exact g_vret d_X0_keep_138 rfl rfl
set_option maxHeartbeats 4000000 in
set_option maxRecDepth 100000 in
theorem t_X0_keep_b90 {l : Launch} {sc : Nat × (Nat → Int32)} {D : Nat} {x1 : Nat} {x2 : Int32} {x3 : Nat} {x4 : Int32} {s0 : Int32} {s1 : Int32} {s2 : Nat} {σ : Mem} : G l sc (D + 1) m_X0_keep 90 [(1, .ref x1), (2, .int x2), (3, .ref x3), (4, .int x4)] [.int s0, .int s1, .ref s2] σ (f_X0_keep_b90 x1 x2 x3 x4 s0 s1 s2 σ) (fun τ => (none, τ)) := by
  unfold f_X0_keep_b90
  refine g_guard (fun h1 => ?_)
  refine g_iastore d_X0_keep_90 (shp_IA h1) (fun _ => ?_)
  refine g_mem (fun σ2 => ?_)
  refine g_aload_n (n := 2) d_X0_keep_91 rfl rfl ?_
  refine g_iconst (v := 2) d_X0_keep_92 (by decide) ?_
  refine g_iload (n := 3) d_X0_keep_93 rfl ?_
  refine g_if_eq (tgt := 107) d_X0_keep_95 (by decide) (fun c3 => ?_) (fun c3 => ?_)
  · refine g_iconst (v := 0) d_X0_keep_107 (by decide) ?_
    refine g_sub [0, 2] rfl ?_
    exact t_X0_keep_b108 
  · refine g_aload_n (n := 0) d_X0_keep_98 rfl rfl ?_
    refine g_guard (fun h4 => ?_)
    refine g_getr d_X0_keep_99 fl_X0_31 (shp_town h4).1 rfl ?_
    refine g_iload_n (n := 1) d_X0_keep_102 rfl rfl ?_
    refine g_iaload d_X0_keep_103 (shp_town h4).2.2.2.1 (fun _ => ?_)
    refine g_goto (tgt := 108) d_X0_keep_104 (by decide) ?_
    refine g_sub [0, 2] rfl ?_
    exact t_X0_keep_b108 
set_option maxHeartbeats 4000000 in
set_option maxRecDepth 100000 in
theorem t_X0_keep_b72 {l : Launch} {sc : Nat × (Nat → Int32)} {D : Nat} {x1 : Nat} {x2 : Int32} {x3 : Nat} {x4 : Int32} {s0 : Int32} {s1 : Int32} {s2 : Nat} {σ : Mem} : G l sc (D + 1) m_X0_keep 72 [(1, .ref x1), (2, .int x2), (3, .ref x3), (4, .int x4)] [.int s0, .int s1, .ref s2] σ (f_X0_keep_b72 x1 x2 x3 x4 s0 s1 s2 σ) (fun τ => (none, τ)) := by
  unfold f_X0_keep_b72
  refine g_guard (fun h1 => ?_)
  refine g_iastore d_X0_keep_72 (shp_IA h1) (fun _ => ?_)
  refine g_mem (fun σ2 => ?_)
  refine g_aload_n (n := 2) d_X0_keep_73 rfl rfl ?_
  refine g_iconst (v := 1) d_X0_keep_74 (by decide) ?_
  refine g_iload (n := 3) d_X0_keep_75 rfl ?_
  refine g_if_eq (tgt := 89) d_X0_keep_77 (by decide) (fun c3 => ?_) (fun c3 => ?_)
  · refine g_iconst (v := 0) d_X0_keep_89 (by decide) ?_
    refine g_sub [0, 1, 2, 3] rfl ?_
    exact t_X0_keep_b90 
  · refine g_aload_n (n := 0) d_X0_keep_80 rfl rfl ?_
    refine g_guard (fun h4 => ?_)
    refine g_getr d_X0_keep_81 fl_X0_27 (shp_town h4).1 rfl ?_
    refine g_iload_n (n := 1) d_X0_keep_84 rfl rfl ?_
    refine g_iaload d_X0_keep_85 (shp_town h4).2.2.1 (fun _ => ?_)
    refine g_goto (tgt := 90) d_X0_keep_86 (by decide) ?_
    refine g_sub [0, 1, 2, 3] rfl ?_
    exact t_X0_keep_b90 
set_option maxHeartbeats 4000000 in
set_option maxRecDepth 100000 in
theorem t_X0_keep_b53 {l : Launch} {sc : Nat × (Nat → Int32)} {D : Nat} {x1 : Nat} {x2 : Int32} {x3 : Nat} {σ : Mem} : G l sc (D + 1) m_X0_keep 53 [(1, .ref x1), (2, .int x2), (3, .ref x3)] [] σ (f_X0_keep_b53 x1 x2 x3 σ) (fun τ => (none, τ)) := by
  unfold f_X0_keep_b53
  refine g_aload_n (n := 0) d_X0_keep_53 rfl rfl ?_
  refine g_iload_n (n := 1) d_X0_keep_54 rfl rfl ?_
  refine g_guard (fun h1 => ?_)
  refine g_callv_pi (D := D + 0) (As := [.int x2]) d_X0_keep_55 sv_X0_21 (ob_town h1) rfl (Nat.le_of_ble_eq_true rfl) rfl (fun _ hy => EvM_cast (by omega) (e_X6_has (D := D + 0) hy)) (fun y2 => ?_)
  refine g_istore d_X0_keep_58 (by decide) rfl ?_
  refine g_aload_n (n := 3) d_X0_keep_60 rfl rfl ?_
  refine g_iconst (v := 0) d_X0_keep_61 (by decide) ?_
  refine g_iload (n := 0) d_X0_keep_62 rfl ?_
  refine g_if_eq (tgt := 71) d_X0_keep_64 (by decide) (fun c3 => ?_) (fun c3 => ?_)
  · refine g_iconst (v := -1) d_X0_keep_71 (by decide) ?_
    refine g_sub [1, 2, 3, 0] rfl ?_
    exact t_X0_keep_b72 
  · refine g_iload_n (n := 2) d_X0_keep_67 rfl rfl ?_
    refine g_goto (tgt := 72) d_X0_keep_68 (by decide) ?_
    refine g_sub [1, 2, 3, 0] rfl ?_
    exact t_X0_keep_b72 
set_option maxHeartbeats 4000000 in
set_option maxRecDepth 100000 in
theorem t_X0_keep {l : Launch} {sc : Nat × (Nat → Int32)} {D : Nat} {x1 : Nat} {x2 : Int32} {σ : Mem} : G l sc (D + 1) m_X0_keep 0 [(0, .ref 35), (1, .ref x1), (2, .int x2)] [] σ (f_X0_keep x1 x2 σ) (fun τ => (none, τ)) := by
  unfold f_X0_keep
  refine g_aload_n (n := 0) d_X0_keep_0 rfl rfl ?_
  refine g_getr d_X0_keep_1 fl_X0_11 sh_35 rfl ?_
  refine g_aload_n (n := 0) d_X0_keep_4 rfl rfl ?_
  refine g_geti d_X0_keep_5 fl_X0_14 sh_35 rfl ?_
  refine g_aload_n (n := 0) d_X0_keep_8 rfl rfl ?_
  refine g_geti d_X0_keep_9 fl_X0_18 sh_35 rfl ?_
  refine g_iadd d_X0_keep_12 ?_
  refine g_bipush (v := 24) d_X0_keep_13 (by decide) ?_
  refine g_irem d_X0_keep_15 (by decide) ?_
  refine g_aaload d_X0_keep_16 sh_36 (fun h1 => ?_)
  refine g_astore_n d_X0_keep_17 rfl (by decide) rfl ?_
  refine g_aload_n (n := 1) d_X0_keep_18 rfl rfl ?_
  refine g_geti d_X0_keep_19 fl_X0_18 sh_35 rfl ?_
  refine g_bipush (v := 24) d_X0_keep_22 (by decide) ?_
  refine g_icmp_ge (tgt := 40) d_X0_keep_24 (by decide) (fun c2 => ?_) (fun c2 => ?_)
  · refine g_aload_n (n := 1) d_X0_keep_40 rfl rfl ?_
    refine g_aload_n (n := 1) d_X0_keep_41 rfl rfl ?_
    refine g_geti d_X0_keep_42 fl_X0_14 sh_35 rfl ?_
    refine g_iconst (v := 1) d_X0_keep_45 (by decide) ?_
    refine g_iadd d_X0_keep_46 ?_
    refine g_bipush (v := 24) d_X0_keep_47 (by decide) ?_
    refine g_irem d_X0_keep_49 (by decide) ?_
    refine g_puti d_X0_keep_50 fl_X0_14 sh_35 rfl ?_
    refine g_mem (fun σ3 => ?_)
    refine g_sub [2, 3, 0] rfl ?_
    exact t_X0_keep_b53 
  · refine g_aload_n (n := 1) d_X0_keep_27 rfl rfl ?_
    refine g_dup d_X0_keep_28 rfl ?_
    refine g_geti d_X0_keep_29 fl_X0_18 sh_35 rfl ?_
    refine g_iconst (v := 1) d_X0_keep_32 (by decide) ?_
    refine g_iadd d_X0_keep_33 ?_
    refine g_puti d_X0_keep_34 fl_X0_18 sh_35 rfl ?_
    refine g_mem (fun σ4 => ?_)
    refine g_goto (tgt := 53) d_X0_keep_37 (by decide) ?_
    refine g_sub [2, 3, 0] rfl ?_
    exact t_X0_keep_b53 
theorem e_X0_keep {l : Launch} {D : Nat} {x1 : Nat} {x2 : Int32} {σ : Mem} {y : Mem} (hy : f_X0_keep x1 x2 σ = some y) : EvM l (D + 1) m_X0_keep [.ref 35, .ref x1, .int x2] σ ((fun τ => (none, τ)) y) :=
  evM_of (d := m_X0_keep) (nL := 5) rfl (by decide +kernel) (fun h => absurd (congrArg MethodName.cls h) (by decide +kernel)) (Nat.le_of_ble_eq_true rfl) (t_X0_keep y hy)

set_option maxHeartbeats 4000000 in
set_option maxRecDepth 100000 in
theorem t_X6_copyStands {l : Launch} {sc : Nat × (Nat → Int32)} {D : Nat} {t : Nat} {x1 : Int32} {x2 : Int32} {x3 : Int32} {x4 : Int32} {σ : Mem} : G l sc (D + 0) m_X6_copyStands 0 [(0, .ref t), (1, .int x1), (2, .int x2), (3, .int x3), (4, .int x4)] [] σ (f_X6_copyStands t x1 x2 x3 x4 σ) (fun τ => (none, τ)) := by
  unfold f_X6_copyStands
  refine g_aload_n (n := 0) d_X6_copyStands_0 rfl rfl ?_
  refine g_iload_n (n := 1) d_X6_copyStands_1 rfl rfl ?_
  refine g_guard (fun h1 => ?_)
  refine g_puti d_X6_copyStands_2 fl_X6_47 (shp_town h1).1 rfl ?_
  refine g_mem (fun σ2 => ?_)
  refine g_aload_n (n := 0) d_X6_copyStands_5 rfl rfl ?_
  refine g_iload_n (n := 2) d_X6_copyStands_6 rfl rfl ?_
  refine g_puti d_X6_copyStands_7 fl_X6_50 (shp_town h1).1 rfl ?_
  refine g_mem (fun σ3 => ?_)
  refine g_aload_n (n := 0) d_X6_copyStands_10 rfl rfl ?_
  refine g_iload_n (n := 3) d_X6_copyStands_11 rfl rfl ?_
  refine g_puti d_X6_copyStands_12 fl_X6_53 (shp_town h1).1 rfl ?_
  refine g_mem (fun σ4 => ?_)
  refine g_aload_n (n := 0) d_X6_copyStands_15 rfl rfl ?_
  refine g_iload (n := 4) d_X6_copyStands_16 rfl ?_
  refine g_puti d_X6_copyStands_18 fl_X6_56 (shp_town h1).1 rfl ?_
  refine g_mem (fun σ5 => ?_)
  exact g_vret d_X6_copyStands_21 rfl rfl
theorem e_X6_copyStands {l : Launch} {D : Nat} {t : Nat} {x1 : Int32} {x2 : Int32} {x3 : Int32} {x4 : Int32} {σ : Mem} {y : Mem} (hy : f_X6_copyStands t x1 x2 x3 x4 σ = some y) : EvM l (D + 0) m_X6_copyStands [.ref t, .int x1, .int x2, .int x3, .int x4] σ ((fun τ => (none, τ)) y) :=
  evM_of (d := m_X6_copyStands) (nL := 5) rfl (by decide +kernel) (fun h => absurd (congrArg MethodName.cls h) (by decide +kernel)) (Nat.le_of_ble_eq_true rfl) (t_X6_copyStands y hy)

set_option maxHeartbeats 4000000 in
set_option maxRecDepth 100000 in
theorem t_X0_takeBack_b66 {l : Launch} {sc : Nat × (Nat → Int32)} {D : Nat} {x1 : Nat} {x2 : Nat} {σ : Mem} : G l sc (D + 1) m_X0_takeBack 66 [(1, .ref x1), (2, .ref x2)] [] σ (f_X0_takeBack_b66 x1 x2 σ) (fun τ => (none, τ)) := by
  unfold f_X0_takeBack_b66
  refine g_aload_n (n := 0) d_X0_takeBack_66 rfl rfl ?_
  refine g_aload_n (n := 1) d_X0_takeBack_67 rfl rfl ?_
  refine g_iconst (v := 3) d_X0_takeBack_68 (by decide) ?_
  refine g_guard (fun h1 => ?_)
  refine g_iaload d_X0_takeBack_69 (shp_IA h1) (fun _ => ?_)
  refine g_aload_n (n := 1) d_X0_takeBack_70 rfl rfl ?_
  refine g_iconst (v := 4) d_X0_takeBack_71 (by decide) ?_
  refine g_iaload d_X0_takeBack_72 (shp_IA h1) (fun _ => ?_)
  refine g_aload_n (n := 1) d_X0_takeBack_73 rfl rfl ?_
  refine g_iconst (v := 5) d_X0_takeBack_74 (by decide) ?_
  refine g_iaload d_X0_takeBack_75 (shp_IA h1) (fun _ => ?_)
  refine g_aload_n (n := 1) d_X0_takeBack_76 rfl rfl ?_
  refine g_bipush (v := 6) d_X0_takeBack_77 (by decide) ?_
  refine g_iaload d_X0_takeBack_79 (shp_IA h1) (fun _ => ?_)
  refine g_guard (fun h2 => ?_)
  refine g_callv_vv (D := D + 0) (As := [.int (σ x2 (3 : Int32).toNatClampNeg), .int (σ x2 (4 : Int32).toNatClampNeg), .int (σ x2 (5 : Int32).toNatClampNeg), .int (σ x2 (6 : Int32).toNatClampNeg)]) d_X0_takeBack_80 sv_X0_46 (ob_town h2) rfl (Nat.le_of_ble_eq_true rfl) rfl (fun _ hy => EvM_cast (by omega) (e_X6_copyStands (D := D + 0) hy)) (fun σ4 => ?_)
  exact g_vret d_X0_takeBack_83 rfl rfl
set_option maxHeartbeats 4000000 in
set_option maxRecDepth 100000 in
theorem t_X0_takeBack {l : Launch} {sc : Nat × (Nat → Int32)} {D : Nat} {x1 : Nat} {σ : Mem} : G l sc (D + 1) m_X0_takeBack 0 [(0, .ref 35), (1, .ref x1)] [] σ (f_X0_takeBack x1 σ) (fun τ => (none, τ)) := by
  unfold f_X0_takeBack
  refine g_aload_n (n := 0) d_X0_takeBack_0 rfl rfl ?_
  refine g_geti d_X0_takeBack_1 fl_X0_18 sh_35 rfl ?_
  refine g_if_gt (tgt := 8) d_X0_takeBack_4 (by decide) (fun c1 => ?_) (fun c1 => ?_)
  · refine g_aload_n (n := 0) d_X0_takeBack_8 rfl rfl ?_
    refine g_dup d_X0_takeBack_9 rfl ?_
    refine g_geti d_X0_takeBack_10 fl_X0_18 sh_35 rfl ?_
    refine g_iconst (v := 1) d_X0_takeBack_13 (by decide) ?_
    refine g_isub d_X0_takeBack_14 ?_
    refine g_puti d_X0_takeBack_15 fl_X0_18 sh_35 rfl ?_
    refine g_mem (fun σ2 => ?_)
    refine g_aload_n (n := 0) d_X0_takeBack_18 rfl rfl ?_
    refine g_getr d_X0_takeBack_19 fl_X0_11 sh_35 rfl ?_
    refine g_aload_n (n := 0) d_X0_takeBack_22 rfl rfl ?_
    refine g_geti d_X0_takeBack_23 fl_X0_14 sh_35 rfl ?_
    refine g_aload_n (n := 0) d_X0_takeBack_26 rfl rfl ?_
    refine g_geti d_X0_takeBack_27 fl_X0_18 sh_35 rfl ?_
    refine g_iadd d_X0_takeBack_30 ?_
    refine g_bipush (v := 24) d_X0_takeBack_31 (by decide) ?_
    refine g_irem d_X0_takeBack_33 (by decide) ?_
    refine g_aaload d_X0_takeBack_34 sh_36 (fun h3 => ?_)
    refine g_astore_n d_X0_takeBack_35 rfl (by decide) rfl ?_
    refine g_aload_n (n := 0) d_X0_takeBack_36 rfl rfl ?_
    refine g_iconst (v := 0) d_X0_takeBack_37 (by decide) ?_
    refine g_iaload d_X0_takeBack_38 (shp_acts (inB_lt h3)) (fun _ => ?_)
    refine g_nm (fun y4 => ?_)
    refine g_istore_n d_X0_takeBack_39 rfl (by decide) rfl ?_
    refine g_aload_n (n := 3) d_X0_takeBack_40 rfl rfl ?_
    refine g_iload_n (n := 0) d_X0_takeBack_41 rfl rfl ?_
    refine g_guard (fun h5 => ?_)
    refine g_callv_pi (D := D + 0) (As := [.int y4]) d_X0_takeBack_42 sv_X0_21 (ob_town h5) rfl (Nat.le_of_ble_eq_true rfl) rfl (fun _ hy => EvM_cast (by omega) (e_X6_has (D := D + 0) hy)) (fun y6 => ?_)
    refine g_if_eq (tgt := 66) d_X0_takeBack_45 (by decide) (fun c7 => ?_) (fun c7 => ?_)
    · refine g_sub [3, 1] rfl ?_
      exact t_X0_takeBack_b66 
    · refine g_aload_n (n := 3) d_X0_takeBack_48 rfl rfl ?_
      refine g_getr d_X0_takeBack_49 fl_X0_27 (shp_town h5).1 rfl ?_
      refine g_iload_n (n := 0) d_X0_takeBack_52 rfl rfl ?_
      refine g_aload_n (n := 1) d_X0_takeBack_53 rfl rfl ?_
      refine g_iconst (v := 1) d_X0_takeBack_54 (by decide) ?_
      refine g_iaload d_X0_takeBack_55 (shp_acts (inB_lt h3)) (fun _ => ?_)
      refine g_iastore d_X0_takeBack_56 (shp_town h5).2.2.1 (fun _ => ?_)
      refine g_mem (fun σ8 => ?_)
      refine g_aload_n (n := 3) d_X0_takeBack_57 rfl rfl ?_
      refine g_getr d_X0_takeBack_58 fl_X0_31 (shp_town h5).1 rfl ?_
      refine g_iload_n (n := 0) d_X0_takeBack_61 rfl rfl ?_
      refine g_aload_n (n := 1) d_X0_takeBack_62 rfl rfl ?_
      refine g_iconst (v := 2) d_X0_takeBack_63 (by decide) ?_
      refine g_iaload d_X0_takeBack_64 (shp_acts (inB_lt h3)) (fun _ => ?_)
      refine g_iastore d_X0_takeBack_65 (shp_town h5).2.2.2.1 (fun _ => ?_)
      refine g_mem (fun σ9 => ?_)
      refine g_sub [3, 1] rfl ?_
      exact t_X0_takeBack_b66 
  · exact g_vret d_X0_takeBack_7 rfl rfl
theorem e_X0_takeBack {l : Launch} {D : Nat} {x1 : Nat} {σ : Mem} {y : Mem} (hy : f_X0_takeBack x1 σ = some y) : EvM l (D + 1) m_X0_takeBack [.ref 35, .ref x1] σ ((fun τ => (none, τ)) y) :=
  evM_of (d := m_X0_takeBack) (nL := 4) rfl (by decide +kernel) (fun h => absurd (congrArg MethodName.cls h) (by decide +kernel)) (Nat.le_of_ble_eq_true rfl) (t_X0_takeBack y hy)

set_option maxHeartbeats 4000000 in
set_option maxRecDepth 100000 in
theorem t_X1_of {l : Launch} {sc : Nat × (Nat → Int32)} {D : Nat} {x1 : Nat} {x2 : Int32} {σ : Mem} : G l sc (D + 0) m_X1_of 0 [(0, .ref 75), (1, .ref x1), (2, .int x2)] [] σ (f_X1_of x1 x2 σ) (fun τ => (none, τ)) := by
  unfold f_X1_of
  refine g_aload_n (n := 0) d_X1_of_0 rfl rfl ?_
  refine g_iconst (v := 0) d_X1_of_1 (by decide) ?_
  refine g_puti d_X1_of_2 fl_X1_15 sh_75 rfl ?_
  refine g_mem (fun σ1 => ?_)
  refine g_aload_n (n := 0) d_X1_of_5 rfl rfl ?_
  refine g_aload_n (n := 1) d_X1_of_6 rfl rfl ?_
  refine g_guard (fun h2 => ?_)
  refine g_getr d_X1_of_7 fl_X1_19 (shp_town h2).1 rfl ?_
  refine g_iload_n (n := 2) d_X1_of_10 rfl rfl ?_
  refine g_iaload d_X1_of_11 (shp_town h2).2.1 (fun _ => ?_)
  refine g_puti d_X1_of_12 fl_X1_24 sh_75 rfl ?_
  refine g_mem (fun σ3 => ?_)
  refine g_aload_n (n := 0) d_X1_of_15 rfl rfl ?_
  refine g_iload_n (n := 2) d_X1_of_16 rfl rfl ?_
  refine g_puti d_X1_of_17 fl_X1_26 sh_75 rfl ?_
  refine g_mem (fun σ4 => ?_)
  refine g_aload_n (n := 0) d_X1_of_20 rfl rfl ?_
  refine g_aload_n (n := 1) d_X1_of_21 rfl rfl ?_
  refine g_getr d_X1_of_22 fl_X1_29 (shp_town h2).1 rfl ?_
  refine g_iload_n (n := 2) d_X1_of_25 rfl rfl ?_
  refine g_iaload d_X1_of_26 (shp_town h2).2.2.2.1 (fun _ => ?_)
  refine g_puti d_X1_of_27 fl_X1_32 sh_75 rfl ?_
  refine g_mem (fun σ5 => ?_)
  refine g_aload_n (n := 0) d_X1_of_30 rfl rfl ?_
  refine g_aload_n (n := 1) d_X1_of_31 rfl rfl ?_
  refine g_getr d_X1_of_32 fl_X1_34 (shp_town h2).1 rfl ?_
  refine g_iload_n (n := 2) d_X1_of_35 rfl rfl ?_
  refine g_iaload d_X1_of_36 (shp_town h2).2.2.1 (fun _ => ?_)
  refine g_puti d_X1_of_37 fl_X1_37 sh_75 rfl ?_
  refine g_mem (fun σ6 => ?_)
  exact g_vret d_X1_of_40 rfl rfl
theorem e_X1_of {l : Launch} {D : Nat} {x1 : Nat} {x2 : Int32} {σ : Mem} {y : Mem} (hy : f_X1_of x1 x2 σ = some y) : EvM l (D + 0) m_X1_of [.ref 75, .ref x1, .int x2] σ ((fun τ => (none, τ)) y) :=
  evM_of (d := m_X1_of) (nL := 3) rfl (by decide +kernel) (fun h => absurd (congrArg MethodName.cls h) (by decide +kernel)) (Nat.le_of_ble_eq_true rfl) (t_X1_of y hy)

set_option maxHeartbeats 4000000 in
set_option maxRecDepth 100000 in
theorem t_X1_begins {l : Launch} {sc : Nat × (Nat → Int32)} {D : Nat} {x1 : Int32} {σ : Mem} : G l sc (D + 0) m_X1_begins 0 [(0, .ref 75), (1, .int x1)] [] σ (f_X1_begins x1 σ) (fun τ => (none, τ)) := by
  unfold f_X1_begins
  refine g_aload_n (n := 0) d_X1_begins_0 rfl rfl ?_
  refine g_geti d_X1_begins_1 fl_X1_15 sh_75 rfl ?_
  refine g_bipush (v := 16) d_X1_begins_4 (by decide) ?_
  refine g_icmp_ge (tgt := 29) d_X1_begins_6 (by decide) (fun c1 => ?_) (fun c1 => ?_)
  · exact g_vret d_X1_begins_29 rfl rfl
  · refine g_aload_n (n := 0) d_X1_begins_9 rfl rfl ?_
    refine g_getr d_X1_begins_10 fl_X1_11 sh_75 rfl ?_
    refine g_aload_n (n := 0) d_X1_begins_13 rfl rfl ?_
    refine g_geti d_X1_begins_14 fl_X1_15 sh_75 rfl ?_
    refine g_iload_n (n := 1) d_X1_begins_17 rfl rfl ?_
    refine g_iastore d_X1_begins_18 sh_76 (fun _ => ?_)
    refine g_mem (fun σ2 => ?_)
    refine g_aload_n (n := 0) d_X1_begins_19 rfl rfl ?_
    refine g_dup d_X1_begins_20 rfl ?_
    refine g_geti d_X1_begins_21 fl_X1_15 sh_75 rfl ?_
    refine g_iconst (v := 1) d_X1_begins_24 (by decide) ?_
    refine g_iadd d_X1_begins_25 ?_
    refine g_puti d_X1_begins_26 fl_X1_15 sh_75 rfl ?_
    refine g_mem (fun σ3 => ?_)
    exact g_vret d_X1_begins_29 rfl rfl
theorem e_X1_begins {l : Launch} {D : Nat} {x1 : Int32} {σ : Mem} {y : Mem} (hy : f_X1_begins x1 σ = some y) : EvM l (D + 0) m_X1_begins [.ref 75, .int x1] σ ((fun τ => (none, τ)) y) :=
  evM_of (d := m_X1_begins) (nL := 2) rfl (by decide +kernel) (fun h => absurd (congrArg MethodName.cls h) (by decide +kernel)) (Nat.le_of_ble_eq_true rfl) (t_X1_begins y hy)

set_option maxHeartbeats 4000000 in
set_option maxRecDepth 100000 in
theorem t_X7_isOfKind_b4 {l : Launch} {sc : Nat × (Nat → Int32)} {D : Nat} {n : Nat} {σ : Mem} {k4 : Int32 → Int32 → Int32 → Option Int32} {x1 : Int32} {x2 : Int32} {x3 : Int32} (hk4 : ∀ x1 x2 x3, G l sc (D + 0) m_X7_isOfKind 4 [(1, .int x1), (2, .int x2), (3, .int x3)] [] σ (k4 x1 x2 x3) (fun y => (some (.int y), σ))) : G l sc (D + 0) m_X7_isOfKind 4 [(1, .int x1), (2, .int x2), (3, .int x3)] [] σ (f_X7_isOfKind_b4 n σ k4 x1 x2 x3) (fun y => (some (.int y), σ)) := by
  unfold f_X7_isOfKind_b4
  refine g_iload_n (n := 2) d_X7_isOfKind_4 rfl rfl ?_
  refine g_bipush (v := 6) d_X7_isOfKind_5 (by decide) ?_
  refine g_icmp_ge (tgt := 39) d_X7_isOfKind_7 (by decide) (fun c1 => ?_) (fun c1 => ?_)
  · refine g_iconst (v := 0) d_X7_isOfKind_39 (by decide) ?_
    exact g_iret d_X7_isOfKind_40 (Or.inr ⟨rfl, rfl⟩) rfl
  · refine g_iload_n (n := 1) d_X7_isOfKind_10 rfl rfl ?_
    refine g_if_lt (tgt := 39) d_X7_isOfKind_11 (by decide) (fun c2 => ?_) (fun c2 => ?_)
    · refine g_iconst (v := 0) d_X7_isOfKind_39 (by decide) ?_
      exact g_iret d_X7_isOfKind_40 (Or.inr ⟨rfl, rfl⟩) rfl
    · refine g_iload_n (n := 1) d_X7_isOfKind_14 rfl rfl ?_
      refine g_bipush (v := 6) d_X7_isOfKind_15 (by decide) ?_
      refine g_icmp_ge (tgt := 39) d_X7_isOfKind_17 (by decide) (fun c3 => ?_) (fun c3 => ?_)
      · refine g_iconst (v := 0) d_X7_isOfKind_39 (by decide) ?_
        exact g_iret d_X7_isOfKind_40 (Or.inr ⟨rfl, rfl⟩) rfl
      · refine g_iload_n (n := 1) d_X7_isOfKind_20 rfl rfl ?_
        refine g_iload_n (n := 0) d_X7_isOfKind_21 rfl rfl ?_
        refine g_icmp_ne (tgt := 27) d_X7_isOfKind_22 (by decide) (fun c4 => ?_) (fun c4 => ?_)
        · refine g_gets (nest := false) d_X7_isOfKind_27 fs_X7_302 ?_
          refine g_iload_n (n := 1) d_X7_isOfKind_30 rfl rfl ?_
          refine g_near d_X7_isOfKind_31 (fun _ => ?_)
          refine g_nm (fun y5 => ?_)
          refine g_istore_n d_X7_isOfKind_32 rfl (by decide) rfl ?_
          refine g_iinc (n := 2) (w := 1) d_X7_isOfKind_33 rfl (by decide) (by decide) rfl ?_
          refine g_goto (tgt := 4) d_X7_isOfKind_36 (by decide) ?_
          refine g_sub [2, 1, 0] rfl ?_
          exact hk4 _ _ _
        · refine g_iconst (v := 1) d_X7_isOfKind_25 (by decide) ?_
          exact g_iret d_X7_isOfKind_26 (Or.inr ⟨rfl, rfl⟩) rfl
set_option maxHeartbeats 4000000 in
set_option maxRecDepth 100000 in
theorem t_X7_isOfKind_l4 {l : Launch} {sc : Nat × (Nat → Int32)} {D : Nat} {n : Nat} {σ : Mem} : ∀ (f : Nat) (x1 : Int32) (x2 : Int32) (x3 : Int32), G l sc (D + 0) m_X7_isOfKind 4 [(1, .int x1), (2, .int x2), (3, .int x3)] [] σ (f_X7_isOfKind_l4 n σ f x1 x2 x3) (fun y => (some (.int y), σ)) := by
  intro f
  induction f with
  | zero => intro x1 x2 x3; exact g_none
  | succ f ih => intro x1 x2 x3; exact t_X7_isOfKind_b4 ih
set_option maxHeartbeats 4000000 in
set_option maxRecDepth 100000 in
theorem t_X7_isOfKind {l : Launch} {sc : Nat × (Nat → Int32)} {D : Nat} {n : Nat} {σ : Mem} {x0 : Int32} {x1 : Int32} : G l sc (D + 0) m_X7_isOfKind 0 [(0, .int x0), (1, .int x1)] [] σ (f_X7_isOfKind n σ x0 x1) (fun y => (some (.int y), σ)) := by
  unfold f_X7_isOfKind
  refine g_iload_n (n := 0) d_X7_isOfKind_0 rfl rfl ?_
  refine g_istore_n d_X7_isOfKind_1 rfl (by decide) rfl ?_
  refine g_iconst (v := 0) d_X7_isOfKind_2 (by decide) ?_
  refine g_istore_n d_X7_isOfKind_3 rfl (by decide) rfl ?_
  refine g_sub [3, 1, 0] rfl ?_
  exact t_X7_isOfKind_l4  _ _ _ _
theorem e_X7_isOfKind {l : Launch} {D : Nat} {n : Nat} {σ : Mem} {x0 : Int32} {x1 : Int32} {y : Int32} (hy : f_X7_isOfKind n σ x0 x1 = some y) : EvM l (D + 0) m_X7_isOfKind [.int x0, .int x1] σ ((fun y => (some (.int y), σ)) y) :=
  evM_of (d := m_X7_isOfKind) (nL := 4) rfl (by decide +kernel) (fun h => absurd (congrArg MethodName.cls h) (by decide +kernel)) (Nat.le_of_ble_eq_true rfl) (t_X7_isOfKind y hy)

set_option maxHeartbeats 4000000 in
set_option maxRecDepth 100000 in
theorem t_X1_lentSize {l : Launch} {sc : Nat × (Nat → Int32)} {D : Nat} {σ : Mem} : G l sc (D + 1) m_X1_lentSize 0 [(0, .ref 75)] [] σ (f_X1_lentSize σ) (fun y => (some (.int y.1), y.2)) := by
  unfold f_X1_lentSize
  refine g_aload_n (n := 0) d_X1_lentSize_0 rfl rfl ?_
  refine g_bipush (v := 10) d_X1_lentSize_1 (by decide) ?_
  refine g_callv_vv (D := D + 0) (As := [.int 10]) d_X1_lentSize_3 sv_X1_56 ob_75 rfl (Nat.le_of_ble_eq_true rfl) rfl (fun _ hy => EvM_cast (by omega) (e_X1_begins (D := D + 0) hy)) (fun σ2 => ?_)
  refine g_aload_n (n := 0) d_X1_lentSize_6 rfl rfl ?_
  refine g_geti d_X1_lentSize_7 fl_X1_32 sh_75 rfl ?_
  exact g_iret d_X1_lentSize_10 (Or.inl rfl) rfl
theorem e_X1_lentSize {l : Launch} {D : Nat} {σ : Mem} {y : (Int32 × Mem)} (hy : f_X1_lentSize σ = some y) : EvM l (D + 1) m_X1_lentSize [.ref 75] σ ((fun y => (some (.int y.1), y.2)) y) :=
  evM_of (d := m_X1_lentSize) (nL := 1) rfl (by decide +kernel) (fun h => absurd (congrArg MethodName.cls h) (by decide +kernel)) (Nat.le_of_ble_eq_true rfl) (t_X1_lentSize y hy)

set_option maxHeartbeats 4000000 in
set_option maxRecDepth 100000 in
theorem t_X1_oldSize {l : Launch} {sc : Nat × (Nat → Int32)} {D : Nat} {σ : Mem} : G l sc (D + 2) m_X1_oldSize 0 [(0, .ref 75)] [] σ (f_X1_oldSize σ) (fun y => (some (.int y.1), y.2)) := by
  unfold f_X1_oldSize
  refine g_aload_n (n := 0) d_X1_oldSize_0 rfl rfl ?_
  refine g_bipush (v := 13) d_X1_oldSize_1 (by decide) ?_
  refine g_callv_vv (D := D + 1) (As := [.int 13]) d_X1_oldSize_3 sv_X1_56 ob_75 rfl (Nat.le_of_ble_eq_true rfl) rfl (fun _ hy => EvM_cast (by omega) (e_X1_begins (D := D + 1) hy)) (fun σ2 => ?_)
  refine g_aload_n (n := 0) d_X1_oldSize_6 rfl rfl ?_
  refine g_callv_ii (D := D + 1) (As := []) d_X1_oldSize_7 sv_X1_69 ob_75 rfl (Nat.le_of_ble_eq_true rfl) rfl (fun _ hy => EvM_cast (by omega) (e_X1_lentSize (D := D + 0) hy)) (fun y3 σ4 => ?_)
  refine g_bipush (v := 100) d_X1_oldSize_10 (by decide) ?_
  refine g_isub d_X1_oldSize_12 ?_
  exact g_iret d_X1_oldSize_13 (Or.inl rfl) rfl
theorem e_X1_oldSize {l : Launch} {D : Nat} {σ : Mem} {y : (Int32 × Mem)} (hy : f_X1_oldSize σ = some y) : EvM l (D + 2) m_X1_oldSize [.ref 75] σ ((fun y => (some (.int y.1), y.2)) y) :=
  evM_of (d := m_X1_oldSize) (nL := 1) rfl (by decide +kernel) (fun h => absurd (congrArg MethodName.cls h) (by decide +kernel)) (Nat.le_of_ble_eq_true rfl) (t_X1_oldSize y hy)

set_option maxHeartbeats 4000000 in
set_option maxRecDepth 100000 in
theorem t_X1_sizeAskedOfOld {l : Launch} {sc : Nat × (Nat → Int32)} {D : Nat} {σ : Mem} : G l sc (D + 3) m_X1_sizeAskedOfOld 0 [(0, .ref 75)] [] σ (f_X1_sizeAskedOfOld σ) (fun y => (some (.int y.1), y.2)) := by
  unfold f_X1_sizeAskedOfOld
  refine g_aload_n (n := 0) d_X1_sizeAskedOfOld_0 rfl rfl ?_
  refine g_geti d_X1_sizeAskedOfOld_1 fl_X1_24 sh_75 rfl ?_
  refine g_iconst (v := 5) d_X1_sizeAskedOfOld_4 (by decide) ?_
  refine g_icmp_ne (tgt := 21) d_X1_sizeAskedOfOld_5 (by decide) (fun c1 => ?_) (fun c1 => ?_)
  · refine g_aload_n (n := 0) d_X1_sizeAskedOfOld_21 rfl rfl ?_
    refine g_callv_ii (D := D + 2) (As := []) d_X1_sizeAskedOfOld_22 sv_X1_63 ob_75 rfl (Nat.le_of_ble_eq_true rfl) rfl (fun _ hy => EvM_cast (by omega) (e_X1_oldSize (D := D + 0) hy)) (fun y2 σ3 => ?_)
    exact g_iret d_X1_sizeAskedOfOld_25 (Or.inl rfl) rfl
  · refine g_aload_n (n := 0) d_X1_sizeAskedOfOld_8 rfl rfl ?_
    refine g_bipush (v := 14) d_X1_sizeAskedOfOld_9 (by decide) ?_
    refine g_callv_vv (D := D + 2) (As := [.int 14]) d_X1_sizeAskedOfOld_11 sv_X1_56 ob_75 rfl (Nat.le_of_ble_eq_true rfl) rfl (fun _ hy => EvM_cast (by omega) (e_X1_begins (D := D + 2) hy)) (fun σ5 => ?_)
    refine g_iconst (v := 2) d_X1_sizeAskedOfOld_14 (by decide) ?_
    refine g_aload_n (n := 0) d_X1_sizeAskedOfOld_15 rfl rfl ?_
    refine g_callv_ii (D := D + 2) (As := []) d_X1_sizeAskedOfOld_16 sv_X1_63 ob_75 rfl (Nat.le_of_ble_eq_true rfl) rfl (fun _ hy => EvM_cast (by omega) (e_X1_oldSize (D := D + 0) hy)) (fun y6 σ7 => ?_)
    refine g_imul d_X1_sizeAskedOfOld_19 ?_
    exact g_iret d_X1_sizeAskedOfOld_20 (Or.inl rfl) rfl
theorem e_X1_sizeAskedOfOld {l : Launch} {D : Nat} {σ : Mem} {y : (Int32 × Mem)} (hy : f_X1_sizeAskedOfOld σ = some y) : EvM l (D + 3) m_X1_sizeAskedOfOld [.ref 75] σ ((fun y => (some (.int y.1), y.2)) y) :=
  evM_of (d := m_X1_sizeAskedOfOld) (nL := 1) rfl (by decide +kernel) (fun h => absurd (congrArg MethodName.cls h) (by decide +kernel)) (Nat.le_of_ble_eq_true rfl) (t_X1_sizeAskedOfOld y hy)

set_option maxHeartbeats 4000000 in
set_option maxRecDepth 100000 in
theorem t_X1_lentMark {l : Launch} {sc : Nat × (Nat → Int32)} {D : Nat} {σ : Mem} : G l sc (D + 1) m_X1_lentMark 0 [(0, .ref 75)] [] σ (f_X1_lentMark σ) (fun y => (some (.int y.1), y.2)) := by
  unfold f_X1_lentMark
  refine g_aload_n (n := 0) d_X1_lentMark_0 rfl rfl ?_
  refine g_bipush (v := 20) d_X1_lentMark_1 (by decide) ?_
  refine g_callv_vv (D := D + 0) (As := [.int 20]) d_X1_lentMark_3 sv_X1_56 ob_75 rfl (Nat.le_of_ble_eq_true rfl) rfl (fun _ hy => EvM_cast (by omega) (e_X1_begins (D := D + 0) hy)) (fun σ2 => ?_)
  refine g_aload_n (n := 0) d_X1_lentMark_6 rfl rfl ?_
  refine g_geti d_X1_lentMark_7 fl_X1_26 sh_75 rfl ?_
  exact g_iret d_X1_lentMark_10 (Or.inl rfl) rfl
theorem e_X1_lentMark {l : Launch} {D : Nat} {σ : Mem} {y : (Int32 × Mem)} (hy : f_X1_lentMark σ = some y) : EvM l (D + 1) m_X1_lentMark [.ref 75] σ ((fun y => (some (.int y.1), y.2)) y) :=
  evM_of (d := m_X1_lentMark) (nL := 1) rfl (by decide +kernel) (fun h => absurd (congrArg MethodName.cls h) (by decide +kernel)) (Nat.le_of_ble_eq_true rfl) (t_X1_lentMark y hy)

set_option maxHeartbeats 4000000 in
set_option maxRecDepth 100000 in
theorem t_X1_freshMark {l : Launch} {sc : Nat × (Nat → Int32)} {D : Nat} {σ : Mem} : G l sc (D + 2) m_X1_freshMark 0 [(0, .ref 75)] [] σ (f_X1_freshMark σ) (fun y => (some (.int y.1), y.2)) := by
  unfold f_X1_freshMark
  refine g_aload_n (n := 0) d_X1_freshMark_0 rfl rfl ?_
  refine g_bipush (v := 21) d_X1_freshMark_1 (by decide) ?_
  refine g_callv_vv (D := D + 1) (As := [.int 21]) d_X1_freshMark_3 sv_X1_56 ob_75 rfl (Nat.le_of_ble_eq_true rfl) rfl (fun _ hy => EvM_cast (by omega) (e_X1_begins (D := D + 1) hy)) (fun σ2 => ?_)
  refine g_aload_n (n := 0) d_X1_freshMark_6 rfl rfl ?_
  refine g_callv_ii (D := D + 1) (As := []) d_X1_freshMark_7 sv_X1_72 ob_75 rfl (Nat.le_of_ble_eq_true rfl) rfl (fun _ hy => EvM_cast (by omega) (e_X1_lentMark (D := D + 0) hy)) (fun y3 σ4 => ?_)
  refine g_aload_n (n := 0) d_X1_freshMark_10 rfl rfl ?_
  refine g_geti d_X1_freshMark_11 fl_X1_37 sh_75 rfl ?_
  refine g_iadd d_X1_freshMark_14 ?_
  exact g_iret d_X1_freshMark_15 (Or.inl rfl) rfl
theorem e_X1_freshMark {l : Launch} {D : Nat} {σ : Mem} {y : (Int32 × Mem)} (hy : f_X1_freshMark σ = some y) : EvM l (D + 2) m_X1_freshMark [.ref 75] σ ((fun y => (some (.int y.1), y.2)) y) :=
  evM_of (d := m_X1_freshMark) (nL := 1) rfl (by decide +kernel) (fun h => absurd (congrArg MethodName.cls h) (by decide +kernel)) (Nat.le_of_ble_eq_true rfl) (t_X1_freshMark y hy)

set_option maxHeartbeats 4000000 in
set_option maxRecDepth 100000 in
theorem t_X1_markAskedOfFresh {l : Launch} {sc : Nat × (Nat → Int32)} {D : Nat} {σ : Mem} : G l sc (D + 3) m_X1_markAskedOfFresh 0 [(0, .ref 75)] [] σ (f_X1_markAskedOfFresh σ) (fun y => (some (.int y.1), y.2)) := by
  unfold f_X1_markAskedOfFresh
  refine g_aload_n (n := 0) d_X1_markAskedOfFresh_0 rfl rfl ?_
  refine g_geti d_X1_markAskedOfFresh_1 fl_X1_24 sh_75 rfl ?_
  refine g_iconst (v := 2) d_X1_markAskedOfFresh_4 (by decide) ?_
  refine g_icmp_ne (tgt := 21) d_X1_markAskedOfFresh_5 (by decide) (fun c1 => ?_) (fun c1 => ?_)
  · refine g_aload_n (n := 0) d_X1_markAskedOfFresh_21 rfl rfl ?_
    refine g_geti d_X1_markAskedOfFresh_22 fl_X1_24 sh_75 rfl ?_
    refine g_iconst (v := 3) d_X1_markAskedOfFresh_25 (by decide) ?_
    refine g_icmp_ne (tgt := 44) d_X1_markAskedOfFresh_26 (by decide) (fun c2 => ?_) (fun c2 => ?_)
    · refine g_aload_n (n := 0) d_X1_markAskedOfFresh_44 rfl rfl ?_
      refine g_callv_ii (D := D + 2) (As := []) d_X1_markAskedOfFresh_45 sv_X1_66 ob_75 rfl (Nat.le_of_ble_eq_true rfl) rfl (fun _ hy => EvM_cast (by omega) (e_X1_freshMark (D := D + 0) hy)) (fun y3 σ4 => ?_)
      exact g_iret d_X1_markAskedOfFresh_48 (Or.inl rfl) rfl
    · refine g_aload_n (n := 0) d_X1_markAskedOfFresh_29 rfl rfl ?_
      refine g_bipush (v := 22) d_X1_markAskedOfFresh_30 (by decide) ?_
      refine g_callv_vv (D := D + 2) (As := [.int 22]) d_X1_markAskedOfFresh_32 sv_X1_56 ob_75 rfl (Nat.le_of_ble_eq_true rfl) rfl (fun _ hy => EvM_cast (by omega) (e_X1_begins (D := D + 2) hy)) (fun σ6 => ?_)
      refine g_aload_n (n := 0) d_X1_markAskedOfFresh_35 rfl rfl ?_
      refine g_callv_ii (D := D + 2) (As := []) d_X1_markAskedOfFresh_36 sv_X1_66 ob_75 rfl (Nat.le_of_ble_eq_true rfl) rfl (fun _ hy => EvM_cast (by omega) (e_X1_freshMark (D := D + 0) hy)) (fun y7 σ8 => ?_)
      refine g_sipush (v := 1000) d_X1_markAskedOfFresh_39 (by decide) ?_
      refine g_isub d_X1_markAskedOfFresh_42 ?_
      exact g_iret d_X1_markAskedOfFresh_43 (Or.inl rfl) rfl
  · refine g_aload_n (n := 0) d_X1_markAskedOfFresh_8 rfl rfl ?_
    refine g_bipush (v := 24) d_X1_markAskedOfFresh_9 (by decide) ?_
    refine g_callv_vv (D := D + 2) (As := [.int 24]) d_X1_markAskedOfFresh_11 sv_X1_56 ob_75 rfl (Nat.le_of_ble_eq_true rfl) rfl (fun _ hy => EvM_cast (by omega) (e_X1_begins (D := D + 2) hy)) (fun σ10 => ?_)
    refine g_iconst (v := 2) d_X1_markAskedOfFresh_14 (by decide) ?_
    refine g_aload_n (n := 0) d_X1_markAskedOfFresh_15 rfl rfl ?_
    refine g_callv_ii (D := D + 2) (As := []) d_X1_markAskedOfFresh_16 sv_X1_66 ob_75 rfl (Nat.le_of_ble_eq_true rfl) rfl (fun _ hy => EvM_cast (by omega) (e_X1_freshMark (D := D + 0) hy)) (fun y11 σ12 => ?_)
    refine g_imul d_X1_markAskedOfFresh_19 ?_
    exact g_iret d_X1_markAskedOfFresh_20 (Or.inl rfl) rfl
theorem e_X1_markAskedOfFresh {l : Launch} {D : Nat} {σ : Mem} {y : (Int32 × Mem)} (hy : f_X1_markAskedOfFresh σ = some y) : EvM l (D + 3) m_X1_markAskedOfFresh [.ref 75] σ ((fun y => (some (.int y.1), y.2)) y) :=
  evM_of (d := m_X1_markAskedOfFresh) (nL := 1) rfl (by decide +kernel) (fun h => absurd (congrArg MethodName.cls h) (by decide +kernel)) (Nat.le_of_ble_eq_true rfl) (t_X1_markAskedOfFresh y hy)

set_option maxHeartbeats 4000000 in
set_option maxRecDepth 100000 in
theorem t_X1_freshSize {l : Launch} {sc : Nat × (Nat → Int32)} {D : Nat} {σ : Mem} : G l sc (D + 4) m_X1_freshSize 0 [(0, .ref 75)] [] σ (f_X1_freshSize σ) (fun y => (some (.int y.1), y.2)) := by
  unfold f_X1_freshSize
  refine g_aload_n (n := 0) d_X1_freshSize_0 rfl rfl ?_
  refine g_bipush (v := 11) d_X1_freshSize_1 (by decide) ?_
  refine g_callv_vv (D := D + 3) (As := [.int 11]) d_X1_freshSize_3 sv_X1_56 ob_75 rfl (Nat.le_of_ble_eq_true rfl) rfl (fun _ hy => EvM_cast (by omega) (e_X1_begins (D := D + 3) hy)) (fun σ2 => ?_)
  refine g_aload_n (n := 0) d_X1_freshSize_6 rfl rfl ?_
  refine g_callv_ii (D := D + 3) (As := []) d_X1_freshSize_7 sv_X1_69 ob_75 rfl (Nat.le_of_ble_eq_true rfl) rfl (fun _ hy => EvM_cast (by omega) (e_X1_lentSize (D := D + 2) hy)) (fun y3 σ4 => ?_)
  refine g_istore_n d_X1_freshSize_10 rfl (by decide) rfl ?_
  refine g_iload_n (n := 0) d_X1_freshSize_11 rfl rfl ?_
  refine g_aload_n (n := 1) d_X1_freshSize_12 rfl rfl ?_
  refine g_callv_ii (D := D + 3) (As := []) d_X1_freshSize_13 sv_X1_53 ob_75 rfl (Nat.le_of_ble_eq_true rfl) rfl (fun _ hy => EvM_cast (by omega) (e_X1_markAskedOfFresh (D := D + 0) hy)) (fun y5 σ6 => ?_)
  refine g_iadd d_X1_freshSize_16 ?_
  exact g_iret d_X1_freshSize_17 (Or.inl rfl) rfl
theorem e_X1_freshSize {l : Launch} {D : Nat} {σ : Mem} {y : (Int32 × Mem)} (hy : f_X1_freshSize σ = some y) : EvM l (D + 4) m_X1_freshSize [.ref 75] σ ((fun y => (some (.int y.1), y.2)) y) :=
  evM_of (d := m_X1_freshSize) (nL := 2) rfl (by decide +kernel) (fun h => absurd (congrArg MethodName.cls h) (by decide +kernel)) (Nat.le_of_ble_eq_true rfl) (t_X1_freshSize y hy)

set_option maxHeartbeats 4000000 in
set_option maxRecDepth 100000 in
theorem t_X1_sizeAskedOfFresh {l : Launch} {sc : Nat × (Nat → Int32)} {D : Nat} {σ : Mem} : G l sc (D + 5) m_X1_sizeAskedOfFresh 0 [(0, .ref 75)] [] σ (f_X1_sizeAskedOfFresh σ) (fun y => (some (.int y.1), y.2)) := by
  unfold f_X1_sizeAskedOfFresh
  refine g_aload_n (n := 0) d_X1_sizeAskedOfFresh_0 rfl rfl ?_
  refine g_geti d_X1_sizeAskedOfFresh_1 fl_X1_24 sh_75 rfl ?_
  refine g_iconst (v := 2) d_X1_sizeAskedOfFresh_4 (by decide) ?_
  refine g_icmp_ne (tgt := 20) d_X1_sizeAskedOfFresh_5 (by decide) (fun c1 => ?_) (fun c1 => ?_)
  · refine g_aload_n (n := 0) d_X1_sizeAskedOfFresh_20 rfl rfl ?_
    refine g_callv_ii (D := D + 4) (As := []) d_X1_sizeAskedOfFresh_21 sv_X1_60 ob_75 rfl (Nat.le_of_ble_eq_true rfl) rfl (fun _ hy => EvM_cast (by omega) (e_X1_freshSize (D := D + 0) hy)) (fun y2 σ3 => ?_)
    exact g_iret d_X1_sizeAskedOfFresh_24 (Or.inl rfl) rfl
  · refine g_aload_n (n := 0) d_X1_sizeAskedOfFresh_8 rfl rfl ?_
    refine g_bipush (v := 12) d_X1_sizeAskedOfFresh_9 (by decide) ?_
    refine g_callv_vv (D := D + 4) (As := [.int 12]) d_X1_sizeAskedOfFresh_11 sv_X1_56 ob_75 rfl (Nat.le_of_ble_eq_true rfl) rfl (fun _ hy => EvM_cast (by omega) (e_X1_begins (D := D + 4) hy)) (fun σ5 => ?_)
    refine g_aload_n (n := 0) d_X1_sizeAskedOfFresh_14 rfl rfl ?_
    refine g_callv_ii (D := D + 4) (As := []) d_X1_sizeAskedOfFresh_15 sv_X1_60 ob_75 rfl (Nat.le_of_ble_eq_true rfl) rfl (fun _ hy => EvM_cast (by omega) (e_X1_freshSize (D := D + 0) hy)) (fun y6 σ7 => ?_)
    refine g_ineg d_X1_sizeAskedOfFresh_18 ?_
    exact g_iret d_X1_sizeAskedOfFresh_19 (Or.inl rfl) rfl
theorem e_X1_sizeAskedOfFresh {l : Launch} {D : Nat} {σ : Mem} {y : (Int32 × Mem)} (hy : f_X1_sizeAskedOfFresh σ = some y) : EvM l (D + 5) m_X1_sizeAskedOfFresh [.ref 75] σ ((fun y => (some (.int y.1), y.2)) y) :=
  evM_of (d := m_X1_sizeAskedOfFresh) (nL := 1) rfl (by decide +kernel) (fun h => absurd (congrArg MethodName.cls h) (by decide +kernel)) (Nat.le_of_ble_eq_true rfl) (t_X1_sizeAskedOfFresh y hy)

set_option maxHeartbeats 4000000 in
set_option maxRecDepth 100000 in
theorem t_X1_sizeAsked {l : Launch} {sc : Nat × (Nat → Int32)} {D : Nat} {n : Nat} {σ : Mem} : G l sc (D + 6) m_X1_sizeAsked 0 [(0, .ref 75)] [] σ (f_X1_sizeAsked n σ) (fun y => (some (.int y.1), y.2)) := by
  unfold f_X1_sizeAsked
  refine g_aload_n (n := 0) d_X1_sizeAsked_0 rfl rfl ?_
  refine g_geti d_X1_sizeAsked_1 fl_X1_24 sh_75 rfl ?_
  refine g_iconst (v := 4) d_X1_sizeAsked_4 (by decide) ?_
  refine g_calls_pi (D := D + 5) (As := [.int (σ 75 2), .int 4]) d_X1_sizeAsked_5 ss_X1_39 rfl (Nat.le_of_ble_eq_true rfl) rfl (fun _ hy => EvM_cast (by omega) (e_X7_isOfKind (D := D + 5) hy)) (fun y1 => ?_)
  refine g_if_eq (tgt := 18) d_X1_sizeAsked_8 (by decide) (fun c2 => ?_) (fun c2 => ?_)
  · refine g_aload_n (n := 0) d_X1_sizeAsked_18 rfl rfl ?_
    refine g_callv_ii (D := D + 5) (As := []) d_X1_sizeAsked_19 sv_X1_47 ob_75 rfl (Nat.le_of_ble_eq_true rfl) rfl (fun _ hy => EvM_cast (by omega) (e_X1_sizeAskedOfFresh (D := D + 0) hy)) (fun y3 σ4 => ?_)
    exact g_iret d_X1_sizeAsked_22 (Or.inl rfl) rfl
  · refine g_aload_n (n := 0) d_X1_sizeAsked_11 rfl rfl ?_
    refine g_callv_ii (D := D + 5) (As := []) d_X1_sizeAsked_12 sv_X1_43 ob_75 rfl (Nat.le_of_ble_eq_true rfl) rfl (fun _ hy => EvM_cast (by omega) (e_X1_sizeAskedOfOld (D := D + 2) hy)) (fun y5 σ6 => ?_)
    refine g_goto (tgt := 22) d_X1_sizeAsked_15 (by decide) ?_
    exact g_iret d_X1_sizeAsked_22 (Or.inl rfl) rfl
theorem e_X1_sizeAsked {l : Launch} {D : Nat} {n : Nat} {σ : Mem} {y : (Int32 × Mem)} (hy : f_X1_sizeAsked n σ = some y) : EvM l (D + 6) m_X1_sizeAsked [.ref 75] σ ((fun y => (some (.int y.1), y.2)) y) :=
  evM_of (d := m_X1_sizeAsked) (nL := 1) rfl (by decide +kernel) (fun h => absurd (congrArg MethodName.cls h) (by decide +kernel)) (Nat.le_of_ble_eq_true rfl) (t_X1_sizeAsked y hy)

set_option maxHeartbeats 4000000 in
set_option maxRecDepth 100000 in
theorem t_X1_oldMark {l : Launch} {sc : Nat × (Nat → Int32)} {D : Nat} {σ : Mem} : G l sc (D + 4) m_X1_oldMark 0 [(0, .ref 75)] [] σ (f_X1_oldMark σ) (fun y => (some (.int y.1), y.2)) := by
  unfold f_X1_oldMark
  refine g_aload_n (n := 0) d_X1_oldMark_0 rfl rfl ?_
  refine g_bipush (v := 23) d_X1_oldMark_1 (by decide) ?_
  refine g_callv_vv (D := D + 3) (As := [.int 23]) d_X1_oldMark_3 sv_X1_56 ob_75 rfl (Nat.le_of_ble_eq_true rfl) rfl (fun _ hy => EvM_cast (by omega) (e_X1_begins (D := D + 3) hy)) (fun σ2 => ?_)
  refine g_aload_n (n := 0) d_X1_oldMark_6 rfl rfl ?_
  refine g_callv_ii (D := D + 3) (As := []) d_X1_oldMark_7 sv_X1_72 ob_75 rfl (Nat.le_of_ble_eq_true rfl) rfl (fun _ hy => EvM_cast (by omega) (e_X1_lentMark (D := D + 2) hy)) (fun y3 σ4 => ?_)
  refine g_istore_n d_X1_oldMark_10 rfl (by decide) rfl ?_
  refine g_iload_n (n := 0) d_X1_oldMark_11 rfl rfl ?_
  refine g_aload_n (n := 1) d_X1_oldMark_12 rfl rfl ?_
  refine g_callv_ii (D := D + 3) (As := []) d_X1_oldMark_13 sv_X1_43 ob_75 rfl (Nat.le_of_ble_eq_true rfl) rfl (fun _ hy => EvM_cast (by omega) (e_X1_sizeAskedOfOld (D := D + 0) hy)) (fun y5 σ6 => ?_)
  refine g_isub d_X1_oldMark_16 ?_
  exact g_iret d_X1_oldMark_17 (Or.inl rfl) rfl
theorem e_X1_oldMark {l : Launch} {D : Nat} {σ : Mem} {y : (Int32 × Mem)} (hy : f_X1_oldMark σ = some y) : EvM l (D + 4) m_X1_oldMark [.ref 75] σ ((fun y => (some (.int y.1), y.2)) y) :=
  evM_of (d := m_X1_oldMark) (nL := 2) rfl (by decide +kernel) (fun h => absurd (congrArg MethodName.cls h) (by decide +kernel)) (Nat.le_of_ble_eq_true rfl) (t_X1_oldMark y hy)

set_option maxHeartbeats 4000000 in
set_option maxRecDepth 100000 in
theorem t_X1_markAsked {l : Launch} {sc : Nat × (Nat → Int32)} {D : Nat} {n : Nat} {σ : Mem} : G l sc (D + 5) m_X1_markAsked 0 [(0, .ref 75)] [] σ (f_X1_markAsked n σ) (fun y => (some (.int y.1), y.2)) := by
  unfold f_X1_markAsked
  refine g_aload_n (n := 0) d_X1_markAsked_0 rfl rfl ?_
  refine g_geti d_X1_markAsked_1 fl_X1_24 sh_75 rfl ?_
  refine g_iconst (v := 4) d_X1_markAsked_4 (by decide) ?_
  refine g_calls_pi (D := D + 4) (As := [.int (σ 75 2), .int 4]) d_X1_markAsked_5 ss_X1_39 rfl (Nat.le_of_ble_eq_true rfl) rfl (fun _ hy => EvM_cast (by omega) (e_X7_isOfKind (D := D + 4) hy)) (fun y1 => ?_)
  refine g_if_eq (tgt := 18) d_X1_markAsked_8 (by decide) (fun c2 => ?_) (fun c2 => ?_)
  · refine g_aload_n (n := 0) d_X1_markAsked_18 rfl rfl ?_
    refine g_callv_ii (D := D + 4) (As := []) d_X1_markAsked_19 sv_X1_53 ob_75 rfl (Nat.le_of_ble_eq_true rfl) rfl (fun _ hy => EvM_cast (by omega) (e_X1_markAskedOfFresh (D := D + 1) hy)) (fun y3 σ4 => ?_)
    exact g_iret d_X1_markAsked_22 (Or.inl rfl) rfl
  · refine g_aload_n (n := 0) d_X1_markAsked_11 rfl rfl ?_
    refine g_callv_ii (D := D + 4) (As := []) d_X1_markAsked_12 sv_X1_50 ob_75 rfl (Nat.le_of_ble_eq_true rfl) rfl (fun _ hy => EvM_cast (by omega) (e_X1_oldMark (D := D + 0) hy)) (fun y5 σ6 => ?_)
    refine g_goto (tgt := 22) d_X1_markAsked_15 (by decide) ?_
    exact g_iret d_X1_markAsked_22 (Or.inl rfl) rfl
theorem e_X1_markAsked {l : Launch} {D : Nat} {n : Nat} {σ : Mem} {y : (Int32 × Mem)} (hy : f_X1_markAsked n σ = some y) : EvM l (D + 5) m_X1_markAsked [.ref 75] σ ((fun y => (some (.int y.1), y.2)) y) :=
  evM_of (d := m_X1_markAsked) (nL := 1) rfl (by decide +kernel) (fun h => absurd (congrArg MethodName.cls h) (by decide +kernel)) (Nat.le_of_ble_eq_true rfl) (t_X1_markAsked y hy)

set_option maxHeartbeats 4000000 in
set_option maxRecDepth 100000 in
theorem t_X2_isNumber {l : Launch} {sc : Nat × (Nat → Int32)} {D : Nat} {σ : Mem} {x0 : Int32} : G l sc (D + 0) m_X2_isNumber 0 [(0, .int x0)] [] σ (f_X2_isNumber σ x0) (fun y => (some (.int y), σ)) := by
  unfold f_X2_isNumber
  refine g_iload_n (n := 0) d_X2_isNumber_0 rfl rfl ?_
  refine g_if_lt (tgt := 14) d_X2_isNumber_1 (by decide) (fun c1 => ?_) (fun c1 => ?_)
  · refine g_iconst (v := 0) d_X2_isNumber_14 (by decide) ?_
    exact g_iret d_X2_isNumber_15 (Or.inr ⟨rfl, rfl⟩) rfl
  · refine g_iload_n (n := 0) d_X2_isNumber_4 rfl rfl ?_
    refine g_bipush (v := 8) d_X2_isNumber_5 (by decide) ?_
    refine g_icmp_ge (tgt := 14) d_X2_isNumber_7 (by decide) (fun c2 => ?_) (fun c2 => ?_)
    · refine g_iconst (v := 0) d_X2_isNumber_14 (by decide) ?_
      exact g_iret d_X2_isNumber_15 (Or.inr ⟨rfl, rfl⟩) rfl
    · refine g_iconst (v := 1) d_X2_isNumber_10 (by decide) ?_
      refine g_goto (tgt := 15) d_X2_isNumber_11 (by decide) ?_
      exact g_iret d_X2_isNumber_15 (Or.inr ⟨rfl, rfl⟩) rfl
theorem e_X2_isNumber {l : Launch} {D : Nat} {σ : Mem} {x0 : Int32} {y : Int32} (hy : f_X2_isNumber σ x0 = some y) : EvM l (D + 0) m_X2_isNumber [.int x0] σ ((fun y => (some (.int y), σ)) y) :=
  evM_of (d := m_X2_isNumber) (nL := 1) rfl (by decide +kernel) (fun h => absurd (congrArg MethodName.cls h) (by decide +kernel)) (Nat.le_of_ble_eq_true rfl) (t_X2_isNumber y hy)

set_option maxHeartbeats 4000000 in
set_option maxRecDepth 100000 in
theorem t_X2_isMissing {l : Launch} {sc : Nat × (Nat → Int32)} {D : Nat} {σ : Mem} {x1 : Int32} : G l sc (D + 0) m_X2_isMissing 0 [(0, .ref 1), (1, .int x1)] [] σ (f_X2_isMissing σ x1) (fun y => (some (.int y), σ)) := by
  unfold f_X2_isMissing
  refine g_aload_n (n := 0) d_X2_isMissing_0 rfl rfl ?_
  refine g_getr d_X2_isMissing_1 fl_X2_11 sh_1 rfl ?_
  refine g_iload_n (n := 1) d_X2_isMissing_4 rfl rfl ?_
  refine g_iaload d_X2_isMissing_5 sh_2 (fun _ => ?_)
  refine g_iconst (v := -1) d_X2_isMissing_6 (by decide) ?_
  refine g_icmp_ne (tgt := 14) d_X2_isMissing_7 (by decide) (fun c1 => ?_) (fun c1 => ?_)
  · refine g_iconst (v := 0) d_X2_isMissing_14 (by decide) ?_
    exact g_iret d_X2_isMissing_15 (Or.inr ⟨rfl, rfl⟩) rfl
  · refine g_iconst (v := 1) d_X2_isMissing_10 (by decide) ?_
    refine g_goto (tgt := 15) d_X2_isMissing_11 (by decide) ?_
    exact g_iret d_X2_isMissing_15 (Or.inr ⟨rfl, rfl⟩) rfl
theorem e_X2_isMissing {l : Launch} {D : Nat} {σ : Mem} {x1 : Int32} {y : Int32} (hy : f_X2_isMissing σ x1 = some y) : EvM l (D + 0) m_X2_isMissing [.ref 1, .int x1] σ ((fun y => (some (.int y), σ)) y) :=
  evM_of (d := m_X2_isMissing) (nL := 2) rfl (by decide +kernel) (fun h => absurd (congrArg MethodName.cls h) (by decide +kernel)) (Nat.le_of_ble_eq_true rfl) (t_X2_isMissing y hy)

set_option maxHeartbeats 4000000 in
set_option maxRecDepth 100000 in
theorem t_X2_hasSpan {l : Launch} {sc : Nat × (Nat → Int32)} {D : Nat} {σ : Mem} {x1 : Int32} {x2 : Int32} {x3 : Int32} : G l sc (D + 0) m_X2_hasSpan 0 [(0, .ref 1), (1, .int x1), (2, .int x2), (3, .int x3)] [] σ (f_X2_hasSpan σ x1 x2 x3) (fun y => (some (.int y), σ)) := by
  unfold f_X2_hasSpan
  refine g_iload_n (n := 2) d_X2_hasSpan_0 rfl rfl ?_
  refine g_if_lt (tgt := 24) d_X2_hasSpan_1 (by decide) (fun c1 => ?_) (fun c1 => ?_)
  · refine g_iconst (v := 0) d_X2_hasSpan_24 (by decide) ?_
    exact g_iret d_X2_hasSpan_25 (Or.inr ⟨rfl, rfl⟩) rfl
  · refine g_iload_n (n := 3) d_X2_hasSpan_4 rfl rfl ?_
    refine g_if_lt (tgt := 24) d_X2_hasSpan_5 (by decide) (fun c2 => ?_) (fun c2 => ?_)
    · refine g_iconst (v := 0) d_X2_hasSpan_24 (by decide) ?_
      exact g_iret d_X2_hasSpan_25 (Or.inr ⟨rfl, rfl⟩) rfl
    · refine g_iload_n (n := 2) d_X2_hasSpan_8 rfl rfl ?_
      refine g_aload_n (n := 0) d_X2_hasSpan_9 rfl rfl ?_
      refine g_getr d_X2_hasSpan_10 fl_X2_15 sh_1 rfl ?_
      refine g_iload_n (n := 1) d_X2_hasSpan_13 rfl rfl ?_
      refine g_iaload d_X2_hasSpan_14 sh_3 (fun _ => ?_)
      refine g_iload_n (n := 3) d_X2_hasSpan_15 rfl rfl ?_
      refine g_isub d_X2_hasSpan_16 ?_
      refine g_icmp_gt (tgt := 24) d_X2_hasSpan_17 (by decide) (fun c3 => ?_) (fun c3 => ?_)
      · refine g_iconst (v := 0) d_X2_hasSpan_24 (by decide) ?_
        exact g_iret d_X2_hasSpan_25 (Or.inr ⟨rfl, rfl⟩) rfl
      · refine g_iconst (v := 1) d_X2_hasSpan_20 (by decide) ?_
        refine g_goto (tgt := 25) d_X2_hasSpan_21 (by decide) ?_
        exact g_iret d_X2_hasSpan_25 (Or.inr ⟨rfl, rfl⟩) rfl
theorem e_X2_hasSpan {l : Launch} {D : Nat} {σ : Mem} {x1 : Int32} {x2 : Int32} {x3 : Int32} {y : Int32} (hy : f_X2_hasSpan σ x1 x2 x3 = some y) : EvM l (D + 0) m_X2_hasSpan [.ref 1, .int x1, .int x2, .int x3] σ ((fun y => (some (.int y), σ)) y) :=
  evM_of (d := m_X2_hasSpan) (nL := 4) rfl (by decide +kernel) (fun h => absurd (congrArg MethodName.cls h) (by decide +kernel)) (Nat.le_of_ble_eq_true rfl) (t_X2_hasSpan y hy)

set_option maxHeartbeats 4000000 in
set_option maxRecDepth 100000 in
theorem t_X2_findingOf {l : Launch} {sc : Nat × (Nat → Int32)} {D : Nat} {σ : Mem} {x1 : Int32} {x2 : Int32} {x3 : Int32} : G l sc (D + 1) m_X2_findingOf 0 [(0, .ref 1), (1, .int x1), (2, .int x2), (3, .int x3)] [] σ (f_X2_findingOf σ x1 x2 x3) (fun y => (some (.int y), σ)) := by
  unfold f_X2_findingOf
  refine g_aload_n (n := 0) d_X2_findingOf_0 rfl rfl ?_
  refine g_iload_n (n := 1) d_X2_findingOf_1 rfl rfl ?_
  refine g_callv_pi (D := D + 0) (As := [.int x1]) d_X2_findingOf_2 sv_X2_29 ob_1 rfl (Nat.le_of_ble_eq_true rfl) rfl (fun _ hy => EvM_cast (by omega) (e_X2_isMissing (D := D + 0) hy)) (fun y1 => ?_)
  refine g_if_eq (tgt := 10) d_X2_findingOf_5 (by decide) (fun c2 => ?_) (fun c2 => ?_)
  · refine g_aload_n (n := 0) d_X2_findingOf_10 rfl rfl ?_
    refine g_iload_n (n := 1) d_X2_findingOf_11 rfl rfl ?_
    refine g_iload_n (n := 2) d_X2_findingOf_12 rfl rfl ?_
    refine g_iload_n (n := 3) d_X2_findingOf_13 rfl rfl ?_
    refine g_callv_pi (D := D + 0) (As := [.int x1, .int x2, .int x3]) d_X2_findingOf_14 sv_X2_33 ob_1 rfl (Nat.le_of_ble_eq_true rfl) rfl (fun _ hy => EvM_cast (by omega) (e_X2_hasSpan (D := D + 0) hy)) (fun y3 => ?_)
    refine g_if_eq (tgt := 24) d_X2_findingOf_17 (by decide) (fun c4 => ?_) (fun c4 => ?_)
    · refine g_iconst (v := 2) d_X2_findingOf_24 (by decide) ?_
      exact g_iret d_X2_findingOf_25 (Or.inl rfl) rfl
    · refine g_iconst (v := 0) d_X2_findingOf_20 (by decide) ?_
      refine g_goto (tgt := 25) d_X2_findingOf_21 (by decide) ?_
      exact g_iret d_X2_findingOf_25 (Or.inl rfl) rfl
  · refine g_iconst (v := 1) d_X2_findingOf_8 (by decide) ?_
    exact g_iret d_X2_findingOf_9 (Or.inl rfl) rfl
theorem e_X2_findingOf {l : Launch} {D : Nat} {σ : Mem} {x1 : Int32} {x2 : Int32} {x3 : Int32} {y : Int32} (hy : f_X2_findingOf σ x1 x2 x3 = some y) : EvM l (D + 1) m_X2_findingOf [.ref 1, .int x1, .int x2, .int x3] σ ((fun y => (some (.int y), σ)) y) :=
  evM_of (d := m_X2_findingOf) (nL := 4) rfl (by decide +kernel) (fun h => absurd (congrArg MethodName.cls h) (by decide +kernel)) (Nat.le_of_ble_eq_true rfl) (t_X2_findingOf y hy)

set_option maxHeartbeats 4000000 in
set_option maxRecDepth 100000 in
theorem t_J7_fill_53178_b5 {l : Launch} {sc : Nat × (Nat → Int32)} {D : Nat} {n : Nat} {k5 : Nat → Int32 → Int32 → Int32 → Mem → Option Mem} {x0 : Nat} {x1 : Int32} {x2 : Int32} {x3 : Int32} {σ : Mem} (hk5 : ∀ x0 x1 x2 x3 σ, G l sc (D + 0) m_J7_fill_53178 5 [(0, .ref x0), (1, .int x1), (2, .int x2), (3, .int x3)] [] σ (k5 x0 x1 x2 x3 σ) (fun τ => (none, τ))) : G l sc (D + 0) m_J7_fill_53178 5 [(0, .ref x0), (1, .int x1), (2, .int x2), (3, .int x3)] [] σ (f_J7_fill_53178_b5 n k5 x0 x1 x2 x3 σ) (fun τ => (none, τ)) := by
  unfold f_J7_fill_53178_b5
  refine g_iload_n (n := 2) d_J7_fill_53178_5 rfl rfl ?_
  refine g_iload_n (n := 3) d_J7_fill_53178_6 rfl rfl ?_
  refine g_icmp_ge (tgt := 20) d_J7_fill_53178_7 (by decide) (fun c1 => ?_) (fun c1 => ?_)
  · exact g_vret d_J7_fill_53178_20 rfl rfl
  · refine g_aload_n (n := 0) d_J7_fill_53178_10 rfl rfl ?_
    refine g_iload_n (n := 2) d_J7_fill_53178_11 rfl rfl ?_
    refine g_iload_n (n := 1) d_J7_fill_53178_12 rfl rfl ?_
    refine g_guard (fun h2 => ?_)
    refine g_iastore d_J7_fill_53178_13 (shp_IA h2) (fun _ => ?_)
    refine g_mem (fun σ3 => ?_)
    refine g_iinc (n := 2) (w := 1) d_J7_fill_53178_14 rfl (by decide) (by decide) rfl ?_
    refine g_goto (tgt := 5) d_J7_fill_53178_17 (by decide) ?_
    refine g_sub [1, 2, 0, 3] rfl ?_
    exact hk5 _ _ _ _ _
set_option maxHeartbeats 4000000 in
set_option maxRecDepth 100000 in
theorem t_J7_fill_53178_l5 {l : Launch} {sc : Nat × (Nat → Int32)} {D : Nat} {n : Nat} : ∀ (f : Nat) (x0 : Nat) (x1 : Int32) (x2 : Int32) (x3 : Int32) (σ : Mem), G l sc (D + 0) m_J7_fill_53178 5 [(0, .ref x0), (1, .int x1), (2, .int x2), (3, .int x3)] [] σ (f_J7_fill_53178_l5 n f x0 x1 x2 x3 σ) (fun τ => (none, τ)) := by
  intro f
  induction f with
  | zero => intro x0 x1 x2 x3 σ; exact g_none
  | succ f ih => intro x0 x1 x2 x3 σ; exact t_J7_fill_53178_b5 ih
set_option maxHeartbeats 4000000 in
set_option maxRecDepth 100000 in
theorem t_J7_fill_53178 {l : Launch} {sc : Nat × (Nat → Int32)} {D : Nat} {n : Nat} {x0 : Nat} {x1 : Int32} {σ : Mem} : G l sc (D + 0) m_J7_fill_53178 0 [(0, .ref x0), (1, .int x1)] [] σ (f_J7_fill_53178 n x0 x1 σ) (fun τ => (none, τ)) := by
  unfold f_J7_fill_53178
  refine g_iconst (v := 0) d_J7_fill_53178_0 (by decide) ?_
  refine g_istore_n d_J7_fill_53178_1 rfl (by decide) rfl ?_
  refine g_aload_n (n := 1) d_J7_fill_53178_2 rfl rfl ?_
  refine g_guard (fun h1 => ?_)
  refine g_alen d_J7_fill_53178_3 (shp_IA h1) rfl ?_
  refine g_nm (fun y2 => ?_)
  refine g_istore_n d_J7_fill_53178_4 rfl (by decide) rfl ?_
  refine g_sub [2, 3, 1, 0] rfl ?_
  exact t_J7_fill_53178_l5  _ _ _ _ _ _
theorem e_J7_fill_53178 {l : Launch} {D : Nat} {n : Nat} {x0 : Nat} {x1 : Int32} {σ : Mem} {y : Mem} (hy : f_J7_fill_53178 n x0 x1 σ = some y) : EvM l (D + 0) m_J7_fill_53178 [.ref x0, .int x1] σ ((fun τ => (none, τ)) y) :=
  evM_of (d := m_J7_fill_53178) (nL := 4) rfl (by decide +kernel) (fun h => absurd (congrArg MethodName.cls h) (by decide +kernel)) (Nat.le_of_ble_eq_true rfl) (t_J7_fill_53178 y hy)

set_option maxHeartbeats 4000000 in
set_option maxRecDepth 100000 in
theorem t_X2_lay {l : Launch} {sc : Nat × (Nat → Int32)} {D : Nat} {n : Nat} {x1 : Int32} {x2 : Int32} {x3 : Int32} {σ : Mem} : G l sc (D + 1) m_X2_lay 0 [(0, .ref 1), (1, .int x1), (2, .int x2), (3, .int x3)] [] σ (f_X2_lay n x1 x2 x3 σ) (fun τ => (none, τ)) := by
  unfold f_X2_lay
  refine g_aload_n (n := 0) d_X2_lay_0 rfl rfl ?_
  refine g_getr d_X2_lay_1 fl_X2_11 sh_1 rfl ?_
  refine g_iload_n (n := 1) d_X2_lay_4 rfl rfl ?_
  refine g_iload_n (n := 2) d_X2_lay_5 rfl rfl ?_
  refine g_iastore d_X2_lay_6 sh_2 (fun _ => ?_)
  refine g_mem (fun σ1 => ?_)
  refine g_aload_n (n := 0) d_X2_lay_7 rfl rfl ?_
  refine g_getr d_X2_lay_8 fl_X2_15 sh_1 rfl ?_
  refine g_iload_n (n := 1) d_X2_lay_11 rfl rfl ?_
  refine g_iload_n (n := 3) d_X2_lay_12 rfl rfl ?_
  refine g_iastore d_X2_lay_13 sh_3 (fun _ => ?_)
  refine g_mem (fun σ2 => ?_)
  refine g_aload_n (n := 0) d_X2_lay_14 rfl rfl ?_
  refine g_getr d_X2_lay_15 fl_X2_20 sh_1 rfl ?_
  refine g_iload_n (n := 1) d_X2_lay_18 rfl rfl ?_
  refine g_aaload d_X2_lay_19 sh_4 (fun h3 => ?_)
  refine g_iconst (v := 0) d_X2_lay_20 (by decide) ?_
  refine g_calls_vv (D := D + 0) (As := [.ref (5 + x1.toNatClampNeg), .int 0]) d_X2_lay_21 ss_X2_23 rfl (Nat.le_of_ble_eq_true rfl) rfl (fun _ hy => EvM_cast (by omega) (e_J7_fill_53178 (D := D + 0) hy)) (fun σ5 => ?_)
  exact g_vret d_X2_lay_24 rfl rfl
theorem e_X2_lay {l : Launch} {D : Nat} {n : Nat} {x1 : Int32} {x2 : Int32} {x3 : Int32} {σ : Mem} {y : Mem} (hy : f_X2_lay n x1 x2 x3 σ = some y) : EvM l (D + 1) m_X2_lay [.ref 1, .int x1, .int x2, .int x3] σ ((fun τ => (none, τ)) y) :=
  evM_of (d := m_X2_lay) (nL := 4) rfl (by decide +kernel) (fun h => absurd (congrArg MethodName.cls h) (by decide +kernel)) (Nat.le_of_ble_eq_true rfl) (t_X2_lay y hy)

set_option maxHeartbeats 4000000 in
set_option maxRecDepth 100000 in
theorem t_X2_put_b30 {l : Launch} {sc : Nat × (Nat → Int32)} {D : Nat} {x1 : Int32} {x2 : Int32} {s0 : Int32} {σ : Mem} : G l sc (D + 0) m_X2_put 30 [(0, .ref 1), (1, .int x1), (2, .int x2)] [.int s0] σ (f_X2_put_b30 x1 x2 s0 σ) (fun y => (some (.int y.1), y.2)) := by
  unfold f_X2_put_b30
  refine g_istore d_X2_put_30 (by decide) rfl ?_
  refine g_aload_n (n := 1) d_X2_put_32 rfl rfl ?_
  refine g_getr d_X2_put_33 fl_X2_20 sh_1 rfl ?_
  refine g_iload_n (n := 2) d_X2_put_36 rfl rfl ?_
  refine g_aaload d_X2_put_37 sh_4 (fun h1 => ?_)
  refine g_iload_n (n := 3) d_X2_put_38 rfl rfl ?_
  refine g_iload (n := 0) d_X2_put_39 rfl ?_
  refine g_iastore d_X2_put_41 (shp_rows (inB_lt h1)) (fun _ => ?_)
  refine g_mem (fun σ2 => ?_)
  refine g_iload (n := 0) d_X2_put_42 rfl ?_
  exact g_iret d_X2_put_44 (Or.inl rfl) rfl
set_option maxHeartbeats 4000000 in
set_option maxRecDepth 100000 in
theorem t_X2_put {l : Launch} {sc : Nat × (Nat → Int32)} {D : Nat} {x1 : Int32} {x2 : Int32} {x3 : Int32} {σ : Mem} : G l sc (D + 0) m_X2_put 0 [(0, .ref 1), (1, .int x1), (2, .int x2), (3, .int x3)] [] σ (f_X2_put x1 x2 x3 σ) (fun y => (some (.int y.1), y.2)) := by
  unfold f_X2_put
  refine g_aload_n (n := 0) d_X2_put_0 rfl rfl ?_
  refine g_getr d_X2_put_1 fl_X2_11 sh_1 rfl ?_
  refine g_iload_n (n := 1) d_X2_put_4 rfl rfl ?_
  refine g_iaload d_X2_put_5 sh_2 (fun _ => ?_)
  refine g_if_ne (tgt := 14) d_X2_put_6 (by decide) (fun c1 => ?_) (fun c1 => ?_)
  · refine g_aload_n (n := 0) d_X2_put_14 rfl rfl ?_
    refine g_getr d_X2_put_15 fl_X2_11 sh_1 rfl ?_
    refine g_iload_n (n := 1) d_X2_put_18 rfl rfl ?_
    refine g_iaload d_X2_put_19 sh_2 (fun _ => ?_)
    refine g_iconst (v := 1) d_X2_put_20 (by decide) ?_
    refine g_icmp_ne (tgt := 29) d_X2_put_21 (by decide) (fun c2 => ?_) (fun c2 => ?_)
    · refine g_iload_n (n := 3) d_X2_put_29 rfl rfl ?_
      refine g_sub [0, 1, 2] rfl ?_
      exact t_X2_put_b30 
    · refine g_iload_n (n := 3) d_X2_put_24 rfl rfl ?_
      refine g_i2s d_X2_put_25 ?_
      refine g_goto (tgt := 30) d_X2_put_26 (by decide) ?_
      refine g_sub [0, 1, 2] rfl ?_
      exact t_X2_put_b30 
  · refine g_iload_n (n := 3) d_X2_put_9 rfl rfl ?_
    refine g_i2b d_X2_put_10 ?_
    refine g_goto (tgt := 30) d_X2_put_11 (by decide) ?_
    refine g_sub [0, 1, 2] rfl ?_
    exact t_X2_put_b30 
theorem e_X2_put {l : Launch} {D : Nat} {x1 : Int32} {x2 : Int32} {x3 : Int32} {σ : Mem} {y : (Int32 × Mem)} (hy : f_X2_put x1 x2 x3 σ = some y) : EvM l (D + 0) m_X2_put [.ref 1, .int x1, .int x2, .int x3] σ ((fun y => (some (.int y.1), y.2)) y) :=
  evM_of (d := m_X2_put) (nL := 5) rfl (by decide +kernel) (fun h => absurd (congrArg MethodName.cls h) (by decide +kernel)) (Nat.le_of_ble_eq_true rfl) (t_X2_put y hy)

set_option maxHeartbeats 4000000 in
set_option maxRecDepth 100000 in
theorem t_X2_takeAway {l : Launch} {sc : Nat × (Nat → Int32)} {D : Nat} {x1 : Int32} {σ : Mem} : G l sc (D + 0) m_X2_takeAway 0 [(0, .ref 1), (1, .int x1)] [] σ (f_X2_takeAway x1 σ) (fun y => (some (.int y.1), y.2)) := by
  unfold f_X2_takeAway
  refine g_aload_n (n := 0) d_X2_takeAway_0 rfl rfl ?_
  refine g_getr d_X2_takeAway_1 fl_X2_11 sh_1 rfl ?_
  refine g_iload_n (n := 1) d_X2_takeAway_4 rfl rfl ?_
  refine g_iconst (v := -1) d_X2_takeAway_5 (by decide) ?_
  refine g_iastore d_X2_takeAway_6 sh_2 (fun _ => ?_)
  refine g_mem (fun σ1 => ?_)
  refine g_aload_n (n := 0) d_X2_takeAway_7 rfl rfl ?_
  refine g_getr d_X2_takeAway_8 fl_X2_15 sh_1 rfl ?_
  refine g_iload_n (n := 1) d_X2_takeAway_11 rfl rfl ?_
  refine g_iaload d_X2_takeAway_12 sh_3 (fun _ => ?_)
  exact g_iret d_X2_takeAway_13 (Or.inl rfl) rfl
theorem e_X2_takeAway {l : Launch} {D : Nat} {x1 : Int32} {σ : Mem} {y : (Int32 × Mem)} (hy : f_X2_takeAway x1 σ = some y) : EvM l (D + 0) m_X2_takeAway [.ref 1, .int x1] σ ((fun y => (some (.int y.1), y.2)) y) :=
  evM_of (d := m_X2_takeAway) (nL := 2) rfl (by decide +kernel) (fun h => absurd (congrArg MethodName.cls h) (by decide +kernel)) (Nat.le_of_ble_eq_true rfl) (t_X2_takeAway y hy)

set_option maxHeartbeats 4000000 in
set_option maxRecDepth 100000 in
theorem t_X2_howMany_b21 {l : Launch} {sc : Nat × (Nat → Int32)} {D : Nat} {n : Nat} {σ : Mem} {k4 : Int32 → Int32 → Option Int32} {x1 : Int32} {x2 : Int32} (hk4 : ∀ x1 x2, G l sc (D + 1) m_X2_howMany 4 [(0, .ref 1), (1, .int x1), (2, .int x2)] [] σ (k4 x1 x2) (fun y => (some (.int y), σ))) : G l sc (D + 1) m_X2_howMany 21 [(0, .ref 1), (1, .int x1), (2, .int x2)] [] σ (f_X2_howMany_b21 n σ k4 x1 x2) (fun y => (some (.int y), σ)) := by
  unfold f_X2_howMany_b21
  refine g_iinc (n := 2) (w := 1) d_X2_howMany_21 rfl (by decide) (by decide) rfl ?_
  refine g_goto (tgt := 4) d_X2_howMany_24 (by decide) ?_
  refine g_sub [1, 2, 0] rfl ?_
  exact hk4 _ _
set_option maxHeartbeats 4000000 in
set_option maxRecDepth 100000 in
theorem t_X2_howMany_b4 {l : Launch} {sc : Nat × (Nat → Int32)} {D : Nat} {n : Nat} {σ : Mem} {k4 : Int32 → Int32 → Option Int32} {x1 : Int32} {x2 : Int32} (hk4 : ∀ x1 x2, G l sc (D + 1) m_X2_howMany 4 [(0, .ref 1), (1, .int x1), (2, .int x2)] [] σ (k4 x1 x2) (fun y => (some (.int y), σ))) : G l sc (D + 1) m_X2_howMany 4 [(0, .ref 1), (1, .int x1), (2, .int x2)] [] σ (f_X2_howMany_b4 n σ k4 x1 x2) (fun y => (some (.int y), σ)) := by
  unfold f_X2_howMany_b4
  refine g_iload_n (n := 2) d_X2_howMany_4 rfl rfl ?_
  refine g_bipush (v := 8) d_X2_howMany_5 (by decide) ?_
  refine g_icmp_ge (tgt := 27) d_X2_howMany_7 (by decide) (fun c1 => ?_) (fun c1 => ?_)
  · refine g_iload_n (n := 1) d_X2_howMany_27 rfl rfl ?_
    exact g_iret d_X2_howMany_28 (Or.inl rfl) rfl
  · refine g_aload_n (n := 0) d_X2_howMany_10 rfl rfl ?_
    refine g_iload_n (n := 2) d_X2_howMany_11 rfl rfl ?_
    refine g_callv_pi (D := D + 0) (As := [.int x2]) d_X2_howMany_12 sv_X2_29 ob_1 rfl (Nat.le_of_ble_eq_true rfl) rfl (fun _ hy => EvM_cast (by omega) (e_X2_isMissing (D := D + 0) hy)) (fun y2 => ?_)
    refine g_if_ne (tgt := 21) d_X2_howMany_15 (by decide) (fun c3 => ?_) (fun c3 => ?_)
    · refine g_sub [0, 1, 2] rfl ?_
      exact t_X2_howMany_b21 hk4
    · refine g_iinc (n := 1) (w := 1) d_X2_howMany_18 rfl (by decide) (by decide) rfl ?_
      refine g_sub [1, 0, 2] rfl ?_
      exact t_X2_howMany_b21 hk4
set_option maxHeartbeats 4000000 in
set_option maxRecDepth 100000 in
theorem t_X2_howMany_l4 {l : Launch} {sc : Nat × (Nat → Int32)} {D : Nat} {n : Nat} {σ : Mem} : ∀ (f : Nat) (x1 : Int32) (x2 : Int32), G l sc (D + 1) m_X2_howMany 4 [(0, .ref 1), (1, .int x1), (2, .int x2)] [] σ (f_X2_howMany_l4 n σ f x1 x2) (fun y => (some (.int y), σ)) := by
  intro f
  induction f with
  | zero => intro x1 x2; exact g_none
  | succ f ih => intro x1 x2; exact t_X2_howMany_b4 ih
set_option maxHeartbeats 4000000 in
set_option maxRecDepth 100000 in
theorem t_X2_howMany {l : Launch} {sc : Nat × (Nat → Int32)} {D : Nat} {n : Nat} {σ : Mem} : G l sc (D + 1) m_X2_howMany 0 [(0, .ref 1)] [] σ (f_X2_howMany n σ ) (fun y => (some (.int y), σ)) := by
  unfold f_X2_howMany
  refine g_iconst (v := 0) d_X2_howMany_0 (by decide) ?_
  refine g_istore_n d_X2_howMany_1 rfl (by decide) rfl ?_
  refine g_iconst (v := 0) d_X2_howMany_2 (by decide) ?_
  refine g_istore_n d_X2_howMany_3 rfl (by decide) rfl ?_
  refine g_sub [2, 1, 0] rfl ?_
  exact t_X2_howMany_l4  _ _ _
theorem e_X2_howMany {l : Launch} {D : Nat} {n : Nat} {σ : Mem} {y : Int32} (hy : f_X2_howMany n σ = some y) : EvM l (D + 1) m_X2_howMany [.ref 1] σ ((fun y => (some (.int y), σ)) y) :=
  evM_of (d := m_X2_howMany) (nL := 3) rfl (by decide +kernel) (fun h => absurd (congrArg MethodName.cls h) (by decide +kernel)) (Nat.le_of_ble_eq_true rfl) (t_X2_howMany y hy)

set_option maxHeartbeats 4000000 in
set_option maxRecDepth 100000 in
theorem t_X6_takeOver {l : Launch} {sc : Nat × (Nat → Int32)} {D : Nat} {t : Nat} {x1 : Nat} {σ : Mem} : G l sc (D + 1) m_X6_takeOver 0 [(0, .ref t), (1, .ref x1)] [] σ (f_X6_takeOver t x1 σ) (fun τ => (none, τ)) := by
  unfold f_X6_takeOver
  refine g_aload_n (n := 0) d_X6_takeOver_0 rfl rfl ?_
  refine g_aload_n (n := 1) d_X6_takeOver_1 rfl rfl ?_
  refine g_guard (fun h1 => ?_)
  refine g_geti d_X6_takeOver_2 fl_X6_24 (shp_town h1).1 rfl ?_
  refine g_guard (fun h2 => ?_)
  refine g_putb d_X6_takeOver_5 fl_X6_24 (shp_town h2).1 rfl (fun _ => ?_)
  refine g_mem (fun σ3 => ?_)
  refine g_aload_n (n := 0) d_X6_takeOver_8 rfl rfl ?_
  refine g_aload_n (n := 1) d_X6_takeOver_9 rfl rfl ?_
  refine g_geti d_X6_takeOver_10 fl_X6_28 (shp_town h1).1 rfl ?_
  refine g_puti d_X6_takeOver_13 fl_X6_28 (shp_town h2).1 rfl ?_
  refine g_mem (fun σ4 => ?_)
  refine g_aload_n (n := 0) d_X6_takeOver_16 rfl rfl ?_
  refine g_aload_n (n := 1) d_X6_takeOver_17 rfl rfl ?_
  refine g_geti d_X6_takeOver_18 fl_X6_32 (shp_town h1).1 rfl ?_
  refine g_puti d_X6_takeOver_21 fl_X6_32 (shp_town h2).1 rfl ?_
  refine g_mem (fun σ5 => ?_)
  refine g_aload_n (n := 0) d_X6_takeOver_24 rfl rfl ?_
  refine g_aload_n (n := 1) d_X6_takeOver_25 rfl rfl ?_
  refine g_geti d_X6_takeOver_26 fl_X6_35 (shp_town h1).1 rfl ?_
  refine g_puti d_X6_takeOver_29 fl_X6_35 (shp_town h2).1 rfl ?_
  refine g_mem (fun σ6 => ?_)
  refine g_aload_n (n := 0) d_X6_takeOver_32 rfl rfl ?_
  refine g_aload_n (n := 1) d_X6_takeOver_33 rfl rfl ?_
  refine g_geti d_X6_takeOver_34 fl_X6_38 (shp_town h1).1 rfl ?_
  refine g_puti d_X6_takeOver_37 fl_X6_38 (shp_town h2).1 rfl ?_
  refine g_mem (fun σ7 => ?_)
  refine g_aload_n (n := 1) d_X6_takeOver_40 rfl rfl ?_
  refine g_getr d_X6_takeOver_41 fl_X6_9 (shp_town h1).1 rfl ?_
  refine g_iconst (v := 0) d_X6_takeOver_44 (by decide) ?_
  refine g_aload_n (n := 0) d_X6_takeOver_45 rfl rfl ?_
  refine g_getr d_X6_takeOver_46 fl_X6_9 (shp_town h2).1 rfl ?_
  refine g_iconst (v := 0) d_X6_takeOver_49 (by decide) ?_
  refine g_bipush (v := 6) d_X6_takeOver_50 (by decide) ?_
  refine g_acopy (D := D + 0) d_X6_takeOver_52 ac_X6_41 (Nat.le_of_ble_eq_true rfl) (shp_town h1).2.1 (shp_town h2).2.1 (fun _ => ?_)
  refine g_mem (fun σ8 => ?_)
  refine g_aload_n (n := 1) d_X6_takeOver_55 rfl rfl ?_
  refine g_getr d_X6_takeOver_56 fl_X6_15 (shp_town h1).1 rfl ?_
  refine g_iconst (v := 0) d_X6_takeOver_59 (by decide) ?_
  refine g_aload_n (n := 0) d_X6_takeOver_60 rfl rfl ?_
  refine g_getr d_X6_takeOver_61 fl_X6_15 (shp_town h2).1 rfl ?_
  refine g_iconst (v := 0) d_X6_takeOver_64 (by decide) ?_
  refine g_bipush (v := 6) d_X6_takeOver_65 (by decide) ?_
  refine g_acopy (D := D + 0) d_X6_takeOver_67 ac_X6_41 (Nat.le_of_ble_eq_true rfl) (shp_town h1).2.2.1 (shp_town h2).2.2.1 (fun _ => ?_)
  refine g_mem (fun σ9 => ?_)
  refine g_aload_n (n := 1) d_X6_takeOver_70 rfl rfl ?_
  refine g_getr d_X6_takeOver_71 fl_X6_18 (shp_town h1).1 rfl ?_
  refine g_iconst (v := 0) d_X6_takeOver_74 (by decide) ?_
  refine g_aload_n (n := 0) d_X6_takeOver_75 rfl rfl ?_
  refine g_getr d_X6_takeOver_76 fl_X6_18 (shp_town h2).1 rfl ?_
  refine g_iconst (v := 0) d_X6_takeOver_79 (by decide) ?_
  refine g_bipush (v := 6) d_X6_takeOver_80 (by decide) ?_
  refine g_acopy (D := D + 0) d_X6_takeOver_82 ac_X6_41 (Nat.le_of_ble_eq_true rfl) (shp_town h1).2.2.2.1 (shp_town h2).2.2.2.1 (fun _ => ?_)
  refine g_mem (fun σ10 => ?_)
  refine g_aload_n (n := 1) d_X6_takeOver_85 rfl rfl ?_
  refine g_getr d_X6_takeOver_86 fl_X6_21 (shp_town h1).1 rfl ?_
  refine g_iconst (v := 0) d_X6_takeOver_89 (by decide) ?_
  refine g_aload_n (n := 0) d_X6_takeOver_90 rfl rfl ?_
  refine g_getr d_X6_takeOver_91 fl_X6_21 (shp_town h2).1 rfl ?_
  refine g_iconst (v := 0) d_X6_takeOver_94 (by decide) ?_
  refine g_bipush (v := 6) d_X6_takeOver_95 (by decide) ?_
  refine g_acopy (D := D + 0) d_X6_takeOver_97 ac_X6_41 (Nat.le_of_ble_eq_true rfl) (shp_town h1).2.2.2.2 (shp_town h2).2.2.2.2 (fun _ => ?_)
  refine g_mem (fun σ11 => ?_)
  refine g_aload_n (n := 0) d_X6_takeOver_100 rfl rfl ?_
  refine g_aload_n (n := 1) d_X6_takeOver_101 rfl rfl ?_
  refine g_geti d_X6_takeOver_102 fl_X6_47 (shp_town h1).1 rfl ?_
  refine g_aload_n (n := 1) d_X6_takeOver_105 rfl rfl ?_
  refine g_geti d_X6_takeOver_106 fl_X6_50 (shp_town h1).1 rfl ?_
  refine g_aload_n (n := 1) d_X6_takeOver_109 rfl rfl ?_
  refine g_geti d_X6_takeOver_110 fl_X6_53 (shp_town h1).1 rfl ?_
  refine g_aload_n (n := 1) d_X6_takeOver_113 rfl rfl ?_
  refine g_geti d_X6_takeOver_114 fl_X6_56 (shp_town h1).1 rfl ?_
  refine g_callv_vv (D := D + 0) (As := [.int (σ11 x1 9), .int (σ11 x1 10), .int (σ11 x1 11), .int (σ11 x1 12)]) d_X6_takeOver_117 sv_X6_59 (ob_town h2) rfl (Nat.le_of_ble_eq_true rfl) rfl (fun _ hy => EvM_cast (by omega) (e_X6_copyStands (D := D + 0) hy)) (fun σ13 => ?_)
  exact g_vret d_X6_takeOver_120 rfl rfl
theorem e_X6_takeOver {l : Launch} {D : Nat} {t : Nat} {x1 : Nat} {σ : Mem} {y : Mem} (hy : f_X6_takeOver t x1 σ = some y) : EvM l (D + 1) m_X6_takeOver [.ref t, .ref x1] σ ((fun τ => (none, τ)) y) :=
  evM_of (d := m_X6_takeOver) (nL := 2) rfl (by decide +kernel) (fun h => absurd (congrArg MethodName.cls h) (by decide +kernel)) (Nat.le_of_ble_eq_true rfl) (t_X6_takeOver y hy)

set_option maxHeartbeats 4000000 in
set_option maxRecDepth 100000 in
theorem t_X6_everybody {l : Launch} {sc : Nat × (Nat → Int32)} {D : Nat} {σ : Mem} {t : Nat} : G l sc (D + 0) m_X6_everybody 0 [(0, .ref t)] [] σ (f_X6_everybody σ t) (fun y => (some (.int y), σ)) := by
  unfold f_X6_everybody
  refine g_iconst (v := 1) d_X6_everybody_0 (by decide) ?_
  refine g_aload_n (n := 0) d_X6_everybody_1 rfl rfl ?_
  refine g_guard (fun h1 => ?_)
  refine g_geti d_X6_everybody_2 fl_X6_38 (shp_town h1).1 rfl ?_
  refine g_ishl d_X6_everybody_5 ?_
  refine g_iconst (v := 1) d_X6_everybody_6 (by decide) ?_
  refine g_isub d_X6_everybody_7 ?_
  exact g_iret d_X6_everybody_8 (Or.inl rfl) rfl
theorem e_X6_everybody {l : Launch} {D : Nat} {σ : Mem} {t : Nat} {y : Int32} (hy : f_X6_everybody σ t = some y) : EvM l (D + 0) m_X6_everybody [.ref t] σ ((fun y => (some (.int y), σ)) y) :=
  evM_of (d := m_X6_everybody) (nL := 1) rfl (by decide +kernel) (fun h => absurd (congrArg MethodName.cls h) (by decide +kernel)) (Nat.le_of_ble_eq_true rfl) (t_X6_everybody y hy)

set_option maxHeartbeats 4000000 in
set_option maxRecDepth 100000 in
theorem t_X3_keepRow {l : Launch} {sc : Nat × (Nat → Int32)} {D : Nat} {x1 : Int32} {x2 : Int32} {σ : Mem} : G l sc (D + 1) m_X3_keepRow 0 [(0, .ref 61), (1, .int x1), (2, .int x2)] [] σ (f_X3_keepRow x1 x2 σ) (fun τ => (none, τ)) := by
  unfold f_X3_keepRow
  refine g_aload_n (n := 0) d_X3_keepRow_0 rfl rfl ?_
  refine g_iconst (v := 1) d_X3_keepRow_1 (by decide) ?_
  refine g_putb d_X3_keepRow_2 fl_X3_66 sh_61 rfl (fun _ => ?_)
  refine g_mem (fun σ1 => ?_)
  refine g_aload_n (n := 0) d_X3_keepRow_5 rfl rfl ?_
  refine g_iload_n (n := 2) d_X3_keepRow_6 rfl rfl ?_
  refine g_puti d_X3_keepRow_7 fl_X3_73 sh_61 rfl ?_
  refine g_mem (fun σ2 => ?_)
  refine g_aload_n (n := 0) d_X3_keepRow_10 rfl rfl ?_
  refine g_iload_n (n := 1) d_X3_keepRow_11 rfl rfl ?_
  refine g_puti d_X3_keepRow_12 fl_X3_70 sh_61 rfl ?_
  refine g_mem (fun σ3 => ?_)
  refine g_aload_n (n := 0) d_X3_keepRow_15 rfl rfl ?_
  refine g_getr d_X3_keepRow_16 fl_X3_18 sh_61 rfl ?_
  refine g_iconst (v := 0) d_X3_keepRow_19 (by decide) ?_
  refine g_aload_n (n := 0) d_X3_keepRow_20 rfl rfl ?_
  refine g_getr d_X3_keepRow_21 fl_X3_22 sh_61 rfl ?_
  refine g_iconst (v := 0) d_X3_keepRow_24 (by decide) ?_
  refine g_iload_n (n := 1) d_X3_keepRow_25 rfl rfl ?_
  refine g_acopy (D := D + 0) d_X3_keepRow_26 ac_X3_114 (Nat.le_of_ble_eq_true rfl) sh_67 sh_68 (fun _ => ?_)
  refine g_mem (fun σ4 => ?_)
  exact g_vret d_X3_keepRow_29 rfl rfl
theorem e_X3_keepRow {l : Launch} {D : Nat} {x1 : Int32} {x2 : Int32} {σ : Mem} {y : Mem} (hy : f_X3_keepRow x1 x2 σ = some y) : EvM l (D + 1) m_X3_keepRow [.ref 61, .int x1, .int x2] σ ((fun τ => (none, τ)) y) :=
  evM_of (d := m_X3_keepRow) (nL := 3) rfl (by decide +kernel) (fun h => absurd (congrArg MethodName.cls h) (by decide +kernel)) (Nat.le_of_ble_eq_true rfl) (t_X3_keepRow y hy)

set_option maxHeartbeats 4000000 in
set_option maxRecDepth 100000 in
theorem t_X3_weigh_b106 {l : Launch} {sc : Nat × (Nat → Int32)} {D : Nat} {x1 : Int32} {σ : Mem} : G l sc (D + 2) m_X3_weigh 106 [(0, .ref 61), (1, .int x1)] [] σ (f_X3_weigh_b106 x1 σ) (fun τ => (none, τ)) := by
  unfold f_X3_weigh_b106
  refine g_aload_n (n := 0) d_X3_weigh_106 rfl rfl ?_
  refine g_iload_n (n := 1) d_X3_weigh_107 rfl rfl ?_
  refine g_aload_n (n := 0) d_X3_weigh_108 rfl rfl ?_
  refine g_getr d_X3_weigh_109 fl_X3_12 sh_61 rfl ?_
  refine g_geti d_X3_weigh_112 fl_X3_87 sh_62 rfl ?_
  refine g_callv_vv (D := D + 1) (As := [.int x1, .int (σ 62 10)]) d_X3_weigh_115 sv_X3_105 ob_61 rfl (Nat.le_of_ble_eq_true rfl) rfl (fun _ hy => EvM_cast (by omega) (e_X3_keepRow (D := D + 0) hy)) (fun σ2 => ?_)
  refine g_goto (tgt := 180) d_X3_weigh_118 (by decide) ?_
  exact g_vret d_X3_weigh_180 rfl rfl
set_option maxHeartbeats 4000000 in
set_option maxRecDepth 100000 in
theorem t_X3_weigh_b57 {l : Launch} {sc : Nat × (Nat → Int32)} {D : Nat} {σ : Mem} : G l sc (D + 2) m_X3_weigh 57 [] [] σ (f_X3_weigh_b57 σ) (fun τ => (none, τ)) := by
  unfold f_X3_weigh_b57
  refine g_goto (tgt := 180) d_X3_weigh_57 (by decide) ?_
  exact g_vret d_X3_weigh_180 rfl rfl
set_option maxHeartbeats 4000000 in
set_option maxRecDepth 100000 in
theorem t_X3_weigh_b51 {l : Launch} {sc : Nat × (Nat → Int32)} {D : Nat} {x1 : Int32} {x2 : Int32} {σ : Mem} : G l sc (D + 2) m_X3_weigh 51 [(0, .ref 61), (1, .int x1), (2, .int x2)] [] σ (f_X3_weigh_b51 x1 x2 σ) (fun τ => (none, τ)) := by
  unfold f_X3_weigh_b51
  refine g_aload_n (n := 0) d_X3_weigh_51 rfl rfl ?_
  refine g_iload_n (n := 1) d_X3_weigh_52 rfl rfl ?_
  refine g_iload_n (n := 2) d_X3_weigh_53 rfl rfl ?_
  refine g_callv_vv (D := D + 1) (As := [.int x1, .int x2]) d_X3_weigh_54 sv_X3_105 ob_61 rfl (Nat.le_of_ble_eq_true rfl) rfl (fun _ hy => EvM_cast (by omega) (e_X3_keepRow (D := D + 0) hy)) (fun σ2 => ?_)
  refine g_sub [] rfl ?_
  exact t_X3_weigh_b57 
set_option maxHeartbeats 4000000 in
set_option maxRecDepth 100000 in
theorem t_X3_weigh {l : Launch} {sc : Nat × (Nat → Int32)} {D : Nat} {x1 : Int32} {σ : Mem} : G l sc (D + 2) m_X3_weigh 0 [(0, .ref 61), (1, .int x1)] [] σ (f_X3_weigh x1 σ) (fun τ => (none, τ)) := by
  unfold f_X3_weigh
  refine g_aload_n (n := 0) d_X3_weigh_0 rfl rfl ?_
  refine g_geti d_X3_weigh_1 fl_X3_54 sh_61 rfl ?_
  refine g_if_ne (tgt := 60) d_X3_weigh_4 (by decide) (fun c1 => ?_) (fun c1 => ?_)
  · refine g_aload_n (n := 0) d_X3_weigh_60 rfl rfl ?_
    refine g_geti d_X3_weigh_61 fl_X3_54 sh_61 rfl ?_
    refine g_iconst (v := 1) d_X3_weigh_64 (by decide) ?_
    refine g_icmp_ne (tgt := 121) d_X3_weigh_65 (by decide) (fun c2 => ?_) (fun c2 => ?_)
    · refine g_aload_n (n := 0) d_X3_weigh_121 rfl rfl ?_
      refine g_getr d_X3_weigh_122 fl_X3_12 sh_61 rfl ?_
      refine g_geti d_X3_weigh_125 fl_X3_40 sh_62 rfl ?_
      refine g_if_lt (tgt := 180) d_X3_weigh_128 (by decide) (fun c3 => ?_) (fun c3 => ?_)
      · exact g_vret d_X3_weigh_180 rfl rfl
      · refine g_aload_n (n := 0) d_X3_weigh_131 rfl rfl ?_
        refine g_getr d_X3_weigh_132 fl_X3_12 sh_61 rfl ?_
        refine g_geti d_X3_weigh_135 fl_X3_40 sh_62 rfl ?_
        refine g_aload_n (n := 0) d_X3_weigh_138 rfl rfl ?_
        refine g_getr d_X3_weigh_139 fl_X3_25 sh_61 rfl ?_
        refine g_alen d_X3_weigh_142 sh_69 rfl ?_
        refine g_icmp_ge (tgt := 180) d_X3_weigh_143 (by decide) (fun c4 => ?_) (fun c4 => ?_)
        · exact g_vret d_X3_weigh_180 rfl rfl
        · refine g_aload_n (n := 0) d_X3_weigh_146 rfl rfl ?_
          refine g_getr d_X3_weigh_147 fl_X3_25 sh_61 rfl ?_
          refine g_aload_n (n := 0) d_X3_weigh_150 rfl rfl ?_
          refine g_getr d_X3_weigh_151 fl_X3_12 sh_61 rfl ?_
          refine g_geti d_X3_weigh_154 fl_X3_40 sh_62 rfl ?_
          refine g_aload_n (n := 0) d_X3_weigh_157 rfl rfl ?_
          refine g_getr d_X3_weigh_158 fl_X3_25 sh_61 rfl ?_
          refine g_aload_n (n := 0) d_X3_weigh_161 rfl rfl ?_
          refine g_getr d_X3_weigh_162 fl_X3_12 sh_61 rfl ?_
          refine g_geti d_X3_weigh_165 fl_X3_40 sh_62 rfl ?_
          refine g_iaload d_X3_weigh_168 sh_69 (fun _ => ?_)
          refine g_aload_n (n := 0) d_X3_weigh_169 rfl rfl ?_
          refine g_getr d_X3_weigh_170 fl_X3_12 sh_61 rfl ?_
          refine g_geti d_X3_weigh_173 fl_X3_60 sh_62 rfl ?_
          refine g_max (D := D + 1) d_X3_weigh_176 ma_X3_108 (Nat.le_of_ble_eq_true rfl) ?_
          refine g_iastore d_X3_weigh_179 sh_69 (fun _ => ?_)
          refine g_mem (fun σ5 => ?_)
          exact g_vret d_X3_weigh_180 rfl rfl
    · refine g_aload_n (n := 0) d_X3_weigh_68 rfl rfl ?_
      refine g_geti d_X3_weigh_69 fl_X3_57 sh_61 rfl ?_
      refine g_aload_n (n := 0) d_X3_weigh_72 rfl rfl ?_
      refine g_getr d_X3_weigh_73 fl_X3_12 sh_61 rfl ?_
      refine g_geti d_X3_weigh_76 fl_X3_40 sh_62 rfl ?_
      refine g_iconst (v := -1) d_X3_weigh_79 (by decide) ?_
      refine g_ixor d_X3_weigh_80 ?_
      refine g_iand d_X3_weigh_81 ?_
      refine g_if_ne (tgt := 180) d_X3_weigh_82 (by decide) (fun c6 => ?_) (fun c6 => ?_)
      · exact g_vret d_X3_weigh_180 rfl rfl
      · refine g_aload_n (n := 0) d_X3_weigh_85 rfl rfl ?_
        refine g_geti d_X3_weigh_86 fl_X3_66 sh_61 rfl ?_
        refine g_if_eq (tgt := 106) d_X3_weigh_89 (by decide) (fun c7 => ?_) (fun c7 => ?_)
        · refine g_sub [0, 1] rfl ?_
          exact t_X3_weigh_b106 
        · refine g_aload_n (n := 0) d_X3_weigh_92 rfl rfl ?_
          refine g_getr d_X3_weigh_93 fl_X3_12 sh_61 rfl ?_
          refine g_geti d_X3_weigh_96 fl_X3_87 sh_62 rfl ?_
          refine g_aload_n (n := 0) d_X3_weigh_99 rfl rfl ?_
          refine g_geti d_X3_weigh_100 fl_X3_73 sh_61 rfl ?_
          refine g_icmp_ge (tgt := 180) d_X3_weigh_103 (by decide) (fun c8 => ?_) (fun c8 => ?_)
          · exact g_vret d_X3_weigh_180 rfl rfl
          · refine g_sub [0, 1] rfl ?_
            exact t_X3_weigh_b106 
  · refine g_aload_n (n := 0) d_X3_weigh_7 rfl rfl ?_
    refine g_getr d_X3_weigh_8 fl_X3_12 sh_61 rfl ?_
    refine g_geti d_X3_weigh_11 fl_X3_60 sh_62 rfl ?_
    refine g_aload_n (n := 0) d_X3_weigh_14 rfl rfl ?_
    refine g_geti d_X3_weigh_15 fl_X3_63 sh_61 rfl ?_
    refine g_isub d_X3_weigh_18 ?_
    refine g_nm (fun y9 => ?_)
    refine g_istore_n d_X3_weigh_19 rfl (by decide) rfl ?_
    refine g_aload_n (n := 1) d_X3_weigh_20 rfl rfl ?_
    refine g_geti d_X3_weigh_21 fl_X3_66 sh_61 rfl ?_
    refine g_if_eq (tgt := 51) d_X3_weigh_24 (by decide) (fun c10 => ?_) (fun c10 => ?_)
    · refine g_sub [1, 2, 0] rfl ?_
      exact t_X3_weigh_b51 
    · refine g_iload_n (n := 0) d_X3_weigh_27 rfl rfl ?_
      refine g_aload_n (n := 1) d_X3_weigh_28 rfl rfl ?_
      refine g_geti d_X3_weigh_29 fl_X3_73 sh_61 rfl ?_
      refine g_icmp_gt (tgt := 51) d_X3_weigh_32 (by decide) (fun c11 => ?_) (fun c11 => ?_)
      · refine g_sub [1, 2, 0] rfl ?_
        exact t_X3_weigh_b51 
      · refine g_iload_n (n := 0) d_X3_weigh_35 rfl rfl ?_
        refine g_aload_n (n := 1) d_X3_weigh_36 rfl rfl ?_
        refine g_geti d_X3_weigh_37 fl_X3_73 sh_61 rfl ?_
        refine g_icmp_ne (tgt := 57) d_X3_weigh_40 (by decide) (fun c12 => ?_) (fun c12 => ?_)
        · refine g_sub [] rfl ?_
          exact t_X3_weigh_b57 
        · refine g_iload_n (n := 2) d_X3_weigh_43 rfl rfl ?_
          refine g_aload_n (n := 1) d_X3_weigh_44 rfl rfl ?_
          refine g_geti d_X3_weigh_45 fl_X3_70 sh_61 rfl ?_
          refine g_icmp_ge (tgt := 57) d_X3_weigh_48 (by decide) (fun c13 => ?_) (fun c13 => ?_)
          · refine g_sub [] rfl ?_
            exact t_X3_weigh_b57 
          · refine g_sub [1, 2, 0] rfl ?_
            exact t_X3_weigh_b51 
theorem e_X3_weigh {l : Launch} {D : Nat} {x1 : Int32} {σ : Mem} {y : Mem} (hy : f_X3_weigh x1 σ = some y) : EvM l (D + 2) m_X3_weigh [.ref 61, .int x1] σ ((fun τ => (none, τ)) y) :=
  evM_of (d := m_X3_weigh) (nL := 3) rfl (by decide +kernel) (fun h => absurd (congrArg MethodName.cls h) (by decide +kernel)) (Nat.le_of_ble_eq_true rfl) (t_X3_weigh y hy)

set_option maxHeartbeats 4000000 in
set_option maxRecDepth 100000 in
theorem t_X6_hasRead {l : Launch} {sc : Nat × (Nat → Int32)} {D : Nat} {σ : Mem} {t : Nat} {x1 : Int32} : G l sc (D + 0) m_X6_hasRead 0 [(0, .ref t), (1, .int x1)] [] σ (f_X6_hasRead σ t x1) (fun y => (some (.int y), σ)) := by
  unfold f_X6_hasRead
  refine g_aload_n (n := 0) d_X6_hasRead_0 rfl rfl ?_
  refine g_guard (fun h1 => ?_)
  refine g_geti d_X6_hasRead_1 fl_X6_53 (shp_town h1).1 rfl ?_
  refine g_iload_n (n := 1) d_X6_hasRead_4 rfl rfl ?_
  refine g_ishr d_X6_hasRead_5 ?_
  refine g_iconst (v := 1) d_X6_hasRead_6 (by decide) ?_
  refine g_iand d_X6_hasRead_7 ?_
  refine g_if_eq (tgt := 15) d_X6_hasRead_8 (by decide) (fun c2 => ?_) (fun c2 => ?_)
  · refine g_iconst (v := 0) d_X6_hasRead_15 (by decide) ?_
    exact g_iret d_X6_hasRead_16 (Or.inr ⟨rfl, rfl⟩) rfl
  · refine g_iconst (v := 1) d_X6_hasRead_11 (by decide) ?_
    refine g_goto (tgt := 16) d_X6_hasRead_12 (by decide) ?_
    exact g_iret d_X6_hasRead_16 (Or.inr ⟨rfl, rfl⟩) rfl
theorem e_X6_hasRead {l : Launch} {D : Nat} {σ : Mem} {t : Nat} {x1 : Int32} {y : Int32} (hy : f_X6_hasRead σ t x1 = some y) : EvM l (D + 0) m_X6_hasRead [.ref t, .int x1] σ ((fun y => (some (.int y), σ)) y) :=
  evM_of (d := m_X6_hasRead) (nL := 2) rfl (by decide +kernel) (fun h => absurd (congrArg MethodName.cls h) (by decide +kernel)) (Nat.le_of_ble_eq_true rfl) (t_X6_hasRead y hy)

set_option maxHeartbeats 4000000 in
set_option maxRecDepth 100000 in
theorem t_X6_comes {l : Launch} {sc : Nat × (Nat → Int32)} {D : Nat} {σ : Mem} {t : Nat} {x1 : Int32} : G l sc (D + 1) m_X6_comes 0 [(0, .ref t), (1, .int x1)] [] σ (f_X6_comes σ t x1) (fun y => (some (.int y), σ)) := by
  unfold f_X6_comes
  refine g_aload_n (n := 0) d_X6_comes_0 rfl rfl ?_
  refine g_guard (fun h1 => ?_)
  refine g_geti d_X6_comes_1 fl_X6_50 (shp_town h1).1 rfl ?_
  refine g_aload_n (n := 0) d_X6_comes_4 rfl rfl ?_
  refine g_geti d_X6_comes_5 fl_X6_47 (shp_town h1).1 rfl ?_
  refine g_aload_n (n := 0) d_X6_comes_8 rfl rfl ?_
  refine g_getr d_X6_comes_9 fl_X6_15 (shp_town h1).1 rfl ?_
  refine g_iload_n (n := 1) d_X6_comes_12 rfl rfl ?_
  refine g_iaload d_X6_comes_13 (shp_town h1).2.2.1 (fun _ => ?_)
  refine g_isub d_X6_comes_14 ?_
  refine g_abs (D := D + 0) d_X6_comes_15 ma_X6_74 (Nat.le_of_ble_eq_true rfl) ?_
  refine g_iadd d_X6_comes_18 ?_
  exact g_iret d_X6_comes_19 (Or.inl rfl) rfl
theorem e_X6_comes {l : Launch} {D : Nat} {σ : Mem} {t : Nat} {x1 : Int32} {y : Int32} (hy : f_X6_comes σ t x1 = some y) : EvM l (D + 1) m_X6_comes [.ref t, .int x1] σ ((fun y => (some (.int y), σ)) y) :=
  evM_of (d := m_X6_comes) (nL := 2) rfl (by decide +kernel) (fun h => absurd (congrArg MethodName.cls h) (by decide +kernel)) (Nat.le_of_ble_eq_true rfl) (t_X6_comes y hy)
