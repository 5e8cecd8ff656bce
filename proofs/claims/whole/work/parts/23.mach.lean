set_option maxHeartbeats 4000000 in
set_option maxRecDepth 100000 in
theorem t_X7_timesUntil_b88 {l : Launch} {sc : Nat × (Nat → Int32)} {D : Nat} {n : Nat} {k28 : Int32 → Nat → Int32 → Int32 → Int32 → Int32 → Int32 → Mem → Option (Int32 × Mem)} {x1 : Int32} {x2 : Nat} {x3 : Int32} {x4 : Int32} {x5 : Int32} {x6 : Int32} {x7 : Int32} {σ : Mem} (hk28 : ∀ x1 x2 x3 x4 x5 x6 x7 σ, G l sc (D + 4) m_X7_timesUntil 28 [(0, .ref 0), (1, .int x1), (2, .ref x2), (3, .int x3), (4, .int x4), (5, .int x5), (6, .int x6), (7, .int x7)] [] σ (k28 x1 x2 x3 x4 x5 x6 x7 σ) (fun y => (some (.int y.1), y.2))) : G l sc (D + 4) m_X7_timesUntil 88 [(0, .ref 0), (1, .int x1), (2, .ref x2), (3, .int x3), (4, .int x4), (5, .int x5), (6, .int x6), (7, .int x7)] [] σ (f_X7_timesUntil_b88 n k28 x1 x2 x3 x4 x5 x6 x7 σ) (fun y => (some (.int y.1), y.2)) := by
  unfold f_X7_timesUntil_b88
  refine g_iinc (n := 7) (w := 1) d_X7_timesUntil_88 rfl (by decide) (by decide) rfl ?_
  refine g_goto (tgt := 28) d_X7_timesUntil_91 (by decide) ?_
  refine g_sub [1, 2, 3, 4, 5, 6, 7, 0] rfl ?_
  exact hk28 _ _ _ _ _ _ _ _
set_option maxHeartbeats 4000000 in
set_option maxRecDepth 100000 in
theorem t_X7_timesUntil_b28 {l : Launch} {sc : Nat × (Nat → Int32)} {D : Nat} {n : Nat} {k28 : Int32 → Nat → Int32 → Int32 → Int32 → Int32 → Int32 → Mem → Option (Int32 × Mem)} {x1 : Int32} {x2 : Nat} {x3 : Int32} {x4 : Int32} {x5 : Int32} {x6 : Int32} {x7 : Int32} {σ : Mem} (hk28 : ∀ x1 x2 x3 x4 x5 x6 x7 σ, G l sc (D + 4) m_X7_timesUntil 28 [(0, .ref 0), (1, .int x1), (2, .ref x2), (3, .int x3), (4, .int x4), (5, .int x5), (6, .int x6), (7, .int x7)] [] σ (k28 x1 x2 x3 x4 x5 x6 x7 σ) (fun y => (some (.int y.1), y.2))) : G l sc (D + 4) m_X7_timesUntil 28 [(0, .ref 0), (1, .int x1), (2, .ref x2), (3, .int x3), (4, .int x4), (5, .int x5), (6, .int x6), (7, .int x7)] [] σ (f_X7_timesUntil_b28 n k28 x1 x2 x3 x4 x5 x6 x7 σ) (fun y => (some (.int y.1), y.2)) := by
  unfold f_X7_timesUntil_b28
  refine g_iload (n := 7) d_X7_timesUntil_28 rfl ?_
  refine g_iload (n := 4) d_X7_timesUntil_30 rfl ?_
  refine g_icmp_ge (tgt := 94) d_X7_timesUntil_32 (by decide) (fun c1 => ?_) (fun c1 => ?_)
  · refine g_iload (n := 5) d_X7_timesUntil_94 rfl ?_
    exact g_iret d_X7_timesUntil_96 (Or.inl rfl) rfl
  · refine g_aload_n (n := 2) d_X7_timesUntil_35 rfl rfl ?_
    refine g_iload_n (n := 3) d_X7_timesUntil_36 rfl rfl ?_
    refine g_iload (n := 7) d_X7_timesUntil_37 rfl ?_
    refine g_iadd d_X7_timesUntil_39 ?_
    refine g_guard (fun h2 => ?_)
    refine g_iaload d_X7_timesUntil_40 (shp_IA h2) (fun _ => ?_)
    refine g_nm (fun y3 => ?_)
    refine g_istore d_X7_timesUntil_41 (by decide) rfl ?_
    refine g_aload_n (n := 1) d_X7_timesUntil_43 rfl rfl ?_
    refine g_getr d_X7_timesUntil_44 fl_X7_30 sh_0 rfl ?_
    refine g_iload (n := 0) d_X7_timesUntil_47 rfl ?_
    refine g_callv_pi (D := D + 3) (As := [.int y3]) d_X7_timesUntil_49 sv_X7_153 ob_20 rfl (Nat.le_of_ble_eq_true rfl) rfl (fun _ hy => EvM_cast (by omega) (e_X6_canHave (D := D + 1) hy)) (fun y4 => ?_)
    refine g_if_ne (tgt := 57) d_X7_timesUntil_52 (by decide) (fun c5 => ?_) (fun c5 => ?_)
    · refine g_iload (n := 7) d_X7_timesUntil_57 rfl ?_
      refine g_aload_n (n := 1) d_X7_timesUntil_59 rfl rfl ?_
      refine g_getr d_X7_timesUntil_60 fl_X7_30 sh_0 rfl ?_
      refine g_iload (n := 0) d_X7_timesUntil_63 rfl ?_
      refine g_callv_ii (D := D + 3) (As := [.int y3]) d_X7_timesUntil_65 sv_X7_161 ob_20 rfl (Nat.le_of_ble_eq_true rfl) rfl (fun _ hy => EvM_cast (by omega) (e_X6_hand (D := D + 0) hy)) (fun y6 σ7 => ?_)
      refine g_iadd d_X7_timesUntil_68 ?_
      refine g_nm (fun y8 => ?_)
      refine g_istore d_X7_timesUntil_69 (by decide) rfl ?_
      refine g_iload (n := 7) d_X7_timesUntil_71 rfl ?_
      refine g_if_ge (tgt := 88) d_X7_timesUntil_73 (by decide) (fun c9 => ?_) (fun c9 => ?_)
      · refine g_sub [2, 3, 4, 5, 6, 7, 0, 8] rfl ?_
        exact t_X7_timesUntil_b88 hk28
      · refine g_iload (n := 0) d_X7_timesUntil_76 rfl ?_
        refine g_iload_n (n := 3) d_X7_timesUntil_78 rfl rfl ?_
        refine g_icmp_lt (tgt := 88) d_X7_timesUntil_79 (by decide) (fun c10 => ?_) (fun c10 => ?_)
        · refine g_sub [2, 3, 4, 5, 6, 7, 0, 8] rfl ?_
          exact t_X7_timesUntil_b88 hk28
        · refine g_iload (n := 8) d_X7_timesUntil_82 rfl ?_
          refine g_iconst (v := 1) d_X7_timesUntil_84 (by decide) ?_
          refine g_iadd d_X7_timesUntil_85 ?_
          refine g_nm (fun y11 => ?_)
          refine g_istore d_X7_timesUntil_86 (by decide) rfl ?_
          refine g_sub [3, 4, 5, 6, 7, 0, 1, 8] rfl ?_
          exact t_X7_timesUntil_b88 hk28
    · refine g_iconst (v := -1) d_X7_timesUntil_55 (by decide) ?_
      exact g_iret d_X7_timesUntil_56 (Or.inl rfl) rfl
set_option maxHeartbeats 4000000 in
set_option maxRecDepth 100000 in
theorem t_X7_timesUntil_l28 {l : Launch} {sc : Nat × (Nat → Int32)} {D : Nat} {n : Nat} : ∀ (f : Nat) (x1 : Int32) (x2 : Nat) (x3 : Int32) (x4 : Int32) (x5 : Int32) (x6 : Int32) (x7 : Int32) (σ : Mem), G l sc (D + 4) m_X7_timesUntil 28 [(0, .ref 0), (1, .int x1), (2, .ref x2), (3, .int x3), (4, .int x4), (5, .int x5), (6, .int x6), (7, .int x7)] [] σ (f_X7_timesUntil_l28 n f x1 x2 x3 x4 x5 x6 x7 σ) (fun y => (some (.int y.1), y.2)) := by
  intro f
  induction f with
  | zero => intro x1 x2 x3 x4 x5 x6 x7 σ; exact g_none
  | succ f ih => intro x1 x2 x3 x4 x5 x6 x7 σ; exact t_X7_timesUntil_b28 ih
set_option maxHeartbeats 4000000 in
set_option maxRecDepth 100000 in
theorem t_X7_timesUntil_b20 {l : Launch} {sc : Nat × (Nat → Int32)} {D : Nat} {n : Nat} {x1 : Int32} {x2 : Nat} {x3 : Int32} {x4 : Int32} {s0 : Int32} {σ : Mem} : G l sc (D + 4) m_X7_timesUntil 20 [(0, .ref 0), (1, .int x1), (2, .ref x2), (3, .int x3), (4, .int x4)] [.int s0] σ (f_X7_timesUntil_b20 n x1 x2 x3 x4 s0 σ) (fun y => (some (.int y.1), y.2)) := by
  unfold f_X7_timesUntil_b20
  refine g_istore d_X7_timesUntil_20 (by decide) rfl ?_
  refine g_iconst (v := 0) d_X7_timesUntil_22 (by decide) ?_
  refine g_istore d_X7_timesUntil_23 (by decide) rfl ?_
  refine g_iconst (v := 0) d_X7_timesUntil_25 (by decide) ?_
  refine g_istore d_X7_timesUntil_26 (by decide) rfl ?_
  refine g_sub [3, 4, 5, 6, 7, 2, 1, 0] rfl ?_
  exact t_X7_timesUntil_l28  _ _ _ _ _ _ _ _ _
set_option maxHeartbeats 4000000 in
set_option maxRecDepth 100000 in
theorem t_X7_timesUntil {l : Launch} {sc : Nat × (Nat → Int32)} {D : Nat} {n : Nat} {x1 : Int32} {x2 : Nat} {x3 : Int32} {x4 : Int32} {σ : Mem} : G l sc (D + 4) m_X7_timesUntil 0 [(0, .ref 0), (1, .int x1), (2, .ref x2), (3, .int x3), (4, .int x4)] [] σ (f_X7_timesUntil n x1 x2 x3 x4 σ) (fun y => (some (.int y.1), y.2)) := by
  unfold f_X7_timesUntil
  refine g_aload_n (n := 0) d_X7_timesUntil_0 rfl rfl ?_
  refine g_getr d_X7_timesUntil_1 fl_X7_30 sh_0 rfl ?_
  refine g_aload_n (n := 0) d_X7_timesUntil_4 rfl rfl ?_
  refine g_getr d_X7_timesUntil_5 fl_X7_26 sh_0 rfl ?_
  refine g_callv_vv (D := D + 3) (As := [.ref 15]) d_X7_timesUntil_8 sv_X7_137 ob_20 rfl (Nat.le_of_ble_eq_true rfl) rfl (fun _ hy => EvM_cast (by omega) (e_X6_takeOver (D := D + 2) hy)) (fun σ2 => ?_)
  refine g_iload_n (n := 1) d_X7_timesUntil_11 rfl rfl ?_
  refine g_if_gt (tgt := 19) d_X7_timesUntil_12 (by decide) (fun c3 => ?_) (fun c3 => ?_)
  · refine g_iconst (v := -1) d_X7_timesUntil_19 (by decide) ?_
    refine g_sub [0, 1, 2, 3, 4] rfl ?_
    exact t_X7_timesUntil_b20 
  · refine g_iconst (v := 0) d_X7_timesUntil_15 (by decide) ?_
    refine g_goto (tgt := 20) d_X7_timesUntil_16 (by decide) ?_
    refine g_sub [0, 1, 2, 3, 4] rfl ?_
    exact t_X7_timesUntil_b20 
theorem e_X7_timesUntil {l : Launch} {D : Nat} {n : Nat} {x1 : Int32} {x2 : Nat} {x3 : Int32} {x4 : Int32} {σ : Mem} {y : (Int32 × Mem)} (hy : f_X7_timesUntil n x1 x2 x3 x4 σ = some y) : EvM l (D + 4) m_X7_timesUntil [.ref 0, .int x1, .ref x2, .int x3, .int x4] σ ((fun y => (some (.int y.1), y.2)) y) :=
  evM_of (d := m_X7_timesUntil) (nL := 9) rfl (by decide +kernel) (fun h => absurd (congrArg MethodName.cls h) (by decide +kernel)) (Nat.le_of_ble_eq_true rfl) (t_X7_timesUntil y hy)

set_option maxHeartbeats 4000000 in
set_option maxRecDepth 100000 in
theorem t_X7_power_b4 {l : Launch} {sc : Nat × (Nat → Int32)} {D : Nat} {n : Nat} {σ : Mem} {k4 : Int32 → Int32 → Int32 → Int32 → Option Int32} {x0 : Int32} {x1 : Int32} {x2 : Int32} {x3 : Int32} (hk4 : ∀ x0 x1 x2 x3, G l sc (D + 0) m_X7_power 4 [(0, .int x0), (1, .int x1), (2, .int x2), (3, .int x3)] [] σ (k4 x0 x1 x2 x3) (fun y => (some (.int y), σ))) : G l sc (D + 0) m_X7_power 4 [(0, .int x0), (1, .int x1), (2, .int x2), (3, .int x3)] [] σ (f_X7_power_b4 n σ k4 x0 x1 x2 x3) (fun y => (some (.int y), σ)) := by
  unfold f_X7_power_b4
  refine g_iload_n (n := 3) d_X7_power_4 rfl rfl ?_
  refine g_iload_n (n := 1) d_X7_power_5 rfl rfl ?_
  refine g_icmp_ge (tgt := 19) d_X7_power_6 (by decide) (fun c1 => ?_) (fun c1 => ?_)
  · refine g_iload_n (n := 2) d_X7_power_19 rfl rfl ?_
    exact g_iret d_X7_power_20 (Or.inl rfl) rfl
  · refine g_iload_n (n := 2) d_X7_power_9 rfl rfl ?_
    refine g_iload_n (n := 0) d_X7_power_10 rfl rfl ?_
    refine g_imul d_X7_power_11 ?_
    refine g_nm (fun y2 => ?_)
    refine g_istore_n d_X7_power_12 rfl (by decide) rfl ?_
    refine g_iinc (n := 3) (w := 1) d_X7_power_13 rfl (by decide) (by decide) rfl ?_
    refine g_goto (tgt := 4) d_X7_power_16 (by decide) ?_
    refine g_sub [2, 3, 1, 0] rfl ?_
    exact hk4 _ _ _ _
set_option maxHeartbeats 4000000 in
set_option maxRecDepth 100000 in
theorem t_X7_power_l4 {l : Launch} {sc : Nat × (Nat → Int32)} {D : Nat} {n : Nat} {σ : Mem} : ∀ (f : Nat) (x0 : Int32) (x1 : Int32) (x2 : Int32) (x3 : Int32), G l sc (D + 0) m_X7_power 4 [(0, .int x0), (1, .int x1), (2, .int x2), (3, .int x3)] [] σ (f_X7_power_l4 n σ f x0 x1 x2 x3) (fun y => (some (.int y), σ)) := by
  intro f
  induction f with
  | zero => intro x0 x1 x2 x3; exact g_none
  | succ f ih => intro x0 x1 x2 x3; exact t_X7_power_b4 ih
set_option maxHeartbeats 4000000 in
set_option maxRecDepth 100000 in
theorem t_X7_power {l : Launch} {sc : Nat × (Nat → Int32)} {D : Nat} {n : Nat} {σ : Mem} {x0 : Int32} {x1 : Int32} : G l sc (D + 0) m_X7_power 0 [(0, .int x0), (1, .int x1)] [] σ (f_X7_power n σ x0 x1) (fun y => (some (.int y), σ)) := by
  unfold f_X7_power
  refine g_iconst (v := 1) d_X7_power_0 (by decide) ?_
  refine g_istore_n d_X7_power_1 rfl (by decide) rfl ?_
  refine g_iconst (v := 0) d_X7_power_2 (by decide) ?_
  refine g_istore_n d_X7_power_3 rfl (by decide) rfl ?_
  refine g_sub [2, 3, 1, 0] rfl ?_
  exact t_X7_power_l4  _ _ _ _ _
theorem e_X7_power {l : Launch} {D : Nat} {n : Nat} {σ : Mem} {x0 : Int32} {x1 : Int32} {y : Int32} (hy : f_X7_power n σ x0 x1 = some y) : EvM l (D + 0) m_X7_power [.int x0, .int x1] σ ((fun y => (some (.int y), σ)) y) :=
  evM_of (d := m_X7_power) (nL := 4) rfl (by decide +kernel) (fun h => absurd (congrArg MethodName.cls h) (by decide +kernel)) (Nat.le_of_ble_eq_true rfl) (t_X7_power y hy)

set_option maxHeartbeats 4000000 in
set_option maxRecDepth 100000 in
theorem t_X7_commonDivisor_b7 {l : Launch} {sc : Nat × (Nat → Int32)} {D : Nat} {n : Nat} {σ : Mem} {k7 : Int32 → Int32 → Int32 → Option Int32} {x2 : Int32} {x3 : Int32} {x4 : Int32} (hk7 : ∀ x2 x3 x4, G l sc (D + 0) m_X7_commonDivisor 7 [(2, .int x2), (3, .int x3), (4, .int x4)] [] σ (k7 x2 x3 x4) (fun y => (some (.int y), σ))) : G l sc (D + 0) m_X7_commonDivisor 7 [(2, .int x2), (3, .int x3), (4, .int x4)] [] σ (f_X7_commonDivisor_b7 n σ k7 x2 x3 x4) (fun y => (some (.int y), σ)) := by
  unfold f_X7_commonDivisor_b7
  refine g_iload (n := 2) d_X7_commonDivisor_7 rfl ?_
  refine g_bipush (v := 64) d_X7_commonDivisor_9 (by decide) ?_
  refine g_icmp_ge (tgt := 34) d_X7_commonDivisor_11 (by decide) (fun c1 => ?_) (fun c1 => ?_)
  · refine g_iload_n (n := 0) d_X7_commonDivisor_34 rfl rfl ?_
    exact g_iret d_X7_commonDivisor_35 (Or.inl rfl) rfl
  · refine g_iload_n (n := 1) d_X7_commonDivisor_14 rfl rfl ?_
    refine g_if_eq (tgt := 34) d_X7_commonDivisor_15 (by decide) (fun c2 => ?_) (fun c2 => ?_)
    · refine g_iload_n (n := 0) d_X7_commonDivisor_34 rfl rfl ?_
      exact g_iret d_X7_commonDivisor_35 (Or.inl rfl) rfl
    · refine g_iload_n (n := 0) d_X7_commonDivisor_18 rfl rfl ?_
      refine g_iload_n (n := 1) d_X7_commonDivisor_19 rfl rfl ?_
      refine g_if (fun _ => g_none) (fun h3 => ?_)
      refine g_irem d_X7_commonDivisor_20 h3 ?_
      refine g_nm (fun y4 => ?_)
      refine g_istore d_X7_commonDivisor_21 (by decide) rfl ?_
      refine g_iload_n (n := 2) d_X7_commonDivisor_23 rfl rfl ?_
      refine g_istore_n d_X7_commonDivisor_24 rfl (by decide) rfl ?_
      refine g_iload (n := 1) d_X7_commonDivisor_25 rfl ?_
      refine g_istore_n d_X7_commonDivisor_27 rfl (by decide) rfl ?_
      refine g_iinc (n := 3) (w := 1) d_X7_commonDivisor_28 rfl (by decide) (by decide) rfl ?_
      refine g_goto (tgt := 7) d_X7_commonDivisor_31 (by decide) ?_
      refine g_sub [2, 1, 0] rfl ?_
      exact hk7 _ _ _
set_option maxHeartbeats 4000000 in
set_option maxRecDepth 100000 in
theorem t_X7_commonDivisor_l7 {l : Launch} {sc : Nat × (Nat → Int32)} {D : Nat} {n : Nat} {σ : Mem} : ∀ (f : Nat) (x2 : Int32) (x3 : Int32) (x4 : Int32), G l sc (D + 0) m_X7_commonDivisor 7 [(2, .int x2), (3, .int x3), (4, .int x4)] [] σ (f_X7_commonDivisor_l7 n σ f x2 x3 x4) (fun y => (some (.int y), σ)) := by
  intro f
  induction f with
  | zero => intro x2 x3 x4; exact g_none
  | succ f ih => intro x2 x3 x4; exact t_X7_commonDivisor_b7 ih
set_option maxHeartbeats 4000000 in
set_option maxRecDepth 100000 in
theorem t_X7_commonDivisor {l : Launch} {sc : Nat × (Nat → Int32)} {D : Nat} {n : Nat} {σ : Mem} {x0 : Int32} {x1 : Int32} : G l sc (D + 0) m_X7_commonDivisor 0 [(0, .int x0), (1, .int x1)] [] σ (f_X7_commonDivisor n σ x0 x1) (fun y => (some (.int y), σ)) := by
  unfold f_X7_commonDivisor
  refine g_iload_n (n := 0) d_X7_commonDivisor_0 rfl rfl ?_
  refine g_istore_n d_X7_commonDivisor_1 rfl (by decide) rfl ?_
  refine g_iload_n (n := 2) d_X7_commonDivisor_2 rfl rfl ?_
  refine g_istore_n d_X7_commonDivisor_3 rfl (by decide) rfl ?_
  refine g_iconst (v := 0) d_X7_commonDivisor_4 (by decide) ?_
  refine g_istore d_X7_commonDivisor_5 (by decide) rfl ?_
  refine g_sub [2, 1, 0] rfl ?_
  exact t_X7_commonDivisor_l7  _ _ _ _
theorem e_X7_commonDivisor {l : Launch} {D : Nat} {n : Nat} {σ : Mem} {x0 : Int32} {x1 : Int32} {y : Int32} (hy : f_X7_commonDivisor n σ x0 x1 = some y) : EvM l (D + 0) m_X7_commonDivisor [.int x0, .int x1] σ ((fun y => (some (.int y), σ)) y) :=
  evM_of (d := m_X7_commonDivisor) (nL := 6) rfl (by decide +kernel) (fun h => absurd (congrArg MethodName.cls h) (by decide +kernel)) (Nat.le_of_ble_eq_true rfl) (t_X7_commonDivisor y hy)

set_option maxHeartbeats 4000000 in
set_option maxRecDepth 100000 in
theorem t_X7_lost_b157 {l : Launch} {sc : Nat × (Nat → Int32)} {D : Nat} {n : Nat} {x11 : Int32} {s0 : Int32} {σ : Mem} : G l sc (D + 5) m_X7_lost 157 [(11, .int x11)] [.int s0, .ref 0] σ (f_X7_lost_b157 n x11 s0 σ) (fun y => (some (.int y.1), y.2)) := by
  unfold f_X7_lost_b157
  refine g_iload (n := 0) d_X7_lost_157 rfl ?_
  refine g_if (fun _ => g_none) (fun h1 => ?_)
  refine g_idiv d_X7_lost_159 h1 ?_
  refine g_callv_ii (D := D + 4) (As := [.int (s0 / x11)]) d_X7_lost_160 sv_X7_80 ob_0 rfl (Nat.le_of_ble_eq_true rfl) rfl (fun _ hy => EvM_cast (by omega) (e_X7_foundNothing (D := D + 4) hy)) (fun y2 σ3 => ?_)
  exact g_iret d_X7_lost_163 (Or.inl rfl) rfl
set_option maxHeartbeats 4000000 in
set_option maxRecDepth 100000 in
theorem t_X7_lost_b129 {l : Launch} {sc : Nat × (Nat → Int32)} {D : Nat} {n : Nat} {x6 : Int32} {x9 : Int32} {s0 : Int32} {σ : Mem} : G l sc (D + 5) m_X7_lost 129 [(0, .ref 0), (6, .int x6), (9, .int x9)] [.int s0] σ (f_X7_lost_b129 n x6 x9 s0 σ) (fun y => (some (.int y.1), y.2)) := by
  unfold f_X7_lost_b129
  refine g_istore d_X7_lost_129 (by decide) rfl ?_
  refine g_iconst (v := 1) d_X7_lost_131 (by decide) ?_
  refine g_iload (n := 3) d_X7_lost_132 rfl ?_
  refine g_iload (n := 0) d_X7_lost_134 rfl ?_
  refine g_calls_pi (D := D + 4) (As := [.int x9, .int s0]) d_X7_lost_136 ss_X7_248 rfl (Nat.le_of_ble_eq_true rfl) rfl (fun _ hy => EvM_cast (by omega) (e_X7_commonDivisor (D := D + 4) hy)) (fun y1 => ?_)
  refine g_max (D := D + 4) d_X7_lost_139 ma_X7_251 (Nat.le_of_ble_eq_true rfl) ?_
  refine g_nm (fun y2 => ?_)
  refine g_istore d_X7_lost_142 (by decide) rfl ?_
  refine g_aload_n (n := 2) d_X7_lost_144 rfl rfl ?_
  refine g_iload (n := 3) d_X7_lost_145 rfl ?_
  refine g_if_ne (tgt := 155) d_X7_lost_147 (by decide) (fun c3 => ?_) (fun c3 => ?_)
  · refine g_iload (n := 1) d_X7_lost_155 rfl ?_
    refine g_sub [0] rfl ?_
    exact t_X7_lost_b157 
  · refine g_iload (n := 4) d_X7_lost_150 rfl ?_
    refine g_goto (tgt := 157) d_X7_lost_152 (by decide) ?_
    refine g_sub [0] rfl ?_
    exact t_X7_lost_b157 
set_option maxHeartbeats 4000000 in
set_option maxRecDepth 100000 in
theorem t_X7_lost_b111 {l : Launch} {sc : Nat × (Nat → Int32)} {D : Nat} {n : Nat} {x6 : Int32} {x8 : Int32} {s0 : Int32} {σ : Mem} : G l sc (D + 5) m_X7_lost 111 [(0, .ref 0), (6, .int x6), (8, .int x8)] [.int s0] σ (f_X7_lost_b111 n x6 x8 s0 σ) (fun y => (some (.int y.1), y.2)) := by
  unfold f_X7_lost_b111
  refine g_istore d_X7_lost_111 (by decide) rfl ?_
  refine g_iload (n := 3) d_X7_lost_113 rfl ?_
  refine g_if_ge (tgt := 122) d_X7_lost_115 (by decide) (fun c1 => ?_) (fun c1 => ?_)
  · refine g_bipush (v := 10) d_X7_lost_122 (by decide) ?_
    refine g_iload (n := 3) d_X7_lost_124 rfl ?_
    refine g_calls_pi (D := D + 4) (As := [.int 10, .int x8]) d_X7_lost_126 ss_X7_244 rfl (Nat.le_of_ble_eq_true rfl) rfl (fun _ hy => EvM_cast (by omega) (e_X7_power (D := D + 4) hy)) (fun y2 => ?_)
    refine g_sub [1, 2, 0] rfl ?_
    exact t_X7_lost_b129 
  · refine g_iconst (v := 1) d_X7_lost_118 (by decide) ?_
    refine g_goto (tgt := 129) d_X7_lost_119 (by decide) ?_
    refine g_sub [1, 2, 0] rfl ?_
    exact t_X7_lost_b129 
set_option maxHeartbeats 4000000 in
set_option maxRecDepth 100000 in
theorem t_X7_lost {l : Launch} {sc : Nat × (Nat → Int32)} {D : Nat} {n : Nat} {x1 : Int32} {x2 : Int32} {x3 : Int32} {x4 : Int32} {x5 : Int32} {x6 : Int32} {σ : Mem} : G l sc (D + 5) m_X7_lost 0 [(0, .ref 0), (1, .int x1), (2, .int x2), (3, .int x3), (4, .int x4), (5, .int x5), (6, .int x6)] [] σ (f_X7_lost n x1 x2 x3 x4 x5 x6 σ) (fun y => (some (.int y.1), y.2)) := by
  unfold f_X7_lost
  refine g_aload_n (n := 0) d_X7_lost_0 rfl rfl ?_
  refine g_getr d_X7_lost_1 fl_X7_26 sh_0 rfl ?_
  refine g_geti d_X7_lost_4 fl_X7_130 sh_15 rfl ?_
  refine g_if_ne (tgt := 13) d_X7_lost_7 (by decide) (fun c1 => ?_) (fun c1 => ?_)
  · refine g_iload_n (n := 1) d_X7_lost_13 rfl rfl ?_
    refine g_iload_n (n := 3) d_X7_lost_14 rfl rfl ?_
    refine g_iload (n := 5) d_X7_lost_15 rfl ?_
    refine g_calls_pi (D := D + 4) (As := [.int x1, .int x3, .int x5]) d_X7_lost_17 ss_X7_230 rfl (Nat.le_of_ble_eq_true rfl) rfl (fun _ hy => EvM_cast (by omega) (e_X7_isTold (D := D + 3) hy)) (fun y2 => ?_)
    refine g_if_eq (tgt := 46) d_X7_lost_20 (by decide) (fun c3 => ?_) (fun c3 => ?_)
    · refine g_ldc d_X7_lost_46 kc_X7_71 ?_
      exact g_iret d_X7_lost_48 (Or.inl rfl) rfl
    · refine g_iload (n := 4) d_X7_lost_23 rfl ?_
      refine g_if_lt (tgt := 46) d_X7_lost_25 (by decide) (fun c4 => ?_) (fun c4 => ?_)
      · refine g_ldc d_X7_lost_46 kc_X7_71 ?_
        exact g_iret d_X7_lost_48 (Or.inl rfl) rfl
      · refine g_iload (n := 4) d_X7_lost_28 rfl ?_
        refine g_bipush (v := 10) d_X7_lost_30 (by decide) ?_
        refine g_icmp_gt (tgt := 46) d_X7_lost_32 (by decide) (fun c5 => ?_) (fun c5 => ?_)
        · refine g_ldc d_X7_lost_46 kc_X7_71 ?_
          exact g_iret d_X7_lost_48 (Or.inl rfl) rfl
        · refine g_iload (n := 6) d_X7_lost_35 rfl ?_
          refine g_if_lt (tgt := 46) d_X7_lost_37 (by decide) (fun c6 => ?_) (fun c6 => ?_)
          · refine g_ldc d_X7_lost_46 kc_X7_71 ?_
            exact g_iret d_X7_lost_48 (Or.inl rfl) rfl
          · refine g_iload (n := 6) d_X7_lost_40 rfl ?_
            refine g_iconst (v := 1) d_X7_lost_42 (by decide) ?_
            refine g_icmp_le (tgt := 49) d_X7_lost_43 (by decide) (fun c7 => ?_) (fun c7 => ?_)
            · refine g_aload_n (n := 0) d_X7_lost_49 rfl rfl ?_
              refine g_getr d_X7_lost_50 fl_X7_10 sh_0 rfl ?_
              refine g_iload_n (n := 1) d_X7_lost_53 rfl rfl ?_
              refine g_iload_n (n := 2) d_X7_lost_54 rfl rfl ?_
              refine g_iload_n (n := 3) d_X7_lost_55 rfl rfl ?_
              refine g_callv_pi (D := D + 4) (As := [.int x1, .int x2, .int x3]) d_X7_lost_56 sv_X7_83 ob_1 rfl (Nat.le_of_ble_eq_true rfl) rfl (fun _ hy => EvM_cast (by omega) (e_X2_findingOf (D := D + 3) hy)) (fun y8 => ?_)
              refine g_istore d_X7_lost_59 (by decide) rfl ?_
              refine g_iload (n := 0) d_X7_lost_61 rfl ?_
              refine g_if_eq (tgt := 73) d_X7_lost_63 (by decide) (fun c9 => ?_) (fun c9 => ?_)
              · refine g_aload_n (n := 1) d_X7_lost_73 rfl rfl ?_
                refine g_iload (n := 6) d_X7_lost_74 rfl ?_
                refine g_aload_n (n := 1) d_X7_lost_76 rfl rfl ?_
                refine g_getr d_X7_lost_77 fl_X7_10 sh_0 rfl ?_
                refine g_getr d_X7_lost_80 fl_X7_101 sh_1 rfl ?_
                refine g_iload_n (n := 2) d_X7_lost_83 rfl rfl ?_
                refine g_aaload d_X7_lost_84 sh_4 (fun h10 => ?_)
                refine g_iload_n (n := 3) d_X7_lost_85 rfl rfl ?_
                refine g_iload_n (n := 4) d_X7_lost_86 rfl rfl ?_
                refine g_callv_ii (D := D + 4) (As := [.int x5, .ref (5 + x1.toNatClampNeg), .int x2, .int x3]) d_X7_lost_87 sv_X7_240 ob_0 rfl (Nat.le_of_ble_eq_true rfl) rfl (fun _ hy => EvM_cast (by omega) (e_X7_timesUntil (D := D + 0) hy)) (fun y11 σ12 => ?_)
                refine g_istore d_X7_lost_90 (by decide) rfl ?_
                refine g_iload (n := 0) d_X7_lost_92 rfl ?_
                refine g_if_ge (tgt := 101) d_X7_lost_94 (by decide) (fun c13 => ?_) (fun c13 => ?_)
                · refine g_bipush (v := 10) d_X7_lost_101 (by decide) ?_
                  refine g_iload (n := 6) d_X7_lost_103 rfl ?_
                  refine g_isub d_X7_lost_105 ?_
                  refine g_iload (n := 0) d_X7_lost_106 rfl ?_
                  refine g_calls_pi (D := D + 4) (As := [.int (10 - x4), .int y11]) d_X7_lost_108 ss_X7_244 rfl (Nat.le_of_ble_eq_true rfl) rfl (fun _ hy => EvM_cast (by omega) (e_X7_power (D := D + 4) hy)) (fun y14 => ?_)
                  refine g_sub [2, 8, 0] rfl ?_
                  exact t_X7_lost_b111 
                · refine g_iconst (v := 0) d_X7_lost_97 (by decide) ?_
                  refine g_goto (tgt := 111) d_X7_lost_98 (by decide) ?_
                  refine g_sub [2, 8, 0] rfl ?_
                  exact t_X7_lost_b111 
              · refine g_aload_n (n := 1) d_X7_lost_66 rfl rfl ?_
                refine g_iload (n := 0) d_X7_lost_67 rfl ?_
                refine g_callv_ii (D := D + 4) (As := [.int y8]) d_X7_lost_69 sv_X7_72 ob_0 rfl (Nat.le_of_ble_eq_true rfl) rfl (fun _ hy => EvM_cast (by omega) (e_X7_found (D := D + 4) hy)) (fun y15 σ16 => ?_)
                exact g_iret d_X7_lost_72 (Or.inl rfl) rfl
            · refine g_ldc d_X7_lost_46 kc_X7_71 ?_
              exact g_iret d_X7_lost_48 (Or.inl rfl) rfl
  · refine g_ldc d_X7_lost_10 kc_X7_156 ?_
    exact g_iret d_X7_lost_12 (Or.inl rfl) rfl
theorem e_X7_lost {l : Launch} {D : Nat} {n : Nat} {x1 : Int32} {x2 : Int32} {x3 : Int32} {x4 : Int32} {x5 : Int32} {x6 : Int32} {σ : Mem} {y : (Int32 × Mem)} (hy : f_X7_lost n x1 x2 x3 x4 x5 x6 σ = some y) : EvM l (D + 5) m_X7_lost [.ref 0, .int x1, .int x2, .int x3, .int x4, .int x5, .int x6] σ ((fun y => (some (.int y.1), y.2)) y) :=
  evM_of (d := m_X7_lost) (nL := 12) rfl (by decide +kernel) (fun h => absurd (congrArg MethodName.cls h) (by decide +kernel)) (Nat.le_of_ble_eq_true rfl) (t_X7_lost y hy)

set_option maxHeartbeats 4000000 in
set_option maxRecDepth 100000 in
theorem t_X7_drawn_b149 {l : Launch} {sc : Nat × (Nat → Int32)} {D : Nat} {n : Nat} {k65 : Int32 → Int32 → Int64 → Int32 → Mem → Option (Int32 × Mem)} {x1 : Int32} {x3 : Int32} {x4 : Int64} {x6 : Int32} {σ : Mem} (hk65 : ∀ x1 x3 x4 x6 σ, G l sc (D + 4) m_X7_drawn 65 [(0, .ref 0), (1, .int x1), (3, .int x3), (4, .long x4), (6, .int x6)] [] σ (k65 x1 x3 x4 x6 σ) (fun y => (some (.int y.1), y.2))) : G l sc (D + 4) m_X7_drawn 149 [(0, .ref 0), (1, .int x1), (3, .int x3), (4, .long x4), (6, .int x6)] [] σ (f_X7_drawn_b149 n k65 x1 x3 x4 x6 σ) (fun y => (some (.int y.1), y.2)) := by
  unfold f_X7_drawn_b149
  refine g_iinc (n := 4) (w := 1) d_X7_drawn_149 rfl (by decide) (by decide) rfl ?_
  refine g_goto (tgt := 65) d_X7_drawn_152 (by decide) ?_
  refine g_sub [1, 2, 3, 4, 0] rfl ?_
  exact hk65 _ _ _ _ _
set_option maxHeartbeats 4000000 in
set_option maxRecDepth 100000 in
theorem t_X7_drawn_b109 {l : Launch} {sc : Nat × (Nat → Int32)} {D : Nat} {n : Nat} {k65 : Int32 → Int32 → Int64 → Int32 → Mem → Option (Int32 × Mem)} {x1 : Int32} {x3 : Int32} {x4 : Int64} {x6 : Int32} {s0 : Int32} {σ : Mem} (hk65 : ∀ x1 x3 x4 x6 σ, G l sc (D + 4) m_X7_drawn 65 [(0, .ref 0), (1, .int x1), (3, .int x3), (4, .long x4), (6, .int x6)] [] σ (k65 x1 x3 x4 x6 σ) (fun y => (some (.int y.1), y.2))) : G l sc (D + 4) m_X7_drawn 109 [(0, .ref 0), (1, .int x1), (3, .int x3), (4, .long x4), (6, .int x6)] [.int s0] σ (f_X7_drawn_b109 n k65 x1 x3 x4 x6 s0 σ) (fun y => (some (.int y.1), y.2)) := by
  unfold f_X7_drawn_b109
  refine g_istore d_X7_drawn_109 (by decide) rfl ?_
  refine g_aload_n (n := 1) d_X7_drawn_111 rfl rfl ?_
  refine g_getr d_X7_drawn_112 fl_X7_30 sh_0 rfl ?_
  refine g_iload (n := 0) d_X7_drawn_115 rfl ?_
  refine g_callv_pi (D := D + 3) (As := [.int s0]) d_X7_drawn_117 sv_X7_153 ob_20 rfl (Nat.le_of_ble_eq_true rfl) rfl (fun _ hy => EvM_cast (by omega) (e_X6_canHave (D := D + 1) hy)) (fun y1 => ?_)
  refine g_if_eq (tgt := 136) d_X7_drawn_120 (by decide) (fun c2 => ?_) (fun c2 => ?_)
  · refine g_aload_n (n := 1) d_X7_drawn_136 rfl rfl ?_
    refine g_getr d_X7_drawn_137 fl_X7_30 sh_0 rfl ?_
    refine g_dup d_X7_drawn_140 rfl ?_
    refine g_geti d_X7_drawn_141 fl_X7_164 sh_20 rfl ?_
    refine g_iconst (v := 1) d_X7_drawn_144 (by decide) ?_
    refine g_iadd d_X7_drawn_145 ?_
    refine g_puti d_X7_drawn_146 fl_X7_164 sh_20 rfl ?_
    refine g_mem (fun σ3 => ?_)
    refine g_sub [1, 2, 3, 4, 5] rfl ?_
    exact t_X7_drawn_b149 hk65
  · refine g_aload_n (n := 1) d_X7_drawn_123 rfl rfl ?_
    refine g_getr d_X7_drawn_124 fl_X7_30 sh_0 rfl ?_
    refine g_iload (n := 0) d_X7_drawn_127 rfl ?_
    refine g_callv_ii (D := D + 3) (As := [.int s0]) d_X7_drawn_129 sv_X7_161 ob_20 rfl (Nat.le_of_ble_eq_true rfl) rfl (fun _ hy => EvM_cast (by omega) (e_X6_hand (D := D + 0) hy)) (fun y4 σ5 => ?_)
    refine g_pop d_X7_drawn_132 rfl ?_
    refine g_goto (tgt := 149) d_X7_drawn_133 (by decide) ?_
    refine g_sub [1, 2, 3, 4, 5] rfl ?_
    exact t_X7_drawn_b149 hk65
set_option maxHeartbeats 4000000 in
set_option maxRecDepth 100000 in
theorem t_X7_drawn_b65 {l : Launch} {sc : Nat × (Nat → Int32)} {D : Nat} {n : Nat} {k65 : Int32 → Int32 → Int64 → Int32 → Mem → Option (Int32 × Mem)} {x1 : Int32} {x3 : Int32} {x4 : Int64} {x6 : Int32} {σ : Mem} (hk65 : ∀ x1 x3 x4 x6 σ, G l sc (D + 4) m_X7_drawn 65 [(0, .ref 0), (1, .int x1), (3, .int x3), (4, .long x4), (6, .int x6)] [] σ (k65 x1 x3 x4 x6 σ) (fun y => (some (.int y.1), y.2))) : G l sc (D + 4) m_X7_drawn 65 [(0, .ref 0), (1, .int x1), (3, .int x3), (4, .long x4), (6, .int x6)] [] σ (f_X7_drawn_b65 n k65 x1 x3 x4 x6 σ) (fun y => (some (.int y.1), y.2)) := by
  unfold f_X7_drawn_b65
  refine g_iload (n := 4) d_X7_drawn_65 rfl ?_
  refine g_iload_n (n := 1) d_X7_drawn_67 rfl rfl ?_
  refine g_icmp_ge (tgt := 155) d_X7_drawn_68 (by decide) (fun c1 => ?_) (fun c1 => ?_)
  · refine g_iload_n (n := 2) d_X7_drawn_155 rfl rfl ?_
    refine g_if_ne (tgt := 169) d_X7_drawn_156 (by decide) (fun c2 => ?_) (fun c2 => ?_)
    · refine g_aload_n (n := 0) d_X7_drawn_169 rfl rfl ?_
      refine g_getr d_X7_drawn_170 fl_X7_30 sh_0 rfl ?_
      refine g_geti d_X7_drawn_173 fl_X7_264 sh_20 rfl ?_
      exact g_iret d_X7_drawn_176 (Or.inl rfl) rfl
    · refine g_aload_n (n := 0) d_X7_drawn_159 rfl rfl ?_
      refine g_getr d_X7_drawn_160 fl_X7_30 sh_0 rfl ?_
      refine g_geti d_X7_drawn_163 fl_X7_261 sh_20 rfl ?_
      refine g_goto (tgt := 176) d_X7_drawn_166 (by decide) ?_
      exact g_iret d_X7_drawn_176 (Or.inl rfl) rfl
  · refine g_lload (n := 3) d_X7_drawn_71 rfl ?_
    refine g_ldc2 d_X7_drawn_73 kc_X7_257 ?_
    refine g_lmul d_X7_drawn_76 ?_
    refine g_ldc2 d_X7_drawn_77 kc_X7_259 ?_
    refine g_lrem d_X7_drawn_80 (by decide) ?_
    refine g_nml (fun y3 => ?_)
    refine g_lstore d_X7_drawn_81 (by decide) rfl ?_
    refine g_aload_n (n := 1) d_X7_drawn_83 rfl rfl ?_
    refine g_getr d_X7_drawn_84 fl_X7_30 sh_0 rfl ?_
    refine g_geti d_X7_drawn_87 fl_X7_144 sh_20 rfl ?_
    refine g_if_le (tgt := 108) d_X7_drawn_90 (by decide) (fun c4 => ?_) (fun c4 => ?_)
    · refine g_iconst (v := -1) d_X7_drawn_108 (by decide) ?_
      refine g_sub [1, 2, 3, 0, 4] rfl ?_
      exact t_X7_drawn_b109 hk65
    · refine g_lload (n := 0) d_X7_drawn_93 rfl ?_
      refine g_aload_n (n := 1) d_X7_drawn_95 rfl rfl ?_
      refine g_getr d_X7_drawn_96 fl_X7_30 sh_0 rfl ?_
      refine g_geti d_X7_drawn_99 fl_X7_144 sh_20 rfl ?_
      refine g_i2l d_X7_drawn_102 ?_
      refine g_nml (fun y5 => ?_)
      refine g_if (fun _ => g_none) (fun h6 => ?_)
      refine g_lrem d_X7_drawn_103 h6 ?_
      refine g_l2i d_X7_drawn_104 ?_
      refine g_goto (tgt := 109) d_X7_drawn_105 (by decide) ?_
      refine g_sub [1, 2, 3, 0, 4] rfl ?_
      exact t_X7_drawn_b109 hk65
set_option maxHeartbeats 4000000 in
set_option maxRecDepth 100000 in
theorem t_X7_drawn_l65 {l : Launch} {sc : Nat × (Nat → Int32)} {D : Nat} {n : Nat} : ∀ (f : Nat) (x1 : Int32) (x3 : Int32) (x4 : Int64) (x6 : Int32) (σ : Mem), G l sc (D + 4) m_X7_drawn 65 [(0, .ref 0), (1, .int x1), (3, .int x3), (4, .long x4), (6, .int x6)] [] σ (f_X7_drawn_l65 n f x1 x3 x4 x6 σ) (fun y => (some (.int y.1), y.2)) := by
  intro f
  induction f with
  | zero => intro x1 x3 x4 x6 σ; exact g_none
  | succ f ih => intro x1 x3 x4 x6 σ; exact t_X7_drawn_b65 ih
set_option maxHeartbeats 4000000 in
set_option maxRecDepth 100000 in
theorem t_X7_drawn {l : Launch} {sc : Nat × (Nat → Int32)} {D : Nat} {n : Nat} {x1 : Int32} {x2 : Int32} {x3 : Int32} {σ : Mem} : G l sc (D + 4) m_X7_drawn 0 [(0, .ref 0), (1, .int x1), (2, .int x2), (3, .int x3)] [] σ (f_X7_drawn n x1 x2 x3 σ) (fun y => (some (.int y.1), y.2)) := by
  unfold f_X7_drawn
  refine g_aload_n (n := 0) d_X7_drawn_0 rfl rfl ?_
  refine g_getr d_X7_drawn_1 fl_X7_26 sh_0 rfl ?_
  refine g_geti d_X7_drawn_4 fl_X7_130 sh_15 rfl ?_
  refine g_if_ne (tgt := 13) d_X7_drawn_7 (by decide) (fun c1 => ?_) (fun c1 => ?_)
  · refine g_iload_n (n := 1) d_X7_drawn_13 rfl rfl ?_
    refine g_if_lt (tgt := 44) d_X7_drawn_14 (by decide) (fun c2 => ?_) (fun c2 => ?_)
    · refine g_ldc d_X7_drawn_44 kc_X7_71 ?_
      exact g_iret d_X7_drawn_46 (Or.inl rfl) rfl
    · refine g_iload_n (n := 1) d_X7_drawn_17 rfl rfl ?_
      refine g_bipush (v := 60) d_X7_drawn_18 (by decide) ?_
      refine g_icmp_gt (tgt := 44) d_X7_drawn_20 (by decide) (fun c3 => ?_) (fun c3 => ?_)
      · refine g_ldc d_X7_drawn_44 kc_X7_71 ?_
        exact g_iret d_X7_drawn_46 (Or.inl rfl) rfl
      · refine g_iload_n (n := 2) d_X7_drawn_23 rfl rfl ?_
        refine g_iconst (v := 1) d_X7_drawn_24 (by decide) ?_
        refine g_icmp_lt (tgt := 44) d_X7_drawn_25 (by decide) (fun c4 => ?_) (fun c4 => ?_)
        · refine g_ldc d_X7_drawn_44 kc_X7_71 ?_
          exact g_iret d_X7_drawn_46 (Or.inl rfl) rfl
        · refine g_iload_n (n := 2) d_X7_drawn_28 rfl rfl ?_
          refine g_ldcw d_X7_drawn_29 kc_X7_256 ?_
          refine g_icmp_gt (tgt := 44) d_X7_drawn_32 (by decide) (fun c5 => ?_) (fun c5 => ?_)
          · refine g_ldc d_X7_drawn_44 kc_X7_71 ?_
            exact g_iret d_X7_drawn_46 (Or.inl rfl) rfl
          · refine g_iload_n (n := 3) d_X7_drawn_35 rfl rfl ?_
            refine g_if_lt (tgt := 44) d_X7_drawn_36 (by decide) (fun c6 => ?_) (fun c6 => ?_)
            · refine g_ldc d_X7_drawn_44 kc_X7_71 ?_
              exact g_iret d_X7_drawn_46 (Or.inl rfl) rfl
            · refine g_iload_n (n := 3) d_X7_drawn_39 rfl rfl ?_
              refine g_iconst (v := 1) d_X7_drawn_40 (by decide) ?_
              refine g_icmp_le (tgt := 47) d_X7_drawn_41 (by decide) (fun c7 => ?_) (fun c7 => ?_)
              · refine g_aload_n (n := 0) d_X7_drawn_47 rfl rfl ?_
                refine g_getr d_X7_drawn_48 fl_X7_30 sh_0 rfl ?_
                refine g_aload_n (n := 0) d_X7_drawn_51 rfl rfl ?_
                refine g_getr d_X7_drawn_52 fl_X7_26 sh_0 rfl ?_
                refine g_callv_vv (D := D + 3) (As := [.ref 15]) d_X7_drawn_55 sv_X7_137 ob_20 rfl (Nat.le_of_ble_eq_true rfl) rfl (fun _ hy => EvM_cast (by omega) (e_X6_takeOver (D := D + 2) hy)) (fun σ9 => ?_)
                refine g_iload_n (n := 2) d_X7_drawn_58 rfl rfl ?_
                refine g_i2l d_X7_drawn_59 ?_
                refine g_nml (fun y10 => ?_)
                refine g_lstore d_X7_drawn_60 (by decide) rfl ?_
                refine g_iconst (v := 0) d_X7_drawn_62 (by decide) ?_
                refine g_istore d_X7_drawn_63 (by decide) rfl ?_
                refine g_sub [2, 3, 5, 1, 0] rfl ?_
                exact t_X7_drawn_l65  _ _ _ _ _ _
              · refine g_ldc d_X7_drawn_44 kc_X7_71 ?_
                exact g_iret d_X7_drawn_46 (Or.inl rfl) rfl
  · refine g_ldc d_X7_drawn_10 kc_X7_156 ?_
    exact g_iret d_X7_drawn_12 (Or.inl rfl) rfl
theorem e_X7_drawn {l : Launch} {D : Nat} {n : Nat} {x1 : Int32} {x2 : Int32} {x3 : Int32} {σ : Mem} {y : (Int32 × Mem)} (hy : f_X7_drawn n x1 x2 x3 σ = some y) : EvM l (D + 4) m_X7_drawn [.ref 0, .int x1, .int x2, .int x3] σ ((fun y => (some (.int y.1), y.2)) y) :=
  evM_of (d := m_X7_drawn) (nL := 8) rfl (by decide +kernel) (fun h => absurd (congrArg MethodName.cls h) (by decide +kernel)) (Nat.le_of_ble_eq_true rfl) (t_X7_drawn y hy)

set_option maxHeartbeats 4000000 in
set_option maxRecDepth 100000 in
theorem t_X7_imageNumber {l : Launch} {sc : Nat × (Nat → Int32)} {D : Nat} {σ : Mem} {x1 : Int32} : G l sc (D + 0) m_X7_imageNumber 0 [(0, .ref 0), (1, .int x1)] [] σ (f_X7_imageNumber σ x1) (fun y => (some (.ref y), σ)) := by
  unfold f_X7_imageNumber
  refine g_iload_n (n := 1) d_X7_imageNumber_0 rfl rfl ?_
  refine g_if_ne (tgt := 11) d_X7_imageNumber_1 (by decide) (fun c1 => ?_) (fun c1 => ?_)
  · refine g_aload_n (n := 0) d_X7_imageNumber_11 rfl rfl ?_
    refine g_getr d_X7_imageNumber_12 fl_X7_36 sh_0 rfl ?_
    exact g_aret d_X7_imageNumber_15 ⟨_, rfl⟩ rfl
  · refine g_aload_n (n := 0) d_X7_imageNumber_4 rfl rfl ?_
    refine g_getr d_X7_imageNumber_5 fl_X7_33 sh_0 rfl ?_
    refine g_goto (tgt := 15) d_X7_imageNumber_8 (by decide) ?_
    exact g_aret d_X7_imageNumber_15 ⟨_, rfl⟩ rfl
theorem e_X7_imageNumber {l : Launch} {D : Nat} {σ : Mem} {x1 : Int32} {y : Nat} (hy : f_X7_imageNumber σ x1 = some y) : EvM l (D + 0) m_X7_imageNumber [.ref 0, .int x1] σ ((fun y => (some (.ref y), σ)) y) :=
  evM_of (d := m_X7_imageNumber) (nL := 2) rfl (by decide +kernel) (fun h => absurd (congrArg MethodName.cls h) (by decide +kernel)) (Nat.le_of_ble_eq_true rfl) (t_X7_imageNumber y hy)

set_option maxHeartbeats 4000000 in
set_option maxRecDepth 100000 in
theorem t_X7_image {l : Launch} {sc : Nat × (Nat → Int32)} {D : Nat} {x1 : Int32} {σ : Mem} : G l sc (D + 2) m_X7_image 0 [(0, .ref 0), (1, .int x1)] [] σ (f_X7_image x1 σ) (fun y => (some (.int y.1), y.2)) := by
  unfold f_X7_image
  refine g_iload_n (n := 1) d_X7_image_0 rfl rfl ?_
  refine g_if_lt (tgt := 9) d_X7_image_1 (by decide) (fun c1 => ?_) (fun c1 => ?_)
  · refine g_ldc d_X7_image_9 kc_X7_71 ?_
    exact g_iret d_X7_image_11 (Or.inl rfl) rfl
  · refine g_iload_n (n := 1) d_X7_image_4 rfl rfl ?_
    refine g_iconst (v := 1) d_X7_image_5 (by decide) ?_
    refine g_icmp_le (tgt := 12) d_X7_image_6 (by decide) (fun c2 => ?_) (fun c2 => ?_)
    · refine g_aload_n (n := 0) d_X7_image_12 rfl rfl ?_
      refine g_getr d_X7_image_13 fl_X7_26 sh_0 rfl ?_
      refine g_geti d_X7_image_16 fl_X7_130 sh_15 rfl ?_
      refine g_if_ne (tgt := 25) d_X7_image_19 (by decide) (fun c3 => ?_) (fun c3 => ?_)
      · refine g_aload_n (n := 0) d_X7_image_25 rfl rfl ?_
        refine g_iload_n (n := 1) d_X7_image_26 rfl rfl ?_
        refine g_callv_pr (D := D + 1) (As := [.int x1]) d_X7_image_27 sv_X7_267 ob_0 rfl (Nat.le_of_ble_eq_true rfl) rfl (fun _ hy => EvM_cast (by omega) (e_X7_imageNumber (D := D + 1) hy)) (fun y4 => ?_)
        refine g_aload_n (n := 0) d_X7_image_30 rfl rfl ?_
        refine g_getr d_X7_image_31 fl_X7_26 sh_0 rfl ?_
        refine g_guard (fun h5 => ?_)
        refine g_callv_vv (D := D + 1) (As := [.ref 15]) d_X7_image_34 sv_X7_137 (ob_town h5) rfl (Nat.le_of_ble_eq_true rfl) rfl (fun _ hy => EvM_cast (by omega) (e_X6_takeOver (D := D + 0) hy)) (fun σ7 => ?_)
        refine g_iconst (v := 1) d_X7_image_37 (by decide) ?_
        exact g_iret d_X7_image_38 (Or.inl rfl) rfl
      · refine g_ldc d_X7_image_22 kc_X7_156 ?_
        exact g_iret d_X7_image_24 (Or.inl rfl) rfl
    · refine g_ldc d_X7_image_9 kc_X7_71 ?_
      exact g_iret d_X7_image_11 (Or.inl rfl) rfl
theorem e_X7_image {l : Launch} {D : Nat} {x1 : Int32} {σ : Mem} {y : (Int32 × Mem)} (hy : f_X7_image x1 σ = some y) : EvM l (D + 2) m_X7_image [.ref 0, .int x1] σ ((fun y => (some (.int y.1), y.2)) y) :=
  evM_of (d := m_X7_image) (nL := 2) rfl (by decide +kernel) (fun h => absurd (congrArg MethodName.cls h) (by decide +kernel)) (Nat.le_of_ble_eq_true rfl) (t_X7_image y hy)

set_option maxHeartbeats 4000000 in
set_option maxRecDepth 100000 in
theorem t_X7_restore {l : Launch} {sc : Nat × (Nat → Int32)} {D : Nat} {x1 : Int32} {σ : Mem} : G l sc (D + 2) m_X7_restore 0 [(0, .ref 0), (1, .int x1)] [] σ (f_X7_restore x1 σ) (fun y => (some (.int y.1), y.2)) := by
  unfold f_X7_restore
  refine g_iload_n (n := 1) d_X7_restore_0 rfl rfl ?_
  refine g_if_lt (tgt := 9) d_X7_restore_1 (by decide) (fun c1 => ?_) (fun c1 => ?_)
  · refine g_ldc d_X7_restore_9 kc_X7_71 ?_
    exact g_iret d_X7_restore_11 (Or.inl rfl) rfl
  · refine g_iload_n (n := 1) d_X7_restore_4 rfl rfl ?_
    refine g_iconst (v := 1) d_X7_restore_5 (by decide) ?_
    refine g_icmp_le (tgt := 12) d_X7_restore_6 (by decide) (fun c2 => ?_) (fun c2 => ?_)
    · refine g_aload_n (n := 0) d_X7_restore_12 rfl rfl ?_
      refine g_iload_n (n := 1) d_X7_restore_13 rfl rfl ?_
      refine g_callv_pr (D := D + 1) (As := [.int x1]) d_X7_restore_14 sv_X7_267 ob_0 rfl (Nat.le_of_ble_eq_true rfl) rfl (fun _ hy => EvM_cast (by omega) (e_X7_imageNumber (D := D + 1) hy)) (fun y3 => ?_)
      refine g_guard (fun h4 => ?_)
      refine g_geti d_X7_restore_17 fl_X7_130 (shp_town h4).1 rfl ?_
      refine g_if_ne (tgt := 26) d_X7_restore_20 (by decide) (fun c5 => ?_) (fun c5 => ?_)
      · refine g_aload_n (n := 0) d_X7_restore_26 rfl rfl ?_
        refine g_getr d_X7_restore_27 fl_X7_26 sh_0 rfl ?_
        refine g_aload_n (n := 0) d_X7_restore_30 rfl rfl ?_
        refine g_iload_n (n := 1) d_X7_restore_31 rfl rfl ?_
        refine g_callv_pr (D := D + 1) (As := [.int x1]) d_X7_restore_32 sv_X7_267 ob_0 rfl (Nat.le_of_ble_eq_true rfl) rfl (fun _ hy => EvM_cast (by omega) (e_X7_imageNumber (D := D + 1) hy)) (fun y6 => ?_)
        refine g_callv_vv (D := D + 1) (As := [.ref y6]) d_X7_restore_35 sv_X7_137 ob_15 rfl (Nat.le_of_ble_eq_true rfl) rfl (fun _ hy => EvM_cast (by omega) (e_X6_takeOver (D := D + 0) hy)) (fun σ8 => ?_)
        refine g_aload_n (n := 0) d_X7_restore_38 rfl rfl ?_
        refine g_getr d_X7_restore_39 fl_X7_42 sh_0 rfl ?_
        refine g_callv_vv (D := D + 1) (As := []) d_X7_restore_42 sv_X7_141 ob_35 rfl (Nat.le_of_ble_eq_true rfl) rfl (fun _ hy => EvM_cast (by omega) (e_X0_forget (D := D + 1) hy)) (fun σ10 => ?_)
        refine g_iconst (v := 1) d_X7_restore_45 (by decide) ?_
        exact g_iret d_X7_restore_46 (Or.inl rfl) rfl
      · refine g_ldc d_X7_restore_23 kc_X7_156 ?_
        exact g_iret d_X7_restore_25 (Or.inl rfl) rfl
    · refine g_ldc d_X7_restore_9 kc_X7_71 ?_
      exact g_iret d_X7_restore_11 (Or.inl rfl) rfl
theorem e_X7_restore {l : Launch} {D : Nat} {x1 : Int32} {σ : Mem} {y : (Int32 × Mem)} (hy : f_X7_restore x1 σ = some y) : EvM l (D + 2) m_X7_restore [.ref 0, .int x1] σ ((fun y => (some (.int y.1), y.2)) y) :=
  evM_of (d := m_X7_restore) (nL := 2) rfl (by decide +kernel) (fun h => absurd (congrArg MethodName.cls h) (by decide +kernel)) (Nat.le_of_ble_eq_true rfl) (t_X7_restore y hy)

set_option maxHeartbeats 4000000 in
set_option maxRecDepth 100000 in
theorem t_X7_kind {l : Launch} {sc : Nat × (Nat → Int32)} {D : Nat} {σ : Mem} {x1 : Int32} : G l sc (D + 1) m_X7_kind 0 [(0, .ref 0), (1, .int x1)] [] σ (f_X7_kind σ x1) (fun y => (some (.int y), σ)) := by
  unfold f_X7_kind
  refine g_aload_n (n := 0) d_X7_kind_0 rfl rfl ?_
  refine g_getr d_X7_kind_1 fl_X7_26 sh_0 rfl ?_
  refine g_iload_n (n := 1) d_X7_kind_4 rfl rfl ?_
  refine g_callv_pi (D := D + 0) (As := [.int x1]) d_X7_kind_5 sv_X7_150 ob_15 rfl (Nat.le_of_ble_eq_true rfl) rfl (fun _ hy => EvM_cast (by omega) (e_X6_has (D := D + 0) hy)) (fun y1 => ?_)
  refine g_if_eq (tgt := 23) d_X7_kind_8 (by decide) (fun c2 => ?_) (fun c2 => ?_)
  · refine g_ldc d_X7_kind_23 kc_X7_71 ?_
    exact g_iret d_X7_kind_25 (Or.inl rfl) rfl
  · refine g_aload_n (n := 0) d_X7_kind_11 rfl rfl ?_
    refine g_getr d_X7_kind_12 fl_X7_26 sh_0 rfl ?_
    refine g_getr d_X7_kind_15 fl_X7_271 sh_15 rfl ?_
    refine g_iload_n (n := 1) d_X7_kind_18 rfl rfl ?_
    refine g_iaload d_X7_kind_19 sh_16 (fun _ => ?_)
    refine g_goto (tgt := 25) d_X7_kind_20 (by decide) ?_
    exact g_iret d_X7_kind_25 (Or.inl rfl) rfl
theorem e_X7_kind {l : Launch} {D : Nat} {σ : Mem} {x1 : Int32} {y : Int32} (hy : f_X7_kind σ x1 = some y) : EvM l (D + 1) m_X7_kind [.ref 0, .int x1] σ ((fun y => (some (.int y), σ)) y) :=
  evM_of (d := m_X7_kind) (nL := 2) rfl (by decide +kernel) (fun h => absurd (congrArg MethodName.cls h) (by decide +kernel)) (Nat.le_of_ble_eq_true rfl) (t_X7_kind y hy)

set_option maxHeartbeats 4000000 in
set_option maxRecDepth 100000 in
theorem t_X7_as {l : Launch} {sc : Nat × (Nat → Int32)} {D : Nat} {n : Nat} {x1 : Int32} {x2 : Int32} {σ : Mem} : G l sc (D + 1) m_X7_as 0 [(0, .ref 0), (1, .int x1), (2, .int x2)] [] σ (f_X7_as n x1 x2 σ) (fun y => (some (.int y.1), y.2)) := by
  unfold f_X7_as
  refine g_aload_n (n := 0) d_X7_as_0 rfl rfl ?_
  refine g_getr d_X7_as_1 fl_X7_26 sh_0 rfl ?_
  refine g_iload_n (n := 1) d_X7_as_4 rfl rfl ?_
  refine g_callv_pi (D := D + 0) (As := [.int x1]) d_X7_as_5 sv_X7_150 ob_15 rfl (Nat.le_of_ble_eq_true rfl) rfl (fun _ hy => EvM_cast (by omega) (e_X6_has (D := D + 0) hy)) (fun y1 => ?_)
  refine g_if_eq (tgt := 21) d_X7_as_8 (by decide) (fun c2 => ?_) (fun c2 => ?_)
  · refine g_ldc d_X7_as_21 kc_X7_71 ?_
    exact g_iret d_X7_as_23 (Or.inl rfl) rfl
  · refine g_iload_n (n := 2) d_X7_as_11 rfl rfl ?_
    refine g_if_lt (tgt := 21) d_X7_as_12 (by decide) (fun c3 => ?_) (fun c3 => ?_)
    · refine g_ldc d_X7_as_21 kc_X7_71 ?_
      exact g_iret d_X7_as_23 (Or.inl rfl) rfl
    · refine g_iload_n (n := 2) d_X7_as_15 rfl rfl ?_
      refine g_bipush (v := 6) d_X7_as_16 (by decide) ?_
      refine g_icmp_lt (tgt := 24) d_X7_as_18 (by decide) (fun c4 => ?_) (fun c4 => ?_)
      · refine g_aload_n (n := 0) d_X7_as_24 rfl rfl ?_
        refine g_getr d_X7_as_25 fl_X7_26 sh_0 rfl ?_
        refine g_getr d_X7_as_28 fl_X7_271 sh_15 rfl ?_
        refine g_iload_n (n := 1) d_X7_as_31 rfl rfl ?_
        refine g_iaload d_X7_as_32 sh_16 (fun _ => ?_)
        refine g_iload_n (n := 2) d_X7_as_33 rfl rfl ?_
        refine g_calls_pi (D := D + 0) (As := [.int (σ 16 x1.toNatClampNeg), .int x2]) d_X7_as_34 ss_X7_274 rfl (Nat.le_of_ble_eq_true rfl) rfl (fun _ hy => EvM_cast (by omega) (e_X7_isOfKind (D := D + 0) hy)) (fun y5 => ?_)
        refine g_if_eq (tgt := 48) d_X7_as_37 (by decide) (fun c6 => ?_) (fun c6 => ?_)
        · refine g_aload_n (n := 0) d_X7_as_48 rfl rfl ?_
          refine g_iconst (v := 3) d_X7_as_49 (by decide) ?_
          refine g_callv_ii (D := D + 0) (As := [.int 3]) d_X7_as_50 sv_X7_72 ob_0 rfl (Nat.le_of_ble_eq_true rfl) rfl (fun _ hy => EvM_cast (by omega) (e_X7_found (D := D + 0) hy)) (fun y7 σ8 => ?_)
          exact g_iret d_X7_as_53 (Or.inl rfl) rfl
        · refine g_aload_n (n := 0) d_X7_as_40 rfl rfl ?_
          refine g_iload_n (n := 1) d_X7_as_41 rfl rfl ?_
          refine g_callv_ii (D := D + 0) (As := [.int x1]) d_X7_as_42 sv_X7_80 ob_0 rfl (Nat.le_of_ble_eq_true rfl) rfl (fun _ hy => EvM_cast (by omega) (e_X7_foundNothing (D := D + 0) hy)) (fun y9 σ10 => ?_)
          refine g_goto (tgt := 53) d_X7_as_45 (by decide) ?_
          exact g_iret d_X7_as_53 (Or.inl rfl) rfl
      · refine g_ldc d_X7_as_21 kc_X7_71 ?_
        exact g_iret d_X7_as_23 (Or.inl rfl) rfl
theorem e_X7_as {l : Launch} {D : Nat} {n : Nat} {x1 : Int32} {x2 : Int32} {σ : Mem} {y : (Int32 × Mem)} (hy : f_X7_as n x1 x2 σ = some y) : EvM l (D + 1) m_X7_as [.ref 0, .int x1, .int x2] σ ((fun y => (some (.int y.1), y.2)) y) :=
  evM_of (d := m_X7_as) (nL := 3) rfl (by decide +kernel) (fun h => absurd (congrArg MethodName.cls h) (by decide +kernel)) (Nat.le_of_ble_eq_true rfl) (t_X7_as y hy)

set_option maxHeartbeats 4000000 in
set_option maxRecDepth 100000 in
theorem t_X7_ask {l : Launch} {sc : Nat × (Nat → Int32)} {D : Nat} {n : Nat} {x1 : Int32} {x2 : Int32} {σ : Mem} : G l sc (D + 7) m_X7_ask 0 [(0, .ref 0), (1, .int x1), (2, .int x2)] [] σ (f_X7_ask n x1 x2 σ) (fun y => (some (.int y.1), y.2)) := by
  unfold f_X7_ask
  refine g_aload_n (n := 0) d_X7_ask_0 rfl rfl ?_
  refine g_getr d_X7_ask_1 fl_X7_26 sh_0 rfl ?_
  refine g_iload_n (n := 1) d_X7_ask_4 rfl rfl ?_
  refine g_callv_pi (D := D + 6) (As := [.int x1]) d_X7_ask_5 sv_X7_150 ob_15 rfl (Nat.le_of_ble_eq_true rfl) rfl (fun _ hy => EvM_cast (by omega) (e_X6_has (D := D + 6) hy)) (fun y1 => ?_)
  refine g_if_eq (tgt := 20) d_X7_ask_8 (by decide) (fun c2 => ?_) (fun c2 => ?_)
  · refine g_ldc d_X7_ask_20 kc_X7_71 ?_
    exact g_iret d_X7_ask_22 (Or.inl rfl) rfl
  · refine g_iload_n (n := 2) d_X7_ask_11 rfl rfl ?_
    refine g_if_lt (tgt := 20) d_X7_ask_12 (by decide) (fun c3 => ?_) (fun c3 => ?_)
    · refine g_ldc d_X7_ask_20 kc_X7_71 ?_
      exact g_iret d_X7_ask_22 (Or.inl rfl) rfl
    · refine g_iload_n (n := 2) d_X7_ask_15 rfl rfl ?_
      refine g_iconst (v := 1) d_X7_ask_16 (by decide) ?_
      refine g_icmp_le (tgt := 23) d_X7_ask_17 (by decide) (fun c4 => ?_) (fun c4 => ?_)
      · refine g_aload_n (n := 0) d_X7_ask_23 rfl rfl ?_
        refine g_getr d_X7_ask_24 fl_X7_63 sh_0 rfl ?_
        refine g_aload_n (n := 0) d_X7_ask_27 rfl rfl ?_
        refine g_getr d_X7_ask_28 fl_X7_26 sh_0 rfl ?_
        refine g_iload_n (n := 1) d_X7_ask_31 rfl rfl ?_
        refine g_callv_vv (D := D + 6) (As := [.ref 15, .int x1]) d_X7_ask_32 sv_X7_278 ob_75 rfl (Nat.le_of_ble_eq_true rfl) rfl (fun _ hy => EvM_cast (by omega) (e_X1_of (D := D + 6) hy)) (fun σ6 => ?_)
        refine g_iload_n (n := 2) d_X7_ask_35 rfl rfl ?_
        refine g_if_ne (tgt := 49) d_X7_ask_36 (by decide) (fun c7 => ?_) (fun c7 => ?_)
        · refine g_aload_n (n := 0) d_X7_ask_49 rfl rfl ?_
          refine g_getr d_X7_ask_50 fl_X7_63 sh_0 rfl ?_
          refine g_callv_ii (D := D + 6) (As := []) d_X7_ask_53 sv_X7_283 ob_75 rfl (Nat.le_of_ble_eq_true rfl) rfl (fun _ hy => EvM_cast (by omega) (e_X1_markAsked (D := D + 1) hy)) (fun y8 σ9 => ?_)
          exact g_iret d_X7_ask_56 (Or.inl rfl) rfl
        · refine g_aload_n (n := 0) d_X7_ask_39 rfl rfl ?_
          refine g_getr d_X7_ask_40 fl_X7_63 sh_0 rfl ?_
          refine g_callv_ii (D := D + 6) (As := []) d_X7_ask_43 sv_X7_280 ob_75 rfl (Nat.le_of_ble_eq_true rfl) rfl (fun _ hy => EvM_cast (by omega) (e_X1_sizeAsked (D := D + 0) hy)) (fun y10 σ11 => ?_)
          refine g_goto (tgt := 56) d_X7_ask_46 (by decide) ?_
          exact g_iret d_X7_ask_56 (Or.inl rfl) rfl
      · refine g_ldc d_X7_ask_20 kc_X7_71 ?_
        exact g_iret d_X7_ask_22 (Or.inl rfl) rfl
theorem e_X7_ask {l : Launch} {D : Nat} {n : Nat} {x1 : Int32} {x2 : Int32} {σ : Mem} {y : (Int32 × Mem)} (hy : f_X7_ask n x1 x2 σ = some y) : EvM l (D + 7) m_X7_ask [.ref 0, .int x1, .int x2] σ ((fun y => (some (.int y.1), y.2)) y) :=
  evM_of (d := m_X7_ask) (nL := 3) rfl (by decide +kernel) (fun h => absurd (congrArg MethodName.cls h) (by decide +kernel)) (Nat.le_of_ble_eq_true rfl) (t_X7_ask y hy)

set_option maxHeartbeats 4000000 in
set_option maxRecDepth 100000 in
theorem t_X7_trace {l : Launch} {sc : Nat × (Nat → Int32)} {D : Nat} {σ : Mem} {x1 : Int32} : G l sc (D + 0) m_X7_trace 0 [(0, .ref 0), (1, .int x1)] [] σ (f_X7_trace σ x1) (fun y => (some (.int y), σ)) := by
  unfold f_X7_trace
  refine g_iload_n (n := 1) d_X7_trace_0 rfl rfl ?_
  refine g_if_lt (tgt := 27) d_X7_trace_1 (by decide) (fun c1 => ?_) (fun c1 => ?_)
  · refine g_ldc d_X7_trace_27 kc_X7_185 ?_
    exact g_iret d_X7_trace_29 (Or.inl rfl) rfl
  · refine g_iload_n (n := 1) d_X7_trace_4 rfl rfl ?_
    refine g_aload_n (n := 0) d_X7_trace_5 rfl rfl ?_
    refine g_getr d_X7_trace_6 fl_X7_63 sh_0 rfl ?_
    refine g_geti d_X7_trace_9 fl_X7_286 sh_75 rfl ?_
    refine g_icmp_ge (tgt := 27) d_X7_trace_12 (by decide) (fun c2 => ?_) (fun c2 => ?_)
    · refine g_ldc d_X7_trace_27 kc_X7_185 ?_
      exact g_iret d_X7_trace_29 (Or.inl rfl) rfl
    · refine g_aload_n (n := 0) d_X7_trace_15 rfl rfl ?_
      refine g_getr d_X7_trace_16 fl_X7_63 sh_0 rfl ?_
      refine g_getr d_X7_trace_19 fl_X7_289 sh_75 rfl ?_
      refine g_iload_n (n := 1) d_X7_trace_22 rfl rfl ?_
      refine g_iaload d_X7_trace_23 sh_76 (fun _ => ?_)
      refine g_goto (tgt := 29) d_X7_trace_24 (by decide) ?_
      exact g_iret d_X7_trace_29 (Or.inl rfl) rfl
theorem e_X7_trace {l : Launch} {D : Nat} {σ : Mem} {x1 : Int32} {y : Int32} (hy : f_X7_trace σ x1 = some y) : EvM l (D + 0) m_X7_trace [.ref 0, .int x1] σ ((fun y => (some (.int y), σ)) y) :=
  evM_of (d := m_X7_trace) (nL := 2) rfl (by decide +kernel) (fun h => absurd (congrArg MethodName.cls h) (by decide +kernel)) (Nat.le_of_ble_eq_true rfl) (t_X7_trace y hy)

set_option maxHeartbeats 4000000 in
set_option maxRecDepth 100000 in
theorem t_X7_count {l : Launch} {sc : Nat × (Nat → Int32)} {D : Nat} {n : Nat} {σ : Mem} {x1 : Int32} : G l sc (D + 2) m_X7_count 0 [(0, .ref 0), (1, .int x1)] [] σ (f_X7_count n σ x1) (fun y => (some (.int y), σ)) := by
  unfold f_X7_count
  refine g_iload_n (n := 1) d_X7_count_0 rfl rfl ?_
  refine g_if (fun c1 => ?_) (fun c1 => ?_)
  · refine g_tabIn (tgt := 48) d_X7_count_1 (by rw [c1]; decide) (by rw [c1]; decide) (by rw [c1]; rfl) (by decide) ?_
    refine g_aload_n (n := 0) d_X7_count_48 rfl rfl ?_
    refine g_getr d_X7_count_49 fl_X7_10 sh_0 rfl ?_
    refine g_callv_pi (D := D + 1) (As := []) d_X7_count_52 sv_X7_292 ob_1 rfl (Nat.le_of_ble_eq_true rfl) rfl (fun _ hy => EvM_cast (by omega) (e_X2_howMany (D := D + 0) hy)) (fun y2 => ?_)
    exact g_iret d_X7_count_55 (Or.inl rfl) rfl
  refine g_if (fun c3 => ?_) (fun c3 => ?_)
  · refine g_tabIn (tgt := 56) d_X7_count_1 (by rw [c3]; decide) (by rw [c3]; decide) (by rw [c3]; rfl) (by decide) ?_
    refine g_aload_n (n := 0) d_X7_count_56 rfl rfl ?_
    refine g_getr d_X7_count_57 fl_X7_26 sh_0 rfl ?_
    refine g_geti d_X7_count_60 fl_X7_144 sh_15 rfl ?_
    exact g_iret d_X7_count_63 (Or.inl rfl) rfl
  refine g_if (fun c4 => ?_) (fun c4 => ?_)
  · refine g_tabIn (tgt := 64) d_X7_count_1 (by rw [c4]; decide) (by rw [c4]; decide) (by rw [c4]; rfl) (by decide) ?_
    refine g_aload_n (n := 0) d_X7_count_64 rfl rfl ?_
    refine g_getr d_X7_count_65 fl_X7_26 sh_0 rfl ?_
    refine g_geti d_X7_count_68 fl_X7_164 sh_15 rfl ?_
    exact g_iret d_X7_count_71 (Or.inl rfl) rfl
  refine g_if (fun c5 => ?_) (fun c5 => ?_)
  · refine g_tabIn (tgt := 72) d_X7_count_1 (by rw [c5]; decide) (by rw [c5]; decide) (by rw [c5]; rfl) (by decide) ?_
    refine g_aload_n (n := 0) d_X7_count_72 rfl rfl ?_
    refine g_getr d_X7_count_73 fl_X7_26 sh_0 rfl ?_
    refine g_geti d_X7_count_76 fl_X7_295 sh_15 rfl ?_
    exact g_iret d_X7_count_79 (Or.inl rfl) rfl
  refine g_if (fun c6 => ?_) (fun c6 => ?_)
  · refine g_tabIn (tgt := 80) d_X7_count_1 (by rw [c6]; decide) (by rw [c6]; decide) (by rw [c6]; rfl) (by decide) ?_
    refine g_aload_n (n := 0) d_X7_count_80 rfl rfl ?_
    refine g_getr d_X7_count_81 fl_X7_26 sh_0 rfl ?_
    refine g_geti d_X7_count_84 fl_X7_264 sh_15 rfl ?_
    exact g_iret d_X7_count_87 (Or.inl rfl) rfl
  refine g_if (fun c7 => ?_) (fun c7 => ?_)
  · refine g_tabIn (tgt := 88) d_X7_count_1 (by rw [c7]; decide) (by rw [c7]; decide) (by rw [c7]; rfl) (by decide) ?_
    refine g_aload_n (n := 0) d_X7_count_88 rfl rfl ?_
    refine g_getr d_X7_count_89 fl_X7_26 sh_0 rfl ?_
    refine g_geti d_X7_count_92 fl_X7_261 sh_15 rfl ?_
    exact g_iret d_X7_count_95 (Or.inl rfl) rfl
  refine g_if (fun c8 => ?_) (fun c8 => ?_)
  · refine g_tabIn (tgt := 96) d_X7_count_1 (by rw [c8]; decide) (by rw [c8]; decide) (by rw [c8]; rfl) (by decide) ?_
    refine g_aload_n (n := 0) d_X7_count_96 rfl rfl ?_
    refine g_getr d_X7_count_97 fl_X7_42 sh_0 rfl ?_
    refine g_geti d_X7_count_100 fl_X7_173 sh_35 rfl ?_
    exact g_iret d_X7_count_103 (Or.inl rfl) rfl
  refine g_if (fun c9 => ?_) (fun c9 => ?_)
  · refine g_tabIn (tgt := 104) d_X7_count_1 (by rw [c9]; decide) (by rw [c9]; decide) (by rw [c9]; rfl) (by decide) ?_
    refine g_aload_n (n := 0) d_X7_count_104 rfl rfl ?_
    refine g_getr d_X7_count_105 fl_X7_19 sh_0 rfl ?_
    refine g_geti d_X7_count_108 fl_X7_117 sh_13 rfl ?_
    exact g_iret d_X7_count_111 (Or.inl rfl) rfl
  refine g_tabOut (tgt := 112) d_X7_count_1 (by have := lv_neT (a := 0) c1 rfl; have := lv_neT (a := 1) c3 rfl; have := lv_neT (a := 2) c4 rfl; have := lv_neT (a := 3) c5 rfl; have := lv_neT (a := 4) c6 rfl; have := lv_neT (a := 5) c7 rfl; have := lv_neT (a := 6) c8 rfl; have := lv_neT (a := 7) c9 rfl; omega) (by decide) ?_
  refine g_ldc d_X7_count_112 kc_X7_71 ?_
  exact g_iret d_X7_count_114 (Or.inl rfl) rfl
theorem e_X7_count {l : Launch} {D : Nat} {n : Nat} {σ : Mem} {x1 : Int32} {y : Int32} (hy : f_X7_count n σ x1 = some y) : EvM l (D + 2) m_X7_count [.ref 0, .int x1] σ ((fun y => (some (.int y), σ)) y) :=
  evM_of (d := m_X7_count) (nL := 2) rfl (by decide +kernel) (fun h => absurd (congrArg MethodName.cls h) (by decide +kernel)) (Nat.le_of_ble_eq_true rfl) (t_X7_count y hy)

set_option maxHeartbeats 4000000 in
set_option maxRecDepth 100000 in
theorem t_X7_status {l : Launch} {sc : Nat × (Nat → Int32)} {D : Nat} {σ : Mem} : G l sc (D + 0) m_X7_status 0 [(0, .ref 0)] [] σ (f_X7_status σ ) (fun y => (some (.int y), σ)) := by
  unfold f_X7_status
  refine g_aload_n (n := 0) d_X7_status_0 rfl rfl ?_
  refine g_geti d_X7_status_1 fl_X7_298 sh_0 rfl ?_
  exact g_iret d_X7_status_4 (Or.inl rfl) rfl
theorem e_X7_status {l : Launch} {D : Nat} {σ : Mem} {y : Int32} (hy : f_X7_status σ = some y) : EvM l (D + 0) m_X7_status [.ref 0] σ ((fun y => (some (.int y), σ)) y) :=
  evM_of (d := m_X7_status) (nL := 1) rfl (by decide +kernel) (fun h => absurd (congrArg MethodName.cls h) (by decide +kernel)) (Nat.le_of_ble_eq_true rfl) (t_X7_status y hy)
