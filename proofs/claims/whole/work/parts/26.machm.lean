set_option maxHeartbeats 4000000 in
set_option maxRecDepth 100000 in
theorem t_X8_laySets_b150 {l : Launch} {sc : Nat × (Nat → Int32)} {D : Nat} {n : Nat} {k2 : Int32 → Mem → Option Mem} {x1 : Int32} {σ : Mem} (hk2 : ∀ x1 σ, G l sc (D + 4) m_X8_laySets 2 [(0, .ref 77), (1, .int x1)] [] σ (k2 x1 σ) (fun τ => (none, τ))) : G l sc (D + 4) m_X8_laySets 150 [(0, .ref 77), (1, .int x1)] [] σ (f_X8_laySets_b150 n k2 x1 σ) (fun τ => (none, τ)) := by
  unfold f_X8_laySets_b150
  refine g_iinc (n := 1) (w := 1) d_X8_laySets_150 rfl (by decide) (by decide) rfl ?_
  refine g_goto (tgt := 2) d_X8_laySets_153 (by decide) ?_
  refine g_sub [1, 0] rfl ?_
  exact hk2 _ _
set_option maxHeartbeats 4000000 in
set_option maxRecDepth 100000 in
theorem t_X8_laySets_b144 {l : Launch} {sc : Nat × (Nat → Int32)} {D : Nat} {n : Nat} {k2 : Int32 → Mem → Option Mem} {k36 : Int32 → Int32 → Int32 → Mem → Option Mem} {x1 : Int32} {x2 : Int32} {x3 : Int32} {σ : Mem} (hk2 : ∀ x1 σ, G l sc (D + 4) m_X8_laySets 2 [(0, .ref 77), (1, .int x1)] [] σ (k2 x1 σ) (fun τ => (none, τ))) (hk36 : ∀ x1 x2 x3 σ, G l sc (D + 4) m_X8_laySets 36 [(0, .ref 77), (1, .int x1), (2, .int x2), (3, .int x3)] [] σ (k36 x1 x2 x3 σ) (fun τ => (none, τ))) : G l sc (D + 4) m_X8_laySets 144 [(0, .ref 77), (1, .int x1), (2, .int x2), (3, .int x3)] [] σ (f_X8_laySets_b144 n k2 k36 x1 x2 x3 σ) (fun τ => (none, τ)) := by
  unfold f_X8_laySets_b144
  refine g_iinc (n := 3) (w := 1) d_X8_laySets_144 rfl (by decide) (by decide) rfl ?_
  refine g_goto (tgt := 36) d_X8_laySets_147 (by decide) ?_
  refine g_sub [1, 2, 3, 0] rfl ?_
  exact hk36 _ _ _ _
set_option maxHeartbeats 4000000 in
set_option maxRecDepth 100000 in
theorem t_X8_laySets_b143 {l : Launch} {sc : Nat × (Nat → Int32)} {D : Nat} {n : Nat} {k2 : Int32 → Mem → Option Mem} {k36 : Int32 → Int32 → Int32 → Mem → Option Mem} {x1 : Int32} {x2 : Int32} {x3 : Int32} {s0 : Int32} {s1 : Int32} {σ : Mem} (hk2 : ∀ x1 σ, G l sc (D + 4) m_X8_laySets 2 [(0, .ref 77), (1, .int x1)] [] σ (k2 x1 σ) (fun τ => (none, τ))) (hk36 : ∀ x1 x2 x3 σ, G l sc (D + 4) m_X8_laySets 36 [(0, .ref 77), (1, .int x1), (2, .int x2), (3, .int x3)] [] σ (k36 x1 x2 x3 σ) (fun τ => (none, τ))) : G l sc (D + 4) m_X8_laySets 143 [(0, .ref 77), (1, .int x1), (2, .int x2), (3, .int x3)] [.int s0, .int s1, .ref 92] σ (f_X8_laySets_b143 n k2 k36 x1 x2 x3 s0 s1 σ) (fun τ => (none, τ)) := by
  unfold f_X8_laySets_b143
  refine g_iastore d_X8_laySets_143 sh_92 (fun _ => ?_)
  refine g_mem (fun σ1 => ?_)
  refine g_sub [0, 1, 2, 3] rfl ?_
  exact t_X8_laySets_b144 hk2 hk36
set_option maxHeartbeats 4000000 in
set_option maxRecDepth 100000 in
theorem t_X8_laySets_b137 {l : Launch} {sc : Nat × (Nat → Int32)} {D : Nat} {n : Nat} {k2 : Int32 → Mem → Option Mem} {k36 : Int32 → Int32 → Int32 → Mem → Option Mem} {x1 : Int32} {x2 : Int32} {x3 : Int32} {s0 : Int32} {σ : Mem} (hk2 : ∀ x1 σ, G l sc (D + 4) m_X8_laySets 2 [(0, .ref 77), (1, .int x1)] [] σ (k2 x1 σ) (fun τ => (none, τ))) (hk36 : ∀ x1 x2 x3 σ, G l sc (D + 4) m_X8_laySets 36 [(0, .ref 77), (1, .int x1), (2, .int x2), (3, .int x3)] [] σ (k36 x1 x2 x3 σ) (fun τ => (none, τ))) : G l sc (D + 4) m_X8_laySets 137 [(0, .ref 77), (1, .int x1), (2, .int x2), (3, .int x3)] [.int s0, .ref 92] σ (f_X8_laySets_b137 n k2 k36 x1 x2 x3 s0 σ) (fun τ => (none, τ)) := by
  unfold f_X8_laySets_b137
  refine g_aload_n (n := 0) d_X8_laySets_137 rfl rfl ?_
  refine g_getr d_X8_laySets_138 fl_X8_53 sh_77 rfl ?_
  refine g_iload_n (n := 1) d_X8_laySets_141 rfl rfl ?_
  refine g_iaload d_X8_laySets_142 sh_92 (fun _ => ?_)
  refine g_sub [0, 1, 2, 3] rfl ?_
  exact t_X8_laySets_b143 hk2 hk36
set_option maxHeartbeats 4000000 in
set_option maxRecDepth 100000 in
theorem t_X8_laySets_b36 {l : Launch} {sc : Nat × (Nat → Int32)} {D : Nat} {n : Nat} {k2 : Int32 → Mem → Option Mem} {k36 : Int32 → Int32 → Int32 → Mem → Option Mem} {x1 : Int32} {x2 : Int32} {x3 : Int32} {σ : Mem} (hk2 : ∀ x1 σ, G l sc (D + 4) m_X8_laySets 2 [(0, .ref 77), (1, .int x1)] [] σ (k2 x1 σ) (fun τ => (none, τ))) (hk36 : ∀ x1 x2 x3 σ, G l sc (D + 4) m_X8_laySets 36 [(0, .ref 77), (1, .int x1), (2, .int x2), (3, .int x3)] [] σ (k36 x1 x2 x3 σ) (fun τ => (none, τ))) : G l sc (D + 4) m_X8_laySets 36 [(0, .ref 77), (1, .int x1), (2, .int x2), (3, .int x3)] [] σ (f_X8_laySets_b36 n k2 k36 x1 x2 x3 σ) (fun τ => (none, τ)) := by
  unfold f_X8_laySets_b36
  refine g_iload_n (n := 3) d_X8_laySets_36 rfl rfl ?_
  refine g_aload_n (n := 0) d_X8_laySets_37 rfl rfl ?_
  refine g_iload_n (n := 2) d_X8_laySets_38 rfl rfl ?_
  refine g_callv_pi (D := D + 3) (As := [.int x2]) d_X8_laySets_39 sv_X8_178 ob_77 rfl (Nat.le_of_ble_eq_true rfl) rfl (fun _ hy => EvM_cast (by omega) (e_X8_rowsOf (D := D + 3) hy)) (fun y1 => ?_)
  refine g_icmp_ge (tgt := 150) d_X8_laySets_42 (by decide) (fun c2 => ?_) (fun c2 => ?_)
  · refine g_sub [0, 1] rfl ?_
    exact t_X8_laySets_b150 hk2
  · refine g_iload_n (n := 2) d_X8_laySets_45 rfl rfl ?_
    refine g_if_le (tgt := 150) d_X8_laySets_46 (by decide) (fun c3 => ?_) (fun c3 => ?_)
    · refine g_sub [0, 1] rfl ?_
      exact t_X8_laySets_b150 hk2
    · refine g_aload_n (n := 0) d_X8_laySets_49 rfl rfl ?_
      refine g_iload_n (n := 3) d_X8_laySets_50 rfl rfl ?_
      refine g_iload_n (n := 2) d_X8_laySets_51 rfl rfl ?_
      refine g_callv_ii (D := D + 3) (As := [.int x3, .int x2]) d_X8_laySets_52 sv_X8_181 ob_77 rfl (Nat.le_of_ble_eq_true rfl) rfl (fun _ hy => EvM_cast (by omega) (e_X8_layRow (D := D + 3) hy)) (fun y4 σ5 => ?_)
      refine g_iload_n (n := 1) d_X8_laySets_55 rfl rfl ?_
      refine g_icmp_ne (tgt := 144) d_X8_laySets_56 (by decide) (fun c6 => ?_) (fun c6 => ?_)
      · refine g_sub [0, 1, 2, 3] rfl ?_
        exact t_X8_laySets_b144 hk2 hk36
      · refine g_aload_n (n := 0) d_X8_laySets_59 rfl rfl ?_
        refine g_callv_vv (D := D + 3) (As := []) d_X8_laySets_60 sv_X8_188 ob_77 rfl (Nat.le_of_ble_eq_true rfl) rfl (fun _ hy => EvM_cast (by omega) (e_X8_begin (D := D + 2) hy)) (fun σ8 => ?_)
        refine g_aload_n (n := 0) d_X8_laySets_63 rfl rfl ?_
        refine g_getr d_X8_laySets_64 fl_X8_28 sh_77 rfl ?_
        refine g_iconst (v := 0) d_X8_laySets_67 (by decide) ?_
        refine g_aload_n (n := 0) d_X8_laySets_68 rfl rfl ?_
        refine g_getr d_X8_laySets_69 fl_X8_28 sh_77 rfl ?_
        refine g_iconst (v := 5) d_X8_laySets_72 (by decide) ?_
        refine g_iaload d_X8_laySets_73 sh_84 (fun _ => ?_)
        refine g_iastore d_X8_laySets_74 sh_84 (fun _ => ?_)
        refine g_mem (fun σ9 => ?_)
        refine g_aload_n (n := 0) d_X8_laySets_75 rfl rfl ?_
        refine g_getr d_X8_laySets_76 fl_X8_28 sh_77 rfl ?_
        refine g_iconst (v := 1) d_X8_laySets_79 (by decide) ?_
        refine g_iconst (v := 0) d_X8_laySets_80 (by decide) ?_
        refine g_iastore d_X8_laySets_81 sh_84 (fun _ => ?_)
        refine g_mem (fun σ10 => ?_)
        refine g_aload_n (n := 0) d_X8_laySets_82 rfl rfl ?_
        refine g_getr d_X8_laySets_83 fl_X8_28 sh_77 rfl ?_
        refine g_iconst (v := 2) d_X8_laySets_86 (by decide) ?_
        refine g_iconst (v := 0) d_X8_laySets_87 (by decide) ?_
        refine g_iastore d_X8_laySets_88 sh_84 (fun _ => ?_)
        refine g_mem (fun σ11 => ?_)
        refine g_aload_n (n := 0) d_X8_laySets_89 rfl rfl ?_
        refine g_getr d_X8_laySets_90 fl_X8_28 sh_77 rfl ?_
        refine g_iconst (v := 3) d_X8_laySets_93 (by decide) ?_
        refine g_iconst (v := 0) d_X8_laySets_94 (by decide) ?_
        refine g_iastore d_X8_laySets_95 sh_84 (fun _ => ?_)
        refine g_mem (fun σ12 => ?_)
        refine g_aload_n (n := 0) d_X8_laySets_96 rfl rfl ?_
        refine g_getr d_X8_laySets_97 fl_X8_53 sh_77 rfl ?_
        refine g_iload_n (n := 1) d_X8_laySets_100 rfl rfl ?_
        refine g_aload_n (n := 0) d_X8_laySets_101 rfl rfl ?_
        refine g_aload_n (n := 0) d_X8_laySets_102 rfl rfl ?_
        refine g_getr d_X8_laySets_103 fl_X8_47 sh_77 rfl ?_
        refine g_iload_n (n := 2) d_X8_laySets_106 rfl rfl ?_
        refine g_callv_ii (D := D + 3) (As := [.ref 90, .int x2]) d_X8_laySets_107 sv_X8_191 ob_77 rfl (Nat.le_of_ble_eq_true rfl) rfl (fun _ hy => EvM_cast (by omega) (e_X8_goesOn (D := D + 0) hy)) (fun y13 σ14 => ?_)
        refine g_if_eq (tgt := 137) d_X8_laySets_110 (by decide) (fun c15 => ?_) (fun c15 => ?_)
        · refine g_sub [0, 1, 2, 3] rfl ?_
          exact t_X8_laySets_b137 hk2 hk36
        · refine g_aload_n (n := 0) d_X8_laySets_113 rfl rfl ?_
          refine g_getr d_X8_laySets_114 fl_X8_28 sh_77 rfl ?_
          refine g_iconst (v := 3) d_X8_laySets_117 (by decide) ?_
          refine g_iaload d_X8_laySets_118 sh_84 (fun _ => ?_)
          refine g_aload_n (n := 0) d_X8_laySets_119 rfl rfl ?_
          refine g_getr d_X8_laySets_120 fl_X8_53 sh_77 rfl ?_
          refine g_iload_n (n := 1) d_X8_laySets_123 rfl rfl ?_
          refine g_iaload d_X8_laySets_124 sh_92 (fun _ => ?_)
          refine g_icmp_le (tgt := 137) d_X8_laySets_125 (by decide) (fun c16 => ?_) (fun c16 => ?_)
          · refine g_sub [0, 1, 2, 3] rfl ?_
            exact t_X8_laySets_b137 hk2 hk36
          · refine g_aload_n (n := 0) d_X8_laySets_128 rfl rfl ?_
            refine g_getr d_X8_laySets_129 fl_X8_28 sh_77 rfl ?_
            refine g_iconst (v := 3) d_X8_laySets_132 (by decide) ?_
            refine g_iaload d_X8_laySets_133 sh_84 (fun _ => ?_)
            refine g_goto (tgt := 143) d_X8_laySets_134 (by decide) ?_
            refine g_sub [0, 1, 2, 3] rfl ?_
            exact t_X8_laySets_b143 hk2 hk36
set_option maxHeartbeats 4000000 in
set_option maxRecDepth 100000 in
theorem t_X8_laySets_l36 {l : Launch} {sc : Nat × (Nat → Int32)} {D : Nat} {n : Nat} {k2 : Int32 → Mem → Option Mem} (hk2 : ∀ x1 σ, G l sc (D + 4) m_X8_laySets 2 [(0, .ref 77), (1, .int x1)] [] σ (k2 x1 σ) (fun τ => (none, τ))) : ∀ (f : Nat) (x1 : Int32) (x2 : Int32) (x3 : Int32) (σ : Mem), G l sc (D + 4) m_X8_laySets 36 [(0, .ref 77), (1, .int x1), (2, .int x2), (3, .int x3)] [] σ (f_X8_laySets_l36 n k2 f x1 x2 x3 σ) (fun τ => (none, τ)) := by
  intro f
  induction f with
  | zero => intro x1 x2 x3 σ; exact g_none
  | succ f ih => intro x1 x2 x3 σ; exact t_X8_laySets_b36 hk2 ih
set_option maxHeartbeats 4000000 in
set_option maxRecDepth 100000 in
theorem t_X8_laySets_b33 {l : Launch} {sc : Nat × (Nat → Int32)} {D : Nat} {n : Nat} {k2 : Int32 → Mem → Option Mem} {x1 : Int32} {x2 : Int32} {s0 : Int32} {s1 : Int32} {σ : Mem} (hk2 : ∀ x1 σ, G l sc (D + 4) m_X8_laySets 2 [(0, .ref 77), (1, .int x1)] [] σ (k2 x1 σ) (fun τ => (none, τ))) : G l sc (D + 4) m_X8_laySets 33 [(0, .ref 77), (1, .int x1), (2, .int x2)] [.int s0, .int s1, .ref 92] σ (f_X8_laySets_b33 n k2 x1 x2 s0 s1 σ) (fun τ => (none, τ)) := by
  unfold f_X8_laySets_b33
  refine g_iastore d_X8_laySets_33 sh_92 (fun _ => ?_)
  refine g_mem (fun σ1 => ?_)
  refine g_iconst (v := 0) d_X8_laySets_34 (by decide) ?_
  refine g_istore_n d_X8_laySets_35 rfl (by decide) rfl ?_
  refine g_sub [1, 2, 3, 0] rfl ?_
  exact t_X8_laySets_l36 hk2 _ _ _ _ _
set_option maxHeartbeats 4000000 in
set_option maxRecDepth 100000 in
theorem t_X8_laySets_b2 {l : Launch} {sc : Nat × (Nat → Int32)} {D : Nat} {n : Nat} {k2 : Int32 → Mem → Option Mem} {x1 : Int32} {σ : Mem} (hk2 : ∀ x1 σ, G l sc (D + 4) m_X8_laySets 2 [(0, .ref 77), (1, .int x1)] [] σ (k2 x1 σ) (fun τ => (none, τ))) : G l sc (D + 4) m_X8_laySets 2 [(0, .ref 77), (1, .int x1)] [] σ (f_X8_laySets_b2 n k2 x1 σ) (fun τ => (none, τ)) := by
  unfold f_X8_laySets_b2
  refine g_iload_n (n := 1) d_X8_laySets_2 rfl rfl ?_
  refine g_iconst (v := 1) d_X8_laySets_3 (by decide) ?_
  refine g_aload_n (n := 0) d_X8_laySets_4 rfl rfl ?_
  refine g_getr d_X8_laySets_5 fl_X8_22 sh_77 rfl ?_
  refine g_iconst (v := 4) d_X8_laySets_8 (by decide) ?_
  refine g_iaload d_X8_laySets_9 sh_82 (fun _ => ?_)
  refine g_ishl d_X8_laySets_10 ?_
  refine g_icmp_ge (tgt := 156) d_X8_laySets_11 (by decide) (fun c1 => ?_) (fun c1 => ?_)
  · exact g_vret d_X8_laySets_156 rfl rfl
  · refine g_iload_n (n := 1) d_X8_laySets_14 rfl rfl ?_
    refine g_calls_pi (D := D + 3) (As := [.int x1]) d_X8_laySets_15 ss_X8_185 rfl (Nat.le_of_ble_eq_true rfl) rfl (fun _ hy => EvM_cast (by omega) (e_X8_bits (D := D + 3) hy)) (fun y2 => ?_)
    refine g_istore_n d_X8_laySets_18 rfl (by decide) rfl ?_
    refine g_aload_n (n := 1) d_X8_laySets_19 rfl rfl ?_
    refine g_getr d_X8_laySets_20 fl_X8_53 sh_77 rfl ?_
    refine g_iload_n (n := 2) d_X8_laySets_23 rfl rfl ?_
    refine g_iload_n (n := 2) d_X8_laySets_24 rfl rfl ?_
    refine g_if_ne (tgt := 32) d_X8_laySets_25 (by decide) (fun c3 => ?_) (fun c3 => ?_)
    · refine g_iconst (v := -1) d_X8_laySets_32 (by decide) ?_
      refine g_sub [1, 2, 0] rfl ?_
      exact t_X8_laySets_b33 hk2
    · refine g_iconst (v := 0) d_X8_laySets_28 (by decide) ?_
      refine g_goto (tgt := 33) d_X8_laySets_29 (by decide) ?_
      refine g_sub [1, 2, 0] rfl ?_
      exact t_X8_laySets_b33 hk2
set_option maxHeartbeats 4000000 in
set_option maxRecDepth 100000 in
theorem t_X8_laySets_l2 {l : Launch} {sc : Nat × (Nat → Int32)} {D : Nat} {n : Nat} : ∀ (f : Nat) (x1 : Int32) (σ : Mem), G l sc (D + 4) m_X8_laySets 2 [(0, .ref 77), (1, .int x1)] [] σ (f_X8_laySets_l2 n f x1 σ) (fun τ => (none, τ)) := by
  intro f
  induction f with
  | zero => intro x1 σ; exact g_none
  | succ f ih => intro x1 σ; exact t_X8_laySets_b2 ih
set_option maxHeartbeats 4000000 in
set_option maxRecDepth 100000 in
theorem t_X8_laySets {l : Launch} {sc : Nat × (Nat → Int32)} {D : Nat} {n : Nat} {σ : Mem} : G l sc (D + 4) m_X8_laySets 0 [(0, .ref 77)] [] σ (f_X8_laySets n σ) (fun τ => (none, τ)) := by
  unfold f_X8_laySets
  refine g_iconst (v := 0) d_X8_laySets_0 (by decide) ?_
  refine g_istore_n d_X8_laySets_1 rfl (by decide) rfl ?_
  refine g_sub [1, 0] rfl ?_
  exact t_X8_laySets_l2  _ _ _
theorem e_X8_laySets {l : Launch} {D : Nat} {n : Nat} {σ : Mem} {y : Mem} (hy : f_X8_laySets n σ = some y) : EvM l (D + 4) m_X8_laySets [.ref 77] σ ((fun τ => (none, τ)) y) :=
  evM_of (d := m_X8_laySets) (nL := 4) rfl (by decide +kernel) (fun h => absurd (congrArg MethodName.cls h) (by decide +kernel)) (Nat.le_of_ble_eq_true rfl) (t_X8_laySets y hy)

set_option maxHeartbeats 4000000 in
set_option maxRecDepth 100000 in
theorem t_X8_earnedBy_b159 {l : Launch} {sc : Nat × (Nat → Int32)} {D : Nat} {n : Nat} {k76 : Int32 → Int32 → Int32 → Mem → Option (Int32 × Mem)} {x2 : Int32} {x5 : Int32} {s0 : Int32} {σ : Mem} (hk76 : ∀ x2 x4 x5 σ, G l sc (D + 0) m_X8_earnedBy 76 [(0, .ref 77), (2, .int x2), (4, .int x4), (5, .int x5)] [] σ (k76 x2 x4 x5 σ) (fun y => (some (.int y.1), y.2))) : G l sc (D + 0) m_X8_earnedBy 159 [(0, .ref 77), (2, .int x2), (5, .int x5)] [.int s0] σ (f_X8_earnedBy_b159 n k76 x2 x5 s0 σ) (fun y => (some (.int y.1), y.2)) := by
  unfold f_X8_earnedBy_b159
  refine g_istore d_X8_earnedBy_159 (by decide) rfl ?_
  refine g_iinc (n := 3) (w := 1) d_X8_earnedBy_161 rfl (by decide) (by decide) rfl ?_
  refine g_goto (tgt := 76) d_X8_earnedBy_164 (by decide) ?_
  refine g_sub [2, 3, 1, 0] rfl ?_
  exact hk76 _ _ _ _
set_option maxHeartbeats 4000000 in
set_option maxRecDepth 100000 in
theorem t_X8_earnedBy_b145 {l : Launch} {sc : Nat × (Nat → Int32)} {D : Nat} {n : Nat} {k76 : Int32 → Int32 → Int32 → Mem → Option (Int32 × Mem)} {x2 : Int32} {x5 : Int32} {σ : Mem} (hk76 : ∀ x2 x4 x5 σ, G l sc (D + 0) m_X8_earnedBy 76 [(0, .ref 77), (2, .int x2), (4, .int x4), (5, .int x5)] [] σ (k76 x2 x4 x5 σ) (fun y => (some (.int y.1), y.2))) : G l sc (D + 0) m_X8_earnedBy 145 [(0, .ref 77), (2, .int x2), (5, .int x5)] [] σ (f_X8_earnedBy_b145 n k76 x2 x5 σ) (fun y => (some (.int y.1), y.2)) := by
  unfold f_X8_earnedBy_b145
  refine g_iconst (v := -1) d_X8_earnedBy_145 (by decide) ?_
  refine g_goto (tgt := 159) d_X8_earnedBy_146 (by decide) ?_
  refine g_sub [0, 1, 2] rfl ?_
  exact t_X8_earnedBy_b159 hk76
set_option maxHeartbeats 4000000 in
set_option maxRecDepth 100000 in
theorem t_X8_earnedBy_b121 {l : Launch} {sc : Nat × (Nat → Int32)} {D : Nat} {n : Nat} {k76 : Int32 → Int32 → Int32 → Mem → Option (Int32 × Mem)} {k88 : Int32 → Int32 → Int32 → Int32 → Int32 → Mem → Option (Int32 × Mem)} {x2 : Int32} {x4 : Int32} {x5 : Int32} {x7 : Int32} {s0 : Int32} {s1 : Int32} {σ : Mem} (hk76 : ∀ x2 x4 x5 σ, G l sc (D + 0) m_X8_earnedBy 76 [(0, .ref 77), (2, .int x2), (4, .int x4), (5, .int x5)] [] σ (k76 x2 x4 x5 σ) (fun y => (some (.int y.1), y.2))) (hk88 : ∀ x2 x4 x5 x6 x7 σ, G l sc (D + 0) m_X8_earnedBy 88 [(0, .ref 77), (2, .int x2), (4, .int x4), (5, .int x5), (6, .int x6), (7, .int x7)] [] σ (k88 x2 x4 x5 x6 x7 σ) (fun y => (some (.int y.1), y.2))) : G l sc (D + 0) m_X8_earnedBy 121 [(0, .ref 77), (2, .int x2), (4, .int x4), (5, .int x5), (7, .int x7)] [.int s0, .int s1] σ (f_X8_earnedBy_b121 n k76 k88 x2 x4 x5 x7 s0 s1 σ) (fun y => (some (.int y.1), y.2)) := by
  unfold f_X8_earnedBy_b121
  refine g_ior d_X8_earnedBy_121 ?_
  refine g_nm (fun y1 => ?_)
  refine g_istore d_X8_earnedBy_122 (by decide) rfl ?_
  refine g_iinc (n := 5) (w := 1) d_X8_earnedBy_124 rfl (by decide) (by decide) rfl ?_
  refine g_goto (tgt := 88) d_X8_earnedBy_127 (by decide) ?_
  refine g_sub [2, 3, 4, 5, 1, 0] rfl ?_
  exact hk88 _ _ _ _ _ _
set_option maxHeartbeats 4000000 in
set_option maxRecDepth 100000 in
theorem t_X8_earnedBy_b88 {l : Launch} {sc : Nat × (Nat → Int32)} {D : Nat} {n : Nat} {k76 : Int32 → Int32 → Int32 → Mem → Option (Int32 × Mem)} {k88 : Int32 → Int32 → Int32 → Int32 → Int32 → Mem → Option (Int32 × Mem)} {x2 : Int32} {x4 : Int32} {x5 : Int32} {x6 : Int32} {x7 : Int32} {σ : Mem} (hk76 : ∀ x2 x4 x5 σ, G l sc (D + 0) m_X8_earnedBy 76 [(0, .ref 77), (2, .int x2), (4, .int x4), (5, .int x5)] [] σ (k76 x2 x4 x5 σ) (fun y => (some (.int y.1), y.2))) (hk88 : ∀ x2 x4 x5 x6 x7 σ, G l sc (D + 0) m_X8_earnedBy 88 [(0, .ref 77), (2, .int x2), (4, .int x4), (5, .int x5), (6, .int x6), (7, .int x7)] [] σ (k88 x2 x4 x5 x6 x7 σ) (fun y => (some (.int y.1), y.2))) : G l sc (D + 0) m_X8_earnedBy 88 [(0, .ref 77), (2, .int x2), (4, .int x4), (5, .int x5), (6, .int x6), (7, .int x7)] [] σ (f_X8_earnedBy_b88 n k76 k88 x2 x4 x5 x6 x7 σ) (fun y => (some (.int y.1), y.2)) := by
  unfold f_X8_earnedBy_b88
  refine g_iload (n := 5) d_X8_earnedBy_88 rfl ?_
  refine g_aload_n (n := 0) d_X8_earnedBy_90 rfl rfl ?_
  refine g_getr d_X8_earnedBy_91 fl_X8_22 sh_77 rfl ?_
  refine g_iconst (v := 4) d_X8_earnedBy_94 (by decide) ?_
  refine g_iaload d_X8_earnedBy_95 sh_82 (fun _ => ?_)
  refine g_icmp_ge (tgt := 130) d_X8_earnedBy_96 (by decide) (fun c1 => ?_) (fun c1 => ?_)
  · refine g_iload (n := 2) d_X8_earnedBy_130 rfl ?_
    refine g_if_lt (tgt := 145) d_X8_earnedBy_132 (by decide) (fun c2 => ?_) (fun c2 => ?_)
    · refine g_sub [0, 1, 3] rfl ?_
      exact t_X8_earnedBy_b145 hk76
    · refine g_aload_n (n := 0) d_X8_earnedBy_135 rfl rfl ?_
      refine g_getr d_X8_earnedBy_136 fl_X8_53 sh_77 rfl ?_
      refine g_iload (n := 4) d_X8_earnedBy_139 rfl ?_
      refine g_iaload d_X8_earnedBy_141 sh_92 (fun _ => ?_)
      refine g_if_ge (tgt := 149) d_X8_earnedBy_142 (by decide) (fun c3 => ?_) (fun c3 => ?_)
      · refine g_iload (n := 2) d_X8_earnedBy_149 rfl ?_
        refine g_aload_n (n := 0) d_X8_earnedBy_151 rfl rfl ?_
        refine g_getr d_X8_earnedBy_152 fl_X8_53 sh_77 rfl ?_
        refine g_iload (n := 4) d_X8_earnedBy_155 rfl ?_
        refine g_iaload d_X8_earnedBy_157 sh_92 (fun _ => ?_)
        refine g_iadd d_X8_earnedBy_158 ?_
        refine g_sub [0, 1, 3] rfl ?_
        exact t_X8_earnedBy_b159 hk76
      · refine g_sub [0, 1, 3] rfl ?_
        exact t_X8_earnedBy_b145 hk76
  · refine g_iload (n := 4) d_X8_earnedBy_99 rfl ?_
    refine g_aload_n (n := 0) d_X8_earnedBy_101 rfl rfl ?_
    refine g_getr d_X8_earnedBy_102 fl_X8_56 sh_77 rfl ?_
    refine g_iload (n := 5) d_X8_earnedBy_105 rfl ?_
    refine g_iaload d_X8_earnedBy_107 sh_93 (fun _ => ?_)
    refine g_iload (n := 3) d_X8_earnedBy_108 rfl ?_
    refine g_icmp_ne (tgt := 120) d_X8_earnedBy_110 (by decide) (fun c4 => ?_) (fun c4 => ?_)
    · refine g_iconst (v := 0) d_X8_earnedBy_120 (by decide) ?_
      refine g_sub [0, 1, 2, 3, 5] rfl ?_
      exact t_X8_earnedBy_b121 hk76 hk88
    · refine g_iconst (v := 1) d_X8_earnedBy_113 (by decide) ?_
      refine g_iload (n := 5) d_X8_earnedBy_114 rfl ?_
      refine g_ishl d_X8_earnedBy_116 ?_
      refine g_goto (tgt := 121) d_X8_earnedBy_117 (by decide) ?_
      refine g_sub [0, 1, 2, 3, 5] rfl ?_
      exact t_X8_earnedBy_b121 hk76 hk88
set_option maxHeartbeats 4000000 in
set_option maxRecDepth 100000 in
theorem t_X8_earnedBy_l88 {l : Launch} {sc : Nat × (Nat → Int32)} {D : Nat} {n : Nat} {k76 : Int32 → Int32 → Int32 → Mem → Option (Int32 × Mem)} (hk76 : ∀ x2 x4 x5 σ, G l sc (D + 0) m_X8_earnedBy 76 [(0, .ref 77), (2, .int x2), (4, .int x4), (5, .int x5)] [] σ (k76 x2 x4 x5 σ) (fun y => (some (.int y.1), y.2))) : ∀ (f : Nat) (x2 : Int32) (x4 : Int32) (x5 : Int32) (x6 : Int32) (x7 : Int32) (σ : Mem), G l sc (D + 0) m_X8_earnedBy 88 [(0, .ref 77), (2, .int x2), (4, .int x4), (5, .int x5), (6, .int x6), (7, .int x7)] [] σ (f_X8_earnedBy_l88 n k76 f x2 x4 x5 x6 x7 σ) (fun y => (some (.int y.1), y.2)) := by
  intro f
  induction f with
  | zero => intro x2 x4 x5 x6 x7 σ; exact g_none
  | succ f ih => intro x2 x4 x5 x6 x7 σ; exact t_X8_earnedBy_b88 hk76 ih
set_option maxHeartbeats 4000000 in
set_option maxRecDepth 100000 in
theorem t_X8_earnedBy_b76 {l : Launch} {sc : Nat × (Nat → Int32)} {D : Nat} {n : Nat} {k76 : Int32 → Int32 → Int32 → Mem → Option (Int32 × Mem)} {x2 : Int32} {x4 : Int32} {x5 : Int32} {σ : Mem} (hk76 : ∀ x2 x4 x5 σ, G l sc (D + 0) m_X8_earnedBy 76 [(0, .ref 77), (2, .int x2), (4, .int x4), (5, .int x5)] [] σ (k76 x2 x4 x5 σ) (fun y => (some (.int y.1), y.2))) : G l sc (D + 0) m_X8_earnedBy 76 [(0, .ref 77), (2, .int x2), (4, .int x4), (5, .int x5)] [] σ (f_X8_earnedBy_b76 n k76 x2 x4 x5 σ) (fun y => (some (.int y.1), y.2)) := by
  unfold f_X8_earnedBy_b76
  refine g_iload (n := 3) d_X8_earnedBy_76 rfl ?_
  refine g_iload_n (n := 1) d_X8_earnedBy_78 rfl rfl ?_
  refine g_icmp_ge (tgt := 167) d_X8_earnedBy_79 (by decide) (fun c1 => ?_) (fun c1 => ?_)
  · refine g_iload (n := 2) d_X8_earnedBy_167 rfl ?_
    exact g_iret d_X8_earnedBy_169 (Or.inl rfl) rfl
  · refine g_iconst (v := 0) d_X8_earnedBy_82 (by decide) ?_
    refine g_istore d_X8_earnedBy_83 (by decide) rfl ?_
    refine g_iconst (v := 0) d_X8_earnedBy_85 (by decide) ?_
    refine g_istore d_X8_earnedBy_86 (by decide) rfl ?_
    refine g_sub [2, 3, 4, 5, 1, 0] rfl ?_
    exact t_X8_earnedBy_l88 hk76 _ _ _ _ _ _ _
set_option maxHeartbeats 4000000 in
set_option maxRecDepth 100000 in
theorem t_X8_earnedBy_l76 {l : Launch} {sc : Nat × (Nat → Int32)} {D : Nat} {n : Nat} : ∀ (f : Nat) (x2 : Int32) (x4 : Int32) (x5 : Int32) (σ : Mem), G l sc (D + 0) m_X8_earnedBy 76 [(0, .ref 77), (2, .int x2), (4, .int x4), (5, .int x5)] [] σ (f_X8_earnedBy_l76 n f x2 x4 x5 σ) (fun y => (some (.int y.1), y.2)) := by
  intro f
  induction f with
  | zero => intro x2 x4 x5 σ; exact g_none
  | succ f ih => intro x2 x4 x5 σ; exact t_X8_earnedBy_b76 ih
set_option maxHeartbeats 4000000 in
set_option maxRecDepth 100000 in
theorem t_X8_earnedBy_b57 {l : Launch} {sc : Nat × (Nat → Int32)} {D : Nat} {n : Nat} {k12 : Int32 → Int32 → Int32 → Mem → Option (Int32 × Mem)} {x2 : Int32} {x3 : Int32} {x4 : Int32} {s0 : Int32} {s1 : Int32} {σ : Mem} (hk12 : ∀ x2 x3 x4 σ, G l sc (D + 0) m_X8_earnedBy 12 [(0, .ref 77), (2, .int x2), (3, .int x3), (4, .int x4)] [] σ (k12 x2 x3 x4 σ) (fun y => (some (.int y.1), y.2))) : G l sc (D + 0) m_X8_earnedBy 57 [(0, .ref 77), (2, .int x2), (3, .int x3), (4, .int x4)] [.int s0, .int s1, .ref 93] σ (f_X8_earnedBy_b57 n k12 x2 x3 x4 s0 s1 σ) (fun y => (some (.int y.1), y.2)) := by
  unfold f_X8_earnedBy_b57
  refine g_iastore d_X8_earnedBy_57 sh_93 (fun _ => ?_)
  refine g_mem (fun σ1 => ?_)
  refine g_iload_n (n := 2) d_X8_earnedBy_58 rfl rfl ?_
  refine g_iload_n (n := 1) d_X8_earnedBy_59 rfl rfl ?_
  refine g_iconst (v := 1) d_X8_earnedBy_60 (by decide) ?_
  refine g_iadd d_X8_earnedBy_61 ?_
  refine g_if (fun _ => g_none) (fun h2 => ?_)
  refine g_idiv d_X8_earnedBy_62 h2 ?_
  refine g_nm (fun y3 => ?_)
  refine g_istore_n d_X8_earnedBy_63 rfl (by decide) rfl ?_
  refine g_iinc (n := 3) (w := -1) d_X8_earnedBy_64 rfl (by decide) (by decide) rfl ?_
  refine g_goto (tgt := 12) d_X8_earnedBy_67 (by decide) ?_
  refine g_sub [2, 3, 1, 0] rfl ?_
  exact hk12 _ _ _ _
set_option maxHeartbeats 4000000 in
set_option maxRecDepth 100000 in
theorem t_X8_earnedBy_b12 {l : Launch} {sc : Nat × (Nat → Int32)} {D : Nat} {n : Nat} {k12 : Int32 → Int32 → Int32 → Mem → Option (Int32 × Mem)} {x2 : Int32} {x3 : Int32} {x4 : Int32} {σ : Mem} (hk12 : ∀ x2 x3 x4 σ, G l sc (D + 0) m_X8_earnedBy 12 [(0, .ref 77), (2, .int x2), (3, .int x3), (4, .int x4)] [] σ (k12 x2 x3 x4 σ) (fun y => (some (.int y.1), y.2))) : G l sc (D + 0) m_X8_earnedBy 12 [(0, .ref 77), (2, .int x2), (3, .int x3), (4, .int x4)] [] σ (f_X8_earnedBy_b12 n k12 x2 x3 x4 σ) (fun y => (some (.int y.1), y.2)) := by
  unfold f_X8_earnedBy_b12
  refine g_iload (n := 3) d_X8_earnedBy_12 rfl ?_
  refine g_if_lt (tgt := 70) d_X8_earnedBy_14 (by decide) (fun c1 => ?_) (fun c1 => ?_)
  · refine g_iconst (v := 0) d_X8_earnedBy_70 (by decide) ?_
    refine g_istore d_X8_earnedBy_71 (by decide) rfl ?_
    refine g_iconst (v := 0) d_X8_earnedBy_73 (by decide) ?_
    refine g_istore d_X8_earnedBy_74 (by decide) rfl ?_
    refine g_sub [2, 3, 1, 0] rfl ?_
    exact t_X8_earnedBy_l76  _ _ _ _ _
  · refine g_aload_n (n := 0) d_X8_earnedBy_17 rfl rfl ?_
    refine g_getr d_X8_earnedBy_18 fl_X8_56 sh_77 rfl ?_
    refine g_iload (n := 3) d_X8_earnedBy_21 rfl ?_
    refine g_iload_n (n := 2) d_X8_earnedBy_23 rfl rfl ?_
    refine g_iload_n (n := 1) d_X8_earnedBy_24 rfl rfl ?_
    refine g_iconst (v := 1) d_X8_earnedBy_25 (by decide) ?_
    refine g_iadd d_X8_earnedBy_26 ?_
    refine g_nm (fun y2 => ?_)
    refine g_if (fun _ => g_none) (fun h3 => ?_)
    refine g_irem d_X8_earnedBy_27 h3 ?_
    refine g_iastore d_X8_earnedBy_28 sh_93 (fun _ => ?_)
    refine g_mem (fun σ4 => ?_)
    refine g_aload_n (n := 0) d_X8_earnedBy_29 rfl rfl ?_
    refine g_getr d_X8_earnedBy_30 fl_X8_56 sh_77 rfl ?_
    refine g_iload (n := 3) d_X8_earnedBy_33 rfl ?_
    refine g_aload_n (n := 0) d_X8_earnedBy_35 rfl rfl ?_
    refine g_getr d_X8_earnedBy_36 fl_X8_56 sh_77 rfl ?_
    refine g_iload (n := 3) d_X8_earnedBy_39 rfl ?_
    refine g_iaload d_X8_earnedBy_41 sh_93 (fun _ => ?_)
    refine g_iload_n (n := 1) d_X8_earnedBy_42 rfl rfl ?_
    refine g_icmp_ne (tgt := 50) d_X8_earnedBy_43 (by decide) (fun c5 => ?_) (fun c5 => ?_)
    · refine g_aload_n (n := 0) d_X8_earnedBy_50 rfl rfl ?_
      refine g_getr d_X8_earnedBy_51 fl_X8_56 sh_77 rfl ?_
      refine g_iload (n := 3) d_X8_earnedBy_54 rfl ?_
      refine g_iaload d_X8_earnedBy_56 sh_93 (fun _ => ?_)
      refine g_sub [0, 1, 2, 3] rfl ?_
      exact t_X8_earnedBy_b57 hk12
    · refine g_iconst (v := 3) d_X8_earnedBy_46 (by decide) ?_
      refine g_goto (tgt := 57) d_X8_earnedBy_47 (by decide) ?_
      refine g_sub [0, 1, 2, 3] rfl ?_
      exact t_X8_earnedBy_b57 hk12
set_option maxHeartbeats 4000000 in
set_option maxRecDepth 100000 in
theorem t_X8_earnedBy_l12 {l : Launch} {sc : Nat × (Nat → Int32)} {D : Nat} {n : Nat} : ∀ (f : Nat) (x2 : Int32) (x3 : Int32) (x4 : Int32) (σ : Mem), G l sc (D + 0) m_X8_earnedBy 12 [(0, .ref 77), (2, .int x2), (3, .int x3), (4, .int x4)] [] σ (f_X8_earnedBy_l12 n f x2 x3 x4 σ) (fun y => (some (.int y.1), y.2)) := by
  intro f
  induction f with
  | zero => intro x2 x3 x4 σ; exact g_none
  | succ f ih => intro x2 x3 x4 σ; exact t_X8_earnedBy_b12 ih
set_option maxHeartbeats 4000000 in
set_option maxRecDepth 100000 in
theorem t_X8_earnedBy {l : Launch} {sc : Nat × (Nat → Int32)} {D : Nat} {n : Nat} {x1 : Int32} {x2 : Int32} {σ : Mem} : G l sc (D + 0) m_X8_earnedBy 0 [(0, .ref 77), (1, .int x1), (2, .int x2)] [] σ (f_X8_earnedBy n x1 x2 σ) (fun y => (some (.int y.1), y.2)) := by
  unfold f_X8_earnedBy
  refine g_iload_n (n := 1) d_X8_earnedBy_0 rfl rfl ?_
  refine g_istore_n d_X8_earnedBy_1 rfl (by decide) rfl ?_
  refine g_aload_n (n := 1) d_X8_earnedBy_2 rfl rfl ?_
  refine g_getr d_X8_earnedBy_3 fl_X8_22 sh_77 rfl ?_
  refine g_iconst (v := 4) d_X8_earnedBy_6 (by decide) ?_
  refine g_iaload d_X8_earnedBy_7 sh_82 (fun _ => ?_)
  refine g_iconst (v := 1) d_X8_earnedBy_8 (by decide) ?_
  refine g_isub d_X8_earnedBy_9 ?_
  refine g_nm (fun y1 => ?_)
  refine g_istore d_X8_earnedBy_10 (by decide) rfl ?_
  refine g_sub [2, 4, 1, 0] rfl ?_
  exact t_X8_earnedBy_l12  _ _ _ _ _
theorem e_X8_earnedBy {l : Launch} {D : Nat} {n : Nat} {x1 : Int32} {x2 : Int32} {σ : Mem} {y : (Int32 × Mem)} (hy : f_X8_earnedBy n x1 x2 σ = some y) : EvM l (D + 0) m_X8_earnedBy [.ref 77, .int x1, .int x2] σ ((fun y => (some (.int y.1), y.2)) y) :=
  evM_of (d := m_X8_earnedBy) (nL := 8) rfl (by decide +kernel) (fun h => absurd (congrArg MethodName.cls h) (by decide +kernel)) (Nat.le_of_ble_eq_true rfl) (t_X8_earnedBy y hy)

set_option maxHeartbeats 4000000 in
set_option maxRecDepth 100000 in
theorem t_X8_copies_b123 {l : Launch} {sc : Nat × (Nat → Int32)} {D : Nat} {n : Nat} {k77 : Int32 → Int32 → Int32 → Int32 → Int32 → Int32 → Int32 → Mem → Option (Int32 × Mem)} {x1 : Int32} {x2 : Int32} {x3 : Int32} {x4 : Int32} {x5 : Int32} {x7 : Int32} {s0 : Int32} {σ : Mem} (hk77 : ∀ x1 x2 x3 x4 x5 x6 x7 σ, G l sc (D + 5) m_X8_copies 77 [(0, .ref 77), (1, .int x1), (2, .int x2), (3, .int x3), (4, .int x4), (5, .int x5), (6, .int x6), (7, .int x7)] [] σ (k77 x1 x2 x3 x4 x5 x6 x7 σ) (fun y => (some (.int y.1), y.2))) : G l sc (D + 5) m_X8_copies 123 [(0, .ref 77), (1, .int x1), (2, .int x2), (3, .int x3), (4, .int x4), (5, .int x5), (7, .int x7)] [.int s0] σ (f_X8_copies_b123 n k77 x1 x2 x3 x4 x5 x7 s0 σ) (fun y => (some (.int y.1), y.2)) := by
  unfold f_X8_copies_b123
  refine g_istore d_X8_copies_123 (by decide) rfl ?_
  refine g_iinc (n := 7) (w := 1) d_X8_copies_125 rfl (by decide) (by decide) rfl ?_
  refine g_goto (tgt := 77) d_X8_copies_128 (by decide) ?_
  refine g_sub [2, 3, 4, 5, 6, 7, 1, 0] rfl ?_
  exact hk77 _ _ _ _ _ _ _ _
set_option maxHeartbeats 4000000 in
set_option maxRecDepth 100000 in
theorem t_X8_copies_b107 {l : Launch} {sc : Nat × (Nat → Int32)} {D : Nat} {n : Nat} {k77 : Int32 → Int32 → Int32 → Int32 → Int32 → Int32 → Int32 → Mem → Option (Int32 × Mem)} {x1 : Int32} {x2 : Int32} {x3 : Int32} {x4 : Int32} {x6 : Int32} {x7 : Int32} {x8 : Int32} {s0 : Int32} {σ : Mem} (hk77 : ∀ x1 x2 x3 x4 x5 x6 x7 σ, G l sc (D + 5) m_X8_copies 77 [(0, .ref 77), (1, .int x1), (2, .int x2), (3, .int x3), (4, .int x4), (5, .int x5), (6, .int x6), (7, .int x7)] [] σ (k77 x1 x2 x3 x4 x5 x6 x7 σ) (fun y => (some (.int y.1), y.2))) : G l sc (D + 5) m_X8_copies 107 [(0, .ref 77), (1, .int x1), (2, .int x2), (3, .int x3), (4, .int x4), (6, .int x6), (7, .int x7), (8, .int x8)] [.int s0] σ (f_X8_copies_b107 n k77 x1 x2 x3 x4 x6 x7 x8 s0 σ) (fun y => (some (.int y.1), y.2)) := by
  unfold f_X8_copies_b107
  refine g_istore d_X8_copies_107 (by decide) rfl ?_
  refine g_iload (n := 8) d_X8_copies_109 rfl ?_
  refine g_iload (n := 6) d_X8_copies_111 rfl ?_
  refine g_icmp_le (tgt := 121) d_X8_copies_113 (by decide) (fun c1 => ?_) (fun c1 => ?_)
  · refine g_iload (n := 6) d_X8_copies_121 rfl ?_
    refine g_sub [1, 2, 3, 4, 5, 0, 7] rfl ?_
    exact t_X8_copies_b123 hk77
  · refine g_iload (n := 8) d_X8_copies_116 rfl ?_
    refine g_goto (tgt := 123) d_X8_copies_118 (by decide) ?_
    refine g_sub [1, 2, 3, 4, 5, 0, 7] rfl ?_
    exact t_X8_copies_b123 hk77
set_option maxHeartbeats 4000000 in
set_option maxRecDepth 100000 in
theorem t_X8_copies_b77 {l : Launch} {sc : Nat × (Nat → Int32)} {D : Nat} {n : Nat} {k77 : Int32 → Int32 → Int32 → Int32 → Int32 → Int32 → Int32 → Mem → Option (Int32 × Mem)} {x1 : Int32} {x2 : Int32} {x3 : Int32} {x4 : Int32} {x5 : Int32} {x6 : Int32} {x7 : Int32} {σ : Mem} (hk77 : ∀ x1 x2 x3 x4 x5 x6 x7 σ, G l sc (D + 5) m_X8_copies 77 [(0, .ref 77), (1, .int x1), (2, .int x2), (3, .int x3), (4, .int x4), (5, .int x5), (6, .int x6), (7, .int x7)] [] σ (k77 x1 x2 x3 x4 x5 x6 x7 σ) (fun y => (some (.int y.1), y.2))) : G l sc (D + 5) m_X8_copies 77 [(0, .ref 77), (1, .int x1), (2, .int x2), (3, .int x3), (4, .int x4), (5, .int x5), (6, .int x6), (7, .int x7)] [] σ (f_X8_copies_b77 n k77 x1 x2 x3 x4 x5 x6 x7 σ) (fun y => (some (.int y.1), y.2)) := by
  unfold f_X8_copies_b77
  refine g_iload (n := 7) d_X8_copies_77 rfl ?_
  refine g_iload (n := 4) d_X8_copies_79 rfl ?_
  refine g_icmp_ge (tgt := 131) d_X8_copies_81 (by decide) (fun c1 => ?_) (fun c1 => ?_)
  · refine g_iload_n (n := 2) d_X8_copies_131 rfl rfl ?_
    refine g_iconst (v := -1) d_X8_copies_132 (by decide) ?_
    refine g_icmp_ne (tgt := 153) d_X8_copies_133 (by decide) (fun c2 => ?_) (fun c2 => ?_)
    · refine g_aload_n (n := 0) d_X8_copies_153 rfl rfl ?_
      refine g_iload (n := 5) d_X8_copies_154 rfl ?_
      refine g_iload_n (n := 1) d_X8_copies_156 rfl rfl ?_
      refine g_callv_ii (D := D + 4) (As := [.int x5, .int x1]) d_X8_copies_157 sv_X8_197 ob_77 rfl (Nat.le_of_ble_eq_true rfl) rfl (fun _ hy => EvM_cast (by omega) (e_X8_earnedBy (D := D + 4) hy)) (fun y3 σ4 => ?_)
      refine g_pop d_X8_copies_160 rfl ?_
      refine g_iload_n (n := 2) d_X8_copies_161 rfl rfl ?_
      refine g_iload_n (n := 3) d_X8_copies_162 rfl rfl ?_
      refine g_icmp_ge (tgt := 175) d_X8_copies_163 (by decide) (fun c5 => ?_) (fun c5 => ?_)
      · refine g_ldc d_X8_copies_175 kc_X8_167 ?_
        exact g_iret d_X8_copies_177 (Or.inl rfl) rfl
      · refine g_aload_n (n := 0) d_X8_copies_166 rfl rfl ?_
        refine g_getr d_X8_copies_167 fl_X8_56 sh_77 rfl ?_
        refine g_iload_n (n := 2) d_X8_copies_170 rfl rfl ?_
        refine g_iaload d_X8_copies_171 sh_93 (fun _ => ?_)
        refine g_goto (tgt := 177) d_X8_copies_172 (by decide) ?_
        exact g_iret d_X8_copies_177 (Or.inl rfl) rfl
    · refine g_sipush (v := 1000) d_X8_copies_136 (by decide) ?_
      refine g_iload (n := 6) d_X8_copies_139 rfl ?_
      refine g_iadd d_X8_copies_141 ?_
      refine g_iload_n (n := 1) d_X8_copies_142 rfl rfl ?_
      refine g_aload_n (n := 0) d_X8_copies_143 rfl rfl ?_
      refine g_getr d_X8_copies_144 fl_X8_22 sh_77 rfl ?_
      refine g_bipush (v := 6) d_X8_copies_147 (by decide) ?_
      refine g_iaload d_X8_copies_149 sh_82 (fun _ => ?_)
      refine g_imul d_X8_copies_150 ?_
      refine g_isub d_X8_copies_151 ?_
      exact g_iret d_X8_copies_152 (Or.inl rfl) rfl
  · refine g_aload_n (n := 0) d_X8_copies_84 rfl rfl ?_
    refine g_iload (n := 7) d_X8_copies_85 rfl ?_
    refine g_iload_n (n := 1) d_X8_copies_87 rfl rfl ?_
    refine g_callv_ii (D := D + 4) (As := [.int x7, .int x1]) d_X8_copies_88 sv_X8_197 ob_77 rfl (Nat.le_of_ble_eq_true rfl) rfl (fun _ hy => EvM_cast (by omega) (e_X8_earnedBy (D := D + 4) hy)) (fun y6 σ7 => ?_)
    refine g_istore d_X8_copies_91 (by decide) rfl ?_
    refine g_iload (n := 0) d_X8_copies_93 rfl ?_
    refine g_iload (n := 7) d_X8_copies_95 rfl ?_
    refine g_icmp_le (tgt := 105) d_X8_copies_97 (by decide) (fun c8 => ?_) (fun c8 => ?_)
    · refine g_iload (n := 6) d_X8_copies_105 rfl ?_
      refine g_sub [1, 2, 3, 4, 5, 7, 8, 0] rfl ?_
      exact t_X8_copies_b107 hk77
    · refine g_iload (n := 8) d_X8_copies_100 rfl ?_
      refine g_goto (tgt := 107) d_X8_copies_102 (by decide) ?_
      refine g_sub [1, 2, 3, 4, 5, 7, 8, 0] rfl ?_
      exact t_X8_copies_b107 hk77
set_option maxHeartbeats 4000000 in
set_option maxRecDepth 100000 in
theorem t_X8_copies_l77 {l : Launch} {sc : Nat × (Nat → Int32)} {D : Nat} {n : Nat} : ∀ (f : Nat) (x1 : Int32) (x2 : Int32) (x3 : Int32) (x4 : Int32) (x5 : Int32) (x6 : Int32) (x7 : Int32) (σ : Mem), G l sc (D + 5) m_X8_copies 77 [(0, .ref 77), (1, .int x1), (2, .int x2), (3, .int x3), (4, .int x4), (5, .int x5), (6, .int x6), (7, .int x7)] [] σ (f_X8_copies_l77 n f x1 x2 x3 x4 x5 x6 x7 σ) (fun y => (some (.int y.1), y.2)) := by
  intro f
  induction f with
  | zero => intro x1 x2 x3 x4 x5 x6 x7 σ; exact g_none
  | succ f ih => intro x1 x2 x3 x4 x5 x6 x7 σ; exact t_X8_copies_b77 ih
set_option maxHeartbeats 4000000 in
set_option maxRecDepth 100000 in
theorem t_X8_copies_b48 {l : Launch} {sc : Nat × (Nat → Int32)} {D : Nat} {n : Nat} {k48 : Int32 → Int32 → Int32 → Int32 → Int32 → Mem → Option (Int32 × Mem)} {x1 : Int32} {x2 : Int32} {x3 : Int32} {x4 : Int32} {x5 : Int32} {σ : Mem} (hk48 : ∀ x1 x2 x3 x4 x5 σ, G l sc (D + 5) m_X8_copies 48 [(0, .ref 77), (1, .int x1), (2, .int x2), (3, .int x3), (4, .int x4), (5, .int x5)] [] σ (k48 x1 x2 x3 x4 x5 σ) (fun y => (some (.int y.1), y.2))) : G l sc (D + 5) m_X8_copies 48 [(0, .ref 77), (1, .int x1), (2, .int x2), (3, .int x3), (4, .int x4), (5, .int x5)] [] σ (f_X8_copies_b48 n k48 x1 x2 x3 x4 x5 σ) (fun y => (some (.int y.1), y.2)) := by
  unfold f_X8_copies_b48
  refine g_iload (n := 5) d_X8_copies_48 rfl ?_
  refine g_iload_n (n := 3) d_X8_copies_50 rfl rfl ?_
  refine g_icmp_ge (tgt := 68) d_X8_copies_51 (by decide) (fun c1 => ?_) (fun c1 => ?_)
  · refine g_iconst (v := -1) d_X8_copies_68 (by decide) ?_
    refine g_istore d_X8_copies_69 (by decide) rfl ?_
    refine g_iconst (v := -1) d_X8_copies_71 (by decide) ?_
    refine g_istore d_X8_copies_72 (by decide) rfl ?_
    refine g_iconst (v := 0) d_X8_copies_74 (by decide) ?_
    refine g_istore d_X8_copies_75 (by decide) rfl ?_
    refine g_sub [3, 4, 5, 6, 7, 2, 1, 0] rfl ?_
    exact t_X8_copies_l77  _ _ _ _ _ _ _ _ _
  · refine g_iload (n := 4) d_X8_copies_54 rfl ?_
    refine g_iload_n (n := 1) d_X8_copies_56 rfl rfl ?_
    refine g_iconst (v := 1) d_X8_copies_57 (by decide) ?_
    refine g_iadd d_X8_copies_58 ?_
    refine g_imul d_X8_copies_59 ?_
    refine g_nm (fun y2 => ?_)
    refine g_istore d_X8_copies_60 (by decide) rfl ?_
    refine g_iinc (n := 5) (w := 1) d_X8_copies_62 rfl (by decide) (by decide) rfl ?_
    refine g_goto (tgt := 48) d_X8_copies_65 (by decide) ?_
    refine g_sub [2, 3, 4, 5, 1, 0] rfl ?_
    exact hk48 _ _ _ _ _ _
set_option maxHeartbeats 4000000 in
set_option maxRecDepth 100000 in
theorem t_X8_copies_l48 {l : Launch} {sc : Nat × (Nat → Int32)} {D : Nat} {n : Nat} : ∀ (f : Nat) (x1 : Int32) (x2 : Int32) (x3 : Int32) (x4 : Int32) (x5 : Int32) (σ : Mem), G l sc (D + 5) m_X8_copies 48 [(0, .ref 77), (1, .int x1), (2, .int x2), (3, .int x3), (4, .int x4), (5, .int x5)] [] σ (f_X8_copies_l48 n f x1 x2 x3 x4 x5 σ) (fun y => (some (.int y.1), y.2)) := by
  intro f
  induction f with
  | zero => intro x1 x2 x3 x4 x5 σ; exact g_none
  | succ f ih => intro x1 x2 x3 x4 x5 σ; exact t_X8_copies_b48 ih
set_option maxHeartbeats 4000000 in
set_option maxRecDepth 100000 in
theorem t_X8_copies {l : Launch} {sc : Nat × (Nat → Int32)} {D : Nat} {n : Nat} {x1 : Int32} {x2 : Int32} {σ : Mem} : G l sc (D + 5) m_X8_copies 0 [(0, .ref 77), (1, .int x1), (2, .int x2)] [] σ (f_X8_copies n x1 x2 σ) (fun y => (some (.int y.1), y.2)) := by
  unfold f_X8_copies
  refine g_aload_n (n := 0) d_X8_copies_0 rfl rfl ?_
  refine g_callv_pi (D := D + 4) (As := []) d_X8_copies_1 sv_X8_164 ob_77 rfl (Nat.le_of_ble_eq_true rfl) rfl (fun _ hy => EvM_cast (by omega) (e_X8_isTown (D := D + 4) hy)) (fun y1 => ?_)
  refine g_if_ne (tgt := 10) d_X8_copies_4 (by decide) (fun c2 => ?_) (fun c2 => ?_)
  · refine g_iload_n (n := 1) d_X8_copies_10 rfl rfl ?_
    refine g_iconst (v := 1) d_X8_copies_11 (by decide) ?_
    refine g_iconst (v := 3) d_X8_copies_12 (by decide) ?_
    refine g_calls_pi (D := D + 4) (As := [.int x1, .int 1, .int 3]) d_X8_copies_13 ss_X8_59 rfl (Nat.le_of_ble_eq_true rfl) rfl (fun _ hy => EvM_cast (by omega) (e_X8_in (D := D + 4) hy)) (fun y3 => ?_)
    refine g_if_eq (tgt := 28) d_X8_copies_16 (by decide) (fun c4 => ?_) (fun c4 => ?_)
    · refine g_ldc d_X8_copies_28 kc_X8_72 ?_
      exact g_iret d_X8_copies_30 (Or.inl rfl) rfl
    · refine g_iload_n (n := 2) d_X8_copies_19 rfl rfl ?_
      refine g_iconst (v := -1) d_X8_copies_20 (by decide) ?_
      refine g_iconst (v := 5) d_X8_copies_21 (by decide) ?_
      refine g_calls_pi (D := D + 4) (As := [.int x2, .int (-1), .int 5]) d_X8_copies_22 ss_X8_59 rfl (Nat.le_of_ble_eq_true rfl) rfl (fun _ hy => EvM_cast (by omega) (e_X8_in (D := D + 4) hy)) (fun y5 => ?_)
      refine g_if_ne (tgt := 31) d_X8_copies_25 (by decide) (fun c6 => ?_) (fun c6 => ?_)
      · refine g_aload_n (n := 0) d_X8_copies_31 rfl rfl ?_
        refine g_callv_vv (D := D + 4) (As := []) d_X8_copies_32 sv_X8_194 ob_77 rfl (Nat.le_of_ble_eq_true rfl) rfl (fun _ hy => EvM_cast (by omega) (e_X8_laySets (D := D + 0) hy)) (fun σ8 => ?_)
        refine g_aload_n (n := 0) d_X8_copies_35 rfl rfl ?_
        refine g_getr d_X8_copies_36 fl_X8_22 sh_77 rfl ?_
        refine g_iconst (v := 4) d_X8_copies_39 (by decide) ?_
        refine g_iaload d_X8_copies_40 sh_82 (fun _ => ?_)
        refine g_nm (fun y9 => ?_)
        refine g_istore_n d_X8_copies_41 rfl (by decide) rfl ?_
        refine g_iconst (v := 1) d_X8_copies_42 (by decide) ?_
        refine g_istore d_X8_copies_43 (by decide) rfl ?_
        refine g_iconst (v := 0) d_X8_copies_45 (by decide) ?_
        refine g_istore d_X8_copies_46 (by decide) rfl ?_
        refine g_sub [3, 4, 5, 2, 1, 0] rfl ?_
        exact t_X8_copies_l48  _ _ _ _ _ _ _
      · refine g_ldc d_X8_copies_28 kc_X8_72 ?_
        exact g_iret d_X8_copies_30 (Or.inl rfl) rfl
  · refine g_ldc d_X8_copies_7 kc_X8_157 ?_
    exact g_iret d_X8_copies_9 (Or.inl rfl) rfl
theorem e_X8_copies {l : Launch} {D : Nat} {n : Nat} {x1 : Int32} {x2 : Int32} {σ : Mem} {y : (Int32 × Mem)} (hy : f_X8_copies n x1 x2 σ = some y) : EvM l (D + 5) m_X8_copies [.ref 77, .int x1, .int x2] σ ((fun y => (some (.int y.1), y.2)) y) :=
  evM_of (d := m_X8_copies) (nL := 9) rfl (by decide +kernel) (fun h => absurd (congrArg MethodName.cls h) (by decide +kernel)) (Nat.le_of_ble_eq_true rfl) (t_X8_copies y hy)

set_option maxHeartbeats 4000000 in
set_option maxRecDepth 100000 in
theorem t_X8_takeOut_b38 {l : Launch} {sc : Nat × (Nat → Int32)} {D : Nat} {n : Nat} {k38 : Int32 → Int32 → Int32 → Int32 → Mem → Option (Int32 × Mem)} {x1 : Int32} {x2 : Int32} {x3 : Int32} {x4 : Int32} {σ : Mem} (hk38 : ∀ x1 x2 x3 x4 σ, G l sc (D + 1) m_X8_takeOut 38 [(0, .ref 77), (1, .int x1), (2, .int x2), (3, .int x3), (4, .int x4)] [] σ (k38 x1 x2 x3 x4 σ) (fun y => (some (.int y.1), y.2))) : G l sc (D + 1) m_X8_takeOut 38 [(0, .ref 77), (1, .int x1), (2, .int x2), (3, .int x3), (4, .int x4)] [] σ (f_X8_takeOut_b38 n k38 x1 x2 x3 x4 σ) (fun y => (some (.int y.1), y.2)) := by
  unfold f_X8_takeOut_b38
  refine g_iload (n := 4) d_X8_takeOut_38 rfl ?_
  refine g_iload_n (n := 3) d_X8_takeOut_40 rfl rfl ?_
  refine g_icmp_ge (tgt := 71) d_X8_takeOut_41 (by decide) (fun c1 => ?_) (fun c1 => ?_)
  · refine g_iconst (v := 0) d_X8_takeOut_71 (by decide) ?_
    exact g_iret d_X8_takeOut_72 (Or.inl rfl) rfl
  · refine g_aload_n (n := 0) d_X8_takeOut_44 rfl rfl ?_
    refine g_getr d_X8_takeOut_45 fl_X8_44 sh_77 rfl ?_
    refine g_iload (n := 4) d_X8_takeOut_48 rfl ?_
    refine g_aload_n (n := 0) d_X8_takeOut_50 rfl rfl ?_
    refine g_getr d_X8_takeOut_51 fl_X8_16 sh_77 rfl ?_
    refine g_bipush (v := 40) d_X8_takeOut_54 (by decide) ?_
    refine g_iload_n (n := 1) d_X8_takeOut_56 rfl rfl ?_
    refine g_imul d_X8_takeOut_57 ?_
    refine g_iload_n (n := 2) d_X8_takeOut_58 rfl rfl ?_
    refine g_iadd d_X8_takeOut_59 ?_
    refine g_iload (n := 4) d_X8_takeOut_60 rfl ?_
    refine g_iadd d_X8_takeOut_62 ?_
    refine g_iaload d_X8_takeOut_63 sh_80 (fun _ => ?_)
    refine g_iastore d_X8_takeOut_64 sh_89 (fun _ => ?_)
    refine g_mem (fun σ2 => ?_)
    refine g_iinc (n := 4) (w := 1) d_X8_takeOut_65 rfl (by decide) (by decide) rfl ?_
    refine g_goto (tgt := 38) d_X8_takeOut_68 (by decide) ?_
    refine g_sub [1, 2, 3, 4, 0] rfl ?_
    exact hk38 _ _ _ _ _
set_option maxHeartbeats 4000000 in
set_option maxRecDepth 100000 in
theorem t_X8_takeOut_l38 {l : Launch} {sc : Nat × (Nat → Int32)} {D : Nat} {n : Nat} : ∀ (f : Nat) (x1 : Int32) (x2 : Int32) (x3 : Int32) (x4 : Int32) (σ : Mem), G l sc (D + 1) m_X8_takeOut 38 [(0, .ref 77), (1, .int x1), (2, .int x2), (3, .int x3), (4, .int x4)] [] σ (f_X8_takeOut_l38 n f x1 x2 x3 x4 σ) (fun y => (some (.int y.1), y.2)) := by
  intro f
  induction f with
  | zero => intro x1 x2 x3 x4 σ; exact g_none
  | succ f ih => intro x1 x2 x3 x4 σ; exact t_X8_takeOut_b38 ih
set_option maxHeartbeats 4000000 in
set_option maxRecDepth 100000 in
theorem t_X8_takeOut {l : Launch} {sc : Nat × (Nat → Int32)} {D : Nat} {n : Nat} {x1 : Int32} {x2 : Int32} {x3 : Int32} {σ : Mem} : G l sc (D + 1) m_X8_takeOut 0 [(0, .ref 77), (1, .int x1), (2, .int x2), (3, .int x3)] [] σ (f_X8_takeOut n x1 x2 x3 σ) (fun y => (some (.int y.1), y.2)) := by
  unfold f_X8_takeOut
  refine g_aload_n (n := 0) d_X8_takeOut_0 rfl rfl ?_
  refine g_getr d_X8_takeOut_1 fl_X8_7 sh_77 rfl ?_
  refine g_iload_n (n := 1) d_X8_takeOut_4 rfl rfl ?_
  refine g_iaload d_X8_takeOut_5 sh_78 (fun _ => ?_)
  refine g_if_ge (tgt := 15) d_X8_takeOut_6 (by decide) (fun c1 => ?_) (fun c1 => ?_)
  · refine g_iload_n (n := 2) d_X8_takeOut_15 rfl rfl ?_
    refine g_iload_n (n := 3) d_X8_takeOut_16 rfl rfl ?_
    refine g_aload_n (n := 0) d_X8_takeOut_17 rfl rfl ?_
    refine g_getr d_X8_takeOut_18 fl_X8_13 sh_77 rfl ?_
    refine g_iload_n (n := 1) d_X8_takeOut_21 rfl rfl ?_
    refine g_iaload d_X8_takeOut_22 sh_79 (fun _ => ?_)
    refine g_calls_pi (D := D + 0) (As := [.int x2, .int x3, .int (σ 79 x1.toNatClampNeg)]) d_X8_takeOut_23 ss_X8_80 rfl (Nat.le_of_ble_eq_true rfl) rfl (fun _ hy => EvM_cast (by omega) (e_X8_isPart (D := D + 0) hy)) (fun y2 => ?_)
    refine g_if_ne (tgt := 35) d_X8_takeOut_26 (by decide) (fun c3 => ?_) (fun c3 => ?_)
    · refine g_iconst (v := 0) d_X8_takeOut_35 (by decide) ?_
      refine g_istore d_X8_takeOut_36 (by decide) rfl ?_
      refine g_sub [1, 2, 3, 4, 0] rfl ?_
      exact t_X8_takeOut_l38  _ _ _ _ _ _
    · refine g_aload_n (n := 0) d_X8_takeOut_29 rfl rfl ?_
      refine g_iconst (v := 2) d_X8_takeOut_30 (by decide) ?_
      refine g_callv_ii (D := D + 0) (As := [.int 2]) d_X8_takeOut_31 sv_X8_73 ob_77 rfl (Nat.le_of_ble_eq_true rfl) rfl (fun _ hy => EvM_cast (by omega) (e_X8_finds (D := D + 0) hy)) (fun y4 σ5 => ?_)
      exact g_iret d_X8_takeOut_34 (Or.inl rfl) rfl
  · refine g_aload_n (n := 0) d_X8_takeOut_9 rfl rfl ?_
    refine g_iconst (v := 1) d_X8_takeOut_10 (by decide) ?_
    refine g_callv_ii (D := D + 0) (As := [.int 1]) d_X8_takeOut_11 sv_X8_73 ob_77 rfl (Nat.le_of_ble_eq_true rfl) rfl (fun _ hy => EvM_cast (by omega) (e_X8_finds (D := D + 0) hy)) (fun y6 σ7 => ?_)
    exact g_iret d_X8_takeOut_14 (Or.inl rfl) rfl
theorem e_X8_takeOut {l : Launch} {D : Nat} {n : Nat} {x1 : Int32} {x2 : Int32} {x3 : Int32} {σ : Mem} {y : (Int32 × Mem)} (hy : f_X8_takeOut n x1 x2 x3 σ = some y) : EvM l (D + 1) m_X8_takeOut [.ref 77, .int x1, .int x2, .int x3] σ ((fun y => (some (.int y.1), y.2)) y) :=
  evM_of (d := m_X8_takeOut) (nL := 5) rfl (by decide +kernel) (fun h => absurd (congrArg MethodName.cls h) (by decide +kernel)) (Nat.le_of_ble_eq_true rfl) (t_X8_takeOut y hy)

set_option maxHeartbeats 4000000 in
set_option maxRecDepth 100000 in
theorem t_X8_isSo {l : Launch} {sc : Nat × (Nat → Int32)} {D : Nat} {n : Nat} {x1 : Int32} {x2 : Int32} {σ : Mem} : G l sc (D + 4) m_X8_isSo 0 [(0, .ref 77), (1, .int x1), (2, .int x2)] [] σ (f_X8_isSo n x1 x2 σ) (fun y => (some (.int y.1), y.2)) := by
  unfold f_X8_isSo
  refine g_aload_n (n := 0) d_X8_isSo_0 rfl rfl ?_
  refine g_getr d_X8_isSo_1 fl_X8_28 sh_77 rfl ?_
  refine g_iconst (v := 3) d_X8_isSo_4 (by decide) ?_
  refine g_iaload d_X8_isSo_5 sh_84 (fun _ => ?_)
  refine g_nm (fun y1 => ?_)
  refine g_istore_n d_X8_isSo_6 rfl (by decide) rfl ?_
  refine g_aload_n (n := 1) d_X8_isSo_7 rfl rfl ?_
  refine g_aload_n (n := 1) d_X8_isSo_8 rfl rfl ?_
  refine g_getr d_X8_isSo_9 fl_X8_44 sh_77 rfl ?_
  refine g_iload_n (n := 2) d_X8_isSo_12 rfl rfl ?_
  refine g_callv_ii (D := D + 3) (As := [.ref 89, .int x1]) d_X8_isSo_13 sv_X8_191 ob_77 rfl (Nat.le_of_ble_eq_true rfl) rfl (fun _ hy => EvM_cast (by omega) (e_X8_goesOn (D := D + 0) hy)) (fun y2 σ3 => ?_)
  refine g_if_eq (tgt := 35) d_X8_isSo_16 (by decide) (fun c4 => ?_) (fun c4 => ?_)
  · refine g_iconst (v := 0) d_X8_isSo_35 (by decide) ?_
    exact g_iret d_X8_isSo_36 (Or.inr ⟨rfl, rfl⟩) rfl
  · refine g_aload_n (n := 1) d_X8_isSo_19 rfl rfl ?_
    refine g_getr d_X8_isSo_20 fl_X8_28 sh_77 rfl ?_
    refine g_iconst (v := 3) d_X8_isSo_23 (by decide) ?_
    refine g_iaload d_X8_isSo_24 sh_84 (fun _ => ?_)
    refine g_iload_n (n := 0) d_X8_isSo_25 rfl rfl ?_
    refine g_isub d_X8_isSo_26 ?_
    refine g_iload_n (n := 3) d_X8_isSo_27 rfl rfl ?_
    refine g_icmp_ne (tgt := 35) d_X8_isSo_28 (by decide) (fun c5 => ?_) (fun c5 => ?_)
    · refine g_iconst (v := 0) d_X8_isSo_35 (by decide) ?_
      exact g_iret d_X8_isSo_36 (Or.inr ⟨rfl, rfl⟩) rfl
    · refine g_iconst (v := 1) d_X8_isSo_31 (by decide) ?_
      refine g_goto (tgt := 36) d_X8_isSo_32 (by decide) ?_
      exact g_iret d_X8_isSo_36 (Or.inr ⟨rfl, rfl⟩) rfl
theorem e_X8_isSo {l : Launch} {D : Nat} {n : Nat} {x1 : Int32} {x2 : Int32} {σ : Mem} {y : (Int32 × Mem)} (hy : f_X8_isSo n x1 x2 σ = some y) : EvM l (D + 4) m_X8_isSo [.ref 77, .int x1, .int x2] σ ((fun y => (some (.int y.1), y.2)) y) :=
  evM_of (d := m_X8_isSo) (nL := 4) rfl (by decide +kernel) (fun h => absurd (congrArg MethodName.cls h) (by decide +kernel)) (Nat.le_of_ble_eq_true rfl) (t_X8_isSo y hy)

set_option maxHeartbeats 4000000 in
set_option maxRecDepth 100000 in
theorem t_X8_fits_b158 {l : Launch} {sc : Nat × (Nat → Int32)} {D : Nat} {n : Nat} {k84 : Int32 → Int32 → Int32 → Int32 → Int32 → Int32 → Mem → Option (Int32 × Mem)} {x1 : Int32} {x4 : Int32} {x5 : Int32} {x6 : Int32} {x9 : Int32} {s0 : Int32} {s1 : Int32} {σ : Mem} (hk84 : ∀ x1 x4 x5 x6 x8 x9 σ, G l sc (D + 5) m_X8_fits 84 [(0, .ref 77), (1, .int x1), (4, .int x4), (5, .int x5), (6, .int x6), (8, .int x8), (9, .int x9)] [] σ (k84 x1 x4 x5 x6 x8 x9 σ) (fun y => (some (.int y.1), y.2))) : G l sc (D + 5) m_X8_fits 158 [(0, .ref 77), (1, .int x1), (4, .int x4), (5, .int x5), (6, .int x6), (9, .int x9)] [.int s0, .int s1] σ (f_X8_fits_b158 n k84 x1 x4 x5 x6 x9 s0 s1 σ) (fun y => (some (.int y.1), y.2)) := by
  unfold f_X8_fits_b158
  refine g_ior d_X8_fits_158 ?_
  refine g_nm (fun y1 => ?_)
  refine g_istore d_X8_fits_159 (by decide) rfl ?_
  refine g_iinc (n := 6) (w := 1) d_X8_fits_161 rfl (by decide) (by decide) rfl ?_
  refine g_goto (tgt := 84) d_X8_fits_164 (by decide) ?_
  refine g_sub [2, 3, 4, 5, 6, 1, 0] rfl ?_
  exact hk84 _ _ _ _ _ _ _
set_option maxHeartbeats 4000000 in
set_option maxRecDepth 100000 in
theorem t_X8_fits_b132 {l : Launch} {sc : Nat × (Nat → Int32)} {D : Nat} {n : Nat} {k84 : Int32 → Int32 → Int32 → Int32 → Int32 → Int32 → Mem → Option (Int32 × Mem)} {x1 : Int32} {x4 : Int32} {x5 : Int32} {x6 : Int32} {x8 : Int32} {x9 : Int32} {s0 : Int32} {σ : Mem} (hk84 : ∀ x1 x4 x5 x6 x8 x9 σ, G l sc (D + 5) m_X8_fits 84 [(0, .ref 77), (1, .int x1), (4, .int x4), (5, .int x5), (6, .int x6), (8, .int x8), (9, .int x9)] [] σ (k84 x1 x4 x5 x6 x8 x9 σ) (fun y => (some (.int y.1), y.2))) : G l sc (D + 5) m_X8_fits 132 [(0, .ref 77), (1, .int x1), (4, .int x4), (5, .int x5), (6, .int x6), (8, .int x8), (9, .int x9)] [.int s0, .ref 84] σ (f_X8_fits_b132 n k84 x1 x4 x5 x6 x8 x9 s0 σ) (fun y => (some (.int y.1), y.2)) := by
  unfold f_X8_fits_b132
  refine g_iload_n (n := 1) d_X8_fits_132 rfl rfl ?_
  refine g_iadd d_X8_fits_133 ?_
  refine g_iload (n := 6) d_X8_fits_134 rfl ?_
  refine g_iastore d_X8_fits_136 sh_84 (fun _ => ?_)
  refine g_mem (fun σ1 => ?_)
  refine g_iload (n := 5) d_X8_fits_137 rfl ?_
  refine g_aload_n (n := 0) d_X8_fits_139 rfl rfl ?_
  refine g_iload (n := 2) d_X8_fits_140 rfl ?_
  refine g_iload (n := 3) d_X8_fits_142 rfl ?_
  refine g_callv_ii (D := D + 4) (As := [.int x4, .int x5]) d_X8_fits_144 sv_X8_204 ob_77 rfl (Nat.le_of_ble_eq_true rfl) rfl (fun _ hy => EvM_cast (by omega) (e_X8_isSo (D := D + 0) hy)) (fun y2 σ3 => ?_)
  refine g_if_eq (tgt := 157) d_X8_fits_147 (by decide) (fun c4 => ?_) (fun c4 => ?_)
  · refine g_iconst (v := 0) d_X8_fits_157 (by decide) ?_
    refine g_sub [0, 1, 2, 3, 4, 6] rfl ?_
    exact t_X8_fits_b158 hk84
  · refine g_iconst (v := 1) d_X8_fits_150 (by decide) ?_
    refine g_iload (n := 6) d_X8_fits_151 rfl ?_
    refine g_ishl d_X8_fits_153 ?_
    refine g_goto (tgt := 158) d_X8_fits_154 (by decide) ?_
    refine g_sub [0, 1, 2, 3, 4, 6] rfl ?_
    exact t_X8_fits_b158 hk84
set_option maxHeartbeats 4000000 in
set_option maxRecDepth 100000 in
theorem t_X8_fits_b98 {l : Launch} {sc : Nat × (Nat → Int32)} {D : Nat} {n : Nat} {k84 : Int32 → Int32 → Int32 → Int32 → Int32 → Int32 → Mem → Option (Int32 × Mem)} {x1 : Int32} {x4 : Int32} {x5 : Int32} {x6 : Int32} {x8 : Int32} {x9 : Int32} {s0 : Int32} {s1 : Int32} {σ : Mem} (hk84 : ∀ x1 x4 x5 x6 x8 x9 σ, G l sc (D + 5) m_X8_fits 84 [(0, .ref 77), (1, .int x1), (4, .int x4), (5, .int x5), (6, .int x6), (8, .int x8), (9, .int x9)] [] σ (k84 x1 x4 x5 x6 x8 x9 σ) (fun y => (some (.int y.1), y.2))) : G l sc (D + 5) m_X8_fits 98 [(0, .ref 77), (1, .int x1), (4, .int x4), (5, .int x5), (6, .int x6), (8, .int x8), (9, .int x9)] [.int s0, .int s1] σ (f_X8_fits_b98 n k84 x1 x4 x5 x6 x8 x9 s0 s1 σ) (fun y => (some (.int y.1), y.2)) := by
  unfold f_X8_fits_b98
  refine g_icmp_ge (tgt := 167) d_X8_fits_98 (by decide) (fun c1 => ?_) (fun c1 => ?_)
  · refine g_aload_n (n := 0) d_X8_fits_167 rfl rfl ?_
    refine g_iload (n := 5) d_X8_fits_168 rfl ?_
    refine g_callv_ii (D := D + 4) (As := [.int x8]) d_X8_fits_170 sv_X8_77 ob_77 rfl (Nat.le_of_ble_eq_true rfl) rfl (fun _ hy => EvM_cast (by omega) (e_X8_done (D := D + 4) hy)) (fun y2 σ3 => ?_)
    exact g_iret d_X8_fits_173 (Or.inl rfl) rfl
  · refine g_aload_n (n := 0) d_X8_fits_101 rfl rfl ?_
    refine g_callv_vv (D := D + 4) (As := []) d_X8_fits_102 sv_X8_188 ob_77 rfl (Nat.le_of_ble_eq_true rfl) rfl (fun _ hy => EvM_cast (by omega) (e_X8_begin (D := D + 3) hy)) (fun σ5 => ?_)
    refine g_aload_n (n := 0) d_X8_fits_105 rfl rfl ?_
    refine g_getr d_X8_fits_106 fl_X8_28 sh_77 rfl ?_
    refine g_iload (n := 4) d_X8_fits_109 rfl ?_
    refine g_if_ne (tgt := 119) d_X8_fits_111 (by decide) (fun c6 => ?_) (fun c6 => ?_)
    · refine g_iload (n := 4) d_X8_fits_119 rfl ?_
      refine g_iconst (v := 1) d_X8_fits_121 (by decide) ?_
      refine g_icmp_ne (tgt := 130) d_X8_fits_122 (by decide) (fun c7 => ?_) (fun c7 => ?_)
      · refine g_bipush (v := 15) d_X8_fits_130 (by decide) ?_
        refine g_sub [0, 1, 2, 3, 4, 5, 6] rfl ?_
        exact t_X8_fits_b132 hk84
      · refine g_bipush (v := 27) d_X8_fits_125 (by decide) ?_
        refine g_goto (tgt := 132) d_X8_fits_127 (by decide) ?_
        refine g_sub [0, 1, 2, 3, 4, 5, 6] rfl ?_
        exact t_X8_fits_b132 hk84
    · refine g_bipush (v := 9) d_X8_fits_114 (by decide) ?_
      refine g_goto (tgt := 132) d_X8_fits_116 (by decide) ?_
      refine g_sub [0, 1, 2, 3, 4, 5, 6] rfl ?_
      exact t_X8_fits_b132 hk84
set_option maxHeartbeats 4000000 in
set_option maxRecDepth 100000 in
theorem t_X8_fits_b84 {l : Launch} {sc : Nat × (Nat → Int32)} {D : Nat} {n : Nat} {k84 : Int32 → Int32 → Int32 → Int32 → Int32 → Int32 → Mem → Option (Int32 × Mem)} {x1 : Int32} {x4 : Int32} {x5 : Int32} {x6 : Int32} {x8 : Int32} {x9 : Int32} {σ : Mem} (hk84 : ∀ x1 x4 x5 x6 x8 x9 σ, G l sc (D + 5) m_X8_fits 84 [(0, .ref 77), (1, .int x1), (4, .int x4), (5, .int x5), (6, .int x6), (8, .int x8), (9, .int x9)] [] σ (k84 x1 x4 x5 x6 x8 x9 σ) (fun y => (some (.int y.1), y.2))) : G l sc (D + 5) m_X8_fits 84 [(0, .ref 77), (1, .int x1), (4, .int x4), (5, .int x5), (6, .int x6), (8, .int x8), (9, .int x9)] [] σ (f_X8_fits_b84 n k84 x1 x4 x5 x6 x8 x9 σ) (fun y => (some (.int y.1), y.2)) := by
  unfold f_X8_fits_b84
  refine g_iload (n := 6) d_X8_fits_84 rfl ?_
  refine g_iload (n := 4) d_X8_fits_86 rfl ?_
  refine g_if_ne (tgt := 96) d_X8_fits_88 (by decide) (fun c1 => ?_) (fun c1 => ?_)
  · refine g_bipush (v := 10) d_X8_fits_96 (by decide) ?_
    refine g_sub [0, 1, 2, 3, 4, 5, 6] rfl ?_
    exact t_X8_fits_b98 hk84
  · refine g_bipush (v := 6) d_X8_fits_91 (by decide) ?_
    refine g_goto (tgt := 98) d_X8_fits_93 (by decide) ?_
    refine g_sub [0, 1, 2, 3, 4, 5, 6] rfl ?_
    exact t_X8_fits_b98 hk84
set_option maxHeartbeats 4000000 in
set_option maxRecDepth 100000 in
theorem t_X8_fits_l84 {l : Launch} {sc : Nat × (Nat → Int32)} {D : Nat} {n : Nat} : ∀ (f : Nat) (x1 : Int32) (x4 : Int32) (x5 : Int32) (x6 : Int32) (x8 : Int32) (x9 : Int32) (σ : Mem), G l sc (D + 5) m_X8_fits 84 [(0, .ref 77), (1, .int x1), (4, .int x4), (5, .int x5), (6, .int x6), (8, .int x8), (9, .int x9)] [] σ (f_X8_fits_l84 n f x1 x4 x5 x6 x8 x9 σ) (fun y => (some (.int y.1), y.2)) := by
  intro f
  induction f with
  | zero => intro x1 x4 x5 x6 x8 x9 σ; exact g_none
  | succ f ih => intro x1 x4 x5 x6 x8 x9 σ; exact t_X8_fits_b84 ih
set_option maxHeartbeats 4000000 in
set_option maxRecDepth 100000 in
theorem t_X8_fits_b82 {l : Launch} {sc : Nat × (Nat → Int32)} {D : Nat} {n : Nat} {x1 : Int32} {x4 : Int32} {x5 : Int32} {x6 : Int32} {x8 : Int32} {s0 : Int32} {σ : Mem} : G l sc (D + 5) m_X8_fits 82 [(0, .ref 77), (1, .int x1), (4, .int x4), (5, .int x5), (6, .int x6), (8, .int x8)] [.int s0] σ (f_X8_fits_b82 n x1 x4 x5 x6 x8 s0 σ) (fun y => (some (.int y.1), y.2)) := by
  unfold f_X8_fits_b82
  refine g_istore d_X8_fits_82 (by decide) rfl ?_
  refine g_sub [1, 2, 3, 4, 5, 6, 0] rfl ?_
  exact t_X8_fits_l84  _ _ _ _ _ _ _ _
set_option maxHeartbeats 4000000 in
set_option maxRecDepth 100000 in
theorem t_X8_fits {l : Launch} {sc : Nat × (Nat → Int32)} {D : Nat} {n : Nat} {x1 : Int32} {x2 : Int32} {x3 : Int32} {x4 : Int32} {x5 : Int32} {x6 : Int32} {σ : Mem} : G l sc (D + 5) m_X8_fits 0 [(0, .ref 77), (1, .int x1), (2, .int x2), (3, .int x3), (4, .int x4), (5, .int x5), (6, .int x6)] [] σ (f_X8_fits n x1 x2 x3 x4 x5 x6 σ) (fun y => (some (.int y.1), y.2)) := by
  unfold f_X8_fits
  refine g_aload_n (n := 0) d_X8_fits_0 rfl rfl ?_
  refine g_iload_n (n := 1) d_X8_fits_1 rfl rfl ?_
  refine g_callv_pi (D := D + 4) (As := [.int x1]) d_X8_fits_2 sv_X8_150 ob_77 rfl (Nat.le_of_ble_eq_true rfl) rfl (fun _ hy => EvM_cast (by omega) (e_X8_isOne (D := D + 3) hy)) (fun y1 => ?_)
  refine g_if_eq (tgt := 48) d_X8_fits_5 (by decide) (fun c2 => ?_) (fun c2 => ?_)
  · refine g_ldc d_X8_fits_48 kc_X8_72 ?_
    exact g_iret d_X8_fits_50 (Or.inl rfl) rfl
  · refine g_iload_n (n := 2) d_X8_fits_8 rfl rfl ?_
    refine g_calls_pi (D := D + 4) (As := [.int x2]) d_X8_fits_9 ss_X8_68 rfl (Nat.le_of_ble_eq_true rfl) rfl (fun _ hy => EvM_cast (by omega) (e_X8_isRow (D := D + 3) hy)) (fun y3 => ?_)
    refine g_if_eq (tgt := 48) d_X8_fits_12 (by decide) (fun c4 => ?_) (fun c4 => ?_)
    · refine g_ldc d_X8_fits_48 kc_X8_72 ?_
      exact g_iret d_X8_fits_50 (Or.inl rfl) rfl
    · refine g_iload (n := 4) d_X8_fits_15 rfl ?_
      refine g_iconst (v := 1) d_X8_fits_17 (by decide) ?_
      refine g_bipush (v := 6) d_X8_fits_18 (by decide) ?_
      refine g_calls_pi (D := D + 4) (As := [.int x4, .int 1, .int 6]) d_X8_fits_20 ss_X8_59 rfl (Nat.le_of_ble_eq_true rfl) rfl (fun _ hy => EvM_cast (by omega) (e_X8_in (D := D + 4) hy)) (fun y5 => ?_)
      refine g_if_eq (tgt := 48) d_X8_fits_23 (by decide) (fun c6 => ?_) (fun c6 => ?_)
      · refine g_ldc d_X8_fits_48 kc_X8_72 ?_
        exact g_iret d_X8_fits_50 (Or.inl rfl) rfl
      · refine g_iload (n := 5) d_X8_fits_26 rfl ?_
        refine g_iconst (v := 0) d_X8_fits_28 (by decide) ?_
        refine g_sipush (v := 999) d_X8_fits_29 (by decide) ?_
        refine g_calls_pi (D := D + 4) (As := [.int x5, .int 0, .int 999]) d_X8_fits_32 ss_X8_59 rfl (Nat.le_of_ble_eq_true rfl) rfl (fun _ hy => EvM_cast (by omega) (e_X8_in (D := D + 4) hy)) (fun y7 => ?_)
        refine g_if_eq (tgt := 48) d_X8_fits_35 (by decide) (fun c8 => ?_) (fun c8 => ?_)
        · refine g_ldc d_X8_fits_48 kc_X8_72 ?_
          exact g_iret d_X8_fits_50 (Or.inl rfl) rfl
        · refine g_iload (n := 6) d_X8_fits_38 rfl ?_
          refine g_iconst (v := 0) d_X8_fits_40 (by decide) ?_
          refine g_iconst (v := 2) d_X8_fits_41 (by decide) ?_
          refine g_calls_pi (D := D + 4) (As := [.int x6, .int 0, .int 2]) d_X8_fits_42 ss_X8_59 rfl (Nat.le_of_ble_eq_true rfl) rfl (fun _ hy => EvM_cast (by omega) (e_X8_in (D := D + 4) hy)) (fun y9 => ?_)
          refine g_if_ne (tgt := 51) d_X8_fits_45 (by decide) (fun c10 => ?_) (fun c10 => ?_)
          · refine g_aload_n (n := 0) d_X8_fits_51 rfl rfl ?_
            refine g_iload_n (n := 2) d_X8_fits_52 rfl rfl ?_
            refine g_iload_n (n := 3) d_X8_fits_53 rfl rfl ?_
            refine g_iload (n := 4) d_X8_fits_54 rfl ?_
            refine g_callv_ii (D := D + 4) (As := [.int x2, .int x3, .int x4]) d_X8_fits_56 sv_X8_200 ob_77 rfl (Nat.le_of_ble_eq_true rfl) rfl (fun _ hy => EvM_cast (by omega) (e_X8_takeOut (D := D + 3) hy)) (fun y11 σ12 => ?_)
            refine g_istore d_X8_fits_59 (by decide) rfl ?_
            refine g_iload (n := 0) d_X8_fits_61 rfl ?_
            refine g_if_ge (tgt := 69) d_X8_fits_63 (by decide) (fun c13 => ?_) (fun c13 => ?_)
            · refine g_iconst (v := 0) d_X8_fits_69 (by decide) ?_
              refine g_istore d_X8_fits_70 (by decide) rfl ?_
              refine g_iload (n := 8) d_X8_fits_72 rfl ?_
              refine g_if_ne (tgt := 81) d_X8_fits_74 (by decide) (fun c14 => ?_) (fun c14 => ?_)
              · refine g_iconst (v := 0) d_X8_fits_81 (by decide) ?_
                refine g_sub [2, 3, 6, 7, 8, 0] rfl ?_
                exact t_X8_fits_b82 
              · refine g_iconst (v := 1) d_X8_fits_77 (by decide) ?_
                refine g_goto (tgt := 82) d_X8_fits_78 (by decide) ?_
                refine g_sub [2, 3, 6, 7, 8, 0] rfl ?_
                exact t_X8_fits_b82 
            · refine g_iload (n := 0) d_X8_fits_66 rfl ?_
              exact g_iret d_X8_fits_68 (Or.inl rfl) rfl
          · refine g_ldc d_X8_fits_48 kc_X8_72 ?_
            exact g_iret d_X8_fits_50 (Or.inl rfl) rfl
theorem e_X8_fits {l : Launch} {D : Nat} {n : Nat} {x1 : Int32} {x2 : Int32} {x3 : Int32} {x4 : Int32} {x5 : Int32} {x6 : Int32} {σ : Mem} {y : (Int32 × Mem)} (hy : f_X8_fits n x1 x2 x3 x4 x5 x6 σ = some y) : EvM l (D + 5) m_X8_fits [.ref 77, .int x1, .int x2, .int x3, .int x4, .int x5, .int x6] σ ((fun y => (some (.int y.1), y.2)) y) :=
  evM_of (d := m_X8_fits) (nL := 10) rfl (by decide +kernel) (fun h => absurd (congrArg MethodName.cls h) (by decide +kernel)) (Nat.le_of_ble_eq_true rfl) (t_X8_fits y hy)

set_option maxHeartbeats 4000000 in
set_option maxRecDepth 100000 in
theorem t_X8_lost_b261 {l : Launch} {sc : Nat × (Nat → Int32)} {D : Nat} {n : Nat} {x11 : Int32} {s0 : Int32} {σ : Mem} : G l sc (D + 4) m_X8_lost 261 [(11, .int x11)] [.int s0, .ref 77] σ (f_X8_lost_b261 n x11 s0 σ) (fun y => (some (.int y.1), y.2)) := by
  unfold f_X8_lost_b261
  refine g_iload (n := 0) d_X8_lost_261 rfl ?_
  refine g_if (fun _ => g_none) (fun h1 => ?_)
  refine g_idiv d_X8_lost_263 h1 ?_
  refine g_callv_ii (D := D + 3) (As := [.int (s0 / x11)]) d_X8_lost_264 sv_X8_77 ob_77 rfl (Nat.le_of_ble_eq_true rfl) rfl (fun _ hy => EvM_cast (by omega) (e_X8_done (D := D + 3) hy)) (fun y2 σ3 => ?_)
  exact g_iret d_X8_lost_267 (Or.inl rfl) rfl
set_option maxHeartbeats 4000000 in
set_option maxRecDepth 100000 in
theorem t_X8_lost_b225 {l : Launch} {sc : Nat × (Nat → Int32)} {D : Nat} {n : Nat} {k225 : Int32 → Int32 → Int32 → Int32 → Int32 → Mem → Option (Int32 × Mem)} {x6 : Int32} {x9 : Int32} {x10 : Int32} {x11 : Int32} {x12 : Int32} {σ : Mem} (hk225 : ∀ x6 x9 x10 x11 x12 σ, G l sc (D + 4) m_X8_lost 225 [(0, .ref 77), (6, .int x6), (9, .int x9), (10, .int x10), (11, .int x11), (12, .int x12)] [] σ (k225 x6 x9 x10 x11 x12 σ) (fun y => (some (.int y.1), y.2))) : G l sc (D + 4) m_X8_lost 225 [(0, .ref 77), (6, .int x6), (9, .int x9), (10, .int x10), (11, .int x11), (12, .int x12)] [] σ (f_X8_lost_b225 n k225 x6 x9 x10 x11 x12 σ) (fun y => (some (.int y.1), y.2)) := by
  unfold f_X8_lost_b225
  refine g_iload (n := 5) d_X8_lost_225 rfl ?_
  refine g_if_le (tgt := 248) d_X8_lost_227 (by decide) (fun c1 => ?_) (fun c1 => ?_)
  · refine g_aload_n (n := 0) d_X8_lost_248 rfl rfl ?_
    refine g_iload (n := 1) d_X8_lost_249 rfl ?_
    refine g_if_ne (tgt := 259) d_X8_lost_251 (by decide) (fun c2 => ?_) (fun c2 => ?_)
    · refine g_iload (n := 3) d_X8_lost_259 rfl ?_
      refine g_sub [4] rfl ?_
      exact t_X8_lost_b261 
    · refine g_iload (n := 2) d_X8_lost_254 rfl ?_
      refine g_goto (tgt := 261) d_X8_lost_256 (by decide) ?_
      refine g_sub [4] rfl ?_
      exact t_X8_lost_b261 
  · refine g_iload (n := 4) d_X8_lost_230 rfl ?_
    refine g_iload (n := 5) d_X8_lost_232 rfl ?_
    refine g_if (fun _ => g_none) (fun h3 => ?_)
    refine g_irem d_X8_lost_234 h3 ?_
    refine g_nm (fun y4 => ?_)
    refine g_istore d_X8_lost_235 (by decide) rfl ?_
    refine g_iload (n := 6) d_X8_lost_237 rfl ?_
    refine g_istore d_X8_lost_239 (by decide) rfl ?_
    refine g_iload (n := 1) d_X8_lost_241 rfl ?_
    refine g_istore d_X8_lost_243 (by decide) rfl ?_
    refine g_goto (tgt := 225) d_X8_lost_245 (by decide) ?_
    refine g_sub [3, 4, 5, 6, 1, 0] rfl ?_
    exact hk225 _ _ _ _ _ _
set_option maxHeartbeats 4000000 in
set_option maxRecDepth 100000 in
theorem t_X8_lost_l225 {l : Launch} {sc : Nat × (Nat → Int32)} {D : Nat} {n : Nat} : ∀ (f : Nat) (x6 : Int32) (x9 : Int32) (x10 : Int32) (x11 : Int32) (x12 : Int32) (σ : Mem), G l sc (D + 4) m_X8_lost 225 [(0, .ref 77), (6, .int x6), (9, .int x9), (10, .int x10), (11, .int x11), (12, .int x12)] [] σ (f_X8_lost_l225 n f x6 x9 x10 x11 x12 σ) (fun y => (some (.int y.1), y.2)) := by
  intro f
  induction f with
  | zero => intro x6 x9 x10 x11 x12 σ; exact g_none
  | succ f ih => intro x6 x9 x10 x11 x12 σ; exact t_X8_lost_b225 ih
set_option maxHeartbeats 4000000 in
set_option maxRecDepth 100000 in
theorem t_X8_lost_b187 {l : Launch} {sc : Nat × (Nat → Int32)} {D : Nat} {n : Nat} {k187 : Int32 → Int32 → Int32 → Int32 → Int32 → Int32 → Mem → Option (Int32 × Mem)} {x4 : Int32} {x6 : Int32} {x8 : Int32} {x9 : Int32} {x10 : Int32} {x11 : Int32} {σ : Mem} (hk187 : ∀ x4 x6 x8 x9 x10 x11 σ, G l sc (D + 4) m_X8_lost 187 [(0, .ref 77), (4, .int x4), (6, .int x6), (8, .int x8), (9, .int x9), (10, .int x10), (11, .int x11)] [] σ (k187 x4 x6 x8 x9 x10 x11 σ) (fun y => (some (.int y.1), y.2))) : G l sc (D + 4) m_X8_lost 187 [(0, .ref 77), (4, .int x4), (6, .int x6), (8, .int x8), (9, .int x9), (10, .int x10), (11, .int x11)] [] σ (f_X8_lost_b187 n k187 x4 x6 x8 x9 x10 x11 σ) (fun y => (some (.int y.1), y.2)) := by
  unfold f_X8_lost_b187
  refine g_iload (n := 6) d_X8_lost_187 rfl ?_
  refine g_iload (n := 3) d_X8_lost_189 rfl ?_
  refine g_icmp_ge (tgt := 217) d_X8_lost_191 (by decide) (fun c1 => ?_) (fun c1 => ?_)
  · refine g_iload (n := 4) d_X8_lost_217 rfl ?_
    refine g_istore d_X8_lost_219 (by decide) rfl ?_
    refine g_iload (n := 6) d_X8_lost_221 rfl ?_
    refine g_istore d_X8_lost_223 (by decide) rfl ?_
    refine g_sub [2, 4, 6, 7, 1, 0] rfl ?_
    exact t_X8_lost_l225  _ _ _ _ _ _ _
  · refine g_iload (n := 4) d_X8_lost_194 rfl ?_
    refine g_bipush (v := 10) d_X8_lost_196 (by decide) ?_
    refine g_iload (n := 1) d_X8_lost_198 rfl ?_
    refine g_isub d_X8_lost_200 ?_
    refine g_imul d_X8_lost_201 ?_
    refine g_nm (fun y2 => ?_)
    refine g_istore d_X8_lost_202 (by decide) rfl ?_
    refine g_iload (n := 5) d_X8_lost_204 rfl ?_
    refine g_bipush (v := 10) d_X8_lost_206 (by decide) ?_
    refine g_imul d_X8_lost_208 ?_
    refine g_nm (fun y3 => ?_)
    refine g_istore d_X8_lost_209 (by decide) rfl ?_
    refine g_iinc (n := 6) (w := 1) d_X8_lost_211 rfl (by decide) (by decide) rfl ?_
    refine g_goto (tgt := 187) d_X8_lost_214 (by decide) ?_
    refine g_sub [3, 4, 5, 6, 2, 1, 0] rfl ?_
    exact hk187 _ _ _ _ _ _ _
set_option maxHeartbeats 4000000 in
set_option maxRecDepth 100000 in
theorem t_X8_lost_l187 {l : Launch} {sc : Nat × (Nat → Int32)} {D : Nat} {n : Nat} : ∀ (f : Nat) (x4 : Int32) (x6 : Int32) (x8 : Int32) (x9 : Int32) (x10 : Int32) (x11 : Int32) (σ : Mem), G l sc (D + 4) m_X8_lost 187 [(0, .ref 77), (4, .int x4), (6, .int x6), (8, .int x8), (9, .int x9), (10, .int x10), (11, .int x11)] [] σ (f_X8_lost_l187 n f x4 x6 x8 x9 x10 x11 σ) (fun y => (some (.int y.1), y.2)) := by
  intro f
  induction f with
  | zero => intro x4 x6 x8 x9 x10 x11 σ; exact g_none
  | succ f ih => intro x4 x6 x8 x9 x10 x11 σ; exact t_X8_lost_b187 ih
set_option maxHeartbeats 4000000 in
set_option maxRecDepth 100000 in
theorem t_X8_lost_b179 {l : Launch} {sc : Nat × (Nat → Int32)} {D : Nat} {n : Nat} {x4 : Int32} {x6 : Int32} {x8 : Int32} {s0 : Int32} {σ : Mem} : G l sc (D + 4) m_X8_lost 179 [(0, .ref 77), (4, .int x4), (6, .int x6), (8, .int x8)] [.int s0] σ (f_X8_lost_b179 n x4 x6 x8 s0 σ) (fun y => (some (.int y.1), y.2)) := by
  unfold f_X8_lost_b179
  refine g_istore d_X8_lost_179 (by decide) rfl ?_
  refine g_iconst (v := 1) d_X8_lost_181 (by decide) ?_
  refine g_istore d_X8_lost_182 (by decide) rfl ?_
  refine g_iconst (v := 0) d_X8_lost_184 (by decide) ?_
  refine g_istore d_X8_lost_185 (by decide) rfl ?_
  refine g_sub [3, 4, 5, 6, 2, 1, 0] rfl ?_
  exact t_X8_lost_l187  _ _ _ _ _ _ _ _
set_option maxHeartbeats 4000000 in
set_option maxRecDepth 100000 in
theorem t_X8_lost_b167 {l : Launch} {sc : Nat × (Nat → Int32)} {D : Nat} {n : Nat} {x4 : Int32} {x6 : Int32} {s0 : Int32} {σ : Mem} : G l sc (D + 4) m_X8_lost 167 [(0, .ref 77), (4, .int x4), (6, .int x6)] [.int s0] σ (f_X8_lost_b167 n x4 x6 s0 σ) (fun y => (some (.int y.1), y.2)) := by
  unfold f_X8_lost_b167
  refine g_istore d_X8_lost_167 (by decide) rfl ?_
  refine g_iload (n := 0) d_X8_lost_169 rfl ?_
  refine g_if_ge (tgt := 178) d_X8_lost_171 (by decide) (fun c1 => ?_) (fun c1 => ?_)
  · refine g_iconst (v := 1) d_X8_lost_178 (by decide) ?_
    refine g_sub [1, 2, 3, 0] rfl ?_
    exact t_X8_lost_b179 
  · refine g_iconst (v := 0) d_X8_lost_174 (by decide) ?_
    refine g_goto (tgt := 179) d_X8_lost_175 (by decide) ?_
    refine g_sub [1, 2, 3, 0] rfl ?_
    exact t_X8_lost_b179 
set_option maxHeartbeats 4000000 in
set_option maxRecDepth 100000 in
theorem t_X8_lost_b137 {l : Launch} {sc : Nat × (Nat → Int32)} {D : Nat} {n : Nat} {k86 : Int32 → Int32 → Int32 → Int32 → Int32 → Int32 → Mem → Option (Int32 × Mem)} {x3 : Int32} {x4 : Int32} {x5 : Int32} {x6 : Int32} {x9 : Int32} {s0 : Int32} {σ : Mem} (hk86 : ∀ x3 x4 x5 x6 x8 x9 σ, G l sc (D + 4) m_X8_lost 86 [(0, .ref 77), (3, .int x3), (4, .int x4), (5, .int x5), (6, .int x6), (8, .int x8), (9, .int x9)] [] σ (k86 x3 x4 x5 x6 x8 x9 σ) (fun y => (some (.int y.1), y.2))) : G l sc (D + 4) m_X8_lost 137 [(0, .ref 77), (3, .int x3), (4, .int x4), (5, .int x5), (6, .int x6), (9, .int x9)] [.int s0] σ (f_X8_lost_b137 n k86 x3 x4 x5 x6 x9 s0 σ) (fun y => (some (.int y.1), y.2)) := by
  unfold f_X8_lost_b137
  refine g_istore d_X8_lost_137 (by decide) rfl ?_
  refine g_iinc (n := 6) (w := -1) d_X8_lost_139 rfl (by decide) (by decide) rfl ?_
  refine g_goto (tgt := 86) d_X8_lost_142 (by decide) ?_
  refine g_sub [2, 3, 4, 5, 6, 1, 0] rfl ?_
  exact hk86 _ _ _ _ _ _ _
set_option maxHeartbeats 4000000 in
set_option maxRecDepth 100000 in
theorem t_X8_lost_b135 {l : Launch} {sc : Nat × (Nat → Int32)} {D : Nat} {n : Nat} {k86 : Int32 → Int32 → Int32 → Int32 → Int32 → Int32 → Mem → Option (Int32 × Mem)} {x3 : Int32} {x4 : Int32} {x5 : Int32} {x6 : Int32} {x8 : Int32} {x9 : Int32} {σ : Mem} (hk86 : ∀ x3 x4 x5 x6 x8 x9 σ, G l sc (D + 4) m_X8_lost 86 [(0, .ref 77), (3, .int x3), (4, .int x4), (5, .int x5), (6, .int x6), (8, .int x8), (9, .int x9)] [] σ (k86 x3 x4 x5 x6 x8 x9 σ) (fun y => (some (.int y.1), y.2))) : G l sc (D + 4) m_X8_lost 135 [(0, .ref 77), (3, .int x3), (4, .int x4), (5, .int x5), (6, .int x6), (8, .int x8), (9, .int x9)] [] σ (f_X8_lost_b135 n k86 x3 x4 x5 x6 x8 x9 σ) (fun y => (some (.int y.1), y.2)) := by
  unfold f_X8_lost_b135
  refine g_iload (n := 5) d_X8_lost_135 rfl ?_
  refine g_sub [0, 1, 2, 3, 4, 6] rfl ?_
  exact t_X8_lost_b137 hk86
set_option maxHeartbeats 4000000 in
set_option maxRecDepth 100000 in
theorem t_X8_lost_b86 {l : Launch} {sc : Nat × (Nat → Int32)} {D : Nat} {n : Nat} {k86 : Int32 → Int32 → Int32 → Int32 → Int32 → Int32 → Mem → Option (Int32 × Mem)} {x3 : Int32} {x4 : Int32} {x5 : Int32} {x6 : Int32} {x8 : Int32} {x9 : Int32} {σ : Mem} (hk86 : ∀ x3 x4 x5 x6 x8 x9 σ, G l sc (D + 4) m_X8_lost 86 [(0, .ref 77), (3, .int x3), (4, .int x4), (5, .int x5), (6, .int x6), (8, .int x8), (9, .int x9)] [] σ (k86 x3 x4 x5 x6 x8 x9 σ) (fun y => (some (.int y.1), y.2))) : G l sc (D + 4) m_X8_lost 86 [(0, .ref 77), (3, .int x3), (4, .int x4), (5, .int x5), (6, .int x6), (8, .int x8), (9, .int x9)] [] σ (f_X8_lost_b86 n k86 x3 x4 x5 x6 x8 x9 σ) (fun y => (some (.int y.1), y.2)) := by
  unfold f_X8_lost_b86
  refine g_iload (n := 6) d_X8_lost_86 rfl ?_
  refine g_if_lt (tgt := 145) d_X8_lost_88 (by decide) (fun c1 => ?_) (fun c1 => ?_)
  · refine g_aload_n (n := 0) d_X8_lost_145 rfl rfl ?_
    refine g_callv_vv (D := D + 3) (As := []) d_X8_lost_146 sv_X8_188 ob_77 rfl (Nat.le_of_ble_eq_true rfl) rfl (fun _ hy => EvM_cast (by omega) (e_X8_begin (D := D + 2) hy)) (fun σ3 => ?_)
    refine g_aload_n (n := 0) d_X8_lost_149 rfl rfl ?_
    refine g_aload_n (n := 0) d_X8_lost_150 rfl rfl ?_
    refine g_getr d_X8_lost_151 fl_X8_44 sh_77 rfl ?_
    refine g_iload_n (n := 1) d_X8_lost_154 rfl rfl ?_
    refine g_callv_ii (D := D + 3) (As := [.ref 89, .int x3]) d_X8_lost_155 sv_X8_191 ob_77 rfl (Nat.le_of_ble_eq_true rfl) rfl (fun _ hy => EvM_cast (by omega) (e_X8_goesOn (D := D + 0) hy)) (fun y4 σ5 => ?_)
    refine g_if_eq (tgt := 166) d_X8_lost_158 (by decide) (fun c6 => ?_) (fun c6 => ?_)
    · refine g_iconst (v := -1) d_X8_lost_166 (by decide) ?_
      refine g_sub [0, 2, 4] rfl ?_
      exact t_X8_lost_b167 
    · refine g_iload (n := 5) d_X8_lost_161 rfl ?_
      refine g_goto (tgt := 167) d_X8_lost_163 (by decide) ?_
      refine g_sub [0, 2, 4] rfl ?_
      exact t_X8_lost_b167 
  · refine g_aload_n (n := 0) d_X8_lost_91 rfl rfl ?_
    refine g_callv_vv (D := D + 3) (As := []) d_X8_lost_92 sv_X8_188 ob_77 rfl (Nat.le_of_ble_eq_true rfl) rfl (fun _ hy => EvM_cast (by omega) (e_X8_begin (D := D + 2) hy)) (fun σ8 => ?_)
    refine g_aload_n (n := 0) d_X8_lost_95 rfl rfl ?_
    refine g_aload_n (n := 0) d_X8_lost_96 rfl rfl ?_
    refine g_getr d_X8_lost_97 fl_X8_44 sh_77 rfl ?_
    refine g_iload (n := 6) d_X8_lost_100 rfl ?_
    refine g_callv_ii (D := D + 3) (As := [.ref 89, .int x9]) d_X8_lost_102 sv_X8_191 ob_77 rfl (Nat.le_of_ble_eq_true rfl) rfl (fun _ hy => EvM_cast (by omega) (e_X8_goesOn (D := D + 0) hy)) (fun y9 σ10 => ?_)
    refine g_istore d_X8_lost_105 (by decide) rfl ?_
    refine g_iload (n := 0) d_X8_lost_107 rfl ?_
    refine g_if_eq (tgt := 135) d_X8_lost_109 (by decide) (fun c11 => ?_) (fun c11 => ?_)
    · refine g_sub [1, 2, 3, 4, 5, 6, 7] rfl ?_
      exact t_X8_lost_b135 hk86
    · refine g_aload_n (n := 1) d_X8_lost_112 rfl rfl ?_
      refine g_getr d_X8_lost_113 fl_X8_28 sh_77 rfl ?_
      refine g_iconst (v := 3) d_X8_lost_116 (by decide) ?_
      refine g_iaload d_X8_lost_117 sh_84 (fun _ => ?_)
      refine g_aload_n (n := 1) d_X8_lost_118 rfl rfl ?_
      refine g_getr d_X8_lost_119 fl_X8_22 sh_77 rfl ?_
      refine g_iconst (v := 3) d_X8_lost_122 (by decide) ?_
      refine g_iaload d_X8_lost_123 sh_82 (fun _ => ?_)
      refine g_isub d_X8_lost_124 ?_
      refine g_iload (n := 4) d_X8_lost_125 rfl ?_
      refine g_icmp_lt (tgt := 135) d_X8_lost_127 (by decide) (fun c12 => ?_) (fun c12 => ?_)
      · refine g_sub [1, 2, 3, 4, 5, 6, 7] rfl ?_
        exact t_X8_lost_b135 hk86
      · refine g_iload (n := 7) d_X8_lost_130 rfl ?_
        refine g_goto (tgt := 137) d_X8_lost_132 (by decide) ?_
        refine g_sub [1, 2, 3, 4, 5, 7] rfl ?_
        exact t_X8_lost_b137 hk86
set_option maxHeartbeats 4000000 in
set_option maxRecDepth 100000 in
theorem t_X8_lost_l86 {l : Launch} {sc : Nat × (Nat → Int32)} {D : Nat} {n : Nat} : ∀ (f : Nat) (x3 : Int32) (x4 : Int32) (x5 : Int32) (x6 : Int32) (x8 : Int32) (x9 : Int32) (σ : Mem), G l sc (D + 4) m_X8_lost 86 [(0, .ref 77), (3, .int x3), (4, .int x4), (5, .int x5), (6, .int x6), (8, .int x8), (9, .int x9)] [] σ (f_X8_lost_l86 n f x3 x4 x5 x6 x8 x9 σ) (fun y => (some (.int y.1), y.2)) := by
  intro f
  induction f with
  | zero => intro x3 x4 x5 x6 x8 x9 σ; exact g_none
  | succ f ih => intro x3 x4 x5 x6 x8 x9 σ; exact t_X8_lost_b86 ih
set_option maxHeartbeats 4000000 in
set_option maxRecDepth 100000 in
theorem t_X8_lost {l : Launch} {sc : Nat × (Nat → Int32)} {D : Nat} {n : Nat} {x1 : Int32} {x2 : Int32} {x3 : Int32} {x4 : Int32} {x5 : Int32} {x6 : Int32} {σ : Mem} : G l sc (D + 4) m_X8_lost 0 [(0, .ref 77), (1, .int x1), (2, .int x2), (3, .int x3), (4, .int x4), (5, .int x5), (6, .int x6)] [] σ (f_X8_lost n x1 x2 x3 x4 x5 x6 σ) (fun y => (some (.int y.1), y.2)) := by
  unfold f_X8_lost
  refine g_aload_n (n := 0) d_X8_lost_0 rfl rfl ?_
  refine g_callv_pi (D := D + 3) (As := []) d_X8_lost_1 sv_X8_164 ob_77 rfl (Nat.le_of_ble_eq_true rfl) rfl (fun _ hy => EvM_cast (by omega) (e_X8_isTown (D := D + 3) hy)) (fun y1 => ?_)
  refine g_if_ne (tgt := 10) d_X8_lost_4 (by decide) (fun c2 => ?_) (fun c2 => ?_)
  · refine g_iload_n (n := 1) d_X8_lost_10 rfl rfl ?_
    refine g_calls_pi (D := D + 3) (As := [.int x1]) d_X8_lost_11 ss_X8_68 rfl (Nat.le_of_ble_eq_true rfl) rfl (fun _ hy => EvM_cast (by omega) (e_X8_isRow (D := D + 2) hy)) (fun y3 => ?_)
    refine g_if_eq (tgt := 60) d_X8_lost_14 (by decide) (fun c4 => ?_) (fun c4 => ?_)
    · refine g_ldc d_X8_lost_60 kc_X8_72 ?_
      exact g_iret d_X8_lost_62 (Or.inl rfl) rfl
    · refine g_iload_n (n := 3) d_X8_lost_17 rfl rfl ?_
      refine g_iconst (v := 1) d_X8_lost_18 (by decide) ?_
      refine g_bipush (v := 6) d_X8_lost_19 (by decide) ?_
      refine g_calls_pi (D := D + 3) (As := [.int x3, .int 1, .int 6]) d_X8_lost_21 ss_X8_59 rfl (Nat.le_of_ble_eq_true rfl) rfl (fun _ hy => EvM_cast (by omega) (e_X8_in (D := D + 3) hy)) (fun y5 => ?_)
      refine g_if_eq (tgt := 60) d_X8_lost_24 (by decide) (fun c6 => ?_) (fun c6 => ?_)
      · refine g_ldc d_X8_lost_60 kc_X8_72 ?_
        exact g_iret d_X8_lost_62 (Or.inl rfl) rfl
      · refine g_iload (n := 4) d_X8_lost_27 rfl ?_
        refine g_iconst (v := 0) d_X8_lost_29 (by decide) ?_
        refine g_bipush (v := 10) d_X8_lost_30 (by decide) ?_
        refine g_calls_pi (D := D + 3) (As := [.int x4, .int 0, .int 10]) d_X8_lost_32 ss_X8_59 rfl (Nat.le_of_ble_eq_true rfl) rfl (fun _ hy => EvM_cast (by omega) (e_X8_in (D := D + 3) hy)) (fun y7 => ?_)
        refine g_if_eq (tgt := 60) d_X8_lost_35 (by decide) (fun c8 => ?_) (fun c8 => ?_)
        · refine g_ldc d_X8_lost_60 kc_X8_72 ?_
          exact g_iret d_X8_lost_62 (Or.inl rfl) rfl
        · refine g_iload (n := 5) d_X8_lost_38 rfl ?_
          refine g_iconst (v := 0) d_X8_lost_40 (by decide) ?_
          refine g_sipush (v := 999) d_X8_lost_41 (by decide) ?_
          refine g_calls_pi (D := D + 3) (As := [.int x5, .int 0, .int 999]) d_X8_lost_44 ss_X8_59 rfl (Nat.le_of_ble_eq_true rfl) rfl (fun _ hy => EvM_cast (by omega) (e_X8_in (D := D + 3) hy)) (fun y9 => ?_)
          refine g_if_eq (tgt := 60) d_X8_lost_47 (by decide) (fun c10 => ?_) (fun c10 => ?_)
          · refine g_ldc d_X8_lost_60 kc_X8_72 ?_
            exact g_iret d_X8_lost_62 (Or.inl rfl) rfl
          · refine g_iload (n := 6) d_X8_lost_50 rfl ?_
            refine g_iconst (v := 0) d_X8_lost_52 (by decide) ?_
            refine g_iconst (v := 1) d_X8_lost_53 (by decide) ?_
            refine g_calls_pi (D := D + 3) (As := [.int x6, .int 0, .int 1]) d_X8_lost_54 ss_X8_59 rfl (Nat.le_of_ble_eq_true rfl) rfl (fun _ hy => EvM_cast (by omega) (e_X8_in (D := D + 3) hy)) (fun y11 => ?_)
            refine g_if_ne (tgt := 63) d_X8_lost_57 (by decide) (fun c12 => ?_) (fun c12 => ?_)
            · refine g_aload_n (n := 0) d_X8_lost_63 rfl rfl ?_
              refine g_iload_n (n := 1) d_X8_lost_64 rfl rfl ?_
              refine g_iload_n (n := 2) d_X8_lost_65 rfl rfl ?_
              refine g_iload_n (n := 3) d_X8_lost_66 rfl rfl ?_
              refine g_callv_ii (D := D + 3) (As := [.int x1, .int x2, .int x3]) d_X8_lost_67 sv_X8_200 ob_77 rfl (Nat.le_of_ble_eq_true rfl) rfl (fun _ hy => EvM_cast (by omega) (e_X8_takeOut (D := D + 2) hy)) (fun y13 σ14 => ?_)
              refine g_istore d_X8_lost_70 (by decide) rfl ?_
              refine g_iload (n := 0) d_X8_lost_72 rfl ?_
              refine g_if_ge (tgt := 80) d_X8_lost_74 (by decide) (fun c15 => ?_) (fun c15 => ?_)
              · refine g_iconst (v := -1) d_X8_lost_80 (by decide) ?_
                refine g_istore d_X8_lost_81 (by decide) rfl ?_
                refine g_iload_n (n := 5) d_X8_lost_83 rfl rfl ?_
                refine g_istore d_X8_lost_84 (by decide) rfl ?_
                refine g_sub [3, 6, 7, 8, 9, 1, 0] rfl ?_
                exact t_X8_lost_l86  _ _ _ _ _ _ _ _
              · refine g_iload (n := 0) d_X8_lost_77 rfl ?_
                exact g_iret d_X8_lost_79 (Or.inl rfl) rfl
            · refine g_ldc d_X8_lost_60 kc_X8_72 ?_
              exact g_iret d_X8_lost_62 (Or.inl rfl) rfl
  · refine g_ldc d_X8_lost_7 kc_X8_157 ?_
    exact g_iret d_X8_lost_9 (Or.inl rfl) rfl
theorem e_X8_lost {l : Launch} {D : Nat} {n : Nat} {x1 : Int32} {x2 : Int32} {x3 : Int32} {x4 : Int32} {x5 : Int32} {x6 : Int32} {σ : Mem} {y : (Int32 × Mem)} (hy : f_X8_lost n x1 x2 x3 x4 x5 x6 σ = some y) : EvM l (D + 4) m_X8_lost [.ref 77, .int x1, .int x2, .int x3, .int x4, .int x5, .int x6] σ ((fun y => (some (.int y.1), y.2)) y) :=
  evM_of (d := m_X8_lost) (nL := 14) rfl (by decide +kernel) (fun h => absurd (congrArg MethodName.cls h) (by decide +kernel)) (Nat.le_of_ble_eq_true rfl) (t_X8_lost y hy)

set_option maxHeartbeats 4000000 in
set_option maxRecDepth 100000 in
theorem t_X8_drawn_b132 {l : Launch} {sc : Nat × (Nat → Int32)} {D : Nat} {n : Nat} {k53 : Int32 → Int32 → Int64 → Int32 → Mem → Option (Int32 × Mem)} {x1 : Int32} {x3 : Int32} {x4 : Int64} {x6 : Int32} {σ : Mem} (hk53 : ∀ x1 x3 x4 x6 σ, G l sc (D + 3) m_X8_drawn 53 [(0, .ref 77), (1, .int x1), (3, .int x3), (4, .long x4), (6, .int x6)] [] σ (k53 x1 x3 x4 x6 σ) (fun y => (some (.int y.1), y.2))) : G l sc (D + 3) m_X8_drawn 132 [(0, .ref 77), (1, .int x1), (3, .int x3), (4, .long x4), (6, .int x6)] [] σ (f_X8_drawn_b132 n k53 x1 x3 x4 x6 σ) (fun y => (some (.int y.1), y.2)) := by
  unfold f_X8_drawn_b132
  refine g_iinc (n := 4) (w := 1) d_X8_drawn_132 rfl (by decide) (by decide) rfl ?_
  refine g_goto (tgt := 53) d_X8_drawn_135 (by decide) ?_
  refine g_sub [1, 2, 3, 4, 0] rfl ?_
  exact hk53 _ _ _ _ _
set_option maxHeartbeats 4000000 in
set_option maxRecDepth 100000 in
theorem t_X8_drawn_b95 {l : Launch} {sc : Nat × (Nat → Int32)} {D : Nat} {n : Nat} {k53 : Int32 → Int32 → Int64 → Int32 → Mem → Option (Int32 × Mem)} {x1 : Int32} {x3 : Int32} {x4 : Int64} {x6 : Int32} {s0 : Int32} {σ : Mem} (hk53 : ∀ x1 x3 x4 x6 σ, G l sc (D + 3) m_X8_drawn 53 [(0, .ref 77), (1, .int x1), (3, .int x3), (4, .long x4), (6, .int x6)] [] σ (k53 x1 x3 x4 x6 σ) (fun y => (some (.int y.1), y.2))) : G l sc (D + 3) m_X8_drawn 95 [(0, .ref 77), (1, .int x1), (3, .int x3), (4, .long x4), (6, .int x6)] [.int s0] σ (f_X8_drawn_b95 n k53 x1 x3 x4 x6 s0 σ) (fun y => (some (.int y.1), y.2)) := by
  unfold f_X8_drawn_b95
  refine g_istore d_X8_drawn_95 (by decide) rfl ?_
  refine g_aload_n (n := 1) d_X8_drawn_97 rfl rfl ?_
  refine g_getr d_X8_drawn_98 fl_X8_28 sh_77 rfl ?_
  refine g_iload (n := 0) d_X8_drawn_101 rfl ?_
  refine g_calls_pi (D := D + 2) (As := [.ref 84, .int s0]) d_X8_drawn_103 ss_X8_153 rfl (Nat.le_of_ble_eq_true rfl) rfl (fun _ hy => EvM_cast (by omega) (e_X8_canBe (D := D + 1) hy)) (fun y1 => ?_)
  refine g_if_eq (tgt := 122) d_X8_drawn_106 (by decide) (fun c2 => ?_) (fun c2 => ?_)
  · refine g_aload_n (n := 1) d_X8_drawn_122 rfl rfl ?_
    refine g_getr d_X8_drawn_123 fl_X8_28 sh_77 rfl ?_
    refine g_iconst (v := 1) d_X8_drawn_126 (by decide) ?_
    refine g_dup2 d_X8_drawn_127 rfl rfl ?_
    refine g_iaload d_X8_drawn_128 sh_84 (fun _ => ?_)
    refine g_iconst (v := 1) d_X8_drawn_129 (by decide) ?_
    refine g_iadd d_X8_drawn_130 ?_
    refine g_iastore d_X8_drawn_131 sh_84 (fun _ => ?_)
    refine g_mem (fun σ3 => ?_)
    refine g_sub [1, 2, 3, 4, 5] rfl ?_
    exact t_X8_drawn_b132 hk53
  · refine g_aload_n (n := 1) d_X8_drawn_109 rfl rfl ?_
    refine g_getr d_X8_drawn_110 fl_X8_28 sh_77 rfl ?_
    refine g_iload (n := 0) d_X8_drawn_113 rfl ?_
    refine g_calls_ii (D := D + 2) (As := [.ref 84, .int s0]) d_X8_drawn_115 ss_X8_161 rfl (Nat.le_of_ble_eq_true rfl) rfl (fun _ hy => EvM_cast (by omega) (e_X8_gives (D := D + 0) hy)) (fun y4 σ5 => ?_)
    refine g_pop d_X8_drawn_118 rfl ?_
    refine g_goto (tgt := 132) d_X8_drawn_119 (by decide) ?_
    refine g_sub [1, 2, 3, 4, 5] rfl ?_
    exact t_X8_drawn_b132 hk53
set_option maxHeartbeats 4000000 in
set_option maxRecDepth 100000 in
theorem t_X8_drawn_b53 {l : Launch} {sc : Nat × (Nat → Int32)} {D : Nat} {n : Nat} {k53 : Int32 → Int32 → Int64 → Int32 → Mem → Option (Int32 × Mem)} {x1 : Int32} {x3 : Int32} {x4 : Int64} {x6 : Int32} {σ : Mem} (hk53 : ∀ x1 x3 x4 x6 σ, G l sc (D + 3) m_X8_drawn 53 [(0, .ref 77), (1, .int x1), (3, .int x3), (4, .long x4), (6, .int x6)] [] σ (k53 x1 x3 x4 x6 σ) (fun y => (some (.int y.1), y.2))) : G l sc (D + 3) m_X8_drawn 53 [(0, .ref 77), (1, .int x1), (3, .int x3), (4, .long x4), (6, .int x6)] [] σ (f_X8_drawn_b53 n k53 x1 x3 x4 x6 σ) (fun y => (some (.int y.1), y.2)) := by
  unfold f_X8_drawn_b53
  refine g_iload (n := 4) d_X8_drawn_53 rfl ?_
  refine g_iload_n (n := 1) d_X8_drawn_55 rfl rfl ?_
  refine g_icmp_ge (tgt := 138) d_X8_drawn_56 (by decide) (fun c1 => ?_) (fun c1 => ?_)
  · refine g_iload_n (n := 2) d_X8_drawn_138 rfl rfl ?_
    refine g_if_ne (tgt := 151) d_X8_drawn_139 (by decide) (fun c2 => ?_) (fun c2 => ?_)
    · refine g_aload_n (n := 0) d_X8_drawn_151 rfl rfl ?_
      refine g_getr d_X8_drawn_152 fl_X8_28 sh_77 rfl ?_
      refine g_iconst (v := 2) d_X8_drawn_155 (by decide) ?_
      refine g_iaload d_X8_drawn_156 sh_84 (fun _ => ?_)
      exact g_iret d_X8_drawn_157 (Or.inl rfl) rfl
    · refine g_aload_n (n := 0) d_X8_drawn_142 rfl rfl ?_
      refine g_getr d_X8_drawn_143 fl_X8_28 sh_77 rfl ?_
      refine g_iconst (v := 3) d_X8_drawn_146 (by decide) ?_
      refine g_iaload d_X8_drawn_147 sh_84 (fun _ => ?_)
      refine g_goto (tgt := 157) d_X8_drawn_148 (by decide) ?_
      exact g_iret d_X8_drawn_157 (Or.inl rfl) rfl
  · refine g_lload (n := 3) d_X8_drawn_59 rfl ?_
    refine g_ldc2 d_X8_drawn_61 kc_X8_208 ?_
    refine g_lmul d_X8_drawn_64 ?_
    refine g_ldc2 d_X8_drawn_65 kc_X8_210 ?_
    refine g_lrem d_X8_drawn_68 (by decide) ?_
    refine g_nml (fun y3 => ?_)
    refine g_lstore d_X8_drawn_69 (by decide) rfl ?_
    refine g_aload_n (n := 1) d_X8_drawn_71 rfl rfl ?_
    refine g_getr d_X8_drawn_72 fl_X8_22 sh_77 rfl ?_
    refine g_iconst (v := 4) d_X8_drawn_75 (by decide) ?_
    refine g_iaload d_X8_drawn_76 sh_82 (fun _ => ?_)
    refine g_if_ne (tgt := 84) d_X8_drawn_77 (by decide) (fun c4 => ?_) (fun c4 => ?_)
    · refine g_lload (n := 0) d_X8_drawn_84 rfl ?_
      refine g_aload_n (n := 1) d_X8_drawn_86 rfl rfl ?_
      refine g_getr d_X8_drawn_87 fl_X8_22 sh_77 rfl ?_
      refine g_iconst (v := 4) d_X8_drawn_90 (by decide) ?_
      refine g_iaload d_X8_drawn_91 sh_82 (fun _ => ?_)
      refine g_i2l d_X8_drawn_92 ?_
      refine g_nml (fun y5 => ?_)
      refine g_if (fun _ => g_none) (fun h6 => ?_)
      refine g_lrem d_X8_drawn_93 h6 ?_
      refine g_l2i d_X8_drawn_94 ?_
      refine g_sub [1, 2, 3, 0, 4] rfl ?_
      exact t_X8_drawn_b95 hk53
    · refine g_iconst (v := -1) d_X8_drawn_80 (by decide) ?_
      refine g_goto (tgt := 95) d_X8_drawn_81 (by decide) ?_
      refine g_sub [1, 2, 3, 0, 4] rfl ?_
      exact t_X8_drawn_b95 hk53
set_option maxHeartbeats 4000000 in
set_option maxRecDepth 100000 in
theorem t_X8_drawn_l53 {l : Launch} {sc : Nat × (Nat → Int32)} {D : Nat} {n : Nat} : ∀ (f : Nat) (x1 : Int32) (x3 : Int32) (x4 : Int64) (x6 : Int32) (σ : Mem), G l sc (D + 3) m_X8_drawn 53 [(0, .ref 77), (1, .int x1), (3, .int x3), (4, .long x4), (6, .int x6)] [] σ (f_X8_drawn_l53 n f x1 x3 x4 x6 σ) (fun y => (some (.int y.1), y.2)) := by
  intro f
  induction f with
  | zero => intro x1 x3 x4 x6 σ; exact g_none
  | succ f ih => intro x1 x3 x4 x6 σ; exact t_X8_drawn_b53 ih
set_option maxHeartbeats 4000000 in
set_option maxRecDepth 100000 in
theorem t_X8_drawn {l : Launch} {sc : Nat × (Nat → Int32)} {D : Nat} {n : Nat} {x1 : Int32} {x2 : Int32} {x3 : Int32} {σ : Mem} : G l sc (D + 3) m_X8_drawn 0 [(0, .ref 77), (1, .int x1), (2, .int x2), (3, .int x3)] [] σ (f_X8_drawn n x1 x2 x3 σ) (fun y => (some (.int y.1), y.2)) := by
  unfold f_X8_drawn
  refine g_aload_n (n := 0) d_X8_drawn_0 rfl rfl ?_
  refine g_callv_pi (D := D + 2) (As := []) d_X8_drawn_1 sv_X8_164 ob_77 rfl (Nat.le_of_ble_eq_true rfl) rfl (fun _ hy => EvM_cast (by omega) (e_X8_isTown (D := D + 2) hy)) (fun y1 => ?_)
  refine g_if_ne (tgt := 10) d_X8_drawn_4 (by decide) (fun c2 => ?_) (fun c2 => ?_)
  · refine g_iload_n (n := 1) d_X8_drawn_10 rfl rfl ?_
    refine g_iconst (v := 0) d_X8_drawn_11 (by decide) ?_
    refine g_bipush (v := 60) d_X8_drawn_12 (by decide) ?_
    refine g_calls_pi (D := D + 2) (As := [.int x1, .int 0, .int 60]) d_X8_drawn_14 ss_X8_59 rfl (Nat.le_of_ble_eq_true rfl) rfl (fun _ hy => EvM_cast (by omega) (e_X8_in (D := D + 2) hy)) (fun y3 => ?_)
    refine g_if_eq (tgt := 39) d_X8_drawn_17 (by decide) (fun c4 => ?_) (fun c4 => ?_)
    · refine g_ldc d_X8_drawn_39 kc_X8_72 ?_
      exact g_iret d_X8_drawn_41 (Or.inl rfl) rfl
    · refine g_iload_n (n := 2) d_X8_drawn_20 rfl rfl ?_
      refine g_iconst (v := 1) d_X8_drawn_21 (by decide) ?_
      refine g_ldc d_X8_drawn_22 kc_X8_207 ?_
      refine g_calls_pi (D := D + 2) (As := [.int x2, .int 1, .int 999999]) d_X8_drawn_24 ss_X8_59 rfl (Nat.le_of_ble_eq_true rfl) rfl (fun _ hy => EvM_cast (by omega) (e_X8_in (D := D + 2) hy)) (fun y5 => ?_)
      refine g_if_eq (tgt := 39) d_X8_drawn_27 (by decide) (fun c6 => ?_) (fun c6 => ?_)
      · refine g_ldc d_X8_drawn_39 kc_X8_72 ?_
        exact g_iret d_X8_drawn_41 (Or.inl rfl) rfl
      · refine g_iload_n (n := 3) d_X8_drawn_30 rfl rfl ?_
        refine g_iconst (v := 0) d_X8_drawn_31 (by decide) ?_
        refine g_iconst (v := 1) d_X8_drawn_32 (by decide) ?_
        refine g_calls_pi (D := D + 2) (As := [.int x3, .int 0, .int 1]) d_X8_drawn_33 ss_X8_59 rfl (Nat.le_of_ble_eq_true rfl) rfl (fun _ hy => EvM_cast (by omega) (e_X8_in (D := D + 2) hy)) (fun y7 => ?_)
        refine g_if_ne (tgt := 42) d_X8_drawn_36 (by decide) (fun c8 => ?_) (fun c8 => ?_)
        · refine g_aload_n (n := 0) d_X8_drawn_42 rfl rfl ?_
          refine g_callv_vv (D := D + 2) (As := []) d_X8_drawn_43 sv_X8_188 ob_77 rfl (Nat.le_of_ble_eq_true rfl) rfl (fun _ hy => EvM_cast (by omega) (e_X8_begin (D := D + 1) hy)) (fun σ10 => ?_)
          refine g_iload_n (n := 2) d_X8_drawn_46 rfl rfl ?_
          refine g_i2l d_X8_drawn_47 ?_
          refine g_nml (fun y11 => ?_)
          refine g_lstore d_X8_drawn_48 (by decide) rfl ?_
          refine g_iconst (v := 0) d_X8_drawn_50 (by decide) ?_
          refine g_istore d_X8_drawn_51 (by decide) rfl ?_
          refine g_sub [2, 3, 5, 1, 0] rfl ?_
          exact t_X8_drawn_l53  _ _ _ _ _ _
        · refine g_ldc d_X8_drawn_39 kc_X8_72 ?_
          exact g_iret d_X8_drawn_41 (Or.inl rfl) rfl
  · refine g_ldc d_X8_drawn_7 kc_X8_157 ?_
    exact g_iret d_X8_drawn_9 (Or.inl rfl) rfl
theorem e_X8_drawn {l : Launch} {D : Nat} {n : Nat} {x1 : Int32} {x2 : Int32} {x3 : Int32} {σ : Mem} {y : (Int32 × Mem)} (hy : f_X8_drawn n x1 x2 x3 σ = some y) : EvM l (D + 3) m_X8_drawn [.ref 77, .int x1, .int x2, .int x3] σ ((fun y => (some (.int y.1), y.2)) y) :=
  evM_of (d := m_X8_drawn) (nL := 8) rfl (by decide +kernel) (fun h => absurd (congrArg MethodName.cls h) (by decide +kernel)) (Nat.le_of_ble_eq_true rfl) (t_X8_drawn y hy)

set_option maxHeartbeats 4000000 in
set_option maxRecDepth 100000 in
theorem t_X8_image {l : Launch} {sc : Nat × (Nat → Int32)} {D : Nat} {n : Nat} {x1 : Int32} {σ : Mem} : G l sc (D + 1) m_X8_image 0 [(0, .ref 77), (1, .int x1)] [] σ (f_X8_image n x1 σ) (fun y => (some (.int y.1), y.2)) := by
  unfold f_X8_image
  refine g_iload_n (n := 1) d_X8_image_0 rfl rfl ?_
  refine g_iconst (v := 0) d_X8_image_1 (by decide) ?_
  refine g_iconst (v := 1) d_X8_image_2 (by decide) ?_
  refine g_calls_pi (D := D + 0) (As := [.int x1, .int 0, .int 1]) d_X8_image_3 ss_X8_59 rfl (Nat.le_of_ble_eq_true rfl) rfl (fun _ hy => EvM_cast (by omega) (e_X8_in (D := D + 0) hy)) (fun y1 => ?_)
  refine g_if_ne (tgt := 12) d_X8_image_6 (by decide) (fun c2 => ?_) (fun c2 => ?_)
  · refine g_aload_n (n := 0) d_X8_image_12 rfl rfl ?_
    refine g_callv_pi (D := D + 0) (As := []) d_X8_image_13 sv_X8_164 ob_77 rfl (Nat.le_of_ble_eq_true rfl) rfl (fun _ hy => EvM_cast (by omega) (e_X8_isTown (D := D + 0) hy)) (fun y3 => ?_)
    refine g_if_ne (tgt := 22) d_X8_image_16 (by decide) (fun c4 => ?_) (fun c4 => ?_)
    · refine g_aload_n (n := 0) d_X8_image_22 rfl rfl ?_
      refine g_getr d_X8_image_23 fl_X8_22 sh_77 rfl ?_
      refine g_iconst (v := 0) d_X8_image_26 (by decide) ?_
      refine g_aload_n (n := 0) d_X8_image_27 rfl rfl ?_
      refine g_getr d_X8_image_28 fl_X8_31 sh_77 rfl ?_
      refine g_bipush (v := 33) d_X8_image_31 (by decide) ?_
      refine g_iload_n (n := 1) d_X8_image_33 rfl rfl ?_
      refine g_imul d_X8_image_34 ?_
      refine g_calls_vv (D := D + 0) (As := [.ref 82, .int 0, .ref 85, .int (33 * x1)]) d_X8_image_35 ss_X8_133 rfl (Nat.le_of_ble_eq_true rfl) rfl (fun _ hy => EvM_cast (by omega) (e_X8_lay (D := D + 0) hy)) (fun σ6 => ?_)
      refine g_aload_n (n := 0) d_X8_image_38 rfl rfl ?_
      refine g_getr d_X8_image_39 fl_X8_34 sh_77 rfl ?_
      refine g_iload_n (n := 1) d_X8_image_42 rfl rfl ?_
      refine g_iconst (v := 1) d_X8_image_43 (by decide) ?_
      refine g_bastore d_X8_image_44 sh_86 (by decide) (fun _ => ?_)
      refine g_mem (fun σ7 => ?_)
      refine g_iconst (v := 1) d_X8_image_45 (by decide) ?_
      exact g_iret d_X8_image_46 (Or.inl rfl) rfl
    · refine g_ldc d_X8_image_19 kc_X8_157 ?_
      exact g_iret d_X8_image_21 (Or.inl rfl) rfl
  · refine g_ldc d_X8_image_9 kc_X8_72 ?_
    exact g_iret d_X8_image_11 (Or.inl rfl) rfl
theorem e_X8_image {l : Launch} {D : Nat} {n : Nat} {x1 : Int32} {σ : Mem} {y : (Int32 × Mem)} (hy : f_X8_image n x1 σ = some y) : EvM l (D + 1) m_X8_image [.ref 77, .int x1] σ ((fun y => (some (.int y.1), y.2)) y) :=
  evM_of (d := m_X8_image) (nL := 2) rfl (by decide +kernel) (fun h => absurd (congrArg MethodName.cls h) (by decide +kernel)) (Nat.le_of_ble_eq_true rfl) (t_X8_image y hy)

set_option maxHeartbeats 4000000 in
set_option maxRecDepth 100000 in
theorem t_X8_restore {l : Launch} {sc : Nat × (Nat → Int32)} {D : Nat} {n : Nat} {x1 : Int32} {σ : Mem} : G l sc (D + 1) m_X8_restore 0 [(0, .ref 77), (1, .int x1)] [] σ (f_X8_restore n x1 σ) (fun y => (some (.int y.1), y.2)) := by
  unfold f_X8_restore
  refine g_iload_n (n := 1) d_X8_restore_0 rfl rfl ?_
  refine g_iconst (v := 0) d_X8_restore_1 (by decide) ?_
  refine g_iconst (v := 1) d_X8_restore_2 (by decide) ?_
  refine g_calls_pi (D := D + 0) (As := [.int x1, .int 0, .int 1]) d_X8_restore_3 ss_X8_59 rfl (Nat.le_of_ble_eq_true rfl) rfl (fun _ hy => EvM_cast (by omega) (e_X8_in (D := D + 0) hy)) (fun y1 => ?_)
  refine g_if_ne (tgt := 12) d_X8_restore_6 (by decide) (fun c2 => ?_) (fun c2 => ?_)
  · refine g_aload_n (n := 0) d_X8_restore_12 rfl rfl ?_
    refine g_getr d_X8_restore_13 fl_X8_34 sh_77 rfl ?_
    refine g_iload_n (n := 1) d_X8_restore_16 rfl rfl ?_
    refine g_baload d_X8_restore_17 sh_86 (fun _ => ?_)
    refine g_if_ne (tgt := 24) d_X8_restore_18 (by decide) (fun c3 => ?_) (fun c3 => ?_)
    · refine g_aload_n (n := 0) d_X8_restore_24 rfl rfl ?_
      refine g_getr d_X8_restore_25 fl_X8_31 sh_77 rfl ?_
      refine g_bipush (v := 33) d_X8_restore_28 (by decide) ?_
      refine g_iload_n (n := 1) d_X8_restore_30 rfl rfl ?_
      refine g_imul d_X8_restore_31 ?_
      refine g_aload_n (n := 0) d_X8_restore_32 rfl rfl ?_
      refine g_getr d_X8_restore_33 fl_X8_22 sh_77 rfl ?_
      refine g_iconst (v := 0) d_X8_restore_36 (by decide) ?_
      refine g_calls_vv (D := D + 0) (As := [.ref 85, .int (33 * x1), .ref 82, .int 0]) d_X8_restore_37 ss_X8_133 rfl (Nat.le_of_ble_eq_true rfl) rfl (fun _ hy => EvM_cast (by omega) (e_X8_lay (D := D + 0) hy)) (fun σ5 => ?_)
      refine g_aload_n (n := 0) d_X8_restore_40 rfl rfl ?_
      refine g_iconst (v := 0) d_X8_restore_41 (by decide) ?_
      refine g_puti d_X8_restore_42 fl_X8_137 sh_77 rfl ?_
      refine g_mem (fun σ6 => ?_)
      refine g_iconst (v := 1) d_X8_restore_45 (by decide) ?_
      exact g_iret d_X8_restore_46 (Or.inl rfl) rfl
    · refine g_ldc d_X8_restore_21 kc_X8_157 ?_
      exact g_iret d_X8_restore_23 (Or.inl rfl) rfl
  · refine g_ldc d_X8_restore_9 kc_X8_72 ?_
    exact g_iret d_X8_restore_11 (Or.inl rfl) rfl
theorem e_X8_restore {l : Launch} {D : Nat} {n : Nat} {x1 : Int32} {σ : Mem} {y : (Int32 × Mem)} (hy : f_X8_restore n x1 σ = some y) : EvM l (D + 1) m_X8_restore [.ref 77, .int x1] σ ((fun y => (some (.int y.1), y.2)) y) :=
  evM_of (d := m_X8_restore) (nL := 2) rfl (by decide +kernel) (fun h => absurd (congrArg MethodName.cls h) (by decide +kernel)) (Nat.le_of_ble_eq_true rfl) (t_X8_restore y hy)
