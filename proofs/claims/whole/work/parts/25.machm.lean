set_option maxHeartbeats 4000000 in
set_option maxRecDepth 100000 in
theorem t_X8_town {l : Launch} {sc : Nat × (Nat → Int32)} {D : Nat} {n : Nat} {σ : Mem} : G l sc (D + 6) m_X8_town 0 [(0, .ref 77)] [] σ (f_X8_town n σ) (fun y => (some (.int y.1), y.2)) := by
  unfold f_X8_town
  refine g_aload_n (n := 0) d_X8_town_0 rfl rfl ?_
  refine g_callv_ii (D := D + 5) (As := []) d_X8_town_1 sv_X8_126 ob_77 rfl (Nat.le_of_ble_eq_true rfl) rfl (fun _ hy => EvM_cast (by omega) (e_X8_isRead (D := D + 0) hy)) (fun y1 σ2 => ?_)
  refine g_istore_n d_X8_town_4 rfl (by decide) rfl ?_
  refine g_aload_n (n := 1) d_X8_town_5 rfl rfl ?_
  refine g_iconst (v := 0) d_X8_town_6 (by decide) ?_
  refine g_puti d_X8_town_7 fl_X8_83 sh_77 rfl ?_
  refine g_mem (fun σ3 => ?_)
  refine g_iload_n (n := 0) d_X8_town_10 rfl rfl ?_
  refine g_if_ne (tgt := 30) d_X8_town_11 (by decide) (fun c4 => ?_) (fun c4 => ?_)
  · refine g_aload_n (n := 1) d_X8_town_30 rfl rfl ?_
    refine g_getr d_X8_town_31 fl_X8_25 sh_77 rfl ?_
    refine g_iconst (v := 0) d_X8_town_34 (by decide) ?_
    refine g_aload_n (n := 1) d_X8_town_35 rfl rfl ?_
    refine g_getr d_X8_town_36 fl_X8_22 sh_77 rfl ?_
    refine g_iconst (v := 0) d_X8_town_39 (by decide) ?_
    refine g_calls_vv (D := D + 5) (As := [.ref 83, .int 0, .ref 82, .int 0]) d_X8_town_40 ss_X8_133 rfl (Nat.le_of_ble_eq_true rfl) rfl (fun _ hy => EvM_cast (by omega) (e_X8_lay (D := D + 5) hy)) (fun σ6 => ?_)
    refine g_aload_n (n := 1) d_X8_town_43 rfl rfl ?_
    refine g_iconst (v := 0) d_X8_town_44 (by decide) ?_
    refine g_puti d_X8_town_45 fl_X8_137 sh_77 rfl ?_
    refine g_mem (fun σ7 => ?_)
    refine g_aload_n (n := 1) d_X8_town_48 rfl rfl ?_
    refine g_getr d_X8_town_49 fl_X8_22 sh_77 rfl ?_
    refine g_iconst (v := 4) d_X8_town_52 (by decide) ?_
    refine g_iaload d_X8_town_53 sh_82 (fun _ => ?_)
    exact g_iret d_X8_town_54 (Or.inl rfl) rfl
  · refine g_aload_n (n := 1) d_X8_town_14 rfl rfl ?_
    refine g_aload_n (n := 1) d_X8_town_15 rfl rfl ?_
    refine g_geti d_X8_town_16 fl_X8_99 sh_77 rfl ?_
    refine g_puti d_X8_town_19 fl_X8_129 sh_77 rfl ?_
    refine g_mem (fun σ8 => ?_)
    refine g_ldc d_X8_town_22 kc_X8_132 ?_
    refine g_aload_n (n := 1) d_X8_town_24 rfl rfl ?_
    refine g_geti d_X8_town_25 fl_X8_90 sh_77 rfl ?_
    refine g_isub d_X8_town_28 ?_
    exact g_iret d_X8_town_29 (Or.inl rfl) rfl
theorem e_X8_town {l : Launch} {D : Nat} {n : Nat} {σ : Mem} {y : (Int32 × Mem)} (hy : f_X8_town n σ = some y) : EvM l (D + 6) m_X8_town [.ref 77] σ ((fun y => (some (.int y.1), y.2)) y) :=
  evM_of (d := m_X8_town) (nL := 2) rfl (by decide +kernel) (fun h => absurd (congrArg MethodName.cls h) (by decide +kernel)) (Nat.le_of_ble_eq_true rfl) (t_X8_town y hy)

set_option maxHeartbeats 4000000 in
set_option maxRecDepth 100000 in
theorem t_X8_fault {l : Launch} {sc : Nat × (Nat → Int32)} {D : Nat} {σ : Mem} : G l sc (D + 0) m_X8_fault 0 [(0, .ref 77)] [] σ (f_X8_fault σ ) (fun y => (some (.int y), σ)) := by
  unfold f_X8_fault
  refine g_aload_n (n := 0) d_X8_fault_0 rfl rfl ?_
  refine g_geti d_X8_fault_1 fl_X8_129 sh_77 rfl ?_
  exact g_iret d_X8_fault_4 (Or.inl rfl) rfl
theorem e_X8_fault {l : Launch} {D : Nat} {σ : Mem} {y : Int32} (hy : f_X8_fault σ = some y) : EvM l (D + 0) m_X8_fault [.ref 77] σ ((fun y => (some (.int y), σ)) y) :=
  evM_of (d := m_X8_fault) (nL := 1) rfl (by decide +kernel) (fun h => absurd (congrArg MethodName.cls h) (by decide +kernel)) (Nat.le_of_ble_eq_true rfl) (t_X8_fault y hy)

set_option maxHeartbeats 4000000 in
set_option maxRecDepth 100000 in
theorem t_X8_note_b49 {l : Launch} {sc : Nat × (Nat → Int32)} {D : Nat} {n : Nat} {σ : Mem} : G l sc (D + 1) m_X8_note 49 [(0, .ref 77)] [] σ (f_X8_note_b49 n σ) (fun τ => (none, τ)) := by
  unfold f_X8_note_b49
  refine g_aload_n (n := 0) d_X8_note_49 rfl rfl ?_
  refine g_getr d_X8_note_50 fl_X8_22 sh_77 rfl ?_
  refine g_iconst (v := 0) d_X8_note_53 (by decide) ?_
  refine g_aload_n (n := 0) d_X8_note_54 rfl rfl ?_
  refine g_getr d_X8_note_55 fl_X8_38 sh_77 rfl ?_
  refine g_bipush (v := 33) d_X8_note_58 (by decide) ?_
  refine g_aload_n (n := 0) d_X8_note_60 rfl rfl ?_
  refine g_geti d_X8_note_61 fl_X8_137 sh_77 rfl ?_
  refine g_imul d_X8_note_64 ?_
  refine g_calls_vv (D := D + 0) (As := [.ref 82, .int 0, .ref 87, .int (33 * (σ 77 18))]) d_X8_note_65 ss_X8_133 rfl (Nat.le_of_ble_eq_true rfl) rfl (fun _ hy => EvM_cast (by omega) (e_X8_lay (D := D + 0) hy)) (fun σ2 => ?_)
  refine g_aload_n (n := 0) d_X8_note_68 rfl rfl ?_
  refine g_dup d_X8_note_69 rfl ?_
  refine g_geti d_X8_note_70 fl_X8_137 sh_77 rfl ?_
  refine g_iconst (v := 1) d_X8_note_73 (by decide) ?_
  refine g_iadd d_X8_note_74 ?_
  refine g_puti d_X8_note_75 fl_X8_137 sh_77 rfl ?_
  refine g_mem (fun σ3 => ?_)
  exact g_vret d_X8_note_78 rfl rfl
set_option maxHeartbeats 4000000 in
set_option maxRecDepth 100000 in
theorem t_X8_note_b11 {l : Launch} {sc : Nat × (Nat → Int32)} {D : Nat} {n : Nat} {k11 : Int32 → Mem → Option Mem} {x1 : Int32} {σ : Mem} (hk11 : ∀ x1 σ, G l sc (D + 1) m_X8_note 11 [(0, .ref 77), (1, .int x1)] [] σ (k11 x1 σ) (fun τ => (none, τ))) : G l sc (D + 1) m_X8_note 11 [(0, .ref 77), (1, .int x1)] [] σ (f_X8_note_b11 n k11 x1 σ) (fun τ => (none, τ)) := by
  unfold f_X8_note_b11
  refine g_iload_n (n := 1) d_X8_note_11 rfl rfl ?_
  refine g_sipush (v := 759) d_X8_note_12 (by decide) ?_
  refine g_icmp_ge (tgt := 39) d_X8_note_15 (by decide) (fun c1 => ?_) (fun c1 => ?_)
  · refine g_aload_n (n := 0) d_X8_note_39 rfl rfl ?_
    refine g_dup d_X8_note_40 rfl ?_
    refine g_geti d_X8_note_41 fl_X8_137 sh_77 rfl ?_
    refine g_iconst (v := 1) d_X8_note_44 (by decide) ?_
    refine g_isub d_X8_note_45 ?_
    refine g_puti d_X8_note_46 fl_X8_137 sh_77 rfl ?_
    refine g_mem (fun σ2 => ?_)
    refine g_sub [0] rfl ?_
    exact t_X8_note_b49 
  · refine g_aload_n (n := 0) d_X8_note_18 rfl rfl ?_
    refine g_getr d_X8_note_19 fl_X8_38 sh_77 rfl ?_
    refine g_iload_n (n := 1) d_X8_note_22 rfl rfl ?_
    refine g_aload_n (n := 0) d_X8_note_23 rfl rfl ?_
    refine g_getr d_X8_note_24 fl_X8_38 sh_77 rfl ?_
    refine g_iload_n (n := 1) d_X8_note_27 rfl rfl ?_
    refine g_bipush (v := 33) d_X8_note_28 (by decide) ?_
    refine g_iadd d_X8_note_30 ?_
    refine g_iaload d_X8_note_31 sh_87 (fun _ => ?_)
    refine g_iastore d_X8_note_32 sh_87 (fun _ => ?_)
    refine g_mem (fun σ3 => ?_)
    refine g_iinc (n := 1) (w := 1) d_X8_note_33 rfl (by decide) (by decide) rfl ?_
    refine g_goto (tgt := 11) d_X8_note_36 (by decide) ?_
    refine g_sub [1, 0] rfl ?_
    exact hk11 _ _
set_option maxHeartbeats 4000000 in
set_option maxRecDepth 100000 in
theorem t_X8_note_l11 {l : Launch} {sc : Nat × (Nat → Int32)} {D : Nat} {n : Nat} : ∀ (f : Nat) (x1 : Int32) (σ : Mem), G l sc (D + 1) m_X8_note 11 [(0, .ref 77), (1, .int x1)] [] σ (f_X8_note_l11 n f x1 σ) (fun τ => (none, τ)) := by
  intro f
  induction f with
  | zero => intro x1 σ; exact g_none
  | succ f ih => intro x1 σ; exact t_X8_note_b11 ih
set_option maxHeartbeats 4000000 in
set_option maxRecDepth 100000 in
theorem t_X8_note {l : Launch} {sc : Nat × (Nat → Int32)} {D : Nat} {n : Nat} {σ : Mem} : G l sc (D + 1) m_X8_note 0 [(0, .ref 77)] [] σ (f_X8_note n σ) (fun τ => (none, τ)) := by
  unfold f_X8_note
  refine g_aload_n (n := 0) d_X8_note_0 rfl rfl ?_
  refine g_geti d_X8_note_1 fl_X8_137 sh_77 rfl ?_
  refine g_bipush (v := 24) d_X8_note_4 (by decide) ?_
  refine g_icmp_ne (tgt := 49) d_X8_note_6 (by decide) (fun c1 => ?_) (fun c1 => ?_)
  · refine g_sub [0] rfl ?_
    exact t_X8_note_b49 
  · refine g_iconst (v := 0) d_X8_note_9 (by decide) ?_
    refine g_istore_n d_X8_note_10 rfl (by decide) rfl ?_
    refine g_sub [1, 0] rfl ?_
    exact t_X8_note_l11  _ _ _
theorem e_X8_note {l : Launch} {D : Nat} {n : Nat} {σ : Mem} {y : Mem} (hy : f_X8_note n σ = some y) : EvM l (D + 1) m_X8_note [.ref 77] σ ((fun τ => (none, τ)) y) :=
  evM_of (d := m_X8_note) (nL := 2) rfl (by decide +kernel) (fun h => absurd (congrArg MethodName.cls h) (by decide +kernel)) (Nat.le_of_ble_eq_true rfl) (t_X8_note y hy)

set_option maxHeartbeats 4000000 in
set_option maxRecDepth 100000 in
theorem t_X8_comesTo {l : Launch} {sc : Nat × (Nat → Int32)} {D : Nat} {σ : Mem} {x0 : Nat} {x1 : Int32} : G l sc (D + 0) m_X8_comesTo 0 [(0, .ref x0), (1, .int x1)] [] σ (f_X8_comesTo σ x0 x1) (fun y => (some (.int y), σ)) := by
  unfold f_X8_comesTo
  refine g_aload_n (n := 0) d_X8_comesTo_0 rfl rfl ?_
  refine g_iconst (v := 0) d_X8_comesTo_1 (by decide) ?_
  refine g_guard (fun h1 => ?_)
  refine g_iaload d_X8_comesTo_2 (shp_IA h1) (fun _ => ?_)
  refine g_aload_n (n := 0) d_X8_comesTo_3 rfl rfl ?_
  refine g_bipush (v := 15) d_X8_comesTo_4 (by decide) ?_
  refine g_iload_n (n := 1) d_X8_comesTo_6 rfl rfl ?_
  refine g_iadd d_X8_comesTo_7 ?_
  refine g_iaload d_X8_comesTo_8 (shp_IA h1) (fun _ => ?_)
  refine g_isub d_X8_comesTo_9 ?_
  refine g_nm (fun y2 => ?_)
  refine g_istore_n d_X8_comesTo_10 rfl (by decide) rfl ?_
  refine g_aload_n (n := 1) d_X8_comesTo_11 rfl rfl ?_
  refine g_iconst (v := 1) d_X8_comesTo_12 (by decide) ?_
  refine g_iaload d_X8_comesTo_13 (shp_IA h1) (fun _ => ?_)
  refine g_iload_n (n := 0) d_X8_comesTo_14 rfl rfl ?_
  refine g_if_ge (tgt := 23) d_X8_comesTo_15 (by decide) (fun c3 => ?_) (fun c3 => ?_)
  · refine g_iload_n (n := 0) d_X8_comesTo_23 rfl rfl ?_
    refine g_iadd d_X8_comesTo_24 ?_
    exact g_iret d_X8_comesTo_25 (Or.inl rfl) rfl
  · refine g_iload_n (n := 0) d_X8_comesTo_18 rfl rfl ?_
    refine g_ineg d_X8_comesTo_19 ?_
    refine g_goto (tgt := 24) d_X8_comesTo_20 (by decide) ?_
    refine g_iadd d_X8_comesTo_24 ?_
    exact g_iret d_X8_comesTo_25 (Or.inl rfl) rfl
theorem e_X8_comesTo {l : Launch} {D : Nat} {σ : Mem} {x0 : Nat} {x1 : Int32} {y : Int32} (hy : f_X8_comesTo σ x0 x1 = some y) : EvM l (D + 0) m_X8_comesTo [.ref x0, .int x1] σ ((fun y => (some (.int y), σ)) y) :=
  evM_of (d := m_X8_comesTo) (nL := 3) rfl (by decide +kernel) (fun h => absurd (congrArg MethodName.cls h) (by decide +kernel)) (Nat.le_of_ble_eq_true rfl) (t_X8_comesTo y hy)

set_option maxHeartbeats 4000000 in
set_option maxRecDepth 100000 in
theorem t_X8_canBe {l : Launch} {sc : Nat × (Nat → Int32)} {D : Nat} {σ : Mem} {x0 : Nat} {x1 : Int32} : G l sc (D + 1) m_X8_canBe 0 [(0, .ref x0), (1, .int x1)] [] σ (f_X8_canBe σ x0 x1) (fun y => (some (.int y), σ)) := by
  unfold f_X8_canBe
  refine g_iload_n (n := 1) d_X8_canBe_0 rfl rfl ?_
  refine g_iconst (v := 0) d_X8_canBe_1 (by decide) ?_
  refine g_aload_n (n := 0) d_X8_canBe_2 rfl rfl ?_
  refine g_iconst (v := 4) d_X8_canBe_3 (by decide) ?_
  refine g_guard (fun h1 => ?_)
  refine g_iaload d_X8_canBe_4 (shp_IA h1) (fun _ => ?_)
  refine g_iconst (v := 1) d_X8_canBe_5 (by decide) ?_
  refine g_isub d_X8_canBe_6 ?_
  refine g_calls_pi (D := D + 0) (As := [.int x1, .int 0, .int ((σ x0 (4 : Int32).toNatClampNeg) - 1)]) d_X8_canBe_7 ss_X8_59 rfl (Nat.le_of_ble_eq_true rfl) rfl (fun _ hy => EvM_cast (by omega) (e_X8_in (D := D + 0) hy)) (fun y2 => ?_)
  refine g_if_eq (tgt := 39) d_X8_canBe_10 (by decide) (fun c3 => ?_) (fun c3 => ?_)
  · refine g_iconst (v := 0) d_X8_canBe_39 (by decide) ?_
    exact g_iret d_X8_canBe_40 (Or.inr ⟨rfl, rfl⟩) rfl
  · refine g_aload_n (n := 0) d_X8_canBe_13 rfl rfl ?_
    refine g_iconst (v := 2) d_X8_canBe_14 (by decide) ?_
    refine g_iaload d_X8_canBe_15 (shp_IA h1) (fun _ => ?_)
    refine g_iload_n (n := 1) d_X8_canBe_16 rfl rfl ?_
    refine g_calls_pi (D := D + 0) (As := [.int (σ x0 (2 : Int32).toNatClampNeg), .int x1]) d_X8_canBe_17 ss_X8_140 rfl (Nat.le_of_ble_eq_true rfl) rfl (fun _ hy => EvM_cast (by omega) (e_X8_isIn (D := D + 0) hy)) (fun y4 => ?_)
    refine g_if_ne (tgt := 39) d_X8_canBe_20 (by decide) (fun c5 => ?_) (fun c5 => ?_)
    · refine g_iconst (v := 0) d_X8_canBe_39 (by decide) ?_
      exact g_iret d_X8_canBe_40 (Or.inr ⟨rfl, rfl⟩) rfl
    · refine g_aload_n (n := 0) d_X8_canBe_23 rfl rfl ?_
      refine g_iload_n (n := 1) d_X8_canBe_24 rfl rfl ?_
      refine g_calls_pi (D := D + 0) (As := [.ref x0, .int x1]) d_X8_canBe_25 ss_X8_143 rfl (Nat.le_of_ble_eq_true rfl) rfl (fun _ hy => EvM_cast (by omega) (e_X8_comesTo (D := D + 0) hy)) (fun y6 => ?_)
      refine g_aload_n (n := 0) d_X8_canBe_28 rfl rfl ?_
      refine g_bipush (v := 7) d_X8_canBe_29 (by decide) ?_
      refine g_iaload d_X8_canBe_31 (shp_IA h1) (fun _ => ?_)
      refine g_icmp_gt (tgt := 39) d_X8_canBe_32 (by decide) (fun c7 => ?_) (fun c7 => ?_)
      · refine g_iconst (v := 0) d_X8_canBe_39 (by decide) ?_
        exact g_iret d_X8_canBe_40 (Or.inr ⟨rfl, rfl⟩) rfl
      · refine g_iconst (v := 1) d_X8_canBe_35 (by decide) ?_
        refine g_goto (tgt := 40) d_X8_canBe_36 (by decide) ?_
        exact g_iret d_X8_canBe_40 (Or.inr ⟨rfl, rfl⟩) rfl
theorem e_X8_canBe {l : Launch} {D : Nat} {σ : Mem} {x0 : Nat} {x1 : Int32} {y : Int32} (hy : f_X8_canBe σ x0 x1 = some y) : EvM l (D + 1) m_X8_canBe [.ref x0, .int x1] σ ((fun y => (some (.int y), σ)) y) :=
  evM_of (d := m_X8_canBe) (nL := 2) rfl (by decide +kernel) (fun h => absurd (congrArg MethodName.cls h) (by decide +kernel)) (Nat.le_of_ble_eq_true rfl) (t_X8_canBe y hy)

set_option maxHeartbeats 4000000 in
set_option maxRecDepth 100000 in
theorem t_X8_bringsBy_b75 {l : Launch} {sc : Nat × (Nat → Int32)} {D : Nat} {n : Nat} {σ : Mem} {k38 : Nat → Int32 → Int32 → Int32 → Int32 → Int32 → Option Int32} {x0 : Nat} {x1 : Int32} {x2 : Int32} {x3 : Int32} {x5 : Int32} {s0 : Int32} {s1 : Int32} (hk38 : ∀ x0 x1 x2 x3 x4 x5, G l sc (D + 1) m_X8_bringsBy 38 [(0, .ref x0), (1, .int x1), (2, .int x2), (3, .int x3), (4, .int x4), (5, .int x5)] [] σ (k38 x0 x1 x2 x3 x4 x5) (fun y => (some (.int y), σ))) : G l sc (D + 1) m_X8_bringsBy 75 [(0, .ref x0), (1, .int x1), (2, .int x2), (3, .int x3), (5, .int x5)] [.int s0, .int s1] σ (f_X8_bringsBy_b75 n σ k38 x0 x1 x2 x3 x5 s0 s1) (fun y => (some (.int y), σ)) := by
  unfold f_X8_bringsBy_b75
  refine g_iadd d_X8_bringsBy_75 ?_
  refine g_nm (fun y1 => ?_)
  refine g_istore d_X8_bringsBy_76 (by decide) rfl ?_
  refine g_iinc (n := 5) (w := 1) d_X8_bringsBy_78 rfl (by decide) (by decide) rfl ?_
  refine g_goto (tgt := 38) d_X8_bringsBy_81 (by decide) ?_
  refine g_sub [2, 3, 4, 5, 1, 0] rfl ?_
  exact hk38 _ _ _ _ _ _
set_option maxHeartbeats 4000000 in
set_option maxRecDepth 100000 in
theorem t_X8_bringsBy_b74 {l : Launch} {sc : Nat × (Nat → Int32)} {D : Nat} {n : Nat} {σ : Mem} {k38 : Nat → Int32 → Int32 → Int32 → Int32 → Int32 → Option Int32} {x0 : Nat} {x1 : Int32} {x2 : Int32} {x3 : Int32} {x5 : Int32} {s0 : Int32} (hk38 : ∀ x0 x1 x2 x3 x4 x5, G l sc (D + 1) m_X8_bringsBy 38 [(0, .ref x0), (1, .int x1), (2, .int x2), (3, .int x3), (4, .int x4), (5, .int x5)] [] σ (k38 x0 x1 x2 x3 x4 x5) (fun y => (some (.int y), σ))) : G l sc (D + 1) m_X8_bringsBy 74 [(0, .ref x0), (1, .int x1), (2, .int x2), (3, .int x3), (5, .int x5)] [.int s0] σ (f_X8_bringsBy_b74 n σ k38 x0 x1 x2 x3 x5 s0) (fun y => (some (.int y), σ)) := by
  unfold f_X8_bringsBy_b74
  refine g_iconst (v := 0) d_X8_bringsBy_74 (by decide) ?_
  refine g_sub [0, 1, 2, 3, 4] rfl ?_
  exact t_X8_bringsBy_b75 hk38
set_option maxHeartbeats 4000000 in
set_option maxRecDepth 100000 in
theorem t_X8_bringsBy_b38 {l : Launch} {sc : Nat × (Nat → Int32)} {D : Nat} {n : Nat} {σ : Mem} {k38 : Nat → Int32 → Int32 → Int32 → Int32 → Int32 → Option Int32} {x0 : Nat} {x1 : Int32} {x2 : Int32} {x3 : Int32} {x4 : Int32} {x5 : Int32} (hk38 : ∀ x0 x1 x2 x3 x4 x5, G l sc (D + 1) m_X8_bringsBy 38 [(0, .ref x0), (1, .int x1), (2, .int x2), (3, .int x3), (4, .int x4), (5, .int x5)] [] σ (k38 x0 x1 x2 x3 x4 x5) (fun y => (some (.int y), σ))) : G l sc (D + 1) m_X8_bringsBy 38 [(0, .ref x0), (1, .int x1), (2, .int x2), (3, .int x3), (4, .int x4), (5, .int x5)] [] σ (f_X8_bringsBy_b38 n σ k38 x0 x1 x2 x3 x4 x5) (fun y => (some (.int y), σ)) := by
  unfold f_X8_bringsBy_b38
  refine g_iload (n := 5) d_X8_bringsBy_38 rfl ?_
  refine g_aload_n (n := 0) d_X8_bringsBy_40 rfl rfl ?_
  refine g_iconst (v := 4) d_X8_bringsBy_41 (by decide) ?_
  refine g_guard (fun h1 => ?_)
  refine g_iaload d_X8_bringsBy_42 (shp_IA h1) (fun _ => ?_)
  refine g_icmp_ge (tgt := 84) d_X8_bringsBy_43 (by decide) (fun c2 => ?_) (fun c2 => ?_)
  · refine g_aload_n (n := 0) d_X8_bringsBy_84 rfl rfl ?_
    refine g_bipush (v := 9) d_X8_bringsBy_85 (by decide) ?_
    refine g_iload_n (n := 1) d_X8_bringsBy_87 rfl rfl ?_
    refine g_iadd d_X8_bringsBy_88 ?_
    refine g_iaload d_X8_bringsBy_89 (shp_IA h1) (fun _ => ?_)
    refine g_nm (fun y3 => ?_)
    refine g_if (fun c4 => ?_) (fun c4 => ?_)
    · refine g_tabIn (tgt := 116) d_X8_bringsBy_90 (by rw [c4]; decide) (by rw [c4]; decide) (by rw [c4]; rfl) (by decide) ?_
      refine g_iload_n (n := 3) d_X8_bringsBy_116 rfl rfl ?_
      exact g_iret d_X8_bringsBy_117 (Or.inl rfl) rfl
    refine g_if (fun c5 => ?_) (fun c5 => ?_)
    · refine g_tabIn (tgt := 118) d_X8_bringsBy_90 (by rw [c5]; decide) (by rw [c5]; decide) (by rw [c5]; rfl) (by decide) ?_
      refine g_aload_n (n := 0) d_X8_bringsBy_118 rfl rfl ?_
      refine g_iconst (v := 2) d_X8_bringsBy_119 (by decide) ?_
      refine g_iaload d_X8_bringsBy_120 (shp_IA h1) (fun _ => ?_)
      refine g_if_ne (tgt := 128) d_X8_bringsBy_121 (by decide) (fun c6 => ?_) (fun c6 => ?_)
      · refine g_iconst (v := 0) d_X8_bringsBy_128 (by decide) ?_
        exact g_iret d_X8_bringsBy_129 (Or.inl rfl) rfl
      · refine g_iload_n (n := 3) d_X8_bringsBy_124 rfl rfl ?_
        refine g_goto (tgt := 129) d_X8_bringsBy_125 (by decide) ?_
        exact g_iret d_X8_bringsBy_129 (Or.inl rfl) rfl
    refine g_if (fun c7 => ?_) (fun c7 => ?_)
    · refine g_tabIn (tgt := 130) d_X8_bringsBy_90 (by rw [c7]; decide) (by rw [c7]; decide) (by rw [c7]; rfl) (by decide) ?_
      refine g_iload_n (n := 3) d_X8_bringsBy_130 rfl rfl ?_
      refine g_iload (n := 4) d_X8_bringsBy_131 rfl ?_
      refine g_iadd d_X8_bringsBy_133 ?_
      exact g_iret d_X8_bringsBy_134 (Or.inl rfl) rfl
    refine g_tabOut (tgt := 135) d_X8_bringsBy_90 (by have := lv_neT (a := 1) c4 rfl; have := lv_neT (a := 2) c5 rfl; have := lv_neT (a := 3) c7 rfl; omega) (by decide) ?_
    refine g_iload_n (n := 2) d_X8_bringsBy_135 rfl rfl ?_
    exact g_iret d_X8_bringsBy_136 (Or.inl rfl) rfl
  · refine g_iload (n := 4) d_X8_bringsBy_46 rfl ?_
    refine g_iload (n := 5) d_X8_bringsBy_48 rfl ?_
    refine g_iload_n (n := 1) d_X8_bringsBy_50 rfl rfl ?_
    refine g_icmp_eq (tgt := 74) d_X8_bringsBy_51 (by decide) (fun c8 => ?_) (fun c8 => ?_)
    · refine g_sub [0, 1, 2, 3, 5] rfl ?_
      exact t_X8_bringsBy_b74 hk38
    · refine g_aload_n (n := 0) d_X8_bringsBy_54 rfl rfl ?_
      refine g_bipush (v := 15) d_X8_bringsBy_55 (by decide) ?_
      refine g_iload (n := 5) d_X8_bringsBy_57 rfl ?_
      refine g_iadd d_X8_bringsBy_59 ?_
      refine g_iaload d_X8_bringsBy_60 (shp_IA h1) (fun _ => ?_)
      refine g_aload_n (n := 0) d_X8_bringsBy_61 rfl rfl ?_
      refine g_bipush (v := 15) d_X8_bringsBy_62 (by decide) ?_
      refine g_iload_n (n := 1) d_X8_bringsBy_64 rfl rfl ?_
      refine g_iadd d_X8_bringsBy_65 ?_
      refine g_iaload d_X8_bringsBy_66 (shp_IA h1) (fun _ => ?_)
      refine g_icmp_ne (tgt := 74) d_X8_bringsBy_67 (by decide) (fun c9 => ?_) (fun c9 => ?_)
      · refine g_sub [0, 1, 2, 3, 5] rfl ?_
        exact t_X8_bringsBy_b74 hk38
      · refine g_iconst (v := 1) d_X8_bringsBy_70 (by decide) ?_
        refine g_goto (tgt := 75) d_X8_bringsBy_71 (by decide) ?_
        refine g_sub [0, 1, 2, 3, 5] rfl ?_
        exact t_X8_bringsBy_b75 hk38
set_option maxHeartbeats 4000000 in
set_option maxRecDepth 100000 in
theorem t_X8_bringsBy_l38 {l : Launch} {sc : Nat × (Nat → Int32)} {D : Nat} {n : Nat} {σ : Mem} : ∀ (f : Nat) (x0 : Nat) (x1 : Int32) (x2 : Int32) (x3 : Int32) (x4 : Int32) (x5 : Int32), G l sc (D + 1) m_X8_bringsBy 38 [(0, .ref x0), (1, .int x1), (2, .int x2), (3, .int x3), (4, .int x4), (5, .int x5)] [] σ (f_X8_bringsBy_l38 n σ f x0 x1 x2 x3 x4 x5) (fun y => (some (.int y), σ)) := by
  intro f
  induction f with
  | zero => intro x0 x1 x2 x3 x4 x5; exact g_none
  | succ f ih => intro x0 x1 x2 x3 x4 x5; exact t_X8_bringsBy_b38 ih
set_option maxHeartbeats 4000000 in
set_option maxRecDepth 100000 in
theorem t_X8_bringsBy_b31 {l : Launch} {sc : Nat × (Nat → Int32)} {D : Nat} {n : Nat} {σ : Mem} {x0 : Nat} {x1 : Int32} {x2 : Int32} {s0 : Int32} : G l sc (D + 1) m_X8_bringsBy 31 [(0, .ref x0), (1, .int x1), (2, .int x2)] [.int s0] σ (f_X8_bringsBy_b31 n σ x0 x1 x2 s0) (fun y => (some (.int y), σ)) := by
  unfold f_X8_bringsBy_b31
  refine g_istore_n d_X8_bringsBy_31 rfl (by decide) rfl ?_
  refine g_iconst (v := 0) d_X8_bringsBy_32 (by decide) ?_
  refine g_istore d_X8_bringsBy_33 (by decide) rfl ?_
  refine g_iconst (v := 0) d_X8_bringsBy_35 (by decide) ?_
  refine g_istore d_X8_bringsBy_36 (by decide) rfl ?_
  refine g_sub [3, 4, 5, 2, 1, 0] rfl ?_
  exact t_X8_bringsBy_l38  _ _ _ _ _ _ _
set_option maxHeartbeats 4000000 in
set_option maxRecDepth 100000 in
theorem t_X8_bringsBy {l : Launch} {sc : Nat × (Nat → Int32)} {D : Nat} {n : Nat} {σ : Mem} {x0 : Nat} {x1 : Int32} : G l sc (D + 1) m_X8_bringsBy 0 [(0, .ref x0), (1, .int x1)] [] σ (f_X8_bringsBy n σ x0 x1) (fun y => (some (.int y), σ)) := by
  unfold f_X8_bringsBy
  refine g_aload_n (n := 0) d_X8_bringsBy_0 rfl rfl ?_
  refine g_bipush (v := 21) d_X8_bringsBy_1 (by decide) ?_
  refine g_iload_n (n := 1) d_X8_bringsBy_3 rfl rfl ?_
  refine g_iadd d_X8_bringsBy_4 ?_
  refine g_guard (fun h1 => ?_)
  refine g_iaload d_X8_bringsBy_5 (shp_IA h1) (fun _ => ?_)
  refine g_nm (fun y2 => ?_)
  refine g_istore_n d_X8_bringsBy_6 rfl (by decide) rfl ?_
  refine g_iload_n (n := 0) d_X8_bringsBy_7 rfl rfl ?_
  refine g_aload_n (n := 1) d_X8_bringsBy_8 rfl rfl ?_
  refine g_iload_n (n := 2) d_X8_bringsBy_9 rfl rfl ?_
  refine g_calls_pi (D := D + 0) (As := [.ref x0, .int x1]) d_X8_bringsBy_10 ss_X8_143 rfl (Nat.le_of_ble_eq_true rfl) rfl (fun _ hy => EvM_cast (by omega) (e_X8_comesTo (D := D + 0) hy)) (fun y3 => ?_)
  refine g_aload_n (n := 1) d_X8_bringsBy_13 rfl rfl ?_
  refine g_bipush (v := 27) d_X8_bringsBy_14 (by decide) ?_
  refine g_iload_n (n := 2) d_X8_bringsBy_16 rfl rfl ?_
  refine g_iadd d_X8_bringsBy_17 ?_
  refine g_iaload d_X8_bringsBy_18 (shp_IA h1) (fun _ => ?_)
  refine g_imul d_X8_bringsBy_19 ?_
  refine g_isub d_X8_bringsBy_20 ?_
  refine g_nm (fun y4 => ?_)
  refine g_istore_n d_X8_bringsBy_21 rfl (by decide) rfl ?_
  refine g_iload_n (n := 0) d_X8_bringsBy_22 rfl rfl ?_
  refine g_if_ge (tgt := 30) d_X8_bringsBy_23 (by decide) (fun c5 => ?_) (fun c5 => ?_)
  · refine g_iload_n (n := 0) d_X8_bringsBy_30 rfl rfl ?_
    refine g_sub [2, 3, 1] rfl ?_
    exact t_X8_bringsBy_b31 
  · refine g_iconst (v := 0) d_X8_bringsBy_26 (by decide) ?_
    refine g_goto (tgt := 31) d_X8_bringsBy_27 (by decide) ?_
    refine g_sub [2, 3, 1] rfl ?_
    exact t_X8_bringsBy_b31 
theorem e_X8_bringsBy {l : Launch} {D : Nat} {n : Nat} {σ : Mem} {x0 : Nat} {x1 : Int32} {y : Int32} (hy : f_X8_bringsBy n σ x0 x1 = some y) : EvM l (D + 1) m_X8_bringsBy [.ref x0, .int x1] σ ((fun y => (some (.int y), σ)) y) :=
  evM_of (d := m_X8_bringsBy) (nL := 6) rfl (by decide +kernel) (fun h => absurd (congrArg MethodName.cls h) (by decide +kernel)) (Nat.le_of_ble_eq_true rfl) (t_X8_bringsBy y hy)

set_option maxHeartbeats 4000000 in
set_option maxRecDepth 100000 in
theorem t_X8_gives_b28 {l : Launch} {sc : Nat × (Nat → Int32)} {D : Nat} {n : Nat} {x0 : Nat} {x1 : Int32} {x2 : Int32} {s0 : Int32} {s1 : Int32} {s2 : Int32} {s3 : Nat} {σ : Mem} : G l sc (D + 2) m_X8_gives 28 [(0, .ref x0), (1, .int x1), (2, .int x2)] [.int s0, .int s1, .int s2, .ref s3] σ (f_X8_gives_b28 n x0 x1 x2 s0 s1 s2 s3 σ) (fun y => (some (.int y.1), y.2)) := by
  unfold f_X8_gives_b28
  refine g_iadd d_X8_gives_28 ?_
  refine g_guard (fun h1 => ?_)
  refine g_iastore d_X8_gives_29 (shp_IA h1) (fun _ => ?_)
  refine g_mem (fun σ2 => ?_)
  refine g_aload_n (n := 0) d_X8_gives_30 rfl rfl ?_
  refine g_iconst (v := 3) d_X8_gives_31 (by decide) ?_
  refine g_dup2 d_X8_gives_32 rfl rfl ?_
  refine g_guard (fun h3 => ?_)
  refine g_iaload d_X8_gives_33 (shp_IA h3) (fun _ => ?_)
  refine g_iload_n (n := 2) d_X8_gives_34 rfl rfl ?_
  refine g_iadd d_X8_gives_35 ?_
  refine g_iastore d_X8_gives_36 (shp_IA h3) (fun _ => ?_)
  refine g_mem (fun σ4 => ?_)
  refine g_aload_n (n := 0) d_X8_gives_37 rfl rfl ?_
  refine g_iconst (v := 2) d_X8_gives_38 (by decide) ?_
  refine g_aload_n (n := 0) d_X8_gives_39 rfl rfl ?_
  refine g_iconst (v := 2) d_X8_gives_40 (by decide) ?_
  refine g_iaload d_X8_gives_41 (shp_IA h3) (fun _ => ?_)
  refine g_iconst (v := 1) d_X8_gives_42 (by decide) ?_
  refine g_iload_n (n := 1) d_X8_gives_43 rfl rfl ?_
  refine g_ishl d_X8_gives_44 ?_
  refine g_ior d_X8_gives_45 ?_
  refine g_iastore d_X8_gives_46 (shp_IA h3) (fun _ => ?_)
  refine g_mem (fun σ5 => ?_)
  refine g_aload_n (n := 0) d_X8_gives_47 rfl rfl ?_
  refine g_iconst (v := 0) d_X8_gives_48 (by decide) ?_
  refine g_aload_n (n := 0) d_X8_gives_49 rfl rfl ?_
  refine g_bipush (v := 15) d_X8_gives_50 (by decide) ?_
  refine g_iload_n (n := 1) d_X8_gives_52 rfl rfl ?_
  refine g_iadd d_X8_gives_53 ?_
  refine g_iaload d_X8_gives_54 (shp_IA h3) (fun _ => ?_)
  refine g_iastore d_X8_gives_55 (shp_IA h3) (fun _ => ?_)
  refine g_mem (fun σ6 => ?_)
  refine g_iload_n (n := 2) d_X8_gives_56 rfl rfl ?_
  exact g_iret d_X8_gives_57 (Or.inl rfl) rfl
set_option maxHeartbeats 4000000 in
set_option maxRecDepth 100000 in
theorem t_X8_gives {l : Launch} {sc : Nat × (Nat → Int32)} {D : Nat} {n : Nat} {x0 : Nat} {x1 : Int32} {σ : Mem} : G l sc (D + 2) m_X8_gives 0 [(0, .ref x0), (1, .int x1)] [] σ (f_X8_gives n x0 x1 σ) (fun y => (some (.int y.1), y.2)) := by
  unfold f_X8_gives
  refine g_aload_n (n := 0) d_X8_gives_0 rfl rfl ?_
  refine g_iload_n (n := 1) d_X8_gives_1 rfl rfl ?_
  refine g_calls_pi (D := D + 1) (As := [.ref x0, .int x1]) d_X8_gives_2 ss_X8_147 rfl (Nat.le_of_ble_eq_true rfl) rfl (fun _ hy => EvM_cast (by omega) (e_X8_bringsBy (D := D + 0) hy)) (fun y1 => ?_)
  refine g_istore_n d_X8_gives_5 rfl (by decide) rfl ?_
  refine g_aload_n (n := 1) d_X8_gives_6 rfl rfl ?_
  refine g_iconst (v := 1) d_X8_gives_7 (by decide) ?_
  refine g_aload_n (n := 1) d_X8_gives_8 rfl rfl ?_
  refine g_iload_n (n := 2) d_X8_gives_9 rfl rfl ?_
  refine g_calls_pi (D := D + 1) (As := [.ref x0, .int x1]) d_X8_gives_10 ss_X8_143 rfl (Nat.le_of_ble_eq_true rfl) rfl (fun _ hy => EvM_cast (by omega) (e_X8_comesTo (D := D + 1) hy)) (fun y2 => ?_)
  refine g_aload_n (n := 1) d_X8_gives_13 rfl rfl ?_
  refine g_bipush (v := 9) d_X8_gives_14 (by decide) ?_
  refine g_iload_n (n := 2) d_X8_gives_16 rfl rfl ?_
  refine g_iadd d_X8_gives_17 ?_
  refine g_guard (fun h3 => ?_)
  refine g_iaload d_X8_gives_18 (shp_IA h3) (fun _ => ?_)
  refine g_iconst (v := 5) d_X8_gives_19 (by decide) ?_
  refine g_icmp_ne (tgt := 27) d_X8_gives_20 (by decide) (fun c4 => ?_) (fun c4 => ?_)
  · refine g_iconst (v := 1) d_X8_gives_27 (by decide) ?_
    refine g_sub [1, 2, 0] rfl ?_
    exact t_X8_gives_b28 
  · refine g_iconst (v := 2) d_X8_gives_23 (by decide) ?_
    refine g_goto (tgt := 28) d_X8_gives_24 (by decide) ?_
    refine g_sub [1, 2, 0] rfl ?_
    exact t_X8_gives_b28 
theorem e_X8_gives {l : Launch} {D : Nat} {n : Nat} {x0 : Nat} {x1 : Int32} {σ : Mem} {y : (Int32 × Mem)} (hy : f_X8_gives n x0 x1 σ = some y) : EvM l (D + 2) m_X8_gives [.ref x0, .int x1] σ ((fun y => (some (.int y.1), y.2)) y) :=
  evM_of (d := m_X8_gives) (nL := 3) rfl (by decide +kernel) (fun h => absurd (congrArg MethodName.cls h) (by decide +kernel)) (Nat.le_of_ble_eq_true rfl) (t_X8_gives y hy)

set_option maxHeartbeats 4000000 in
set_option maxRecDepth 100000 in
theorem t_X8_give {l : Launch} {sc : Nat × (Nat → Int32)} {D : Nat} {n : Nat} {x1 : Int32} {σ : Mem} : G l sc (D + 3) m_X8_give 0 [(0, .ref 77), (1, .int x1)] [] σ (f_X8_give n x1 σ) (fun y => (some (.int y.1), y.2)) := by
  unfold f_X8_give
  refine g_aload_n (n := 0) d_X8_give_0 rfl rfl ?_
  refine g_iload_n (n := 1) d_X8_give_1 rfl rfl ?_
  refine g_callv_pi (D := D + 2) (As := [.int x1]) d_X8_give_2 sv_X8_150 ob_77 rfl (Nat.le_of_ble_eq_true rfl) rfl (fun _ hy => EvM_cast (by omega) (e_X8_isOne (D := D + 1) hy)) (fun y1 => ?_)
  refine g_if_ne (tgt := 11) d_X8_give_5 (by decide) (fun c2 => ?_) (fun c2 => ?_)
  · refine g_aload_n (n := 0) d_X8_give_11 rfl rfl ?_
    refine g_getr d_X8_give_12 fl_X8_22 sh_77 rfl ?_
    refine g_iload_n (n := 1) d_X8_give_15 rfl rfl ?_
    refine g_calls_pi (D := D + 2) (As := [.ref 82, .int x1]) d_X8_give_16 ss_X8_153 rfl (Nat.le_of_ble_eq_true rfl) rfl (fun _ hy => EvM_cast (by omega) (e_X8_canBe (D := D + 1) hy)) (fun y3 => ?_)
    refine g_if_ne (tgt := 25) d_X8_give_19 (by decide) (fun c4 => ?_) (fun c4 => ?_)
    · refine g_aload_n (n := 0) d_X8_give_25 rfl rfl ?_
      refine g_callv_vv (D := D + 2) (As := []) d_X8_give_26 sv_X8_158 ob_77 rfl (Nat.le_of_ble_eq_true rfl) rfl (fun _ hy => EvM_cast (by omega) (e_X8_note (D := D + 1) hy)) (fun σ6 => ?_)
      refine g_aload_n (n := 0) d_X8_give_29 rfl rfl ?_
      refine g_getr d_X8_give_30 fl_X8_22 sh_77 rfl ?_
      refine g_iload_n (n := 1) d_X8_give_33 rfl rfl ?_
      refine g_calls_ii (D := D + 2) (As := [.ref 82, .int x1]) d_X8_give_34 ss_X8_161 rfl (Nat.le_of_ble_eq_true rfl) rfl (fun _ hy => EvM_cast (by omega) (e_X8_gives (D := D + 0) hy)) (fun y7 σ8 => ?_)
      exact g_iret d_X8_give_37 (Or.inl rfl) rfl
    · refine g_ldc d_X8_give_22 kc_X8_157 ?_
      exact g_iret d_X8_give_24 (Or.inl rfl) rfl
  · refine g_ldc d_X8_give_8 kc_X8_72 ?_
    exact g_iret d_X8_give_10 (Or.inl rfl) rfl
theorem e_X8_give {l : Launch} {D : Nat} {n : Nat} {x1 : Int32} {σ : Mem} {y : (Int32 × Mem)} (hy : f_X8_give n x1 σ = some y) : EvM l (D + 3) m_X8_give [.ref 77, .int x1] σ ((fun y => (some (.int y.1), y.2)) y) :=
  evM_of (d := m_X8_give) (nL := 2) rfl (by decide +kernel) (fun h => absurd (congrArg MethodName.cls h) (by decide +kernel)) (Nat.le_of_ble_eq_true rfl) (t_X8_give y hy)

set_option maxHeartbeats 4000000 in
set_option maxRecDepth 100000 in
theorem t_X8_pause {l : Launch} {sc : Nat × (Nat → Int32)} {D : Nat} {n : Nat} {x1 : Int32} {σ : Mem} : G l sc (D + 2) m_X8_pause 0 [(0, .ref 77), (1, .int x1)] [] σ (f_X8_pause n x1 σ) (fun y => (some (.int y.1), y.2)) := by
  unfold f_X8_pause
  refine g_aload_n (n := 0) d_X8_pause_0 rfl rfl ?_
  refine g_callv_pi (D := D + 1) (As := []) d_X8_pause_1 sv_X8_164 ob_77 rfl (Nat.le_of_ble_eq_true rfl) rfl (fun _ hy => EvM_cast (by omega) (e_X8_isTown (D := D + 1) hy)) (fun y1 => ?_)
  refine g_if_ne (tgt := 10) d_X8_pause_4 (by decide) (fun c2 => ?_) (fun c2 => ?_)
  · refine g_iload_n (n := 1) d_X8_pause_10 rfl rfl ?_
    refine g_iconst (v := 1) d_X8_pause_11 (by decide) ?_
    refine g_bipush (v := 24) d_X8_pause_12 (by decide) ?_
    refine g_calls_pi (D := D + 1) (As := [.int x1, .int 1, .int 24]) d_X8_pause_14 ss_X8_59 rfl (Nat.le_of_ble_eq_true rfl) rfl (fun _ hy => EvM_cast (by omega) (e_X8_in (D := D + 1) hy)) (fun y3 => ?_)
    refine g_if_ne (tgt := 23) d_X8_pause_17 (by decide) (fun c4 => ?_) (fun c4 => ?_)
    · refine g_aload_n (n := 0) d_X8_pause_23 rfl rfl ?_
      refine g_getr d_X8_pause_24 fl_X8_22 sh_77 rfl ?_
      refine g_iconst (v := 1) d_X8_pause_27 (by decide) ?_
      refine g_iaload d_X8_pause_28 sh_82 (fun _ => ?_)
      refine g_iload_n (n := 1) d_X8_pause_29 rfl rfl ?_
      refine g_iadd d_X8_pause_30 ?_
      refine g_sipush (v := 999) d_X8_pause_31 (by decide) ?_
      refine g_icmp_le (tgt := 40) d_X8_pause_34 (by decide) (fun c5 => ?_) (fun c5 => ?_)
      · refine g_aload_n (n := 0) d_X8_pause_40 rfl rfl ?_
        refine g_callv_vv (D := D + 1) (As := []) d_X8_pause_41 sv_X8_158 ob_77 rfl (Nat.le_of_ble_eq_true rfl) rfl (fun _ hy => EvM_cast (by omega) (e_X8_note (D := D + 0) hy)) (fun σ7 => ?_)
        refine g_aload_n (n := 0) d_X8_pause_44 rfl rfl ?_
        refine g_getr d_X8_pause_45 fl_X8_22 sh_77 rfl ?_
        refine g_iconst (v := 1) d_X8_pause_48 (by decide) ?_
        refine g_dup2 d_X8_pause_49 rfl rfl ?_
        refine g_iaload d_X8_pause_50 sh_82 (fun _ => ?_)
        refine g_iload_n (n := 1) d_X8_pause_51 rfl rfl ?_
        refine g_iadd d_X8_pause_52 ?_
        refine g_iastore d_X8_pause_53 sh_82 (fun _ => ?_)
        refine g_mem (fun σ8 => ?_)
        refine g_aload_n (n := 0) d_X8_pause_54 rfl rfl ?_
        refine g_getr d_X8_pause_55 fl_X8_22 sh_77 rfl ?_
        refine g_iconst (v := 1) d_X8_pause_58 (by decide) ?_
        refine g_iaload d_X8_pause_59 sh_82 (fun _ => ?_)
        exact g_iret d_X8_pause_60 (Or.inl rfl) rfl
      · refine g_ldc d_X8_pause_37 kc_X8_86 ?_
        exact g_iret d_X8_pause_39 (Or.inl rfl) rfl
    · refine g_ldc d_X8_pause_20 kc_X8_72 ?_
      exact g_iret d_X8_pause_22 (Or.inl rfl) rfl
  · refine g_ldc d_X8_pause_7 kc_X8_157 ?_
    exact g_iret d_X8_pause_9 (Or.inl rfl) rfl
theorem e_X8_pause {l : Launch} {D : Nat} {n : Nat} {x1 : Int32} {σ : Mem} {y : (Int32 × Mem)} (hy : f_X8_pause n x1 σ = some y) : EvM l (D + 2) m_X8_pause [.ref 77, .int x1] σ ((fun y => (some (.int y.1), y.2)) y) :=
  evM_of (d := m_X8_pause) (nL := 2) rfl (by decide +kernel) (fun h => absurd (congrArg MethodName.cls h) (by decide +kernel)) (Nat.le_of_ble_eq_true rfl) (t_X8_pause y hy)

set_option maxHeartbeats 4000000 in
set_option maxRecDepth 100000 in
theorem t_X8_value {l : Launch} {sc : Nat × (Nat → Int32)} {D : Nat} {n : Nat} {x1 : Int32} {x2 : Int32} {σ : Mem} : G l sc (D + 2) m_X8_value 0 [(0, .ref 77), (1, .int x1), (2, .int x2)] [] σ (f_X8_value n x1 x2 σ) (fun y => (some (.int y.1), y.2)) := by
  unfold f_X8_value
  refine g_aload_n (n := 0) d_X8_value_0 rfl rfl ?_
  refine g_iload_n (n := 1) d_X8_value_1 rfl rfl ?_
  refine g_callv_pi (D := D + 1) (As := [.int x1]) d_X8_value_2 sv_X8_150 ob_77 rfl (Nat.le_of_ble_eq_true rfl) rfl (fun _ hy => EvM_cast (by omega) (e_X8_isOne (D := D + 0) hy)) (fun y1 => ?_)
  refine g_if_eq (tgt := 18) d_X8_value_5 (by decide) (fun c2 => ?_) (fun c2 => ?_)
  · refine g_ldc d_X8_value_18 kc_X8_72 ?_
    exact g_iret d_X8_value_20 (Or.inl rfl) rfl
  · refine g_iload_n (n := 2) d_X8_value_8 rfl rfl ?_
    refine g_iconst (v := 0) d_X8_value_9 (by decide) ?_
    refine g_bipush (v := 30) d_X8_value_10 (by decide) ?_
    refine g_calls_pi (D := D + 1) (As := [.int x2, .int 0, .int 30]) d_X8_value_12 ss_X8_59 rfl (Nat.le_of_ble_eq_true rfl) rfl (fun _ hy => EvM_cast (by omega) (e_X8_in (D := D + 1) hy)) (fun y3 => ?_)
    refine g_if_ne (tgt := 21) d_X8_value_15 (by decide) (fun c4 => ?_) (fun c4 => ?_)
    · refine g_aload_n (n := 0) d_X8_value_21 rfl rfl ?_
      refine g_callv_vv (D := D + 1) (As := []) d_X8_value_22 sv_X8_158 ob_77 rfl (Nat.le_of_ble_eq_true rfl) rfl (fun _ hy => EvM_cast (by omega) (e_X8_note (D := D + 0) hy)) (fun σ6 => ?_)
      refine g_aload_n (n := 0) d_X8_value_25 rfl rfl ?_
      refine g_getr d_X8_value_26 fl_X8_22 sh_77 rfl ?_
      refine g_bipush (v := 21) d_X8_value_29 (by decide) ?_
      refine g_iload_n (n := 1) d_X8_value_31 rfl rfl ?_
      refine g_iadd d_X8_value_32 ?_
      refine g_iaload d_X8_value_33 sh_82 (fun _ => ?_)
      refine g_nm (fun y7 => ?_)
      refine g_istore_n d_X8_value_34 rfl (by decide) rfl ?_
      refine g_aload_n (n := 1) d_X8_value_35 rfl rfl ?_
      refine g_getr d_X8_value_36 fl_X8_22 sh_77 rfl ?_
      refine g_bipush (v := 21) d_X8_value_39 (by decide) ?_
      refine g_iload_n (n := 2) d_X8_value_41 rfl rfl ?_
      refine g_iadd d_X8_value_42 ?_
      refine g_iload_n (n := 3) d_X8_value_43 rfl rfl ?_
      refine g_iastore d_X8_value_44 sh_82 (fun _ => ?_)
      refine g_mem (fun σ8 => ?_)
      refine g_iload_n (n := 0) d_X8_value_45 rfl rfl ?_
      exact g_iret d_X8_value_46 (Or.inl rfl) rfl
    · refine g_ldc d_X8_value_18 kc_X8_72 ?_
      exact g_iret d_X8_value_20 (Or.inl rfl) rfl
theorem e_X8_value {l : Launch} {D : Nat} {n : Nat} {x1 : Int32} {x2 : Int32} {σ : Mem} {y : (Int32 × Mem)} (hy : f_X8_value n x1 x2 σ = some y) : EvM l (D + 2) m_X8_value [.ref 77, .int x1, .int x2] σ ((fun y => (some (.int y.1), y.2)) y) :=
  evM_of (d := m_X8_value) (nL := 4) rfl (by decide +kernel) (fun h => absurd (congrArg MethodName.cls h) (by decide +kernel)) (Nat.le_of_ble_eq_true rfl) (t_X8_value y hy)

set_option maxHeartbeats 4000000 in
set_option maxRecDepth 100000 in
theorem t_X8_move {l : Launch} {sc : Nat × (Nat → Int32)} {D : Nat} {n : Nat} {x1 : Int32} {x2 : Int32} {σ : Mem} : G l sc (D + 2) m_X8_move 0 [(0, .ref 77), (1, .int x1), (2, .int x2)] [] σ (f_X8_move n x1 x2 σ) (fun y => (some (.int y.1), y.2)) := by
  unfold f_X8_move
  refine g_aload_n (n := 0) d_X8_move_0 rfl rfl ?_
  refine g_iload_n (n := 1) d_X8_move_1 rfl rfl ?_
  refine g_callv_pi (D := D + 1) (As := [.int x1]) d_X8_move_2 sv_X8_150 ob_77 rfl (Nat.le_of_ble_eq_true rfl) rfl (fun _ hy => EvM_cast (by omega) (e_X8_isOne (D := D + 0) hy)) (fun y1 => ?_)
  refine g_if_eq (tgt := 18) d_X8_move_5 (by decide) (fun c2 => ?_) (fun c2 => ?_)
  · refine g_ldc d_X8_move_18 kc_X8_72 ?_
    exact g_iret d_X8_move_20 (Or.inl rfl) rfl
  · refine g_iload_n (n := 2) d_X8_move_8 rfl rfl ?_
    refine g_iconst (v := 0) d_X8_move_9 (by decide) ?_
    refine g_bipush (v := 9) d_X8_move_10 (by decide) ?_
    refine g_calls_pi (D := D + 1) (As := [.int x2, .int 0, .int 9]) d_X8_move_12 ss_X8_59 rfl (Nat.le_of_ble_eq_true rfl) rfl (fun _ hy => EvM_cast (by omega) (e_X8_in (D := D + 1) hy)) (fun y3 => ?_)
    refine g_if_ne (tgt := 21) d_X8_move_15 (by decide) (fun c4 => ?_) (fun c4 => ?_)
    · refine g_aload_n (n := 0) d_X8_move_21 rfl rfl ?_
      refine g_callv_vv (D := D + 1) (As := []) d_X8_move_22 sv_X8_158 ob_77 rfl (Nat.le_of_ble_eq_true rfl) rfl (fun _ hy => EvM_cast (by omega) (e_X8_note (D := D + 0) hy)) (fun σ6 => ?_)
      refine g_aload_n (n := 0) d_X8_move_25 rfl rfl ?_
      refine g_getr d_X8_move_26 fl_X8_22 sh_77 rfl ?_
      refine g_bipush (v := 15) d_X8_move_29 (by decide) ?_
      refine g_iload_n (n := 1) d_X8_move_31 rfl rfl ?_
      refine g_iadd d_X8_move_32 ?_
      refine g_iaload d_X8_move_33 sh_82 (fun _ => ?_)
      refine g_nm (fun y7 => ?_)
      refine g_istore_n d_X8_move_34 rfl (by decide) rfl ?_
      refine g_aload_n (n := 1) d_X8_move_35 rfl rfl ?_
      refine g_getr d_X8_move_36 fl_X8_22 sh_77 rfl ?_
      refine g_bipush (v := 15) d_X8_move_39 (by decide) ?_
      refine g_iload_n (n := 2) d_X8_move_41 rfl rfl ?_
      refine g_iadd d_X8_move_42 ?_
      refine g_iload_n (n := 3) d_X8_move_43 rfl rfl ?_
      refine g_iastore d_X8_move_44 sh_82 (fun _ => ?_)
      refine g_mem (fun σ8 => ?_)
      refine g_iload_n (n := 0) d_X8_move_45 rfl rfl ?_
      exact g_iret d_X8_move_46 (Or.inl rfl) rfl
    · refine g_ldc d_X8_move_18 kc_X8_72 ?_
      exact g_iret d_X8_move_20 (Or.inl rfl) rfl
theorem e_X8_move {l : Launch} {D : Nat} {n : Nat} {x1 : Int32} {x2 : Int32} {σ : Mem} {y : (Int32 × Mem)} (hy : f_X8_move n x1 x2 σ = some y) : EvM l (D + 2) m_X8_move [.ref 77, .int x1, .int x2] σ ((fun y => (some (.int y.1), y.2)) y) :=
  evM_of (d := m_X8_move) (nL := 4) rfl (by decide +kernel) (fun h => absurd (congrArg MethodName.cls h) (by decide +kernel)) (Nat.le_of_ble_eq_true rfl) (t_X8_move y hy)

set_option maxHeartbeats 4000000 in
set_option maxRecDepth 100000 in
theorem t_X8_undo {l : Launch} {sc : Nat × (Nat → Int32)} {D : Nat} {n : Nat} {σ : Mem} : G l sc (D + 1) m_X8_undo 0 [(0, .ref 77)] [] σ (f_X8_undo n σ) (fun y => (some (.int y.1), y.2)) := by
  unfold f_X8_undo
  refine g_aload_n (n := 0) d_X8_undo_0 rfl rfl ?_
  refine g_geti d_X8_undo_1 fl_X8_137 sh_77 rfl ?_
  refine g_if_ne (tgt := 10) d_X8_undo_4 (by decide) (fun c1 => ?_) (fun c1 => ?_)
  · refine g_aload_n (n := 0) d_X8_undo_10 rfl rfl ?_
    refine g_dup d_X8_undo_11 rfl ?_
    refine g_geti d_X8_undo_12 fl_X8_137 sh_77 rfl ?_
    refine g_iconst (v := 1) d_X8_undo_15 (by decide) ?_
    refine g_isub d_X8_undo_16 ?_
    refine g_puti d_X8_undo_17 fl_X8_137 sh_77 rfl ?_
    refine g_mem (fun σ2 => ?_)
    refine g_aload_n (n := 0) d_X8_undo_20 rfl rfl ?_
    refine g_getr d_X8_undo_21 fl_X8_38 sh_77 rfl ?_
    refine g_bipush (v := 33) d_X8_undo_24 (by decide) ?_
    refine g_aload_n (n := 0) d_X8_undo_26 rfl rfl ?_
    refine g_geti d_X8_undo_27 fl_X8_137 sh_77 rfl ?_
    refine g_imul d_X8_undo_30 ?_
    refine g_aload_n (n := 0) d_X8_undo_31 rfl rfl ?_
    refine g_getr d_X8_undo_32 fl_X8_22 sh_77 rfl ?_
    refine g_iconst (v := 0) d_X8_undo_35 (by decide) ?_
    refine g_calls_vv (D := D + 0) (As := [.ref 87, .int (33 * (σ2 77 18)), .ref 82, .int 0]) d_X8_undo_36 ss_X8_133 rfl (Nat.le_of_ble_eq_true rfl) rfl (fun _ hy => EvM_cast (by omega) (e_X8_lay (D := D + 0) hy)) (fun σ4 => ?_)
    refine g_aload_n (n := 0) d_X8_undo_39 rfl rfl ?_
    refine g_geti d_X8_undo_40 fl_X8_137 sh_77 rfl ?_
    exact g_iret d_X8_undo_43 (Or.inl rfl) rfl
  · refine g_ldc d_X8_undo_7 kc_X8_157 ?_
    exact g_iret d_X8_undo_9 (Or.inl rfl) rfl
theorem e_X8_undo {l : Launch} {D : Nat} {n : Nat} {σ : Mem} {y : (Int32 × Mem)} (hy : f_X8_undo n σ = some y) : EvM l (D + 1) m_X8_undo [.ref 77] σ ((fun y => (some (.int y.1), y.2)) y) :=
  evM_of (d := m_X8_undo) (nL := 1) rfl (by decide +kernel) (fun h => absurd (congrArg MethodName.cls h) (by decide +kernel)) (Nat.le_of_ble_eq_true rfl) (t_X8_undo y hy)

set_option maxHeartbeats 4000000 in
set_option maxRecDepth 100000 in
theorem t_X8_reader {l : Launch} {sc : Nat × (Nat → Int32)} {D : Nat} {σ : Mem} {x1 : Int32} {x2 : Int32} : G l sc (D + 2) m_X8_reader 0 [(0, .ref 77), (1, .int x1), (2, .int x2)] [] σ (f_X8_reader σ x1 x2) (fun y => (some (.int y), σ)) := by
  unfold f_X8_reader
  refine g_aload_n (n := 0) d_X8_reader_0 rfl rfl ?_
  refine g_iload_n (n := 1) d_X8_reader_1 rfl rfl ?_
  refine g_callv_pi (D := D + 1) (As := [.int x1]) d_X8_reader_2 sv_X8_150 ob_77 rfl (Nat.le_of_ble_eq_true rfl) rfl (fun _ hy => EvM_cast (by omega) (e_X8_isOne (D := D + 0) hy)) (fun y1 => ?_)
  refine g_if_ne (tgt := 11) d_X8_reader_5 (by decide) (fun c2 => ?_) (fun c2 => ?_)
  · refine g_iload_n (n := 2) d_X8_reader_11 rfl rfl ?_
    refine g_if (fun c3 => ?_) (fun c3 => ?_)
    · refine g_tabIn (tgt := 48) d_X8_reader_12 (by rw [c3]; decide) (by rw [c3]; decide) (by rw [c3]; rfl) (by decide) ?_
      refine g_aload_n (n := 0) d_X8_reader_48 rfl rfl ?_
      refine g_getr d_X8_reader_49 fl_X8_22 sh_77 rfl ?_
      refine g_bipush (v := 15) d_X8_reader_52 (by decide) ?_
      refine g_iload_n (n := 1) d_X8_reader_54 rfl rfl ?_
      refine g_iadd d_X8_reader_55 ?_
      refine g_iaload d_X8_reader_56 sh_82 (fun _ => ?_)
      exact g_iret d_X8_reader_57 (Or.inl rfl) rfl
    refine g_if (fun c4 => ?_) (fun c4 => ?_)
    · refine g_tabIn (tgt := 58) d_X8_reader_12 (by rw [c4]; decide) (by rw [c4]; decide) (by rw [c4]; rfl) (by decide) ?_
      refine g_aload_n (n := 0) d_X8_reader_58 rfl rfl ?_
      refine g_getr d_X8_reader_59 fl_X8_22 sh_77 rfl ?_
      refine g_bipush (v := 21) d_X8_reader_62 (by decide) ?_
      refine g_iload_n (n := 1) d_X8_reader_64 rfl rfl ?_
      refine g_iadd d_X8_reader_65 ?_
      refine g_iaload d_X8_reader_66 sh_82 (fun _ => ?_)
      exact g_iret d_X8_reader_67 (Or.inl rfl) rfl
    refine g_if (fun c5 => ?_) (fun c5 => ?_)
    · refine g_tabIn (tgt := 68) d_X8_reader_12 (by rw [c5]; decide) (by rw [c5]; decide) (by rw [c5]; rfl) (by decide) ?_
      refine g_aload_n (n := 0) d_X8_reader_68 rfl rfl ?_
      refine g_getr d_X8_reader_69 fl_X8_22 sh_77 rfl ?_
      refine g_bipush (v := 27) d_X8_reader_72 (by decide) ?_
      refine g_iload_n (n := 1) d_X8_reader_74 rfl rfl ?_
      refine g_iadd d_X8_reader_75 ?_
      refine g_iaload d_X8_reader_76 sh_82 (fun _ => ?_)
      exact g_iret d_X8_reader_77 (Or.inl rfl) rfl
    refine g_if (fun c6 => ?_) (fun c6 => ?_)
    · refine g_tabIn (tgt := 78) d_X8_reader_12 (by rw [c6]; decide) (by rw [c6]; decide) (by rw [c6]; rfl) (by decide) ?_
      refine g_aload_n (n := 0) d_X8_reader_78 rfl rfl ?_
      refine g_getr d_X8_reader_79 fl_X8_22 sh_77 rfl ?_
      refine g_iconst (v := 2) d_X8_reader_82 (by decide) ?_
      refine g_iaload d_X8_reader_83 sh_82 (fun _ => ?_)
      refine g_iload_n (n := 1) d_X8_reader_84 rfl rfl ?_
      refine g_ishr d_X8_reader_85 ?_
      refine g_iconst (v := 1) d_X8_reader_86 (by decide) ?_
      refine g_iand d_X8_reader_87 ?_
      exact g_iret d_X8_reader_88 (Or.inl rfl) rfl
    refine g_if (fun c7 => ?_) (fun c7 => ?_)
    · refine g_tabIn (tgt := 89) d_X8_reader_12 (by rw [c7]; decide) (by rw [c7]; decide) (by rw [c7]; rfl) (by decide) ?_
      refine g_aload_n (n := 0) d_X8_reader_89 rfl rfl ?_
      refine g_getr d_X8_reader_90 fl_X8_22 sh_77 rfl ?_
      refine g_iload_n (n := 1) d_X8_reader_93 rfl rfl ?_
      refine g_calls_pi (D := D + 1) (As := [.ref 82, .int x1]) d_X8_reader_94 ss_X8_153 rfl (Nat.le_of_ble_eq_true rfl) rfl (fun _ hy => EvM_cast (by omega) (e_X8_canBe (D := D + 0) hy)) (fun y8 => ?_)
      refine g_if_eq (tgt := 104) d_X8_reader_97 (by decide) (fun c9 => ?_) (fun c9 => ?_)
      · refine g_iconst (v := 0) d_X8_reader_104 (by decide) ?_
        exact g_iret d_X8_reader_105 (Or.inl rfl) rfl
      · refine g_iconst (v := 1) d_X8_reader_100 (by decide) ?_
        refine g_goto (tgt := 105) d_X8_reader_101 (by decide) ?_
        exact g_iret d_X8_reader_105 (Or.inl rfl) rfl
    refine g_tabOut (tgt := 106) d_X8_reader_12 (by have := lv_neT (a := 0) c3 rfl; have := lv_neT (a := 1) c4 rfl; have := lv_neT (a := 2) c5 rfl; have := lv_neT (a := 3) c6 rfl; have := lv_neT (a := 4) c7 rfl; omega) (by decide) ?_
    refine g_ldc d_X8_reader_106 kc_X8_72 ?_
    exact g_iret d_X8_reader_108 (Or.inl rfl) rfl
  · refine g_ldc d_X8_reader_8 kc_X8_72 ?_
    exact g_iret d_X8_reader_10 (Or.inl rfl) rfl
theorem e_X8_reader {l : Launch} {D : Nat} {σ : Mem} {x1 : Int32} {x2 : Int32} {y : Int32} (hy : f_X8_reader σ x1 x2 = some y) : EvM l (D + 2) m_X8_reader [.ref 77, .int x1, .int x2] σ ((fun y => (some (.int y), σ)) y) :=
  evM_of (d := m_X8_reader) (nL := 3) rfl (by decide +kernel) (fun h => absurd (congrArg MethodName.cls h) (by decide +kernel)) (Nat.le_of_ble_eq_true rfl) (t_X8_reader y hy)

set_option maxHeartbeats 4000000 in
set_option maxRecDepth 100000 in
theorem t_X8_would {l : Launch} {sc : Nat × (Nat → Int32)} {D : Nat} {n : Nat} {σ : Mem} {x1 : Int32} {x2 : Int32} : G l sc (D + 2) m_X8_would 0 [(0, .ref 77), (1, .int x1), (2, .int x2)] [] σ (f_X8_would n σ x1 x2) (fun y => (some (.int y), σ)) := by
  unfold f_X8_would
  refine g_aload_n (n := 0) d_X8_would_0 rfl rfl ?_
  refine g_iload_n (n := 1) d_X8_would_1 rfl rfl ?_
  refine g_callv_pi (D := D + 1) (As := [.int x1]) d_X8_would_2 sv_X8_150 ob_77 rfl (Nat.le_of_ble_eq_true rfl) rfl (fun _ hy => EvM_cast (by omega) (e_X8_isOne (D := D + 0) hy)) (fun y1 => ?_)
  refine g_if_eq (tgt := 17) d_X8_would_5 (by decide) (fun c2 => ?_) (fun c2 => ?_)
  · refine g_ldc d_X8_would_17 kc_X8_72 ?_
    exact g_iret d_X8_would_19 (Or.inl rfl) rfl
  · refine g_iload_n (n := 2) d_X8_would_8 rfl rfl ?_
    refine g_iconst (v := 0) d_X8_would_9 (by decide) ?_
    refine g_iconst (v := 1) d_X8_would_10 (by decide) ?_
    refine g_calls_pi (D := D + 1) (As := [.int x2, .int 0, .int 1]) d_X8_would_11 ss_X8_59 rfl (Nat.le_of_ble_eq_true rfl) rfl (fun _ hy => EvM_cast (by omega) (e_X8_in (D := D + 1) hy)) (fun y3 => ?_)
    refine g_if_ne (tgt := 20) d_X8_would_14 (by decide) (fun c4 => ?_) (fun c4 => ?_)
    · refine g_aload_n (n := 0) d_X8_would_20 rfl rfl ?_
      refine g_getr d_X8_would_21 fl_X8_22 sh_77 rfl ?_
      refine g_iload_n (n := 1) d_X8_would_24 rfl rfl ?_
      refine g_calls_pi (D := D + 1) (As := [.ref 82, .int x1]) d_X8_would_25 ss_X8_153 rfl (Nat.le_of_ble_eq_true rfl) rfl (fun _ hy => EvM_cast (by omega) (e_X8_canBe (D := D + 0) hy)) (fun y5 => ?_)
      refine g_if_ne (tgt := 34) d_X8_would_28 (by decide) (fun c6 => ?_) (fun c6 => ?_)
      · refine g_iload_n (n := 2) d_X8_would_34 rfl rfl ?_
        refine g_if_ne (tgt := 49) d_X8_would_35 (by decide) (fun c7 => ?_) (fun c7 => ?_)
        · refine g_aload_n (n := 0) d_X8_would_49 rfl rfl ?_
          refine g_getr d_X8_would_50 fl_X8_22 sh_77 rfl ?_
          refine g_iload_n (n := 1) d_X8_would_53 rfl rfl ?_
          refine g_calls_pi (D := D + 1) (As := [.ref 82, .int x1]) d_X8_would_54 ss_X8_147 rfl (Nat.le_of_ble_eq_true rfl) rfl (fun _ hy => EvM_cast (by omega) (e_X8_bringsBy (D := D + 0) hy)) (fun y8 => ?_)
          exact g_iret d_X8_would_57 (Or.inl rfl) rfl
        · refine g_aload_n (n := 0) d_X8_would_38 rfl rfl ?_
          refine g_getr d_X8_would_39 fl_X8_22 sh_77 rfl ?_
          refine g_iload_n (n := 1) d_X8_would_42 rfl rfl ?_
          refine g_calls_pi (D := D + 1) (As := [.ref 82, .int x1]) d_X8_would_43 ss_X8_143 rfl (Nat.le_of_ble_eq_true rfl) rfl (fun _ hy => EvM_cast (by omega) (e_X8_comesTo (D := D + 1) hy)) (fun y9 => ?_)
          refine g_goto (tgt := 57) d_X8_would_46 (by decide) ?_
          exact g_iret d_X8_would_57 (Or.inl rfl) rfl
      · refine g_ldc d_X8_would_31 kc_X8_167 ?_
        exact g_iret d_X8_would_33 (Or.inl rfl) rfl
    · refine g_ldc d_X8_would_17 kc_X8_72 ?_
      exact g_iret d_X8_would_19 (Or.inl rfl) rfl
theorem e_X8_would {l : Launch} {D : Nat} {n : Nat} {σ : Mem} {x1 : Int32} {x2 : Int32} {y : Int32} (hy : f_X8_would n σ x1 x2 = some y) : EvM l (D + 2) m_X8_would [.ref 77, .int x1, .int x2] σ ((fun y => (some (.int y), σ)) y) :=
  evM_of (d := m_X8_would) (nL := 3) rfl (by decide +kernel) (fun h => absurd (congrArg MethodName.cls h) (by decide +kernel)) (Nat.le_of_ble_eq_true rfl) (t_X8_would y hy)

set_option maxHeartbeats 4000000 in
set_option maxRecDepth 100000 in
theorem t_X8_begin {l : Launch} {sc : Nat × (Nat → Int32)} {D : Nat} {n : Nat} {σ : Mem} : G l sc (D + 1) m_X8_begin 0 [(0, .ref 77)] [] σ (f_X8_begin n σ) (fun τ => (none, τ)) := by
  unfold f_X8_begin
  refine g_aload_n (n := 0) d_X8_begin_0 rfl rfl ?_
  refine g_getr d_X8_begin_1 fl_X8_22 sh_77 rfl ?_
  refine g_iconst (v := 0) d_X8_begin_4 (by decide) ?_
  refine g_aload_n (n := 0) d_X8_begin_5 rfl rfl ?_
  refine g_getr d_X8_begin_6 fl_X8_28 sh_77 rfl ?_
  refine g_iconst (v := 0) d_X8_begin_9 (by decide) ?_
  refine g_calls_vv (D := D + 0) (As := [.ref 82, .int 0, .ref 84, .int 0]) d_X8_begin_10 ss_X8_133 rfl (Nat.le_of_ble_eq_true rfl) rfl (fun _ hy => EvM_cast (by omega) (e_X8_lay (D := D + 0) hy)) (fun σ2 => ?_)
  exact g_vret d_X8_begin_13 rfl rfl
theorem e_X8_begin {l : Launch} {D : Nat} {n : Nat} {σ : Mem} {y : Mem} (hy : f_X8_begin n σ = some y) : EvM l (D + 1) m_X8_begin [.ref 77] σ ((fun τ => (none, τ)) y) :=
  evM_of (d := m_X8_begin) (nL := 1) rfl (by decide +kernel) (fun h => absurd (congrArg MethodName.cls h) (by decide +kernel)) (Nat.le_of_ble_eq_true rfl) (t_X8_begin y hy)

set_option maxHeartbeats 4000000 in
set_option maxRecDepth 100000 in
theorem t_X8_goesOn_b2 {l : Launch} {sc : Nat × (Nat → Int32)} {D : Nat} {n : Nat} {k2 : Nat → Int32 → Int32 → Mem → Option (Int32 × Mem)} {x1 : Nat} {x2 : Int32} {x3 : Int32} {σ : Mem} (hk2 : ∀ x1 x2 x3 σ, G l sc (D + 3) m_X8_goesOn 2 [(0, .ref 77), (1, .ref x1), (2, .int x2), (3, .int x3)] [] σ (k2 x1 x2 x3 σ) (fun y => (some (.int y.1), y.2))) : G l sc (D + 3) m_X8_goesOn 2 [(0, .ref 77), (1, .ref x1), (2, .int x2), (3, .int x3)] [] σ (f_X8_goesOn_b2 n k2 x1 x2 x3 σ) (fun y => (some (.int y.1), y.2)) := by
  unfold f_X8_goesOn_b2
  refine g_iload_n (n := 3) d_X8_goesOn_2 rfl rfl ?_
  refine g_iload_n (n := 2) d_X8_goesOn_3 rfl rfl ?_
  refine g_icmp_ge (tgt := 39) d_X8_goesOn_4 (by decide) (fun c1 => ?_) (fun c1 => ?_)
  · refine g_iconst (v := 1) d_X8_goesOn_39 (by decide) ?_
    exact g_iret d_X8_goesOn_40 (Or.inr ⟨rfl, rfl⟩) rfl
  · refine g_aload_n (n := 0) d_X8_goesOn_7 rfl rfl ?_
    refine g_getr d_X8_goesOn_8 fl_X8_28 sh_77 rfl ?_
    refine g_aload_n (n := 1) d_X8_goesOn_11 rfl rfl ?_
    refine g_iload_n (n := 3) d_X8_goesOn_12 rfl rfl ?_
    refine g_guard (fun h2 => ?_)
    refine g_iaload d_X8_goesOn_13 (shp_IA h2) (fun _ => ?_)
    refine g_calls_pi (D := D + 2) (As := [.ref 84, .int (σ x1 x3.toNatClampNeg)]) d_X8_goesOn_14 ss_X8_153 rfl (Nat.le_of_ble_eq_true rfl) rfl (fun _ hy => EvM_cast (by omega) (e_X8_canBe (D := D + 1) hy)) (fun y3 => ?_)
    refine g_if_ne (tgt := 22) d_X8_goesOn_17 (by decide) (fun c4 => ?_) (fun c4 => ?_)
    · refine g_aload_n (n := 0) d_X8_goesOn_22 rfl rfl ?_
      refine g_getr d_X8_goesOn_23 fl_X8_28 sh_77 rfl ?_
      refine g_aload_n (n := 1) d_X8_goesOn_26 rfl rfl ?_
      refine g_iload_n (n := 3) d_X8_goesOn_27 rfl rfl ?_
      refine g_iaload d_X8_goesOn_28 (shp_IA h2) (fun _ => ?_)
      refine g_calls_ii (D := D + 2) (As := [.ref 84, .int (σ x1 x3.toNatClampNeg)]) d_X8_goesOn_29 ss_X8_161 rfl (Nat.le_of_ble_eq_true rfl) rfl (fun _ hy => EvM_cast (by omega) (e_X8_gives (D := D + 0) hy)) (fun y5 σ6 => ?_)
      refine g_pop d_X8_goesOn_32 rfl ?_
      refine g_iinc (n := 3) (w := 1) d_X8_goesOn_33 rfl (by decide) (by decide) rfl ?_
      refine g_goto (tgt := 2) d_X8_goesOn_36 (by decide) ?_
      refine g_sub [1, 2, 3, 0] rfl ?_
      exact hk2 _ _ _ _
    · refine g_iconst (v := 0) d_X8_goesOn_20 (by decide) ?_
      exact g_iret d_X8_goesOn_21 (Or.inr ⟨rfl, rfl⟩) rfl
set_option maxHeartbeats 4000000 in
set_option maxRecDepth 100000 in
theorem t_X8_goesOn_l2 {l : Launch} {sc : Nat × (Nat → Int32)} {D : Nat} {n : Nat} : ∀ (f : Nat) (x1 : Nat) (x2 : Int32) (x3 : Int32) (σ : Mem), G l sc (D + 3) m_X8_goesOn 2 [(0, .ref 77), (1, .ref x1), (2, .int x2), (3, .int x3)] [] σ (f_X8_goesOn_l2 n f x1 x2 x3 σ) (fun y => (some (.int y.1), y.2)) := by
  intro f
  induction f with
  | zero => intro x1 x2 x3 σ; exact g_none
  | succ f ih => intro x1 x2 x3 σ; exact t_X8_goesOn_b2 ih
set_option maxHeartbeats 4000000 in
set_option maxRecDepth 100000 in
theorem t_X8_goesOn {l : Launch} {sc : Nat × (Nat → Int32)} {D : Nat} {n : Nat} {x1 : Nat} {x2 : Int32} {σ : Mem} : G l sc (D + 3) m_X8_goesOn 0 [(0, .ref 77), (1, .ref x1), (2, .int x2)] [] σ (f_X8_goesOn n x1 x2 σ) (fun y => (some (.int y.1), y.2)) := by
  unfold f_X8_goesOn
  refine g_iconst (v := 0) d_X8_goesOn_0 (by decide) ?_
  refine g_istore_n d_X8_goesOn_1 rfl (by decide) rfl ?_
  refine g_sub [1, 2, 3, 0] rfl ?_
  exact t_X8_goesOn_l2  _ _ _ _ _
theorem e_X8_goesOn {l : Launch} {D : Nat} {n : Nat} {x1 : Nat} {x2 : Int32} {σ : Mem} {y : (Int32 × Mem)} (hy : f_X8_goesOn n x1 x2 σ = some y) : EvM l (D + 3) m_X8_goesOn [.ref 77, .ref x1, .int x2] σ ((fun y => (some (.int y.1), y.2)) y) :=
  evM_of (d := m_X8_goesOn) (nL := 4) rfl (by decide +kernel) (fun h => absurd (congrArg MethodName.cls h) (by decide +kernel)) (Nat.le_of_ble_eq_true rfl) (t_X8_goesOn y hy)

set_option maxHeartbeats 4000000 in
set_option maxRecDepth 100000 in
theorem t_X8_layRow_b10 {l : Launch} {sc : Nat × (Nat → Int32)} {D : Nat} {n : Nat} {k10 : Int32 → Int32 → Int32 → Mem → Option (Int32 × Mem)} {x3 : Int32} {x4 : Int32} {x5 : Int32} {σ : Mem} (hk10 : ∀ x3 x4 x5 σ, G l sc (D + 0) m_X8_layRow 10 [(0, .ref 77), (3, .int x3), (4, .int x4), (5, .int x5)] [] σ (k10 x3 x4 x5 σ) (fun y => (some (.int y.1), y.2))) : G l sc (D + 0) m_X8_layRow 10 [(0, .ref 77), (3, .int x3), (4, .int x4), (5, .int x5)] [] σ (f_X8_layRow_b10 n k10 x3 x4 x5 σ) (fun y => (some (.int y.1), y.2)) := by
  unfold f_X8_layRow_b10
  refine g_iload (n := 3) d_X8_layRow_10 rfl ?_
  refine g_if_lt (tgt := 59) d_X8_layRow_12 (by decide) (fun c1 => ?_) (fun c1 => ?_)
  · refine g_iload (n := 2) d_X8_layRow_59 rfl ?_
    exact g_iret d_X8_layRow_61 (Or.inl rfl) rfl
  · refine g_aload_n (n := 0) d_X8_layRow_15 rfl rfl ?_
    refine g_getr d_X8_layRow_16 fl_X8_47 sh_77 rfl ?_
    refine g_iload (n := 3) d_X8_layRow_19 rfl ?_
    refine g_iload_n (n := 1) d_X8_layRow_21 rfl rfl ?_
    refine g_aload_n (n := 0) d_X8_layRow_22 rfl rfl ?_
    refine g_getr d_X8_layRow_23 fl_X8_22 sh_77 rfl ?_
    refine g_iconst (v := 4) d_X8_layRow_26 (by decide) ?_
    refine g_iaload d_X8_layRow_27 sh_82 (fun _ => ?_)
    refine g_nm (fun y2 => ?_)
    refine g_if (fun _ => g_none) (fun h3 => ?_)
    refine g_irem d_X8_layRow_28 h3 ?_
    refine g_iastore d_X8_layRow_29 sh_90 (fun _ => ?_)
    refine g_mem (fun σ4 => ?_)
    refine g_iload_n (n := 1) d_X8_layRow_30 rfl rfl ?_
    refine g_aload_n (n := 0) d_X8_layRow_31 rfl rfl ?_
    refine g_getr d_X8_layRow_32 fl_X8_22 sh_77 rfl ?_
    refine g_iconst (v := 4) d_X8_layRow_35 (by decide) ?_
    refine g_iaload d_X8_layRow_36 sh_82 (fun _ => ?_)
    refine g_if (fun _ => g_none) (fun h5 => ?_)
    refine g_idiv d_X8_layRow_37 h5 ?_
    refine g_nm (fun y6 => ?_)
    refine g_istore_n d_X8_layRow_38 rfl (by decide) rfl ?_
    refine g_iload (n := 2) d_X8_layRow_39 rfl ?_
    refine g_iconst (v := 1) d_X8_layRow_41 (by decide) ?_
    refine g_aload_n (n := 1) d_X8_layRow_42 rfl rfl ?_
    refine g_getr d_X8_layRow_43 fl_X8_47 sh_77 rfl ?_
    refine g_iload (n := 3) d_X8_layRow_46 rfl ?_
    refine g_iaload d_X8_layRow_48 sh_90 (fun _ => ?_)
    refine g_ishl d_X8_layRow_49 ?_
    refine g_ior d_X8_layRow_50 ?_
    refine g_nm (fun y7 => ?_)
    refine g_istore d_X8_layRow_51 (by decide) rfl ?_
    refine g_iinc (n := 3) (w := -1) d_X8_layRow_53 rfl (by decide) (by decide) rfl ?_
    refine g_goto (tgt := 10) d_X8_layRow_56 (by decide) ?_
    refine g_sub [3, 2, 1, 0] rfl ?_
    exact hk10 _ _ _ _
set_option maxHeartbeats 4000000 in
set_option maxRecDepth 100000 in
theorem t_X8_layRow_l10 {l : Launch} {sc : Nat × (Nat → Int32)} {D : Nat} {n : Nat} : ∀ (f : Nat) (x3 : Int32) (x4 : Int32) (x5 : Int32) (σ : Mem), G l sc (D + 0) m_X8_layRow 10 [(0, .ref 77), (3, .int x3), (4, .int x4), (5, .int x5)] [] σ (f_X8_layRow_l10 n f x3 x4 x5 σ) (fun y => (some (.int y.1), y.2)) := by
  intro f
  induction f with
  | zero => intro x3 x4 x5 σ; exact g_none
  | succ f ih => intro x3 x4 x5 σ; exact t_X8_layRow_b10 ih
set_option maxHeartbeats 4000000 in
set_option maxRecDepth 100000 in
theorem t_X8_layRow {l : Launch} {sc : Nat × (Nat → Int32)} {D : Nat} {n : Nat} {x1 : Int32} {x2 : Int32} {σ : Mem} : G l sc (D + 0) m_X8_layRow 0 [(0, .ref 77), (1, .int x1), (2, .int x2)] [] σ (f_X8_layRow n x1 x2 σ) (fun y => (some (.int y.1), y.2)) := by
  unfold f_X8_layRow
  refine g_iload_n (n := 1) d_X8_layRow_0 rfl rfl ?_
  refine g_istore_n d_X8_layRow_1 rfl (by decide) rfl ?_
  refine g_iconst (v := 0) d_X8_layRow_2 (by decide) ?_
  refine g_istore d_X8_layRow_3 (by decide) rfl ?_
  refine g_iload_n (n := 4) d_X8_layRow_5 rfl rfl ?_
  refine g_iconst (v := 1) d_X8_layRow_6 (by decide) ?_
  refine g_isub d_X8_layRow_7 ?_
  refine g_nm (fun y1 => ?_)
  refine g_istore d_X8_layRow_8 (by decide) rfl ?_
  refine g_sub [3, 2, 1, 0] rfl ?_
  exact t_X8_layRow_l10  _ _ _ _ _
theorem e_X8_layRow {l : Launch} {D : Nat} {n : Nat} {x1 : Int32} {x2 : Int32} {σ : Mem} {y : (Int32 × Mem)} (hy : f_X8_layRow n x1 x2 σ = some y) : EvM l (D + 0) m_X8_layRow [.ref 77, .int x1, .int x2] σ ((fun y => (some (.int y.1), y.2)) y) :=
  evM_of (d := m_X8_layRow) (nL := 6) rfl (by decide +kernel) (fun h => absurd (congrArg MethodName.cls h) (by decide +kernel)) (Nat.le_of_ble_eq_true rfl) (t_X8_layRow y hy)

set_option maxHeartbeats 4000000 in
set_option maxRecDepth 100000 in
theorem t_X8_bits_b4 {l : Launch} {sc : Nat × (Nat → Int32)} {D : Nat} {n : Nat} {σ : Mem} {k4 : Int32 → Int32 → Int32 → Option Int32} {x0 : Int32} {x1 : Int32} {x2 : Int32} (hk4 : ∀ x0 x1 x2, G l sc (D + 0) m_X8_bits 4 [(0, .int x0), (1, .int x1), (2, .int x2)] [] σ (k4 x0 x1 x2) (fun y => (some (.int y), σ))) : G l sc (D + 0) m_X8_bits 4 [(0, .int x0), (1, .int x1), (2, .int x2)] [] σ (f_X8_bits_b4 n σ k4 x0 x1 x2) (fun y => (some (.int y), σ)) := by
  unfold f_X8_bits_b4
  refine g_iload_n (n := 2) d_X8_bits_4 rfl rfl ?_
  refine g_bipush (v := 6) d_X8_bits_5 (by decide) ?_
  refine g_icmp_ge (tgt := 24) d_X8_bits_7 (by decide) (fun c1 => ?_) (fun c1 => ?_)
  · refine g_iload_n (n := 1) d_X8_bits_24 rfl rfl ?_
    exact g_iret d_X8_bits_25 (Or.inl rfl) rfl
  · refine g_iload_n (n := 1) d_X8_bits_10 rfl rfl ?_
    refine g_iload_n (n := 0) d_X8_bits_11 rfl rfl ?_
    refine g_iload_n (n := 2) d_X8_bits_12 rfl rfl ?_
    refine g_ishr d_X8_bits_13 ?_
    refine g_iconst (v := 1) d_X8_bits_14 (by decide) ?_
    refine g_iand d_X8_bits_15 ?_
    refine g_iadd d_X8_bits_16 ?_
    refine g_nm (fun y2 => ?_)
    refine g_istore_n d_X8_bits_17 rfl (by decide) rfl ?_
    refine g_iinc (n := 2) (w := 1) d_X8_bits_18 rfl (by decide) (by decide) rfl ?_
    refine g_goto (tgt := 4) d_X8_bits_21 (by decide) ?_
    refine g_sub [2, 1, 0] rfl ?_
    exact hk4 _ _ _
set_option maxHeartbeats 4000000 in
set_option maxRecDepth 100000 in
theorem t_X8_bits_l4 {l : Launch} {sc : Nat × (Nat → Int32)} {D : Nat} {n : Nat} {σ : Mem} : ∀ (f : Nat) (x0 : Int32) (x1 : Int32) (x2 : Int32), G l sc (D + 0) m_X8_bits 4 [(0, .int x0), (1, .int x1), (2, .int x2)] [] σ (f_X8_bits_l4 n σ f x0 x1 x2) (fun y => (some (.int y), σ)) := by
  intro f
  induction f with
  | zero => intro x0 x1 x2; exact g_none
  | succ f ih => intro x0 x1 x2; exact t_X8_bits_b4 ih
set_option maxHeartbeats 4000000 in
set_option maxRecDepth 100000 in
theorem t_X8_bits {l : Launch} {sc : Nat × (Nat → Int32)} {D : Nat} {n : Nat} {σ : Mem} {x0 : Int32} : G l sc (D + 0) m_X8_bits 0 [(0, .int x0)] [] σ (f_X8_bits n σ x0) (fun y => (some (.int y), σ)) := by
  unfold f_X8_bits
  refine g_iconst (v := 0) d_X8_bits_0 (by decide) ?_
  refine g_istore_n d_X8_bits_1 rfl (by decide) rfl ?_
  refine g_iconst (v := 0) d_X8_bits_2 (by decide) ?_
  refine g_istore_n d_X8_bits_3 rfl (by decide) rfl ?_
  refine g_sub [2, 1, 0] rfl ?_
  exact t_X8_bits_l4  _ _ _ _
theorem e_X8_bits {l : Launch} {D : Nat} {n : Nat} {σ : Mem} {x0 : Int32} {y : Int32} (hy : f_X8_bits n σ x0 = some y) : EvM l (D + 0) m_X8_bits [.int x0] σ ((fun y => (some (.int y), σ)) y) :=
  evM_of (d := m_X8_bits) (nL := 3) rfl (by decide +kernel) (fun h => absurd (congrArg MethodName.cls h) (by decide +kernel)) (Nat.le_of_ble_eq_true rfl) (t_X8_bits y hy)

set_option maxHeartbeats 4000000 in
set_option maxRecDepth 100000 in
theorem t_X8_rowsOf_b4 {l : Launch} {sc : Nat × (Nat → Int32)} {D : Nat} {n : Nat} {σ : Mem} {k4 : Int32 → Int32 → Int32 → Option Int32} {x1 : Int32} {x2 : Int32} {x3 : Int32} (hk4 : ∀ x1 x2 x3, G l sc (D + 0) m_X8_rowsOf 4 [(0, .ref 77), (1, .int x1), (2, .int x2), (3, .int x3)] [] σ (k4 x1 x2 x3) (fun y => (some (.int y), σ))) : G l sc (D + 0) m_X8_rowsOf 4 [(0, .ref 77), (1, .int x1), (2, .int x2), (3, .int x3)] [] σ (f_X8_rowsOf_b4 n σ k4 x1 x2 x3) (fun y => (some (.int y), σ)) := by
  unfold f_X8_rowsOf_b4
  refine g_iload_n (n := 3) d_X8_rowsOf_4 rfl rfl ?_
  refine g_iload_n (n := 1) d_X8_rowsOf_5 rfl rfl ?_
  refine g_icmp_ge (tgt := 24) d_X8_rowsOf_6 (by decide) (fun c1 => ?_) (fun c1 => ?_)
  · refine g_iload_n (n := 2) d_X8_rowsOf_24 rfl rfl ?_
    exact g_iret d_X8_rowsOf_25 (Or.inl rfl) rfl
  · refine g_iload_n (n := 2) d_X8_rowsOf_9 rfl rfl ?_
    refine g_aload_n (n := 0) d_X8_rowsOf_10 rfl rfl ?_
    refine g_getr d_X8_rowsOf_11 fl_X8_22 sh_77 rfl ?_
    refine g_iconst (v := 4) d_X8_rowsOf_14 (by decide) ?_
    refine g_iaload d_X8_rowsOf_15 sh_82 (fun _ => ?_)
    refine g_imul d_X8_rowsOf_16 ?_
    refine g_nm (fun y2 => ?_)
    refine g_istore_n d_X8_rowsOf_17 rfl (by decide) rfl ?_
    refine g_iinc (n := 3) (w := 1) d_X8_rowsOf_18 rfl (by decide) (by decide) rfl ?_
    refine g_goto (tgt := 4) d_X8_rowsOf_21 (by decide) ?_
    refine g_sub [2, 3, 1, 0] rfl ?_
    exact hk4 _ _ _
set_option maxHeartbeats 4000000 in
set_option maxRecDepth 100000 in
theorem t_X8_rowsOf_l4 {l : Launch} {sc : Nat × (Nat → Int32)} {D : Nat} {n : Nat} {σ : Mem} : ∀ (f : Nat) (x1 : Int32) (x2 : Int32) (x3 : Int32), G l sc (D + 0) m_X8_rowsOf 4 [(0, .ref 77), (1, .int x1), (2, .int x2), (3, .int x3)] [] σ (f_X8_rowsOf_l4 n σ f x1 x2 x3) (fun y => (some (.int y), σ)) := by
  intro f
  induction f with
  | zero => intro x1 x2 x3; exact g_none
  | succ f ih => intro x1 x2 x3; exact t_X8_rowsOf_b4 ih
set_option maxHeartbeats 4000000 in
set_option maxRecDepth 100000 in
theorem t_X8_rowsOf {l : Launch} {sc : Nat × (Nat → Int32)} {D : Nat} {n : Nat} {σ : Mem} {x1 : Int32} : G l sc (D + 0) m_X8_rowsOf 0 [(0, .ref 77), (1, .int x1)] [] σ (f_X8_rowsOf n σ x1) (fun y => (some (.int y), σ)) := by
  unfold f_X8_rowsOf
  refine g_iconst (v := 1) d_X8_rowsOf_0 (by decide) ?_
  refine g_istore_n d_X8_rowsOf_1 rfl (by decide) rfl ?_
  refine g_iconst (v := 0) d_X8_rowsOf_2 (by decide) ?_
  refine g_istore_n d_X8_rowsOf_3 rfl (by decide) rfl ?_
  refine g_sub [2, 3, 1, 0] rfl ?_
  exact t_X8_rowsOf_l4  _ _ _ _
theorem e_X8_rowsOf {l : Launch} {D : Nat} {n : Nat} {σ : Mem} {x1 : Int32} {y : Int32} (hy : f_X8_rowsOf n σ x1 = some y) : EvM l (D + 0) m_X8_rowsOf [.ref 77, .int x1] σ ((fun y => (some (.int y), σ)) y) :=
  evM_of (d := m_X8_rowsOf) (nL := 4) rfl (by decide +kernel) (fun h => absurd (congrArg MethodName.cls h) (by decide +kernel)) (Nat.le_of_ble_eq_true rfl) (t_X8_rowsOf y hy)

set_option maxHeartbeats 4000000 in
set_option maxRecDepth 100000 in
theorem t_X8_keepRow_b12 {l : Launch} {sc : Nat × (Nat → Int32)} {D : Nat} {n : Nat} {k12 : Int32 → Int32 → Mem → Option Mem} {x2 : Int32} {x3 : Int32} {σ : Mem} (hk12 : ∀ x2 x3 σ, G l sc (D + 0) m_X8_keepRow 12 [(0, .ref 77), (2, .int x2), (3, .int x3)] [] σ (k12 x2 x3 σ) (fun τ => (none, τ))) : G l sc (D + 0) m_X8_keepRow 12 [(0, .ref 77), (2, .int x2), (3, .int x3)] [] σ (f_X8_keepRow_b12 n k12 x2 x3 σ) (fun τ => (none, τ)) := by
  unfold f_X8_keepRow_b12
  refine g_iload_n (n := 2) d_X8_keepRow_12 rfl rfl ?_
  refine g_iload_n (n := 1) d_X8_keepRow_13 rfl rfl ?_
  refine g_icmp_ge (tgt := 35) d_X8_keepRow_14 (by decide) (fun c1 => ?_) (fun c1 => ?_)
  · exact g_vret d_X8_keepRow_35 rfl rfl
  · refine g_aload_n (n := 0) d_X8_keepRow_17 rfl rfl ?_
    refine g_getr d_X8_keepRow_18 fl_X8_50 sh_77 rfl ?_
    refine g_iload_n (n := 2) d_X8_keepRow_21 rfl rfl ?_
    refine g_aload_n (n := 0) d_X8_keepRow_22 rfl rfl ?_
    refine g_getr d_X8_keepRow_23 fl_X8_47 sh_77 rfl ?_
    refine g_iload_n (n := 2) d_X8_keepRow_26 rfl rfl ?_
    refine g_iaload d_X8_keepRow_27 sh_90 (fun _ => ?_)
    refine g_iastore d_X8_keepRow_28 sh_91 (fun _ => ?_)
    refine g_mem (fun σ2 => ?_)
    refine g_iinc (n := 2) (w := 1) d_X8_keepRow_29 rfl (by decide) (by decide) rfl ?_
    refine g_goto (tgt := 12) d_X8_keepRow_32 (by decide) ?_
    refine g_sub [1, 2, 0] rfl ?_
    exact hk12 _ _ _
set_option maxHeartbeats 4000000 in
set_option maxRecDepth 100000 in
theorem t_X8_keepRow_l12 {l : Launch} {sc : Nat × (Nat → Int32)} {D : Nat} {n : Nat} : ∀ (f : Nat) (x2 : Int32) (x3 : Int32) (σ : Mem), G l sc (D + 0) m_X8_keepRow 12 [(0, .ref 77), (2, .int x2), (3, .int x3)] [] σ (f_X8_keepRow_l12 n f x2 x3 σ) (fun τ => (none, τ)) := by
  intro f
  induction f with
  | zero => intro x2 x3 σ; exact g_none
  | succ f ih => intro x2 x3 σ; exact t_X8_keepRow_b12 ih
set_option maxHeartbeats 4000000 in
set_option maxRecDepth 100000 in
theorem t_X8_keepRow {l : Launch} {sc : Nat × (Nat → Int32)} {D : Nat} {n : Nat} {x1 : Int32} {x2 : Int32} {σ : Mem} : G l sc (D + 0) m_X8_keepRow 0 [(0, .ref 77), (1, .int x1), (2, .int x2)] [] σ (f_X8_keepRow n x1 x2 σ) (fun τ => (none, τ)) := by
  unfold f_X8_keepRow
  refine g_aload_n (n := 0) d_X8_keepRow_0 rfl rfl ?_
  refine g_iload_n (n := 1) d_X8_keepRow_1 rfl rfl ?_
  refine g_puti d_X8_keepRow_2 fl_X8_168 sh_77 rfl ?_
  refine g_mem (fun σ1 => ?_)
  refine g_aload_n (n := 0) d_X8_keepRow_5 rfl rfl ?_
  refine g_iload_n (n := 2) d_X8_keepRow_6 rfl rfl ?_
  refine g_puti d_X8_keepRow_7 fl_X8_171 sh_77 rfl ?_
  refine g_mem (fun σ2 => ?_)
  refine g_iconst (v := 0) d_X8_keepRow_10 (by decide) ?_
  refine g_istore_n d_X8_keepRow_11 rfl (by decide) rfl ?_
  refine g_sub [1, 3, 0] rfl ?_
  exact t_X8_keepRow_l12  _ _ _ _
theorem e_X8_keepRow {l : Launch} {D : Nat} {n : Nat} {x1 : Int32} {x2 : Int32} {σ : Mem} {y : Mem} (hy : f_X8_keepRow n x1 x2 σ = some y) : EvM l (D + 0) m_X8_keepRow [.ref 77, .int x1, .int x2] σ ((fun τ => (none, τ)) y) :=
  evM_of (d := m_X8_keepRow) (nL := 4) rfl (by decide +kernel) (fun h => absurd (congrArg MethodName.cls h) (by decide +kernel)) (Nat.le_of_ble_eq_true rfl) (t_X8_keepRow y hy)

set_option maxHeartbeats 4000000 in
set_option maxRecDepth 100000 in
theorem t_X8_best_b119 {l : Launch} {sc : Nat × (Nat → Int32)} {D : Nat} {n : Nat} {k31 : Int32 → Int32 → Mem → Option (Int32 × Mem)} {k43 : Int32 → Int32 → Int32 → Mem → Option (Int32 × Mem)} {x1 : Int32} {x2 : Int32} {x3 : Int32} {σ : Mem} (hk31 : ∀ x1 x2 σ, G l sc (D + 4) m_X8_best 31 [(0, .ref 77), (1, .int x1), (2, .int x2)] [] σ (k31 x1 x2 σ) (fun y => (some (.int y.1), y.2))) (hk43 : ∀ x1 x2 x3 σ, G l sc (D + 4) m_X8_best 43 [(0, .ref 77), (1, .int x1), (2, .int x2), (3, .int x3)] [] σ (k43 x1 x2 x3 σ) (fun y => (some (.int y.1), y.2))) : G l sc (D + 4) m_X8_best 119 [(0, .ref 77), (1, .int x1), (2, .int x2), (3, .int x3)] [] σ (f_X8_best_b119 n k31 k43 x1 x2 x3 σ) (fun y => (some (.int y.1), y.2)) := by
  unfold f_X8_best_b119
  refine g_iinc (n := 3) (w := 1) d_X8_best_119 rfl (by decide) (by decide) rfl ?_
  refine g_goto (tgt := 43) d_X8_best_122 (by decide) ?_
  refine g_sub [1, 2, 3, 0] rfl ?_
  exact hk43 _ _ _ _
set_option maxHeartbeats 4000000 in
set_option maxRecDepth 100000 in
theorem t_X8_best_b43 {l : Launch} {sc : Nat × (Nat → Int32)} {D : Nat} {n : Nat} {k31 : Int32 → Int32 → Mem → Option (Int32 × Mem)} {k43 : Int32 → Int32 → Int32 → Mem → Option (Int32 × Mem)} {x1 : Int32} {x2 : Int32} {x3 : Int32} {σ : Mem} (hk31 : ∀ x1 x2 σ, G l sc (D + 4) m_X8_best 31 [(0, .ref 77), (1, .int x1), (2, .int x2)] [] σ (k31 x1 x2 σ) (fun y => (some (.int y.1), y.2))) (hk43 : ∀ x1 x2 x3 σ, G l sc (D + 4) m_X8_best 43 [(0, .ref 77), (1, .int x1), (2, .int x2), (3, .int x3)] [] σ (k43 x1 x2 x3 σ) (fun y => (some (.int y.1), y.2))) : G l sc (D + 4) m_X8_best 43 [(0, .ref 77), (1, .int x1), (2, .int x2), (3, .int x3)] [] σ (f_X8_best_b43 n k31 k43 x1 x2 x3 σ) (fun y => (some (.int y.1), y.2)) := by
  unfold f_X8_best_b43
  refine g_iload_n (n := 3) d_X8_best_43 rfl rfl ?_
  refine g_aload_n (n := 0) d_X8_best_44 rfl rfl ?_
  refine g_iload_n (n := 2) d_X8_best_45 rfl rfl ?_
  refine g_callv_pi (D := D + 3) (As := [.int x2]) d_X8_best_46 sv_X8_178 ob_77 rfl (Nat.le_of_ble_eq_true rfl) rfl (fun _ hy => EvM_cast (by omega) (e_X8_rowsOf (D := D + 3) hy)) (fun y1 => ?_)
  refine g_icmp_ge (tgt := 125) d_X8_best_49 (by decide) (fun c2 => ?_) (fun c2 => ?_)
  · refine g_iinc (n := 2) (w := 1) d_X8_best_125 rfl (by decide) (by decide) rfl ?_
    refine g_goto (tgt := 31) d_X8_best_128 (by decide) ?_
    refine g_sub [1, 2, 0] rfl ?_
    exact hk31 _ _ _
  · refine g_aload_n (n := 0) d_X8_best_52 rfl rfl ?_
    refine g_iload_n (n := 3) d_X8_best_53 rfl rfl ?_
    refine g_iload_n (n := 2) d_X8_best_54 rfl rfl ?_
    refine g_callv_ii (D := D + 3) (As := [.int x3, .int x2]) d_X8_best_55 sv_X8_181 ob_77 rfl (Nat.le_of_ble_eq_true rfl) rfl (fun _ hy => EvM_cast (by omega) (e_X8_layRow (D := D + 3) hy)) (fun y3 σ4 => ?_)
    refine g_calls_pi (D := D + 3) (As := [.int y3]) d_X8_best_58 ss_X8_185 rfl (Nat.le_of_ble_eq_true rfl) rfl (fun _ hy => EvM_cast (by omega) (e_X8_bits (D := D + 3) hy)) (fun y5 => ?_)
    refine g_iload_n (n := 2) d_X8_best_61 rfl rfl ?_
    refine g_icmp_ne (tgt := 119) d_X8_best_62 (by decide) (fun c6 => ?_) (fun c6 => ?_)
    · refine g_sub [0, 1, 2, 3] rfl ?_
      exact t_X8_best_b119 hk31 hk43
    · refine g_aload_n (n := 0) d_X8_best_65 rfl rfl ?_
      refine g_callv_vv (D := D + 3) (As := []) d_X8_best_66 sv_X8_188 ob_77 rfl (Nat.le_of_ble_eq_true rfl) rfl (fun _ hy => EvM_cast (by omega) (e_X8_begin (D := D + 2) hy)) (fun σ8 => ?_)
      refine g_aload_n (n := 0) d_X8_best_69 rfl rfl ?_
      refine g_aload_n (n := 0) d_X8_best_70 rfl rfl ?_
      refine g_getr d_X8_best_71 fl_X8_47 sh_77 rfl ?_
      refine g_iload_n (n := 2) d_X8_best_74 rfl rfl ?_
      refine g_callv_ii (D := D + 3) (As := [.ref 90, .int x2]) d_X8_best_75 sv_X8_191 ob_77 rfl (Nat.le_of_ble_eq_true rfl) rfl (fun _ hy => EvM_cast (by omega) (e_X8_goesOn (D := D + 0) hy)) (fun y9 σ10 => ?_)
      refine g_if_eq (tgt := 119) d_X8_best_78 (by decide) (fun c11 => ?_) (fun c11 => ?_)
      · refine g_sub [0, 1, 2, 3] rfl ?_
        exact t_X8_best_b119 hk31 hk43
      · refine g_aload_n (n := 0) d_X8_best_81 rfl rfl ?_
        refine g_getr d_X8_best_82 fl_X8_28 sh_77 rfl ?_
        refine g_iconst (v := 3) d_X8_best_85 (by decide) ?_
        refine g_iaload d_X8_best_86 sh_84 (fun _ => ?_)
        refine g_aload_n (n := 0) d_X8_best_87 rfl rfl ?_
        refine g_getr d_X8_best_88 fl_X8_22 sh_77 rfl ?_
        refine g_iconst (v := 3) d_X8_best_91 (by decide) ?_
        refine g_iaload d_X8_best_92 sh_82 (fun _ => ?_)
        refine g_isub d_X8_best_93 ?_
        refine g_aload_n (n := 0) d_X8_best_94 rfl rfl ?_
        refine g_geti d_X8_best_95 fl_X8_168 sh_77 rfl ?_
        refine g_icmp_le (tgt := 119) d_X8_best_98 (by decide) (fun c12 => ?_) (fun c12 => ?_)
        · refine g_sub [0, 1, 2, 3] rfl ?_
          exact t_X8_best_b119 hk31 hk43
        · refine g_aload_n (n := 0) d_X8_best_101 rfl rfl ?_
          refine g_aload_n (n := 0) d_X8_best_102 rfl rfl ?_
          refine g_getr d_X8_best_103 fl_X8_28 sh_77 rfl ?_
          refine g_iconst (v := 3) d_X8_best_106 (by decide) ?_
          refine g_iaload d_X8_best_107 sh_84 (fun _ => ?_)
          refine g_aload_n (n := 0) d_X8_best_108 rfl rfl ?_
          refine g_getr d_X8_best_109 fl_X8_22 sh_77 rfl ?_
          refine g_iconst (v := 3) d_X8_best_112 (by decide) ?_
          refine g_iaload d_X8_best_113 sh_82 (fun _ => ?_)
          refine g_isub d_X8_best_114 ?_
          refine g_iload_n (n := 2) d_X8_best_115 rfl rfl ?_
          refine g_callv_vv (D := D + 3) (As := [.int ((σ10 84 (3 : Int32).toNatClampNeg) - (σ10 82 (3 : Int32).toNatClampNeg)), .int x2]) d_X8_best_116 sv_X8_174 ob_77 rfl (Nat.le_of_ble_eq_true rfl) rfl (fun _ hy => EvM_cast (by omega) (e_X8_keepRow (D := D + 3) hy)) (fun σ14 => ?_)
          refine g_sub [0, 1, 2, 3] rfl ?_
          exact t_X8_best_b119 hk31 hk43
set_option maxHeartbeats 4000000 in
set_option maxRecDepth 100000 in
theorem t_X8_best_l43 {l : Launch} {sc : Nat × (Nat → Int32)} {D : Nat} {n : Nat} {k31 : Int32 → Int32 → Mem → Option (Int32 × Mem)} (hk31 : ∀ x1 x2 σ, G l sc (D + 4) m_X8_best 31 [(0, .ref 77), (1, .int x1), (2, .int x2)] [] σ (k31 x1 x2 σ) (fun y => (some (.int y.1), y.2))) : ∀ (f : Nat) (x1 : Int32) (x2 : Int32) (x3 : Int32) (σ : Mem), G l sc (D + 4) m_X8_best 43 [(0, .ref 77), (1, .int x1), (2, .int x2), (3, .int x3)] [] σ (f_X8_best_l43 n k31 f x1 x2 x3 σ) (fun y => (some (.int y.1), y.2)) := by
  intro f
  induction f with
  | zero => intro x1 x2 x3 σ; exact g_none
  | succ f ih => intro x1 x2 x3 σ; exact t_X8_best_b43 hk31 ih
set_option maxHeartbeats 4000000 in
set_option maxRecDepth 100000 in
theorem t_X8_best_b31 {l : Launch} {sc : Nat × (Nat → Int32)} {D : Nat} {n : Nat} {k31 : Int32 → Int32 → Mem → Option (Int32 × Mem)} {x1 : Int32} {x2 : Int32} {σ : Mem} (hk31 : ∀ x1 x2 σ, G l sc (D + 4) m_X8_best 31 [(0, .ref 77), (1, .int x1), (2, .int x2)] [] σ (k31 x1 x2 σ) (fun y => (some (.int y.1), y.2))) : G l sc (D + 4) m_X8_best 31 [(0, .ref 77), (1, .int x1), (2, .int x2)] [] σ (f_X8_best_b31 n k31 x1 x2 σ) (fun y => (some (.int y.1), y.2)) := by
  unfold f_X8_best_b31
  refine g_iload_n (n := 2) d_X8_best_31 rfl rfl ?_
  refine g_aload_n (n := 0) d_X8_best_32 rfl rfl ?_
  refine g_getr d_X8_best_33 fl_X8_22 sh_77 rfl ?_
  refine g_iconst (v := 4) d_X8_best_36 (by decide) ?_
  refine g_iaload d_X8_best_37 sh_82 (fun _ => ?_)
  refine g_icmp_gt (tgt := 131) d_X8_best_38 (by decide) (fun c1 => ?_) (fun c1 => ?_)
  · refine g_iload_n (n := 1) d_X8_best_131 rfl rfl ?_
    refine g_iconst (v := -1) d_X8_best_132 (by decide) ?_
    refine g_icmp_ne (tgt := 143) d_X8_best_133 (by decide) (fun c2 => ?_) (fun c2 => ?_)
    · refine g_iload_n (n := 1) d_X8_best_143 rfl rfl ?_
      refine g_bipush (v := -2) d_X8_best_144 (by decide) ?_
      refine g_icmp_ne (tgt := 156) d_X8_best_146 (by decide) (fun c3 => ?_) (fun c3 => ?_)
      · refine g_iload_n (n := 1) d_X8_best_156 rfl rfl ?_
        refine g_aload_n (n := 0) d_X8_best_157 rfl rfl ?_
        refine g_geti d_X8_best_158 fl_X8_171 sh_77 rfl ?_
        refine g_icmp_ge (tgt := 173) d_X8_best_161 (by decide) (fun c4 => ?_) (fun c4 => ?_)
        · refine g_ldc d_X8_best_173 kc_X8_167 ?_
          exact g_iret d_X8_best_175 (Or.inl rfl) rfl
        · refine g_aload_n (n := 0) d_X8_best_164 rfl rfl ?_
          refine g_getr d_X8_best_165 fl_X8_50 sh_77 rfl ?_
          refine g_iload_n (n := 1) d_X8_best_168 rfl rfl ?_
          refine g_iaload d_X8_best_169 sh_91 (fun _ => ?_)
          refine g_goto (tgt := 175) d_X8_best_170 (by decide) ?_
          exact g_iret d_X8_best_175 (Or.inl rfl) rfl
      · refine g_aload_n (n := 0) d_X8_best_149 rfl rfl ?_
        refine g_geti d_X8_best_150 fl_X8_171 sh_77 rfl ?_
        refine g_goto (tgt := 175) d_X8_best_153 (by decide) ?_
        exact g_iret d_X8_best_175 (Or.inl rfl) rfl
    · refine g_aload_n (n := 0) d_X8_best_136 rfl rfl ?_
      refine g_geti d_X8_best_137 fl_X8_168 sh_77 rfl ?_
      refine g_goto (tgt := 175) d_X8_best_140 (by decide) ?_
      exact g_iret d_X8_best_175 (Or.inl rfl) rfl
  · refine g_iconst (v := 0) d_X8_best_41 (by decide) ?_
    refine g_istore_n d_X8_best_42 rfl (by decide) rfl ?_
    refine g_sub [1, 2, 3, 0] rfl ?_
    exact t_X8_best_l43 hk31 _ _ _ _ _
set_option maxHeartbeats 4000000 in
set_option maxRecDepth 100000 in
theorem t_X8_best_l31 {l : Launch} {sc : Nat × (Nat → Int32)} {D : Nat} {n : Nat} : ∀ (f : Nat) (x1 : Int32) (x2 : Int32) (σ : Mem), G l sc (D + 4) m_X8_best 31 [(0, .ref 77), (1, .int x1), (2, .int x2)] [] σ (f_X8_best_l31 n f x1 x2 σ) (fun y => (some (.int y.1), y.2)) := by
  intro f
  induction f with
  | zero => intro x1 x2 σ; exact g_none
  | succ f ih => intro x1 x2 σ; exact t_X8_best_b31 ih
set_option maxHeartbeats 4000000 in
set_option maxRecDepth 100000 in
theorem t_X8_best {l : Launch} {sc : Nat × (Nat → Int32)} {D : Nat} {n : Nat} {x1 : Int32} {σ : Mem} : G l sc (D + 4) m_X8_best 0 [(0, .ref 77), (1, .int x1)] [] σ (f_X8_best n x1 σ) (fun y => (some (.int y.1), y.2)) := by
  unfold f_X8_best
  refine g_aload_n (n := 0) d_X8_best_0 rfl rfl ?_
  refine g_callv_pi (D := D + 3) (As := []) d_X8_best_1 sv_X8_164 ob_77 rfl (Nat.le_of_ble_eq_true rfl) rfl (fun _ hy => EvM_cast (by omega) (e_X8_isTown (D := D + 3) hy)) (fun y1 => ?_)
  refine g_if_ne (tgt := 10) d_X8_best_4 (by decide) (fun c2 => ?_) (fun c2 => ?_)
  · refine g_iload_n (n := 1) d_X8_best_10 rfl rfl ?_
    refine g_bipush (v := -2) d_X8_best_11 (by decide) ?_
    refine g_iconst (v := 5) d_X8_best_13 (by decide) ?_
    refine g_calls_pi (D := D + 3) (As := [.int x1, .int (-2), .int 5]) d_X8_best_14 ss_X8_59 rfl (Nat.le_of_ble_eq_true rfl) rfl (fun _ hy => EvM_cast (by omega) (e_X8_in (D := D + 3) hy)) (fun y3 => ?_)
    refine g_if_ne (tgt := 23) d_X8_best_17 (by decide) (fun c4 => ?_) (fun c4 => ?_)
    · refine g_aload_n (n := 0) d_X8_best_23 rfl rfl ?_
      refine g_iconst (v := 0) d_X8_best_24 (by decide) ?_
      refine g_iconst (v := 0) d_X8_best_25 (by decide) ?_
      refine g_callv_vv (D := D + 3) (As := [.int 0, .int 0]) d_X8_best_26 sv_X8_174 ob_77 rfl (Nat.le_of_ble_eq_true rfl) rfl (fun _ hy => EvM_cast (by omega) (e_X8_keepRow (D := D + 3) hy)) (fun σ6 => ?_)
      refine g_iconst (v := 1) d_X8_best_29 (by decide) ?_
      refine g_istore_n d_X8_best_30 rfl (by decide) rfl ?_
      refine g_sub [1, 2, 0] rfl ?_
      exact t_X8_best_l31  _ _ _ _
    · refine g_ldc d_X8_best_20 kc_X8_72 ?_
      exact g_iret d_X8_best_22 (Or.inl rfl) rfl
  · refine g_ldc d_X8_best_7 kc_X8_157 ?_
    exact g_iret d_X8_best_9 (Or.inl rfl) rfl
theorem e_X8_best {l : Launch} {D : Nat} {n : Nat} {x1 : Int32} {σ : Mem} {y : (Int32 × Mem)} (hy : f_X8_best n x1 σ = some y) : EvM l (D + 4) m_X8_best [.ref 77, .int x1] σ ((fun y => (some (.int y.1), y.2)) y) :=
  evM_of (d := m_X8_best) (nL := 4) rfl (by decide +kernel) (fun h => absurd (congrArg MethodName.cls h) (by decide +kernel)) (Nat.le_of_ble_eq_true rfl) (t_X8_best y hy)

set_option maxHeartbeats 4000000 in
set_option maxRecDepth 100000 in
theorem t_X8_soonest_b131 {l : Launch} {sc : Nat × (Nat → Int32)} {D : Nat} {n : Nat} {k65 : Int32 → Int32 → Int32 → Int32 → Int32 → Mem → Option (Int32 × Mem)} {x2 : Int32} {x3 : Int32} {x4 : Int32} {x5 : Int32} {x6 : Int32} {σ : Mem} (hk65 : ∀ x2 x3 x4 x5 x6 σ, G l sc (D + 4) m_X8_soonest 65 [(0, .ref 77), (2, .int x2), (3, .int x3), (4, .int x4), (5, .int x5), (6, .int x6)] [] σ (k65 x2 x3 x4 x5 x6 σ) (fun y => (some (.int y.1), y.2))) : G l sc (D + 4) m_X8_soonest 131 [(0, .ref 77), (2, .int x2), (3, .int x3), (4, .int x4), (5, .int x5), (6, .int x6)] [] σ (f_X8_soonest_b131 n k65 x2 x3 x4 x5 x6 σ) (fun y => (some (.int y.1), y.2)) := by
  unfold f_X8_soonest_b131
  refine g_iinc (n := 5) (w := 1) d_X8_soonest_131 rfl (by decide) (by decide) rfl ?_
  refine g_goto (tgt := 65) d_X8_soonest_134 (by decide) ?_
  refine g_sub [1, 2, 3, 4, 5, 0] rfl ?_
  exact hk65 _ _ _ _ _ _
set_option maxHeartbeats 4000000 in
set_option maxRecDepth 100000 in
theorem t_X8_soonest_b65 {l : Launch} {sc : Nat × (Nat → Int32)} {D : Nat} {n : Nat} {k65 : Int32 → Int32 → Int32 → Int32 → Int32 → Mem → Option (Int32 × Mem)} {x2 : Int32} {x3 : Int32} {x4 : Int32} {x5 : Int32} {x6 : Int32} {σ : Mem} (hk65 : ∀ x2 x3 x4 x5 x6 σ, G l sc (D + 4) m_X8_soonest 65 [(0, .ref 77), (2, .int x2), (3, .int x3), (4, .int x4), (5, .int x5), (6, .int x6)] [] σ (k65 x2 x3 x4 x5 x6 σ) (fun y => (some (.int y.1), y.2))) : G l sc (D + 4) m_X8_soonest 65 [(0, .ref 77), (2, .int x2), (3, .int x3), (4, .int x4), (5, .int x5), (6, .int x6)] [] σ (f_X8_soonest_b65 n k65 x2 x3 x4 x5 x6 σ) (fun y => (some (.int y.1), y.2)) := by
  unfold f_X8_soonest_b65
  refine g_iload (n := 5) d_X8_soonest_65 rfl ?_
  refine g_aload_n (n := 0) d_X8_soonest_67 rfl rfl ?_
  refine g_iload (n := 3) d_X8_soonest_68 rfl ?_
  refine g_callv_pi (D := D + 3) (As := [.int x4]) d_X8_soonest_70 sv_X8_178 ob_77 rfl (Nat.le_of_ble_eq_true rfl) rfl (fun _ hy => EvM_cast (by omega) (e_X8_rowsOf (D := D + 3) hy)) (fun y1 => ?_)
  refine g_icmp_ge (tgt := 137) d_X8_soonest_73 (by decide) (fun c2 => ?_) (fun c2 => ?_)
  · refine g_iload (n := 4) d_X8_soonest_137 rfl ?_
    refine g_sipush (v := 9999) d_X8_soonest_139 (by decide) ?_
    refine g_icmp_ne (tgt := 148) d_X8_soonest_142 (by decide) (fun c3 => ?_) (fun c3 => ?_)
    · refine g_iload_n (n := 1) d_X8_soonest_148 rfl rfl ?_
      refine g_iconst (v := -1) d_X8_soonest_149 (by decide) ?_
      refine g_icmp_ne (tgt := 158) d_X8_soonest_150 (by decide) (fun c4 => ?_) (fun c4 => ?_)
      · refine g_iload_n (n := 1) d_X8_soonest_158 rfl rfl ?_
        refine g_iload (n := 3) d_X8_soonest_159 rfl ?_
        refine g_icmp_ge (tgt := 173) d_X8_soonest_161 (by decide) (fun c5 => ?_) (fun c5 => ?_)
        · refine g_ldc d_X8_soonest_173 kc_X8_167 ?_
          exact g_iret d_X8_soonest_175 (Or.inl rfl) rfl
        · refine g_aload_n (n := 0) d_X8_soonest_164 rfl rfl ?_
          refine g_getr d_X8_soonest_165 fl_X8_50 sh_77 rfl ?_
          refine g_iload_n (n := 1) d_X8_soonest_168 rfl rfl ?_
          refine g_iaload d_X8_soonest_169 sh_91 (fun _ => ?_)
          refine g_goto (tgt := 175) d_X8_soonest_170 (by decide) ?_
          exact g_iret d_X8_soonest_175 (Or.inl rfl) rfl
      · refine g_iload (n := 4) d_X8_soonest_153 rfl ?_
        refine g_goto (tgt := 175) d_X8_soonest_155 (by decide) ?_
        exact g_iret d_X8_soonest_175 (Or.inl rfl) rfl
    · refine g_ldc d_X8_soonest_145 kc_X8_167 ?_
      exact g_iret d_X8_soonest_147 (Or.inl rfl) rfl
  · refine g_aload_n (n := 0) d_X8_soonest_76 rfl rfl ?_
    refine g_iload (n := 5) d_X8_soonest_77 rfl ?_
    refine g_iload (n := 3) d_X8_soonest_79 rfl ?_
    refine g_callv_ii (D := D + 3) (As := [.int x6, .int x4]) d_X8_soonest_81 sv_X8_181 ob_77 rfl (Nat.le_of_ble_eq_true rfl) rfl (fun _ hy => EvM_cast (by omega) (e_X8_layRow (D := D + 3) hy)) (fun y6 σ7 => ?_)
    refine g_iload_n (n := 2) d_X8_soonest_84 rfl rfl ?_
    refine g_icmp_ne (tgt := 131) d_X8_soonest_85 (by decide) (fun c8 => ?_) (fun c8 => ?_)
    · refine g_sub [0, 1, 2, 3, 4, 5] rfl ?_
      exact t_X8_soonest_b131 hk65
    · refine g_aload_n (n := 0) d_X8_soonest_88 rfl rfl ?_
      refine g_callv_vv (D := D + 3) (As := []) d_X8_soonest_89 sv_X8_188 ob_77 rfl (Nat.le_of_ble_eq_true rfl) rfl (fun _ hy => EvM_cast (by omega) (e_X8_begin (D := D + 2) hy)) (fun σ10 => ?_)
      refine g_aload_n (n := 0) d_X8_soonest_92 rfl rfl ?_
      refine g_aload_n (n := 0) d_X8_soonest_93 rfl rfl ?_
      refine g_getr d_X8_soonest_94 fl_X8_47 sh_77 rfl ?_
      refine g_iload (n := 3) d_X8_soonest_97 rfl ?_
      refine g_callv_ii (D := D + 3) (As := [.ref 90, .int x4]) d_X8_soonest_99 sv_X8_191 ob_77 rfl (Nat.le_of_ble_eq_true rfl) rfl (fun _ hy => EvM_cast (by omega) (e_X8_goesOn (D := D + 0) hy)) (fun y11 σ12 => ?_)
      refine g_if_eq (tgt := 131) d_X8_soonest_102 (by decide) (fun c13 => ?_) (fun c13 => ?_)
      · refine g_sub [0, 1, 2, 3, 4, 5] rfl ?_
        exact t_X8_soonest_b131 hk65
      · refine g_aload_n (n := 0) d_X8_soonest_105 rfl rfl ?_
        refine g_getr d_X8_soonest_106 fl_X8_28 sh_77 rfl ?_
        refine g_iconst (v := 1) d_X8_soonest_109 (by decide) ?_
        refine g_iaload d_X8_soonest_110 sh_84 (fun _ => ?_)
        refine g_iload (n := 4) d_X8_soonest_111 rfl ?_
        refine g_icmp_ge (tgt := 131) d_X8_soonest_113 (by decide) (fun c14 => ?_) (fun c14 => ?_)
        · refine g_sub [0, 1, 2, 3, 4, 5] rfl ?_
          exact t_X8_soonest_b131 hk65
        · refine g_aload_n (n := 0) d_X8_soonest_116 rfl rfl ?_
          refine g_getr d_X8_soonest_117 fl_X8_28 sh_77 rfl ?_
          refine g_iconst (v := 1) d_X8_soonest_120 (by decide) ?_
          refine g_iaload d_X8_soonest_121 sh_84 (fun _ => ?_)
          refine g_nm (fun y15 => ?_)
          refine g_istore d_X8_soonest_122 (by decide) rfl ?_
          refine g_aload_n (n := 1) d_X8_soonest_124 rfl rfl ?_
          refine g_iconst (v := 0) d_X8_soonest_125 (by decide) ?_
          refine g_iload (n := 4) d_X8_soonest_126 rfl ?_
          refine g_callv_vv (D := D + 3) (As := [.int 0, .int x4]) d_X8_soonest_128 sv_X8_174 ob_77 rfl (Nat.le_of_ble_eq_true rfl) rfl (fun _ hy => EvM_cast (by omega) (e_X8_keepRow (D := D + 3) hy)) (fun σ17 => ?_)
          refine g_sub [1, 2, 3, 4, 0, 5] rfl ?_
          exact t_X8_soonest_b131 hk65
set_option maxHeartbeats 4000000 in
set_option maxRecDepth 100000 in
theorem t_X8_soonest_l65 {l : Launch} {sc : Nat × (Nat → Int32)} {D : Nat} {n : Nat} : ∀ (f : Nat) (x2 : Int32) (x3 : Int32) (x4 : Int32) (x5 : Int32) (x6 : Int32) (σ : Mem), G l sc (D + 4) m_X8_soonest 65 [(0, .ref 77), (2, .int x2), (3, .int x3), (4, .int x4), (5, .int x5), (6, .int x6)] [] σ (f_X8_soonest_l65 n f x2 x3 x4 x5 x6 σ) (fun y => (some (.int y.1), y.2)) := by
  intro f
  induction f with
  | zero => intro x2 x3 x4 x5 x6 σ; exact g_none
  | succ f ih => intro x2 x3 x4 x5 x6 σ; exact t_X8_soonest_b65 ih
set_option maxHeartbeats 4000000 in
set_option maxRecDepth 100000 in
theorem t_X8_soonest {l : Launch} {sc : Nat × (Nat → Int32)} {D : Nat} {n : Nat} {x1 : Int32} {x2 : Int32} {σ : Mem} : G l sc (D + 4) m_X8_soonest 0 [(0, .ref 77), (1, .int x1), (2, .int x2)] [] σ (f_X8_soonest n x1 x2 σ) (fun y => (some (.int y.1), y.2)) := by
  unfold f_X8_soonest
  refine g_aload_n (n := 0) d_X8_soonest_0 rfl rfl ?_
  refine g_callv_pi (D := D + 3) (As := []) d_X8_soonest_1 sv_X8_164 ob_77 rfl (Nat.le_of_ble_eq_true rfl) rfl (fun _ hy => EvM_cast (by omega) (e_X8_isTown (D := D + 3) hy)) (fun y1 => ?_)
  refine g_if_ne (tgt := 10) d_X8_soonest_4 (by decide) (fun c2 => ?_) (fun c2 => ?_)
  · refine g_iload_n (n := 1) d_X8_soonest_10 rfl rfl ?_
    refine g_iconst (v := 0) d_X8_soonest_11 (by decide) ?_
    refine g_iconst (v := 1) d_X8_soonest_12 (by decide) ?_
    refine g_aload_n (n := 0) d_X8_soonest_13 rfl rfl ?_
    refine g_getr d_X8_soonest_14 fl_X8_22 sh_77 rfl ?_
    refine g_iconst (v := 4) d_X8_soonest_17 (by decide) ?_
    refine g_iaload d_X8_soonest_18 sh_82 (fun _ => ?_)
    refine g_ishl d_X8_soonest_19 ?_
    refine g_iconst (v := 1) d_X8_soonest_20 (by decide) ?_
    refine g_isub d_X8_soonest_21 ?_
    refine g_calls_pi (D := D + 3) (As := [.int x1, .int 0, .int ((1 <<< ((σ 82 (4 : Int32).toNatClampNeg) &&& 31)) - 1)]) d_X8_soonest_22 ss_X8_59 rfl (Nat.le_of_ble_eq_true rfl) rfl (fun _ hy => EvM_cast (by omega) (e_X8_in (D := D + 3) hy)) (fun y3 => ?_)
    refine g_if_eq (tgt := 37) d_X8_soonest_25 (by decide) (fun c4 => ?_) (fun c4 => ?_)
    · refine g_ldc d_X8_soonest_37 kc_X8_72 ?_
      exact g_iret d_X8_soonest_39 (Or.inl rfl) rfl
    · refine g_iload_n (n := 2) d_X8_soonest_28 rfl rfl ?_
      refine g_iconst (v := -1) d_X8_soonest_29 (by decide) ?_
      refine g_iconst (v := 5) d_X8_soonest_30 (by decide) ?_
      refine g_calls_pi (D := D + 3) (As := [.int x2, .int (-1), .int 5]) d_X8_soonest_31 ss_X8_59 rfl (Nat.le_of_ble_eq_true rfl) rfl (fun _ hy => EvM_cast (by omega) (e_X8_in (D := D + 3) hy)) (fun y5 => ?_)
      refine g_if_ne (tgt := 40) d_X8_soonest_34 (by decide) (fun c6 => ?_) (fun c6 => ?_)
      · refine g_iload_n (n := 1) d_X8_soonest_40 rfl rfl ?_
        refine g_aload_n (n := 0) d_X8_soonest_41 rfl rfl ?_
        refine g_getr d_X8_soonest_42 fl_X8_22 sh_77 rfl ?_
        refine g_iconst (v := 2) d_X8_soonest_45 (by decide) ?_
        refine g_iaload d_X8_soonest_46 sh_82 (fun _ => ?_)
        refine g_iconst (v := -1) d_X8_soonest_47 (by decide) ?_
        refine g_ixor d_X8_soonest_48 ?_
        refine g_iand d_X8_soonest_49 ?_
        refine g_nm (fun y7 => ?_)
        refine g_istore_n d_X8_soonest_50 rfl (by decide) rfl ?_
        refine g_iload_n (n := 0) d_X8_soonest_51 rfl rfl ?_
        refine g_calls_pi (D := D + 3) (As := [.int y7]) d_X8_soonest_52 ss_X8_185 rfl (Nat.le_of_ble_eq_true rfl) rfl (fun _ hy => EvM_cast (by omega) (e_X8_bits (D := D + 3) hy)) (fun y8 => ?_)
        refine g_istore d_X8_soonest_55 (by decide) rfl ?_
        refine g_sipush (v := 9999) d_X8_soonest_57 (by decide) ?_
        refine g_istore d_X8_soonest_60 (by decide) rfl ?_
        refine g_iconst (v := 0) d_X8_soonest_62 (by decide) ?_
        refine g_istore d_X8_soonest_63 (by decide) rfl ?_
        refine g_sub [4, 6, 3, 2, 1, 0] rfl ?_
        exact t_X8_soonest_l65  _ _ _ _ _ _ _
      · refine g_ldc d_X8_soonest_37 kc_X8_72 ?_
        exact g_iret d_X8_soonest_39 (Or.inl rfl) rfl
  · refine g_ldc d_X8_soonest_7 kc_X8_157 ?_
    exact g_iret d_X8_soonest_9 (Or.inl rfl) rfl
theorem e_X8_soonest {l : Launch} {D : Nat} {n : Nat} {x1 : Int32} {x2 : Int32} {σ : Mem} {y : (Int32 × Mem)} (hy : f_X8_soonest n x1 x2 σ = some y) : EvM l (D + 4) m_X8_soonest [.ref 77, .int x1, .int x2] σ ((fun y => (some (.int y.1), y.2)) y) :=
  evM_of (d := m_X8_soonest) (nL := 7) rfl (by decide +kernel) (fun h => absurd (congrArg MethodName.cls h) (by decide +kernel)) (Nat.le_of_ble_eq_true rfl) (t_X8_soonest y hy)
