set_option maxHeartbeats 4000000 in
set_option maxRecDepth 100000 in
theorem t_X6_canHave {l : Launch} {sc : Nat × (Nat → Int32)} {D : Nat} {σ : Mem} {t : Nat} {x1 : Int32} : G l sc (D + 2) m_X6_canHave 0 [(0, .ref t), (1, .int x1)] [] σ (f_X6_canHave σ t x1) (fun y => (some (.int y), σ)) := by
  unfold f_X6_canHave
  refine g_aload_n (n := 0) d_X6_canHave_0 rfl rfl ?_
  refine g_iload_n (n := 1) d_X6_canHave_1 rfl rfl ?_
  refine g_guard (fun h1 => ?_)
  refine g_callv_pi (D := D + 1) (As := [.int x1]) d_X6_canHave_2 sv_X6_63 (ob_town h1) rfl (Nat.le_of_ble_eq_true rfl) rfl (fun _ hy => EvM_cast (by omega) (e_X6_has (D := D + 1) hy)) (fun y2 => ?_)
  refine g_if_eq (tgt := 32) d_X6_canHave_5 (by decide) (fun c3 => ?_) (fun c3 => ?_)
  · refine g_iconst (v := 0) d_X6_canHave_32 (by decide) ?_
    exact g_iret d_X6_canHave_33 (Or.inr ⟨rfl, rfl⟩) rfl
  · refine g_aload_n (n := 0) d_X6_canHave_8 rfl rfl ?_
    refine g_iload_n (n := 1) d_X6_canHave_9 rfl rfl ?_
    refine g_callv_pi (D := D + 1) (As := [.int x1]) d_X6_canHave_10 sv_X6_67 (ob_town h1) rfl (Nat.le_of_ble_eq_true rfl) rfl (fun _ hy => EvM_cast (by omega) (e_X6_hasRead (D := D + 1) hy)) (fun y4 => ?_)
    refine g_if_ne (tgt := 32) d_X6_canHave_13 (by decide) (fun c5 => ?_) (fun c5 => ?_)
    · refine g_iconst (v := 0) d_X6_canHave_32 (by decide) ?_
      exact g_iret d_X6_canHave_33 (Or.inr ⟨rfl, rfl⟩) rfl
    · refine g_aload_n (n := 0) d_X6_canHave_16 rfl rfl ?_
      refine g_iload_n (n := 1) d_X6_canHave_17 rfl rfl ?_
      refine g_callv_pi (D := D + 1) (As := [.int x1]) d_X6_canHave_18 sv_X6_70 (ob_town h1) rfl (Nat.le_of_ble_eq_true rfl) rfl (fun _ hy => EvM_cast (by omega) (e_X6_comes (D := D + 0) hy)) (fun y6 => ?_)
      refine g_aload_n (n := 0) d_X6_canHave_21 rfl rfl ?_
      refine g_geti d_X6_canHave_22 fl_X6_35 (shp_town h1).1 rfl ?_
      refine g_icmp_gt (tgt := 32) d_X6_canHave_25 (by decide) (fun c7 => ?_) (fun c7 => ?_)
      · refine g_iconst (v := 0) d_X6_canHave_32 (by decide) ?_
        exact g_iret d_X6_canHave_33 (Or.inr ⟨rfl, rfl⟩) rfl
      · refine g_iconst (v := 1) d_X6_canHave_28 (by decide) ?_
        refine g_goto (tgt := 33) d_X6_canHave_29 (by decide) ?_
        exact g_iret d_X6_canHave_33 (Or.inr ⟨rfl, rfl⟩) rfl
theorem e_X6_canHave {l : Launch} {D : Nat} {σ : Mem} {t : Nat} {x1 : Int32} {y : Int32} (hy : f_X6_canHave σ t x1 = some y) : EvM l (D + 2) m_X6_canHave [.ref t, .int x1] σ ((fun y => (some (.int y), σ)) y) :=
  evM_of (d := m_X6_canHave) (nL := 2) rfl (by decide +kernel) (fun h => absurd (congrArg MethodName.cls h) (by decide +kernel)) (Nat.le_of_ble_eq_true rfl) (t_X6_canHave y hy)

set_option maxHeartbeats 4000000 in
set_option maxRecDepth 100000 in
theorem t_X6_neighbours_b35 {l : Launch} {sc : Nat × (Nat → Int32)} {D : Nat} {n : Nat} {σ : Mem} {k4 : Nat → Int32 → Int32 → Int32 → Option Int32} {x0 : Nat} {x1 : Int32} {x2 : Int32} {x3 : Int32} (hk4 : ∀ x0 x1 x2 x3, G l sc (D + 0) m_X6_neighbours 4 [(0, .ref x0), (1, .int x1), (2, .int x2), (3, .int x3)] [] σ (k4 x0 x1 x2 x3) (fun y => (some (.int y), σ))) : G l sc (D + 0) m_X6_neighbours 35 [(0, .ref x0), (1, .int x1), (2, .int x2), (3, .int x3)] [] σ (f_X6_neighbours_b35 n σ k4 x0 x1 x2 x3) (fun y => (some (.int y), σ)) := by
  unfold f_X6_neighbours_b35
  refine g_iinc (n := 3) (w := 1) d_X6_neighbours_35 rfl (by decide) (by decide) rfl ?_
  refine g_goto (tgt := 4) d_X6_neighbours_38 (by decide) ?_
  refine g_sub [1, 2, 3, 0] rfl ?_
  exact hk4 _ _ _ _
set_option maxHeartbeats 4000000 in
set_option maxRecDepth 100000 in
theorem t_X6_neighbours_b4 {l : Launch} {sc : Nat × (Nat → Int32)} {D : Nat} {n : Nat} {σ : Mem} {k4 : Nat → Int32 → Int32 → Int32 → Option Int32} {x0 : Nat} {x1 : Int32} {x2 : Int32} {x3 : Int32} (hk4 : ∀ x0 x1 x2 x3, G l sc (D + 0) m_X6_neighbours 4 [(0, .ref x0), (1, .int x1), (2, .int x2), (3, .int x3)] [] σ (k4 x0 x1 x2 x3) (fun y => (some (.int y), σ))) : G l sc (D + 0) m_X6_neighbours 4 [(0, .ref x0), (1, .int x1), (2, .int x2), (3, .int x3)] [] σ (f_X6_neighbours_b4 n σ k4 x0 x1 x2 x3) (fun y => (some (.int y), σ)) := by
  unfold f_X6_neighbours_b4
  refine g_iload_n (n := 3) d_X6_neighbours_4 rfl rfl ?_
  refine g_aload_n (n := 0) d_X6_neighbours_5 rfl rfl ?_
  refine g_guard (fun h1 => ?_)
  refine g_geti d_X6_neighbours_6 fl_X6_38 (shp_town h1).1 rfl ?_
  refine g_icmp_ge (tgt := 41) d_X6_neighbours_9 (by decide) (fun c2 => ?_) (fun c2 => ?_)
  · refine g_iload_n (n := 2) d_X6_neighbours_41 rfl rfl ?_
    exact g_iret d_X6_neighbours_42 (Or.inl rfl) rfl
  · refine g_iload_n (n := 3) d_X6_neighbours_12 rfl rfl ?_
    refine g_iload_n (n := 1) d_X6_neighbours_13 rfl rfl ?_
    refine g_icmp_eq (tgt := 35) d_X6_neighbours_14 (by decide) (fun c3 => ?_) (fun c3 => ?_)
    · refine g_sub [0, 1, 2, 3] rfl ?_
      exact t_X6_neighbours_b35 hk4
    · refine g_aload_n (n := 0) d_X6_neighbours_17 rfl rfl ?_
      refine g_getr d_X6_neighbours_18 fl_X6_15 (shp_town h1).1 rfl ?_
      refine g_iload_n (n := 3) d_X6_neighbours_21 rfl rfl ?_
      refine g_iaload d_X6_neighbours_22 (shp_town h1).2.2.1 (fun _ => ?_)
      refine g_aload_n (n := 0) d_X6_neighbours_23 rfl rfl ?_
      refine g_getr d_X6_neighbours_24 fl_X6_15 (shp_town h1).1 rfl ?_
      refine g_iload_n (n := 1) d_X6_neighbours_27 rfl rfl ?_
      refine g_iaload d_X6_neighbours_28 (shp_town h1).2.2.1 (fun _ => ?_)
      refine g_icmp_ne (tgt := 35) d_X6_neighbours_29 (by decide) (fun c4 => ?_) (fun c4 => ?_)
      · refine g_sub [0, 1, 2, 3] rfl ?_
        exact t_X6_neighbours_b35 hk4
      · refine g_iinc (n := 2) (w := 1) d_X6_neighbours_32 rfl (by decide) (by decide) rfl ?_
        refine g_sub [1, 2, 0, 3] rfl ?_
        exact t_X6_neighbours_b35 hk4
set_option maxHeartbeats 4000000 in
set_option maxRecDepth 100000 in
theorem t_X6_neighbours_l4 {l : Launch} {sc : Nat × (Nat → Int32)} {D : Nat} {n : Nat} {σ : Mem} : ∀ (f : Nat) (x0 : Nat) (x1 : Int32) (x2 : Int32) (x3 : Int32), G l sc (D + 0) m_X6_neighbours 4 [(0, .ref x0), (1, .int x1), (2, .int x2), (3, .int x3)] [] σ (f_X6_neighbours_l4 n σ f x0 x1 x2 x3) (fun y => (some (.int y), σ)) := by
  intro f
  induction f with
  | zero => intro x0 x1 x2 x3; exact g_none
  | succ f ih => intro x0 x1 x2 x3; exact t_X6_neighbours_b4 ih
set_option maxHeartbeats 4000000 in
set_option maxRecDepth 100000 in
theorem t_X6_neighbours {l : Launch} {sc : Nat × (Nat → Int32)} {D : Nat} {n : Nat} {σ : Mem} {t : Nat} {x1 : Int32} : G l sc (D + 0) m_X6_neighbours 0 [(0, .ref t), (1, .int x1)] [] σ (f_X6_neighbours n σ t x1) (fun y => (some (.int y), σ)) := by
  unfold f_X6_neighbours
  refine g_iconst (v := 0) d_X6_neighbours_0 (by decide) ?_
  refine g_istore_n d_X6_neighbours_1 rfl (by decide) rfl ?_
  refine g_iconst (v := 0) d_X6_neighbours_2 (by decide) ?_
  refine g_istore_n d_X6_neighbours_3 rfl (by decide) rfl ?_
  refine g_sub [2, 3, 1, 0] rfl ?_
  exact t_X6_neighbours_l4  _ _ _ _ _
theorem e_X6_neighbours {l : Launch} {D : Nat} {n : Nat} {σ : Mem} {t : Nat} {x1 : Int32} {y : Int32} (hy : f_X6_neighbours n σ t x1 = some y) : EvM l (D + 0) m_X6_neighbours [.ref t, .int x1] σ ((fun y => (some (.int y), σ)) y) :=
  evM_of (d := m_X6_neighbours) (nL := 4) rfl (by decide +kernel) (fun h => absurd (congrArg MethodName.cls h) (by decide +kernel)) (Nat.le_of_ble_eq_true rfl) (t_X6_neighbours y hy)

set_option maxHeartbeats 4000000 in
set_option maxRecDepth 100000 in
theorem t_X6_brings {l : Launch} {sc : Nat × (Nat → Int32)} {D : Nat} {n : Nat} {σ : Mem} {t : Nat} {x1 : Int32} : G l sc (D + 2) m_X6_brings 0 [(0, .ref t), (1, .int x1)] [] σ (f_X6_brings n σ t x1) (fun y => (some (.int y), σ)) := by
  unfold f_X6_brings
  refine g_iconst (v := 0) d_X6_brings_0 (by decide) ?_
  refine g_aload_n (n := 0) d_X6_brings_1 rfl rfl ?_
  refine g_guard (fun h1 => ?_)
  refine g_getr d_X6_brings_2 fl_X6_18 (shp_town h1).1 rfl ?_
  refine g_iload_n (n := 1) d_X6_brings_5 rfl rfl ?_
  refine g_iaload d_X6_brings_6 (shp_town h1).2.2.2.1 (fun _ => ?_)
  refine g_aload_n (n := 0) d_X6_brings_7 rfl rfl ?_
  refine g_iload_n (n := 1) d_X6_brings_8 rfl rfl ?_
  refine g_callv_pi (D := D + 1) (As := [.int x1]) d_X6_brings_9 sv_X6_70 (ob_town h1) rfl (Nat.le_of_ble_eq_true rfl) rfl (fun _ hy => EvM_cast (by omega) (e_X6_comes (D := D + 0) hy)) (fun y2 => ?_)
  refine g_aload_n (n := 0) d_X6_brings_12 rfl rfl ?_
  refine g_getr d_X6_brings_13 fl_X6_21 (shp_town h1).1 rfl ?_
  refine g_iload_n (n := 1) d_X6_brings_16 rfl rfl ?_
  refine g_iaload d_X6_brings_17 (shp_town h1).2.2.2.2 (fun _ => ?_)
  refine g_imul d_X6_brings_18 ?_
  refine g_isub d_X6_brings_19 ?_
  refine g_max (D := D + 1) d_X6_brings_20 ma_X6_79 (Nat.le_of_ble_eq_true rfl) ?_
  refine g_nm (fun y3 => ?_)
  refine g_istore_n d_X6_brings_23 rfl (by decide) rfl ?_
  refine g_aload_n (n := 1) d_X6_brings_24 rfl rfl ?_
  refine g_getr d_X6_brings_25 fl_X6_9 (shp_town h1).1 rfl ?_
  refine g_iload_n (n := 2) d_X6_brings_28 rfl rfl ?_
  refine g_iaload d_X6_brings_29 (shp_town h1).2.1 (fun _ => ?_)
  refine g_nm (fun y4 => ?_)
  refine g_if (fun c5 => ?_) (fun c5 => ?_)
  · refine g_tabIn (tgt := 56) d_X6_brings_30 (by rw [c5]; decide) (by rw [c5]; decide) (by rw [c5]; rfl) (by decide) ?_
    refine g_iload_n (n := 0) d_X6_brings_56 rfl rfl ?_
    exact g_iret d_X6_brings_57 (Or.inl rfl) rfl
  refine g_if (fun c6 => ?_) (fun c6 => ?_)
  · refine g_tabIn (tgt := 58) d_X6_brings_30 (by rw [c6]; decide) (by rw [c6]; decide) (by rw [c6]; rfl) (by decide) ?_
    refine g_aload_n (n := 1) d_X6_brings_58 rfl rfl ?_
    refine g_geti d_X6_brings_59 fl_X6_53 (shp_town h1).1 rfl ?_
    refine g_if_ne (tgt := 69) d_X6_brings_62 (by decide) (fun c7 => ?_) (fun c7 => ?_)
    · refine g_iconst (v := 0) d_X6_brings_69 (by decide) ?_
      exact g_iret d_X6_brings_70 (Or.inl rfl) rfl
    · refine g_iload_n (n := 0) d_X6_brings_65 rfl rfl ?_
      refine g_goto (tgt := 70) d_X6_brings_66 (by decide) ?_
      exact g_iret d_X6_brings_70 (Or.inl rfl) rfl
  refine g_if (fun c8 => ?_) (fun c8 => ?_)
  · refine g_tabIn (tgt := 71) d_X6_brings_30 (by rw [c8]; decide) (by rw [c8]; decide) (by rw [c8]; rfl) (by decide) ?_
    refine g_iload_n (n := 0) d_X6_brings_71 rfl rfl ?_
    refine g_aload_n (n := 1) d_X6_brings_72 rfl rfl ?_
    refine g_iload_n (n := 2) d_X6_brings_73 rfl rfl ?_
    refine g_callv_pi (D := D + 1) (As := [.int x1]) d_X6_brings_74 sv_X6_83 (ob_town h1) rfl (Nat.le_of_ble_eq_true rfl) rfl (fun _ hy => EvM_cast (by omega) (e_X6_neighbours (D := D + 1) hy)) (fun y9 => ?_)
    refine g_iadd d_X6_brings_77 ?_
    exact g_iret d_X6_brings_78 (Or.inl rfl) rfl
  refine g_tabOut (tgt := 79) d_X6_brings_30 (by have := lv_neT (a := 1) c5 rfl; have := lv_neT (a := 2) c6 rfl; have := lv_neT (a := 3) c8 rfl; omega) (by decide) ?_
  refine g_aload_n (n := 1) d_X6_brings_79 rfl rfl ?_
  refine g_getr d_X6_brings_80 fl_X6_18 (shp_town h1).1 rfl ?_
  refine g_iload_n (n := 2) d_X6_brings_83 rfl rfl ?_
  refine g_iaload d_X6_brings_84 (shp_town h1).2.2.2.1 (fun _ => ?_)
  exact g_iret d_X6_brings_85 (Or.inl rfl) rfl
theorem e_X6_brings {l : Launch} {D : Nat} {n : Nat} {σ : Mem} {t : Nat} {x1 : Int32} {y : Int32} (hy : f_X6_brings n σ t x1 = some y) : EvM l (D + 2) m_X6_brings [.ref t, .int x1] σ ((fun y => (some (.int y), σ)) y) :=
  evM_of (d := m_X6_brings) (nL := 3) rfl (by decide +kernel) (fun h => absurd (congrArg MethodName.cls h) (by decide +kernel)) (Nat.le_of_ble_eq_true rfl) (t_X6_brings y hy)

set_option maxHeartbeats 4000000 in
set_option maxRecDepth 100000 in
theorem t_X6_hand_b26 {l : Launch} {sc : Nat × (Nat → Int32)} {D : Nat} {n : Nat} {x0 : Nat} {x1 : Int32} {x2 : Int32} {s0 : Int32} {s1 : Int32} {σ : Mem} : G l sc (D + 3) m_X6_hand 26 [(0, .ref x0), (1, .int x1), (2, .int x2)] [.int s0, .int s1] σ (f_X6_hand_b26 n x0 x1 x2 s0 s1 σ) (fun y => (some (.int y.1), y.2)) := by
  unfold f_X6_hand_b26
  refine g_iadd d_X6_hand_26 ?_
  refine g_nm (fun y1 => ?_)
  refine g_istore_n d_X6_hand_27 rfl (by decide) rfl ?_
  refine g_aload_n (n := 1) d_X6_hand_28 rfl rfl ?_
  refine g_aload_n (n := 1) d_X6_hand_29 rfl rfl ?_
  refine g_guard (fun h2 => ?_)
  refine g_getr d_X6_hand_30 fl_X6_15 (shp_town h2).1 rfl ?_
  refine g_iload_n (n := 2) d_X6_hand_33 rfl rfl ?_
  refine g_iaload d_X6_hand_34 (shp_town h2).2.2.1 (fun _ => ?_)
  refine g_iload_n (n := 0) d_X6_hand_35 rfl rfl ?_
  refine g_aload_n (n := 1) d_X6_hand_36 rfl rfl ?_
  refine g_geti d_X6_hand_37 fl_X6_53 (shp_town h2).1 rfl ?_
  refine g_iconst (v := 1) d_X6_hand_40 (by decide) ?_
  refine g_iload_n (n := 2) d_X6_hand_41 rfl rfl ?_
  refine g_ishl d_X6_hand_42 ?_
  refine g_ior d_X6_hand_43 ?_
  refine g_aload_n (n := 1) d_X6_hand_44 rfl rfl ?_
  refine g_geti d_X6_hand_45 fl_X6_56 (shp_town h2).1 rfl ?_
  refine g_iload_n (n := 3) d_X6_hand_48 rfl rfl ?_
  refine g_iadd d_X6_hand_49 ?_
  refine g_callv_vv (D := D + 2) (As := [.int (σ (x0 + 2) x1.toNatClampNeg), .int y1, .int ((σ x0 11) ||| (1 <<< (x1 &&& 31))), .int ((σ x0 12) + x2)]) d_X6_hand_50 sv_X6_59 (ob_town h2) rfl (Nat.le_of_ble_eq_true rfl) rfl (fun _ hy => EvM_cast (by omega) (e_X6_copyStands (D := D + 2) hy)) (fun σ4 => ?_)
  refine g_iload_n (n := 3) d_X6_hand_53 rfl rfl ?_
  exact g_iret d_X6_hand_54 (Or.inl rfl) rfl
set_option maxHeartbeats 4000000 in
set_option maxRecDepth 100000 in
theorem t_X6_hand {l : Launch} {sc : Nat × (Nat → Int32)} {D : Nat} {n : Nat} {t : Nat} {x1 : Int32} {σ : Mem} : G l sc (D + 3) m_X6_hand 0 [(0, .ref t), (1, .int x1)] [] σ (f_X6_hand n t x1 σ) (fun y => (some (.int y.1), y.2)) := by
  unfold f_X6_hand
  refine g_aload_n (n := 0) d_X6_hand_0 rfl rfl ?_
  refine g_iload_n (n := 1) d_X6_hand_1 rfl rfl ?_
  refine g_guard (fun h1 => ?_)
  refine g_callv_pi (D := D + 2) (As := [.int x1]) d_X6_hand_2 sv_X6_86 (ob_town h1) rfl (Nat.le_of_ble_eq_true rfl) rfl (fun _ hy => EvM_cast (by omega) (e_X6_brings (D := D + 0) hy)) (fun y2 => ?_)
  refine g_istore_n d_X6_hand_5 rfl (by decide) rfl ?_
  refine g_aload_n (n := 1) d_X6_hand_6 rfl rfl ?_
  refine g_iload_n (n := 2) d_X6_hand_7 rfl rfl ?_
  refine g_callv_pi (D := D + 2) (As := [.int x1]) d_X6_hand_8 sv_X6_70 (ob_town h1) rfl (Nat.le_of_ble_eq_true rfl) rfl (fun _ hy => EvM_cast (by omega) (e_X6_comes (D := D + 1) hy)) (fun y3 => ?_)
  refine g_aload_n (n := 1) d_X6_hand_11 rfl rfl ?_
  refine g_getr d_X6_hand_12 fl_X6_9 (shp_town h1).1 rfl ?_
  refine g_iload_n (n := 2) d_X6_hand_15 rfl rfl ?_
  refine g_iaload d_X6_hand_16 (shp_town h1).2.1 (fun _ => ?_)
  refine g_iconst (v := 5) d_X6_hand_17 (by decide) ?_
  refine g_icmp_ne (tgt := 25) d_X6_hand_18 (by decide) (fun c4 => ?_) (fun c4 => ?_)
  · refine g_iconst (v := 1) d_X6_hand_25 (by decide) ?_
    refine g_sub [1, 2, 0] rfl ?_
    exact t_X6_hand_b26 
  · refine g_iconst (v := 2) d_X6_hand_21 (by decide) ?_
    refine g_goto (tgt := 26) d_X6_hand_22 (by decide) ?_
    refine g_sub [1, 2, 0] rfl ?_
    exact t_X6_hand_b26 
theorem e_X6_hand {l : Launch} {D : Nat} {n : Nat} {t : Nat} {x1 : Int32} {σ : Mem} {y : (Int32 × Mem)} (hy : f_X6_hand n t x1 σ = some y) : EvM l (D + 3) m_X6_hand [.ref t, .int x1] σ ((fun y => (some (.int y.1), y.2)) y) :=
  evM_of (d := m_X6_hand) (nL := 4) rfl (by decide +kernel) (fun h => absurd (congrArg MethodName.cls h) (by decide +kernel)) (Nat.le_of_ble_eq_true rfl) (t_X6_hand y hy)

set_option maxHeartbeats 4000000 in
set_option maxRecDepth 100000 in
theorem t_X3_tryRows_b106 {l : Launch} {sc : Nat × (Nat → Int32)} {D : Nat} {n : Nat} {self : Int32 → Mem → Option Mem} {k43 : Int32 → Int32 → Int32 → Int32 → Int32 → Int32 → Mem → Option Mem} {x1 : Int32} {x3 : Int32} {x4 : Int32} {x5 : Int32} {x6 : Int32} {x7 : Int32} {σ : Mem} (hself : ∀ x1' σ' y, self x1' σ' = some y → EvM l (D + 3) m_X3_tryRows [.ref 61, .int x1'] σ' ((fun τ => (none, τ)) y)) (hk43 : ∀ x1 x3 x4 x5 x6 x7 σ, G l sc (D + 4) m_X3_tryRows 43 [(0, .ref 61), (1, .int x1), (2, .ref 62), (3, .int x3), (4, .int x4), (5, .int x5), (6, .int x6), (7, .int x7)] [] σ (k43 x1 x3 x4 x5 x6 x7 σ) (fun τ => (none, τ))) : G l sc (D + 4) m_X3_tryRows 106 [(0, .ref 61), (1, .int x1), (2, .ref 62), (3, .int x3), (4, .int x4), (5, .int x5), (6, .int x6), (7, .int x7)] [] σ (f_X3_tryRows_b106 n self k43 x1 x3 x4 x5 x6 x7 σ) (fun τ => (none, τ)) := by
  unfold f_X3_tryRows_b106
  refine g_iinc (n := 7) (w := 1) d_X3_tryRows_106 rfl (by decide) (by decide) rfl ?_
  refine g_goto (tgt := 43) d_X3_tryRows_109 (by decide) ?_
  refine g_sub [1, 2, 3, 4, 5, 6, 7, 0] rfl ?_
  exact hk43 _ _ _ _ _ _ _
set_option maxHeartbeats 4000000 in
set_option maxRecDepth 100000 in
theorem t_X3_tryRows_b43 {l : Launch} {sc : Nat × (Nat → Int32)} {D : Nat} {n : Nat} {self : Int32 → Mem → Option Mem} {k43 : Int32 → Int32 → Int32 → Int32 → Int32 → Int32 → Mem → Option Mem} {x1 : Int32} {x3 : Int32} {x4 : Int32} {x5 : Int32} {x6 : Int32} {x7 : Int32} {σ : Mem} (hself : ∀ x1' σ' y, self x1' σ' = some y → EvM l (D + 3) m_X3_tryRows [.ref 61, .int x1'] σ' ((fun τ => (none, τ)) y)) (hk43 : ∀ x1 x3 x4 x5 x6 x7 σ, G l sc (D + 4) m_X3_tryRows 43 [(0, .ref 61), (1, .int x1), (2, .ref 62), (3, .int x3), (4, .int x4), (5, .int x5), (6, .int x6), (7, .int x7)] [] σ (k43 x1 x3 x4 x5 x6 x7 σ) (fun τ => (none, τ))) : G l sc (D + 4) m_X3_tryRows 43 [(0, .ref 61), (1, .int x1), (2, .ref 62), (3, .int x3), (4, .int x4), (5, .int x5), (6, .int x6), (7, .int x7)] [] σ (f_X3_tryRows_b43 n self k43 x1 x3 x4 x5 x6 x7 σ) (fun τ => (none, τ)) := by
  unfold f_X3_tryRows_b43
  refine g_iload (n := 7) d_X3_tryRows_43 rfl ?_
  refine g_aload_n (n := 2) d_X3_tryRows_45 rfl rfl ?_
  refine g_geti d_X3_tryRows_46 fl_X3_90 sh_62 rfl ?_
  refine g_icmp_ge (tgt := 112) d_X3_tryRows_49 (by decide) (fun c1 => ?_) (fun c1 => ?_)
  · exact g_vret d_X3_tryRows_112 rfl rfl
  · refine g_aload_n (n := 0) d_X3_tryRows_52 rfl rfl ?_
    refine g_geti d_X3_tryRows_53 fl_X3_57 sh_61 rfl ?_
    refine g_iload (n := 7) d_X3_tryRows_56 rfl ?_
    refine g_ishr d_X3_tryRows_58 ?_
    refine g_iconst (v := 1) d_X3_tryRows_59 (by decide) ?_
    refine g_iand d_X3_tryRows_60 ?_
    refine g_if_eq (tgt := 106) d_X3_tryRows_61 (by decide) (fun c2 => ?_) (fun c2 => ?_)
    · refine g_sub [0, 1, 2, 3, 4, 5, 6, 7] rfl ?_
      exact t_X3_tryRows_b106 hself hk43
    · refine g_aload_n (n := 2) d_X3_tryRows_64 rfl rfl ?_
      refine g_iload (n := 7) d_X3_tryRows_65 rfl ?_
      refine g_callv_pi (D := D + 3) (As := [.int x7]) d_X3_tryRows_67 sv_X3_93 ob_62 rfl (Nat.le_of_ble_eq_true rfl) rfl (fun _ hy => EvM_cast (by omega) (e_X6_canHave (D := D + 1) hy)) (fun y3 => ?_)
      refine g_if_eq (tgt := 106) d_X3_tryRows_70 (by decide) (fun c4 => ?_) (fun c4 => ?_)
      · refine g_sub [0, 1, 2, 3, 4, 5, 6, 7] rfl ?_
        exact t_X3_tryRows_b106 hself hk43
      · refine g_aload_n (n := 0) d_X3_tryRows_73 rfl rfl ?_
        refine g_getr d_X3_tryRows_74 fl_X3_18 sh_61 rfl ?_
        refine g_iload_n (n := 1) d_X3_tryRows_77 rfl rfl ?_
        refine g_iload (n := 7) d_X3_tryRows_78 rfl ?_
        refine g_iastore d_X3_tryRows_80 sh_67 (fun _ => ?_)
        refine g_mem (fun σ5 => ?_)
        refine g_aload_n (n := 2) d_X3_tryRows_81 rfl rfl ?_
        refine g_iload (n := 7) d_X3_tryRows_82 rfl ?_
        refine g_callv_ii (D := D + 3) (As := [.int x7]) d_X3_tryRows_84 sv_X3_97 ob_62 rfl (Nat.le_of_ble_eq_true rfl) rfl (fun _ hy => EvM_cast (by omega) (e_X6_hand (D := D + 0) hy)) (fun y6 σ7 => ?_)
        refine g_pop d_X3_tryRows_87 rfl ?_
        refine g_aload_n (n := 0) d_X3_tryRows_88 rfl rfl ?_
        refine g_iload_n (n := 1) d_X3_tryRows_89 rfl rfl ?_
        refine g_iconst (v := 1) d_X3_tryRows_90 (by decide) ?_
        refine g_iadd d_X3_tryRows_91 ?_
        refine g_calls_vv (D := D + 3) (As := [.ref 61, .int (x1 + 1)]) d_X3_tryRows_92 ss_X3_76 rfl (Nat.le_of_ble_eq_true rfl) rfl (fun _ hy => EvM_cast (by omega) (hself _ _ _ hy)) (fun σ9 => ?_)
        refine g_aload_n (n := 2) d_X3_tryRows_95 rfl rfl ?_
        refine g_iload_n (n := 3) d_X3_tryRows_96 rfl rfl ?_
        refine g_iload (n := 4) d_X3_tryRows_97 rfl ?_
        refine g_iload (n := 5) d_X3_tryRows_99 rfl ?_
        refine g_iload (n := 6) d_X3_tryRows_101 rfl ?_
        refine g_callv_vv (D := D + 3) (As := [.int x3, .int x4, .int x5, .int x6]) d_X3_tryRows_103 sv_X3_101 ob_62 rfl (Nat.le_of_ble_eq_true rfl) rfl (fun _ hy => EvM_cast (by omega) (e_X6_copyStands (D := D + 3) hy)) (fun σ11 => ?_)
        refine g_sub [0, 1, 2, 3, 4, 5, 6, 7] rfl ?_
        exact t_X3_tryRows_b106 hself hk43
set_option maxHeartbeats 4000000 in
set_option maxRecDepth 100000 in
theorem t_X3_tryRows_l43 {l : Launch} {sc : Nat × (Nat → Int32)} {D : Nat} {n : Nat} {self : Int32 → Mem → Option Mem} (hself : ∀ x1' σ' y, self x1' σ' = some y → EvM l (D + 3) m_X3_tryRows [.ref 61, .int x1'] σ' ((fun τ => (none, τ)) y)) : ∀ (f : Nat) (x1 : Int32) (x3 : Int32) (x4 : Int32) (x5 : Int32) (x6 : Int32) (x7 : Int32) (σ : Mem), G l sc (D + 4) m_X3_tryRows 43 [(0, .ref 61), (1, .int x1), (2, .ref 62), (3, .int x3), (4, .int x4), (5, .int x5), (6, .int x6), (7, .int x7)] [] σ (f_X3_tryRows_l43 n self f x1 x3 x4 x5 x6 x7 σ) (fun τ => (none, τ)) := by
  intro f
  induction f with
  | zero => intro x1 x3 x4 x5 x6 x7 σ; exact g_none
  | succ f ih => intro x1 x3 x4 x5 x6 x7 σ; exact t_X3_tryRows_b43 hself ih
set_option maxHeartbeats 4000000 in
set_option maxRecDepth 100000 in
theorem t_X3_tryRows {l : Launch} {sc : Nat × (Nat → Int32)} {D : Nat} {n : Nat} {self : Int32 → Mem → Option Mem} {x1 : Int32} {σ : Mem} (hself : ∀ x1' σ' y, self x1' σ' = some y → EvM l (D + 3) m_X3_tryRows [.ref 61, .int x1'] σ' ((fun τ => (none, τ)) y)) : G l sc (D + 4) m_X3_tryRows 0 [(0, .ref 61), (1, .int x1)] [] σ (f_X3_tryRows_s n self x1 σ) (fun τ => (none, τ)) := by
  unfold f_X3_tryRows_s
  refine g_aload_n (n := 0) d_X3_tryRows_0 rfl rfl ?_
  refine g_iload_n (n := 1) d_X3_tryRows_1 rfl rfl ?_
  refine g_callv_vv (D := D + 3) (As := [.int x1]) d_X3_tryRows_2 sv_X3_80 ob_61 rfl (Nat.le_of_ble_eq_true rfl) rfl (fun _ hy => EvM_cast (by omega) (e_X3_weigh (D := D + 1) hy)) (fun σ2 => ?_)
  refine g_iload_n (n := 1) d_X3_tryRows_5 rfl rfl ?_
  refine g_bipush (v := 6) d_X3_tryRows_6 (by decide) ?_
  refine g_icmp_lt (tgt := 12) d_X3_tryRows_8 (by decide) (fun c3 => ?_) (fun c3 => ?_)
  · refine g_aload_n (n := 0) d_X3_tryRows_12 rfl rfl ?_
    refine g_getr d_X3_tryRows_13 fl_X3_12 sh_61 rfl ?_
    refine g_astore_n d_X3_tryRows_16 rfl (by decide) rfl ?_
    refine g_aload_n (n := 0) d_X3_tryRows_17 rfl rfl ?_
    refine g_geti d_X3_tryRows_18 fl_X3_84 sh_62 rfl ?_
    refine g_nm (fun y4 => ?_)
    refine g_istore_n d_X3_tryRows_21 rfl (by decide) rfl ?_
    refine g_aload_n (n := 1) d_X3_tryRows_22 rfl rfl ?_
    refine g_geti d_X3_tryRows_23 fl_X3_87 sh_62 rfl ?_
    refine g_nm (fun y5 => ?_)
    refine g_istore d_X3_tryRows_26 (by decide) rfl ?_
    refine g_aload_n (n := 2) d_X3_tryRows_28 rfl rfl ?_
    refine g_geti d_X3_tryRows_29 fl_X3_40 sh_62 rfl ?_
    refine g_nm (fun y6 => ?_)
    refine g_istore d_X3_tryRows_32 (by decide) rfl ?_
    refine g_aload_n (n := 3) d_X3_tryRows_34 rfl rfl ?_
    refine g_geti d_X3_tryRows_35 fl_X3_60 sh_62 rfl ?_
    refine g_nm (fun y7 => ?_)
    refine g_istore d_X3_tryRows_38 (by decide) rfl ?_
    refine g_iconst (v := 0) d_X3_tryRows_40 (by decide) ?_
    refine g_istore d_X3_tryRows_41 (by decide) rfl ?_
    refine g_sub [6, 7, 5, 4, 3, 2, 1, 0] rfl ?_
    exact t_X3_tryRows_l43 hself  _ _ _ _ _ _ _ _
  · exact g_vret d_X3_tryRows_11 rfl rfl
theorem e_X3_tryRows_r {l : Launch} {D : Nat} {n : Nat} : ∀ (f : Nat) (x1 : Int32) (σ : Mem) (y : Mem), f_X3_tryRows_r n f x1 σ = some y → EvM l (D + 3 + f) m_X3_tryRows [.ref 61, .int x1] σ ((fun τ => (none, τ)) y) := by
  intro f
  induction f with
  | zero => intro x1 σ y hy; exact absurd hy (by show ¬ none = some y; exact fun h => by cases h)
  | succ f ih =>
    intro x1 σ y hy
    refine EvM_cast (D1 := D + f + 4) (by omega) ?_
    refine evM_of (d := m_X3_tryRows) (nL := 8) rfl (by decide +kernel) (fun h => absurd (congrArg MethodName.cls h) (by decide +kernel)) (Nat.le_of_ble_eq_true rfl) (t_X3_tryRows (self := f_X3_tryRows_r n f) (fun x1 σ y hy => EvM_cast (by omega) (ih x1 σ y hy)) y hy)
theorem e_X3_tryRows {l : Launch} {D : Nat} {n : Nat} {x1 : Int32} {σ : Mem} {y : Mem} (hy : f_X3_tryRows n x1 σ = some y) : EvM l (D + 11) m_X3_tryRows [.ref 61, .int x1] σ ((fun τ => (none, τ)) y) := EvM_cast (by omega) (e_X3_tryRows_r (D := D) 8 x1 σ y hy)

set_option maxHeartbeats 4000000 in
set_option maxRecDepth 100000 in
theorem t_X3_seek {l : Launch} {sc : Nat × (Nat → Int32)} {D : Nat} {n : Nat} {x1 : Int32} {x2 : Int32} {σ : Mem} : G l sc (D + 12) m_X3_seek 0 [(0, .ref 61), (1, .int x1), (2, .int x2)] [] σ (f_X3_seek n x1 x2 σ) (fun τ => (none, τ)) := by
  unfold f_X3_seek
  refine g_aload_n (n := 0) d_X3_seek_0 rfl rfl ?_
  refine g_iload_n (n := 1) d_X3_seek_1 rfl rfl ?_
  refine g_puti d_X3_seek_2 fl_X3_54 sh_61 rfl ?_
  refine g_mem (fun σ1 => ?_)
  refine g_aload_n (n := 0) d_X3_seek_5 rfl rfl ?_
  refine g_iload_n (n := 2) d_X3_seek_6 rfl rfl ?_
  refine g_puti d_X3_seek_7 fl_X3_57 sh_61 rfl ?_
  refine g_mem (fun σ2 => ?_)
  refine g_aload_n (n := 0) d_X3_seek_10 rfl rfl ?_
  refine g_aload_n (n := 0) d_X3_seek_11 rfl rfl ?_
  refine g_getr d_X3_seek_12 fl_X3_12 sh_61 rfl ?_
  refine g_geti d_X3_seek_15 fl_X3_60 sh_62 rfl ?_
  refine g_puti d_X3_seek_18 fl_X3_63 sh_61 rfl ?_
  refine g_mem (fun σ3 => ?_)
  refine g_aload_n (n := 0) d_X3_seek_21 rfl rfl ?_
  refine g_iconst (v := 0) d_X3_seek_22 (by decide) ?_
  refine g_putb d_X3_seek_23 fl_X3_66 sh_61 rfl (fun _ => ?_)
  refine g_mem (fun σ4 => ?_)
  refine g_aload_n (n := 0) d_X3_seek_26 rfl rfl ?_
  refine g_iconst (v := 0) d_X3_seek_27 (by decide) ?_
  refine g_puti d_X3_seek_28 fl_X3_70 sh_61 rfl ?_
  refine g_mem (fun σ5 => ?_)
  refine g_aload_n (n := 0) d_X3_seek_31 rfl rfl ?_
  refine g_iconst (v := 0) d_X3_seek_32 (by decide) ?_
  refine g_puti d_X3_seek_33 fl_X3_73 sh_61 rfl ?_
  refine g_mem (fun σ6 => ?_)
  refine g_aload_n (n := 0) d_X3_seek_36 rfl rfl ?_
  refine g_iconst (v := 0) d_X3_seek_37 (by decide) ?_
  refine g_calls_vv (D := D + 11) (As := [.ref 61, .int 0]) d_X3_seek_38 ss_X3_76 rfl (Nat.le_of_ble_eq_true rfl) rfl (fun _ hy => EvM_cast (by omega) (e_X3_tryRows (D := D + 0) hy)) (fun σ8 => ?_)
  exact g_vret d_X3_seek_41 rfl rfl
theorem e_X3_seek {l : Launch} {D : Nat} {n : Nat} {x1 : Int32} {x2 : Int32} {σ : Mem} {y : Mem} (hy : f_X3_seek n x1 x2 σ = some y) : EvM l (D + 12) m_X3_seek [.ref 61, .int x1, .int x2] σ ((fun τ => (none, τ)) y) :=
  evM_of (d := m_X3_seek) (nL := 3) rfl (by decide +kernel) (fun h => absurd (congrArg MethodName.cls h) (by decide +kernel)) (Nat.le_of_ble_eq_true rfl) (t_X3_seek y hy)

set_option maxHeartbeats 4000000 in
set_option maxRecDepth 100000 in
theorem t_X3_forMost {l : Launch} {sc : Nat × (Nat → Int32)} {D : Nat} {n : Nat} {x1 : Nat} {σ : Mem} : G l sc (D + 13) m_X3_forMost 0 [(0, .ref 61), (1, .ref x1)] [] σ (f_X3_forMost n x1 σ) (fun τ => (none, τ)) := by
  unfold f_X3_forMost
  refine g_aload_n (n := 0) d_X3_forMost_0 rfl rfl ?_
  refine g_getr d_X3_forMost_1 fl_X3_12 sh_61 rfl ?_
  refine g_aload_n (n := 1) d_X3_forMost_4 rfl rfl ?_
  refine g_callv_vv (D := D + 12) (As := [.ref x1]) d_X3_forMost_5 sv_X3_28 ob_62 rfl (Nat.le_of_ble_eq_true rfl) rfl (fun _ hy => EvM_cast (by omega) (e_X6_takeOver (D := D + 11) hy)) (fun σ2 => ?_)
  refine g_aload_n (n := 0) d_X3_forMost_8 rfl rfl ?_
  refine g_iconst (v := 0) d_X3_forMost_9 (by decide) ?_
  refine g_aload_n (n := 1) d_X3_forMost_10 rfl rfl ?_
  refine g_guard (fun h3 => ?_)
  refine g_callv_pi (D := D + 12) (As := []) d_X3_forMost_11 sv_X3_32 (ob_town h3) rfl (Nat.le_of_ble_eq_true rfl) rfl (fun _ hy => EvM_cast (by omega) (e_X6_everybody (D := D + 12) hy)) (fun y4 => ?_)
  refine g_callv_vv (D := D + 12) (As := [.int 0, .int y4]) d_X3_forMost_14 sv_X3_36 ob_61 rfl (Nat.le_of_ble_eq_true rfl) rfl (fun _ hy => EvM_cast (by omega) (e_X3_seek (D := D + 0) hy)) (fun σ6 => ?_)
  exact g_vret d_X3_forMost_17 rfl rfl
theorem e_X3_forMost {l : Launch} {D : Nat} {n : Nat} {x1 : Nat} {σ : Mem} {y : Mem} (hy : f_X3_forMost n x1 σ = some y) : EvM l (D + 13) m_X3_forMost [.ref 61, .ref x1] σ ((fun τ => (none, τ)) y) :=
  evM_of (d := m_X3_forMost) (nL := 2) rfl (by decide +kernel) (fun h => absurd (congrArg MethodName.cls h) (by decide +kernel)) (Nat.le_of_ble_eq_true rfl) (t_X3_forMost y hy)

set_option maxHeartbeats 4000000 in
set_option maxRecDepth 100000 in
theorem t_X3_forSoonest {l : Launch} {sc : Nat × (Nat → Int32)} {D : Nat} {n : Nat} {x1 : Nat} {x2 : Int32} {σ : Mem} : G l sc (D + 13) m_X3_forSoonest 0 [(0, .ref 61), (1, .ref x1), (2, .int x2)] [] σ (f_X3_forSoonest n x1 x2 σ) (fun τ => (none, τ)) := by
  unfold f_X3_forSoonest
  refine g_aload_n (n := 0) d_X3_forSoonest_0 rfl rfl ?_
  refine g_getr d_X3_forSoonest_1 fl_X3_12 sh_61 rfl ?_
  refine g_aload_n (n := 1) d_X3_forSoonest_4 rfl rfl ?_
  refine g_callv_vv (D := D + 12) (As := [.ref x1]) d_X3_forSoonest_5 sv_X3_28 ob_62 rfl (Nat.le_of_ble_eq_true rfl) rfl (fun _ hy => EvM_cast (by omega) (e_X6_takeOver (D := D + 11) hy)) (fun σ2 => ?_)
  refine g_aload_n (n := 0) d_X3_forSoonest_8 rfl rfl ?_
  refine g_iconst (v := 1) d_X3_forSoonest_9 (by decide) ?_
  refine g_iload_n (n := 2) d_X3_forSoonest_10 rfl rfl ?_
  refine g_aload_n (n := 1) d_X3_forSoonest_11 rfl rfl ?_
  refine g_guard (fun h3 => ?_)
  refine g_geti d_X3_forSoonest_12 fl_X3_40 (shp_town h3).1 rfl ?_
  refine g_iconst (v := -1) d_X3_forSoonest_15 (by decide) ?_
  refine g_ixor d_X3_forSoonest_16 ?_
  refine g_iand d_X3_forSoonest_17 ?_
  refine g_callv_vv (D := D + 12) (As := [.int 1, .int (x2 &&& ((σ2 x1 11) ^^^ (-1)))]) d_X3_forSoonest_18 sv_X3_36 ob_61 rfl (Nat.le_of_ble_eq_true rfl) rfl (fun _ hy => EvM_cast (by omega) (e_X3_seek (D := D + 0) hy)) (fun σ5 => ?_)
  exact g_vret d_X3_forSoonest_21 rfl rfl
theorem e_X3_forSoonest {l : Launch} {D : Nat} {n : Nat} {x1 : Nat} {x2 : Int32} {σ : Mem} {y : Mem} (hy : f_X3_forSoonest n x1 x2 σ = some y) : EvM l (D + 13) m_X3_forSoonest [.ref 61, .ref x1, .int x2] σ ((fun τ => (none, τ)) y) :=
  evM_of (d := m_X3_forSoonest) (nL := 3) rfl (by decide +kernel) (fun h => absurd (congrArg MethodName.cls h) (by decide +kernel)) (Nat.le_of_ble_eq_true rfl) (t_X3_forSoonest y hy)

set_option maxHeartbeats 4000000 in
set_option maxRecDepth 100000 in
theorem t_X6_begin {l : Launch} {sc : Nat × (Nat → Int32)} {D : Nat} {t : Nat} {σ : Mem} : G l sc (D + 1) m_X6_begin 0 [(0, .ref t)] [] σ (f_X6_begin t σ) (fun τ => (none, τ)) := by
  unfold f_X6_begin
  refine g_aload_n (n := 0) d_X6_begin_0 rfl rfl ?_
  refine g_aload_n (n := 0) d_X6_begin_1 rfl rfl ?_
  refine g_guard (fun h1 => ?_)
  refine g_geti d_X6_begin_2 fl_X6_28 (shp_town h1).1 rfl ?_
  refine g_iconst (v := 0) d_X6_begin_5 (by decide) ?_
  refine g_iconst (v := 0) d_X6_begin_6 (by decide) ?_
  refine g_iconst (v := 0) d_X6_begin_7 (by decide) ?_
  refine g_callv_vv (D := D + 0) (As := [.int (σ t 1), .int 0, .int 0, .int 0]) d_X6_begin_8 sv_X6_59 (ob_town h1) rfl (Nat.le_of_ble_eq_true rfl) rfl (fun _ hy => EvM_cast (by omega) (e_X6_copyStands (D := D + 0) hy)) (fun σ3 => ?_)
  exact g_vret d_X6_begin_11 rfl rfl
theorem e_X6_begin {l : Launch} {D : Nat} {t : Nat} {σ : Mem} {y : Mem} (hy : f_X6_begin t σ = some y) : EvM l (D + 1) m_X6_begin [.ref t] σ ((fun τ => (none, τ)) y) :=
  evM_of (d := m_X6_begin) (nL := 1) rfl (by decide +kernel) (fun h => absurd (congrArg MethodName.cls h) (by decide +kernel)) (Nat.le_of_ble_eq_true rfl) (t_X6_begin y hy)

set_option maxHeartbeats 4000000 in
set_option maxRecDepth 100000 in
theorem t_X3_forSets {l : Launch} {sc : Nat × (Nat → Int32)} {D : Nat} {n : Nat} {x1 : Nat} {σ : Mem} : G l sc (D + 13) m_X3_forSets 0 [(0, .ref 61), (1, .ref x1)] [] σ (f_X3_forSets n x1 σ) (fun τ => (none, τ)) := by
  unfold f_X3_forSets
  refine g_aload_n (n := 0) d_X3_forSets_0 rfl rfl ?_
  refine g_getr d_X3_forSets_1 fl_X3_12 sh_61 rfl ?_
  refine g_aload_n (n := 1) d_X3_forSets_4 rfl rfl ?_
  refine g_callv_vv (D := D + 12) (As := [.ref x1]) d_X3_forSets_5 sv_X3_28 ob_62 rfl (Nat.le_of_ble_eq_true rfl) rfl (fun _ hy => EvM_cast (by omega) (e_X6_takeOver (D := D + 11) hy)) (fun σ2 => ?_)
  refine g_aload_n (n := 0) d_X3_forSets_8 rfl rfl ?_
  refine g_getr d_X3_forSets_9 fl_X3_12 sh_61 rfl ?_
  refine g_callv_vv (D := D + 12) (As := []) d_X3_forSets_12 sv_X3_44 ob_62 rfl (Nat.le_of_ble_eq_true rfl) rfl (fun _ hy => EvM_cast (by omega) (e_X6_begin (D := D + 11) hy)) (fun σ4 => ?_)
  refine g_aload_n (n := 0) d_X3_forSets_15 rfl rfl ?_
  refine g_getr d_X3_forSets_16 fl_X3_25 sh_61 rfl ?_
  refine g_ldc d_X3_forSets_19 kc_X3_47 ?_
  refine g_calls_vv (D := D + 12) (As := [.ref 69, .int (-1000000)]) d_X3_forSets_21 ss_X3_48 rfl (Nat.le_of_ble_eq_true rfl) rfl (fun _ hy => EvM_cast (by omega) (e_J7_fill_53178 (D := D + 12) hy)) (fun σ6 => ?_)
  refine g_aload_n (n := 0) d_X3_forSets_24 rfl rfl ?_
  refine g_iconst (v := 2) d_X3_forSets_25 (by decide) ?_
  refine g_aload_n (n := 1) d_X3_forSets_26 rfl rfl ?_
  refine g_guard (fun h7 => ?_)
  refine g_callv_pi (D := D + 12) (As := []) d_X3_forSets_27 sv_X3_32 (ob_town h7) rfl (Nat.le_of_ble_eq_true rfl) rfl (fun _ hy => EvM_cast (by omega) (e_X6_everybody (D := D + 12) hy)) (fun y8 => ?_)
  refine g_callv_vv (D := D + 12) (As := [.int 2, .int y8]) d_X3_forSets_30 sv_X3_36 ob_61 rfl (Nat.le_of_ble_eq_true rfl) rfl (fun _ hy => EvM_cast (by omega) (e_X3_seek (D := D + 0) hy)) (fun σ10 => ?_)
  exact g_vret d_X3_forSets_33 rfl rfl
theorem e_X3_forSets {l : Launch} {D : Nat} {n : Nat} {x1 : Nat} {σ : Mem} {y : Mem} (hy : f_X3_forSets n x1 σ = some y) : EvM l (D + 13) m_X3_forSets [.ref 61, .ref x1] σ ((fun τ => (none, τ)) y) :=
  evM_of (d := m_X3_forSets) (nL := 2) rfl (by decide +kernel) (fun h => absurd (congrArg MethodName.cls h) (by decide +kernel)) (Nat.le_of_ble_eq_true rfl) (t_X3_forSets y hy)

set_option maxHeartbeats 4000000 in
set_option maxRecDepth 100000 in
theorem t_X3_told {l : Launch} {sc : Nat × (Nat → Int32)} {D : Nat} {σ : Mem} {x1 : Int32} : G l sc (D + 0) m_X3_told 0 [(0, .ref 61), (1, .int x1)] [] σ (f_X3_told σ x1) (fun y => (some (.int y), σ)) := by
  unfold f_X3_told
  refine g_iload_n (n := 1) d_X3_told_0 rfl rfl ?_
  refine g_if_lt (tgt := 21) d_X3_told_1 (by decide) (fun c1 => ?_) (fun c1 => ?_)
  · refine g_ldc d_X3_told_21 kc_X3_47 ?_
    exact g_iret d_X3_told_23 (Or.inl rfl) rfl
  · refine g_iload_n (n := 1) d_X3_told_4 rfl rfl ?_
    refine g_aload_n (n := 0) d_X3_told_5 rfl rfl ?_
    refine g_geti d_X3_told_6 fl_X3_70 sh_61 rfl ?_
    refine g_icmp_ge (tgt := 21) d_X3_told_9 (by decide) (fun c2 => ?_) (fun c2 => ?_)
    · refine g_ldc d_X3_told_21 kc_X3_47 ?_
      exact g_iret d_X3_told_23 (Or.inl rfl) rfl
    · refine g_aload_n (n := 0) d_X3_told_12 rfl rfl ?_
      refine g_getr d_X3_told_13 fl_X3_22 sh_61 rfl ?_
      refine g_iload_n (n := 1) d_X3_told_16 rfl rfl ?_
      refine g_iaload d_X3_told_17 sh_68 (fun _ => ?_)
      refine g_goto (tgt := 23) d_X3_told_18 (by decide) ?_
      exact g_iret d_X3_told_23 (Or.inl rfl) rfl
theorem e_X3_told {l : Launch} {D : Nat} {σ : Mem} {x1 : Int32} {y : Int32} (hy : f_X3_told σ x1 = some y) : EvM l (D + 0) m_X3_told [.ref 61, .int x1] σ ((fun y => (some (.int y), σ)) y) :=
  evM_of (d := m_X3_told) (nL := 2) rfl (by decide +kernel) (fun h => absurd (congrArg MethodName.cls h) (by decide +kernel)) (Nat.le_of_ble_eq_true rfl) (t_X3_told y hy)

set_option maxHeartbeats 4000000 in
set_option maxRecDepth 100000 in
theorem t_X4_weighShares_b79 {l : Launch} {sc : Nat × (Nat → Int32)} {D : Nat} {n : Nat} {x1 : Int32} {σ : Mem} : G l sc (D + 1) m_X4_weighShares 79 [(0, .ref 70), (1, .int x1)] [] σ (f_X4_weighShares_b79 n x1 σ) (fun τ => (none, τ)) := by
  unfold f_X4_weighShares_b79
  refine g_aload_n (n := 0) d_X4_weighShares_79 rfl rfl ?_
  refine g_iconst (v := 1) d_X4_weighShares_80 (by decide) ?_
  refine g_putb d_X4_weighShares_81 fl_X4_34 sh_70 rfl (fun _ => ?_)
  refine g_mem (fun σ1 => ?_)
  refine g_aload_n (n := 0) d_X4_weighShares_84 rfl rfl ?_
  refine g_iload_n (n := 1) d_X4_weighShares_85 rfl rfl ?_
  refine g_puti d_X4_weighShares_86 fl_X4_38 sh_70 rfl ?_
  refine g_mem (fun σ2 => ?_)
  refine g_aload_n (n := 0) d_X4_weighShares_89 rfl rfl ?_
  refine g_getr d_X4_weighShares_90 fl_X4_9 sh_70 rfl ?_
  refine g_iconst (v := 0) d_X4_weighShares_93 (by decide) ?_
  refine g_aload_n (n := 0) d_X4_weighShares_94 rfl rfl ?_
  refine g_getr d_X4_weighShares_95 fl_X4_18 sh_70 rfl ?_
  refine g_iconst (v := 0) d_X4_weighShares_98 (by decide) ?_
  refine g_aload_n (n := 0) d_X4_weighShares_99 rfl rfl ?_
  refine g_geti d_X4_weighShares_100 fl_X4_33 sh_70 rfl ?_
  refine g_acopy (D := D + 0) d_X4_weighShares_103 ac_X4_55 (Nat.le_of_ble_eq_true rfl) sh_71 sh_73 (fun _ => ?_)
  refine g_mem (fun σ3 => ?_)
  exact g_vret d_X4_weighShares_106 rfl rfl
set_option maxHeartbeats 4000000 in
set_option maxRecDepth 100000 in
theorem t_X4_weighShares_b64 {l : Launch} {sc : Nat × (Nat → Int32)} {D : Nat} {n : Nat} {x1 : Int32} {σ : Mem} : G l sc (D + 1) m_X4_weighShares 64 [(0, .ref 70), (1, .int x1)] [] σ (f_X4_weighShares_b64 n x1 σ) (fun τ => (none, τ)) := by
  unfold f_X4_weighShares_b64
  refine g_aload_n (n := 0) d_X4_weighShares_64 rfl rfl ?_
  refine g_geti d_X4_weighShares_65 fl_X4_34 sh_70 rfl ?_
  refine g_if_eq (tgt := 79) d_X4_weighShares_68 (by decide) (fun c1 => ?_) (fun c1 => ?_)
  · refine g_sub [0, 1] rfl ?_
    exact t_X4_weighShares_b79 
  · refine g_iload_n (n := 1) d_X4_weighShares_71 rfl rfl ?_
    refine g_aload_n (n := 0) d_X4_weighShares_72 rfl rfl ?_
    refine g_geti d_X4_weighShares_73 fl_X4_38 sh_70 rfl ?_
    refine g_icmp_le (tgt := 106) d_X4_weighShares_76 (by decide) (fun c2 => ?_) (fun c2 => ?_)
    · exact g_vret d_X4_weighShares_106 rfl rfl
    · refine g_sub [0, 1] rfl ?_
      exact t_X4_weighShares_b79 
set_option maxHeartbeats 4000000 in
set_option maxRecDepth 100000 in
theorem t_X4_weighShares_b4 {l : Launch} {sc : Nat × (Nat → Int32)} {D : Nat} {n : Nat} {k4 : Int32 → Int32 → Mem → Option Mem} {x1 : Int32} {x2 : Int32} {σ : Mem} (hk4 : ∀ x1 x2 σ, G l sc (D + 1) m_X4_weighShares 4 [(0, .ref 70), (1, .int x1), (2, .int x2)] [] σ (k4 x1 x2 σ) (fun τ => (none, τ))) : G l sc (D + 1) m_X4_weighShares 4 [(0, .ref 70), (1, .int x1), (2, .int x2)] [] σ (f_X4_weighShares_b4 n k4 x1 x2 σ) (fun τ => (none, τ)) := by
  unfold f_X4_weighShares_b4
  refine g_iload_n (n := 2) d_X4_weighShares_4 rfl rfl ?_
  refine g_aload_n (n := 0) d_X4_weighShares_5 rfl rfl ?_
  refine g_geti d_X4_weighShares_6 fl_X4_24 sh_70 rfl ?_
  refine g_icmp_ge (tgt := 64) d_X4_weighShares_9 (by decide) (fun c1 => ?_) (fun c1 => ?_)
  · refine g_sub [0, 1] rfl ?_
    exact t_X4_weighShares_b64 
  · refine g_iload_n (n := 2) d_X4_weighShares_12 rfl rfl ?_
    refine g_iconst (v := 3) d_X4_weighShares_13 (by decide) ?_
    refine g_icmp_ge (tgt := 64) d_X4_weighShares_14 (by decide) (fun c2 => ?_) (fun c2 => ?_)
    · refine g_sub [0, 1] rfl ?_
      exact t_X4_weighShares_b64 
    · refine g_aload_n (n := 0) d_X4_weighShares_17 rfl rfl ?_
      refine g_getr d_X4_weighShares_18 fl_X4_15 sh_70 rfl ?_
      refine g_iload_n (n := 2) d_X4_weighShares_21 rfl rfl ?_
      refine g_iaload d_X4_weighShares_22 sh_72 (fun _ => ?_)
      refine g_nm (fun y3 => ?_)
      refine g_istore_n d_X4_weighShares_23 rfl (by decide) rfl ?_
      refine g_iload_n (n := 0) d_X4_weighShares_24 rfl rfl ?_
      refine g_if_lt (tgt := 48) d_X4_weighShares_25 (by decide) (fun c4 => ?_) (fun c4 => ?_)
      · exact g_vret d_X4_weighShares_48 rfl rfl
      · refine g_iload_n (n := 0) d_X4_weighShares_28 rfl rfl ?_
        refine g_aload_n (n := 1) d_X4_weighShares_29 rfl rfl ?_
        refine g_getm d_X4_weighShares_30 fl_X4_21 sh_70 rfl ?_
        refine g_guard (fun h5 => ?_)
        refine g_alen d_X4_weighShares_33 (shp_IA h5) rfl ?_
        refine g_icmp_ge (tgt := 48) d_X4_weighShares_34 (by decide) (fun c6 => ?_) (fun c6 => ?_)
        · exact g_vret d_X4_weighShares_48 rfl rfl
        · refine g_aload_n (n := 1) d_X4_weighShares_37 rfl rfl ?_
          refine g_getm d_X4_weighShares_38 fl_X4_21 sh_70 rfl ?_
          refine g_iload_n (n := 0) d_X4_weighShares_41 rfl rfl ?_
          refine g_guard (fun h7 => ?_)
          refine g_iaload d_X4_weighShares_42 (shp_IA h7) (fun _ => ?_)
          refine g_ldc d_X4_weighShares_43 kc_X4_54 ?_
          refine g_icmp_ne (tgt := 49) d_X4_weighShares_45 (by decide) (fun c8 => ?_) (fun c8 => ?_)
          · refine g_iload_n (n := 2) d_X4_weighShares_49 rfl rfl ?_
            refine g_aload_n (n := 1) d_X4_weighShares_50 rfl rfl ?_
            refine g_getm d_X4_weighShares_51 fl_X4_21 sh_70 rfl ?_
            refine g_iload_n (n := 0) d_X4_weighShares_54 rfl rfl ?_
            refine g_guard (fun h9 => ?_)
            refine g_iaload d_X4_weighShares_55 (shp_IA h9) (fun _ => ?_)
            refine g_iadd d_X4_weighShares_56 ?_
            refine g_nm (fun y10 => ?_)
            refine g_istore_n d_X4_weighShares_57 rfl (by decide) rfl ?_
            refine g_iinc (n := 3) (w := 1) d_X4_weighShares_58 rfl (by decide) (by decide) rfl ?_
            refine g_goto (tgt := 4) d_X4_weighShares_61 (by decide) ?_
            refine g_sub [3, 1, 0] rfl ?_
            exact hk4 _ _ _
          · exact g_vret d_X4_weighShares_48 rfl rfl
set_option maxHeartbeats 4000000 in
set_option maxRecDepth 100000 in
theorem t_X4_weighShares_l4 {l : Launch} {sc : Nat × (Nat → Int32)} {D : Nat} {n : Nat} : ∀ (f : Nat) (x1 : Int32) (x2 : Int32) (σ : Mem), G l sc (D + 1) m_X4_weighShares 4 [(0, .ref 70), (1, .int x1), (2, .int x2)] [] σ (f_X4_weighShares_l4 n f x1 x2 σ) (fun τ => (none, τ)) := by
  intro f
  induction f with
  | zero => intro x1 x2 σ; exact g_none
  | succ f ih => intro x1 x2 σ; exact t_X4_weighShares_b4 ih
set_option maxHeartbeats 4000000 in
set_option maxRecDepth 100000 in
theorem t_X4_weighShares {l : Launch} {sc : Nat × (Nat → Int32)} {D : Nat} {n : Nat} {σ : Mem} : G l sc (D + 1) m_X4_weighShares 0 [(0, .ref 70)] [] σ (f_X4_weighShares n σ) (fun τ => (none, τ)) := by
  unfold f_X4_weighShares
  refine g_iconst (v := 0) d_X4_weighShares_0 (by decide) ?_
  refine g_istore_n d_X4_weighShares_1 rfl (by decide) rfl ?_
  refine g_iconst (v := 0) d_X4_weighShares_2 (by decide) ?_
  refine g_istore_n d_X4_weighShares_3 rfl (by decide) rfl ?_
  refine g_sub [2, 1, 0] rfl ?_
  exact t_X4_weighShares_l4  _ _ _ _
theorem e_X4_weighShares {l : Launch} {D : Nat} {n : Nat} {σ : Mem} {y : Mem} (hy : f_X4_weighShares n σ = some y) : EvM l (D + 1) m_X4_weighShares [.ref 70] σ ((fun τ => (none, τ)) y) :=
  evM_of (d := m_X4_weighShares) (nL := 4) rfl (by decide +kernel) (fun h => absurd (congrArg MethodName.cls h) (by decide +kernel)) (Nat.le_of_ble_eq_true rfl) (t_X4_weighShares y hy)

set_option maxHeartbeats 4000000 in
set_option maxRecDepth 100000 in
theorem t_X4_share_b14 {l : Launch} {sc : Nat × (Nat → Int32)} {D : Nat} {n : Nat} {self : Int32 → Mem → Option Mem} {σ : Mem} (hself : ∀ x1' σ' y, self x1' σ' = some y → EvM l (D + 1) m_X4_share [.ref 70, .int x1'] σ' ((fun τ => (none, τ)) y)) : G l sc (D + 2) m_X4_share 14 [(0, .ref 70)] [] σ (f_X4_share_b14 n self σ) (fun τ => (none, τ)) := by
  unfold f_X4_share_b14
  refine g_aload_n (n := 0) d_X4_share_14 rfl rfl ?_
  refine g_callv_vv (D := D + 1) (As := []) d_X4_share_15 sv_X4_51 ob_70 rfl (Nat.le_of_ble_eq_true rfl) rfl (fun _ hy => EvM_cast (by omega) (e_X4_weighShares (D := D + 0) hy)) (fun σ2 => ?_)
  exact g_vret d_X4_share_18 rfl rfl
set_option maxHeartbeats 4000000 in
set_option maxRecDepth 100000 in
theorem t_X4_share_b47 {l : Launch} {sc : Nat × (Nat → Int32)} {D : Nat} {n : Nat} {self : Int32 → Mem → Option Mem} {k21 : Int32 → Int32 → Mem → Option Mem} {x1 : Int32} {x2 : Int32} {s0 : Int32} {σ : Mem} (hself : ∀ x1' σ' y, self x1' σ' = some y → EvM l (D + 1) m_X4_share [.ref 70, .int x1'] σ' ((fun τ => (none, τ)) y)) (hk21 : ∀ x1 x2 σ, G l sc (D + 2) m_X4_share 21 [(0, .ref 70), (1, .int x1), (2, .int x2)] [] σ (k21 x1 x2 σ) (fun τ => (none, τ))) : G l sc (D + 2) m_X4_share 47 [(0, .ref 70), (1, .int x1), (2, .int x2)] [.int s0] σ (f_X4_share_b47 n self k21 x1 x2 s0 σ) (fun τ => (none, τ)) := by
  unfold f_X4_share_b47
  refine g_istore_n d_X4_share_47 rfl (by decide) rfl ?_
  refine g_aload_n (n := 1) d_X4_share_48 rfl rfl ?_
  refine g_getr d_X4_share_49 fl_X4_9 sh_70 rfl ?_
  refine g_iload_n (n := 2) d_X4_share_52 rfl rfl ?_
  refine g_iload_n (n := 0) d_X4_share_53 rfl rfl ?_
  refine g_iastore d_X4_share_54 sh_71 (fun _ => ?_)
  refine g_mem (fun σ1 => ?_)
  refine g_aload_n (n := 1) d_X4_share_55 rfl rfl ?_
  refine g_getr d_X4_share_56 fl_X4_15 sh_70 rfl ?_
  refine g_iload_n (n := 0) d_X4_share_59 rfl rfl ?_
  refine g_dup2 d_X4_share_60 rfl rfl ?_
  refine g_iaload d_X4_share_61 sh_72 (fun _ => ?_)
  refine g_iconst (v := 1) d_X4_share_62 (by decide) ?_
  refine g_iload_n (n := 2) d_X4_share_63 rfl rfl ?_
  refine g_ishl d_X4_share_64 ?_
  refine g_ior d_X4_share_65 ?_
  refine g_iastore d_X4_share_66 sh_72 (fun _ => ?_)
  refine g_mem (fun σ2 => ?_)
  refine g_aload_n (n := 1) d_X4_share_67 rfl rfl ?_
  refine g_iload_n (n := 2) d_X4_share_68 rfl rfl ?_
  refine g_iconst (v := 1) d_X4_share_69 (by decide) ?_
  refine g_iadd d_X4_share_70 ?_
  refine g_calls_vv (D := D + 1) (As := [.ref 70, .int (x1 + 1)]) d_X4_share_71 ss_X4_47 rfl (Nat.le_of_ble_eq_true rfl) rfl (fun _ hy => EvM_cast (by omega) (hself _ _ _ hy)) (fun σ4 => ?_)
  refine g_aload_n (n := 1) d_X4_share_74 rfl rfl ?_
  refine g_getr d_X4_share_75 fl_X4_15 sh_70 rfl ?_
  refine g_iload_n (n := 0) d_X4_share_78 rfl rfl ?_
  refine g_dup2 d_X4_share_79 rfl rfl ?_
  refine g_iaload d_X4_share_80 sh_72 (fun _ => ?_)
  refine g_iconst (v := 1) d_X4_share_81 (by decide) ?_
  refine g_iload_n (n := 2) d_X4_share_82 rfl rfl ?_
  refine g_ishl d_X4_share_83 ?_
  refine g_iconst (v := -1) d_X4_share_84 (by decide) ?_
  refine g_ixor d_X4_share_85 ?_
  refine g_iand d_X4_share_86 ?_
  refine g_iastore d_X4_share_87 sh_72 (fun _ => ?_)
  refine g_mem (fun σ5 => ?_)
  refine g_iinc (n := 3) (w := 1) d_X4_share_88 rfl (by decide) (by decide) rfl ?_
  refine g_goto (tgt := 21) d_X4_share_91 (by decide) ?_
  refine g_sub [2, 3, 0] rfl ?_
  exact hk21 _ _ _
set_option maxHeartbeats 4000000 in
set_option maxRecDepth 100000 in
theorem t_X4_share_b21 {l : Launch} {sc : Nat × (Nat → Int32)} {D : Nat} {n : Nat} {self : Int32 → Mem → Option Mem} {k21 : Int32 → Int32 → Mem → Option Mem} {x1 : Int32} {x2 : Int32} {σ : Mem} (hself : ∀ x1' σ' y, self x1' σ' = some y → EvM l (D + 1) m_X4_share [.ref 70, .int x1'] σ' ((fun τ => (none, τ)) y)) (hk21 : ∀ x1 x2 σ, G l sc (D + 2) m_X4_share 21 [(0, .ref 70), (1, .int x1), (2, .int x2)] [] σ (k21 x1 x2 σ) (fun τ => (none, τ))) : G l sc (D + 2) m_X4_share 21 [(0, .ref 70), (1, .int x1), (2, .int x2)] [] σ (f_X4_share_b21 n self k21 x1 x2 σ) (fun τ => (none, τ)) := by
  unfold f_X4_share_b21
  refine g_iload_n (n := 2) d_X4_share_21 rfl rfl ?_
  refine g_aload_n (n := 0) d_X4_share_22 rfl rfl ?_
  refine g_geti d_X4_share_23 fl_X4_24 sh_70 rfl ?_
  refine g_icmp_gt (tgt := 94) d_X4_share_26 (by decide) (fun c1 => ?_) (fun c1 => ?_)
  · exact g_vret d_X4_share_94 rfl rfl
  · refine g_iload_n (n := 2) d_X4_share_29 rfl rfl ?_
    refine g_iconst (v := 3) d_X4_share_30 (by decide) ?_
    refine g_icmp_gt (tgt := 94) d_X4_share_31 (by decide) (fun c2 => ?_) (fun c2 => ?_)
    · exact g_vret d_X4_share_94 rfl rfl
    · refine g_iload_n (n := 2) d_X4_share_34 rfl rfl ?_
      refine g_aload_n (n := 0) d_X4_share_35 rfl rfl ?_
      refine g_geti d_X4_share_36 fl_X4_24 sh_70 rfl ?_
      refine g_icmp_ge (tgt := 46) d_X4_share_39 (by decide) (fun c3 => ?_) (fun c3 => ?_)
      · refine g_iconst (v := 3) d_X4_share_46 (by decide) ?_
        refine g_sub [0, 1, 2] rfl ?_
        exact t_X4_share_b47 hself hk21
      · refine g_iload_n (n := 2) d_X4_share_42 rfl rfl ?_
        refine g_goto (tgt := 47) d_X4_share_43 (by decide) ?_
        refine g_sub [0, 1, 2] rfl ?_
        exact t_X4_share_b47 hself hk21
set_option maxHeartbeats 4000000 in
set_option maxRecDepth 100000 in
theorem t_X4_share_l21 {l : Launch} {sc : Nat × (Nat → Int32)} {D : Nat} {n : Nat} {self : Int32 → Mem → Option Mem} (hself : ∀ x1' σ' y, self x1' σ' = some y → EvM l (D + 1) m_X4_share [.ref 70, .int x1'] σ' ((fun τ => (none, τ)) y)) : ∀ (f : Nat) (x1 : Int32) (x2 : Int32) (σ : Mem), G l sc (D + 2) m_X4_share 21 [(0, .ref 70), (1, .int x1), (2, .int x2)] [] σ (f_X4_share_l21 n self f x1 x2 σ) (fun τ => (none, τ)) := by
  intro f
  induction f with
  | zero => intro x1 x2 σ; exact g_none
  | succ f ih => intro x1 x2 σ; exact t_X4_share_b21 hself ih
set_option maxHeartbeats 4000000 in
set_option maxRecDepth 100000 in
theorem t_X4_share {l : Launch} {sc : Nat × (Nat → Int32)} {D : Nat} {n : Nat} {self : Int32 → Mem → Option Mem} {x1 : Int32} {σ : Mem} (hself : ∀ x1' σ' y, self x1' σ' = some y → EvM l (D + 1) m_X4_share [.ref 70, .int x1'] σ' ((fun τ => (none, τ)) y)) : G l sc (D + 2) m_X4_share 0 [(0, .ref 70), (1, .int x1)] [] σ (f_X4_share_s n self x1 σ) (fun τ => (none, τ)) := by
  unfold f_X4_share_s
  refine g_iload_n (n := 1) d_X4_share_0 rfl rfl ?_
  refine g_aload_n (n := 0) d_X4_share_1 rfl rfl ?_
  refine g_geti d_X4_share_2 fl_X4_33 sh_70 rfl ?_
  refine g_icmp_ge (tgt := 14) d_X4_share_5 (by decide) (fun c1 => ?_) (fun c1 => ?_)
  · refine g_sub [0] rfl ?_
    exact t_X4_share_b14 hself 
  · refine g_iload_n (n := 1) d_X4_share_8 rfl rfl ?_
    refine g_bipush (v := 6) d_X4_share_9 (by decide) ?_
    refine g_icmp_lt (tgt := 19) d_X4_share_11 (by decide) (fun c2 => ?_) (fun c2 => ?_)
    · refine g_iconst (v := 0) d_X4_share_19 (by decide) ?_
      refine g_istore_n d_X4_share_20 rfl (by decide) rfl ?_
      refine g_sub [1, 2, 0] rfl ?_
      exact t_X4_share_l21 hself  _ _ _ _
    · refine g_sub [0] rfl ?_
      exact t_X4_share_b14 hself 
theorem e_X4_share_r {l : Launch} {D : Nat} {n : Nat} : ∀ (f : Nat) (x1 : Int32) (σ : Mem) (y : Mem), f_X4_share_r n f x1 σ = some y → EvM l (D + 1 + f) m_X4_share [.ref 70, .int x1] σ ((fun τ => (none, τ)) y) := by
  intro f
  induction f with
  | zero => intro x1 σ y hy; exact absurd hy (by show ¬ none = some y; exact fun h => by cases h)
  | succ f ih =>
    intro x1 σ y hy
    refine EvM_cast (D1 := D + f + 2) (by omega) ?_
    refine evM_of (d := m_X4_share) (nL := 4) rfl (by decide +kernel) (fun h => absurd (congrArg MethodName.cls h) (by decide +kernel)) (Nat.le_of_ble_eq_true rfl) (t_X4_share (self := f_X4_share_r n f) (fun x1 σ y hy => EvM_cast (by omega) (ih x1 σ y hy)) y hy)
theorem e_X4_share {l : Launch} {D : Nat} {n : Nat} {x1 : Int32} {σ : Mem} {y : Mem} (hy : f_X4_share n x1 σ = some y) : EvM l (D + 9) m_X4_share [.ref 70, .int x1] σ ((fun τ => (none, τ)) y) := EvM_cast (by omega) (e_X4_share_r (D := D) 8 x1 σ y hy)

set_option maxHeartbeats 4000000 in
set_option maxRecDepth 100000 in
theorem t_X4_of {l : Launch} {sc : Nat × (Nat → Int32)} {D : Nat} {n : Nat} {x1 : Int32} {x2 : Nat} {x3 : Nat} {σ : Mem} : G l sc (D + 10) m_X4_of 0 [(0, .ref 70), (1, .int x1), (2, .ref x2), (3, .ref x3)] [] σ (f_X4_of n x1 x2 x3 σ) (fun τ => (none, τ)) := by
  unfold f_X4_of
  refine g_aload_n (n := 0) d_X4_of_0 rfl rfl ?_
  refine g_iload_n (n := 1) d_X4_of_1 rfl rfl ?_
  refine g_puti d_X4_of_2 fl_X4_24 sh_70 rfl ?_
  refine g_mem (fun σ1 => ?_)
  refine g_aload_n (n := 0) d_X4_of_5 rfl rfl ?_
  refine g_aload_n (n := 2) d_X4_of_6 rfl rfl ?_
  refine g_guard (fun h2 => ?_)
  refine g_geti d_X4_of_7 fl_X4_28 (shp_town h2).1 rfl ?_
  refine g_puti d_X4_of_10 fl_X4_33 sh_70 rfl ?_
  refine g_mem (fun σ3 => ?_)
  refine g_aload_n (n := 0) d_X4_of_13 rfl rfl ?_
  refine g_aload_n (n := 3) d_X4_of_14 rfl rfl ?_
  refine g_if (fun h4 => ?_) (fun _ => g_none)
  refine g_putm d_X4_of_15 fl_X4_21 sh_70 rfl h4 ?_
  refine g_mem (fun σ5 => ?_)
  refine g_aload_n (n := 0) d_X4_of_18 rfl rfl ?_
  refine g_iconst (v := 0) d_X4_of_19 (by decide) ?_
  refine g_putb d_X4_of_20 fl_X4_34 sh_70 rfl (fun _ => ?_)
  refine g_mem (fun σ6 => ?_)
  refine g_aload_n (n := 0) d_X4_of_23 rfl rfl ?_
  refine g_iconst (v := 0) d_X4_of_24 (by decide) ?_
  refine g_puti d_X4_of_25 fl_X4_38 sh_70 rfl ?_
  refine g_mem (fun σ7 => ?_)
  refine g_aload_n (n := 0) d_X4_of_28 rfl rfl ?_
  refine g_getr d_X4_of_29 fl_X4_15 sh_70 rfl ?_
  refine g_iconst (v := 0) d_X4_of_32 (by decide) ?_
  refine g_calls_vv (D := D + 9) (As := [.ref 72, .int 0]) d_X4_of_33 ss_X4_41 rfl (Nat.le_of_ble_eq_true rfl) rfl (fun _ hy => EvM_cast (by omega) (e_J7_fill_53178 (D := D + 9) hy)) (fun σ9 => ?_)
  refine g_aload_n (n := 0) d_X4_of_36 rfl rfl ?_
  refine g_iconst (v := 0) d_X4_of_37 (by decide) ?_
  refine g_calls_vv (D := D + 9) (As := [.ref 70, .int 0]) d_X4_of_38 ss_X4_47 rfl (Nat.le_of_ble_eq_true rfl) rfl (fun _ hy => EvM_cast (by omega) (e_X4_share (D := D + 0) hy)) (fun σ11 => ?_)
  exact g_vret d_X4_of_41 rfl rfl
theorem e_X4_of {l : Launch} {D : Nat} {n : Nat} {x1 : Int32} {x2 : Nat} {x3 : Nat} {σ : Mem} {y : Mem} (hy : f_X4_of n x1 x2 x3 σ = some y) : EvM l (D + 10) m_X4_of [.ref 70, .int x1, .ref x2, .ref x3] σ ((fun τ => (none, τ)) y) :=
  evM_of (d := m_X4_of) (nL := 4) rfl (by decide +kernel) (fun h => absurd (congrArg MethodName.cls h) (by decide +kernel)) (Nat.le_of_ble_eq_true rfl) (t_X4_of y hy)

set_option maxHeartbeats 4000000 in
set_option maxRecDepth 100000 in
theorem t_X5_append {l : Launch} {sc : Nat × (Nat → Int32)} {D : Nat} {x1 : Int32} {σ : Mem} : G l sc (D + 0) m_X5_append 0 [(0, .ref 13), (1, .int x1)] [] σ (f_X5_append x1 σ) (fun y => (some (.int y.1), y.2)) := by
  unfold f_X5_append
  refine g_aload_n (n := 0) d_X5_append_0 rfl rfl ?_
  refine g_geti d_X5_append_1 fl_X5_15 sh_13 rfl ?_
  refine g_bipush (v := 100) d_X5_append_4 (by decide) ?_
  refine g_icmp_lt (tgt := 11) d_X5_append_6 (by decide) (fun c1 => ?_) (fun c1 => ?_)
  · refine g_aload_n (n := 0) d_X5_append_11 rfl rfl ?_
    refine g_getr d_X5_append_12 fl_X5_11 sh_13 rfl ?_
    refine g_aload_n (n := 0) d_X5_append_15 rfl rfl ?_
    refine g_geti d_X5_append_16 fl_X5_15 sh_13 rfl ?_
    refine g_iload_n (n := 1) d_X5_append_19 rfl rfl ?_
    refine g_iastore d_X5_append_20 sh_14 (fun _ => ?_)
    refine g_mem (fun σ2 => ?_)
    refine g_aload_n (n := 0) d_X5_append_21 rfl rfl ?_
    refine g_dup d_X5_append_22 rfl ?_
    refine g_geti d_X5_append_23 fl_X5_15 sh_13 rfl ?_
    refine g_iconst (v := 1) d_X5_append_26 (by decide) ?_
    refine g_iadd d_X5_append_27 ?_
    refine g_puti d_X5_append_28 fl_X5_15 sh_13 rfl ?_
    refine g_mem (fun σ3 => ?_)
    refine g_iconst (v := 1) d_X5_append_31 (by decide) ?_
    exact g_iret d_X5_append_32 (Or.inr ⟨rfl, rfl⟩) rfl
  · refine g_iconst (v := 0) d_X5_append_9 (by decide) ?_
    exact g_iret d_X5_append_10 (Or.inr ⟨rfl, rfl⟩) rfl
theorem e_X5_append {l : Launch} {D : Nat} {x1 : Int32} {σ : Mem} {y : (Int32 × Mem)} (hy : f_X5_append x1 σ = some y) : EvM l (D + 0) m_X5_append [.ref 13, .int x1] σ ((fun y => (some (.int y.1), y.2)) y) :=
  evM_of (d := m_X5_append) (nL := 2) rfl (by decide +kernel) (fun h => absurd (congrArg MethodName.cls h) (by decide +kernel)) (Nat.le_of_ble_eq_true rfl) (t_X5_append y hy)

set_option maxHeartbeats 4000000 in
set_option maxRecDepth 100000 in
theorem t_X5_peek {l : Launch} {sc : Nat × (Nat → Int32)} {D : Nat} {σ : Mem} : G l sc (D + 0) m_X5_peek 0 [(0, .ref 13)] [] σ (f_X5_peek σ ) (fun y => (some (.int y), σ)) := by
  unfold f_X5_peek
  refine g_aload_n (n := 0) d_X5_peek_0 rfl rfl ?_
  refine g_geti d_X5_peek_1 fl_X5_19 sh_13 rfl ?_
  refine g_aload_n (n := 0) d_X5_peek_4 rfl rfl ?_
  refine g_geti d_X5_peek_5 fl_X5_15 sh_13 rfl ?_
  refine g_icmp_ge (tgt := 23) d_X5_peek_8 (by decide) (fun c1 => ?_) (fun c1 => ?_)
  · refine g_iconst (v := -1) d_X5_peek_23 (by decide) ?_
    exact g_iret d_X5_peek_24 (Or.inl rfl) rfl
  · refine g_aload_n (n := 0) d_X5_peek_11 rfl rfl ?_
    refine g_getr d_X5_peek_12 fl_X5_11 sh_13 rfl ?_
    refine g_aload_n (n := 0) d_X5_peek_15 rfl rfl ?_
    refine g_geti d_X5_peek_16 fl_X5_19 sh_13 rfl ?_
    refine g_iaload d_X5_peek_19 sh_14 (fun _ => ?_)
    refine g_goto (tgt := 24) d_X5_peek_20 (by decide) ?_
    exact g_iret d_X5_peek_24 (Or.inl rfl) rfl
theorem e_X5_peek {l : Launch} {D : Nat} {σ : Mem} {y : Int32} (hy : f_X5_peek σ = some y) : EvM l (D + 0) m_X5_peek [.ref 13] σ ((fun y => (some (.int y), σ)) y) :=
  evM_of (d := m_X5_peek) (nL := 1) rfl (by decide +kernel) (fun h => absurd (congrArg MethodName.cls h) (by decide +kernel)) (Nat.le_of_ble_eq_true rfl) (t_X5_peek y hy)

set_option maxHeartbeats 4000000 in
set_option maxRecDepth 100000 in
theorem t_X5_fail {l : Launch} {sc : Nat × (Nat → Int32)} {D : Nat} {x1 : Int32} {σ : Mem} : G l sc (D + 0) m_X5_fail 0 [(0, .ref 13), (1, .int x1)] [] σ (f_X5_fail x1 σ) (fun τ => (none, τ)) := by
  unfold f_X5_fail
  refine g_aload_n (n := 0) d_X5_fail_0 rfl rfl ?_
  refine g_geti d_X5_fail_1 fl_X5_22 sh_13 rfl ?_
  refine g_if_eq (tgt := 25) d_X5_fail_4 (by decide) (fun c1 => ?_) (fun c1 => ?_)
  · exact g_vret d_X5_fail_25 rfl rfl
  · refine g_aload_n (n := 0) d_X5_fail_7 rfl rfl ?_
    refine g_iconst (v := 0) d_X5_fail_8 (by decide) ?_
    refine g_putb d_X5_fail_9 fl_X5_22 sh_13 rfl (fun _ => ?_)
    refine g_mem (fun σ2 => ?_)
    refine g_aload_n (n := 0) d_X5_fail_12 rfl rfl ?_
    refine g_iload_n (n := 1) d_X5_fail_13 rfl rfl ?_
    refine g_puti d_X5_fail_14 fl_X5_81 sh_13 rfl ?_
    refine g_mem (fun σ3 => ?_)
    refine g_aload_n (n := 0) d_X5_fail_17 rfl rfl ?_
    refine g_aload_n (n := 0) d_X5_fail_18 rfl rfl ?_
    refine g_geti d_X5_fail_19 fl_X5_19 sh_13 rfl ?_
    refine g_puti d_X5_fail_22 fl_X5_84 sh_13 rfl ?_
    refine g_mem (fun σ4 => ?_)
    exact g_vret d_X5_fail_25 rfl rfl
theorem e_X5_fail {l : Launch} {D : Nat} {x1 : Int32} {σ : Mem} {y : Mem} (hy : f_X5_fail x1 σ = some y) : EvM l (D + 0) m_X5_fail [.ref 13, .int x1] σ ((fun τ => (none, τ)) y) :=
  evM_of (d := m_X5_fail) (nL := 2) rfl (by decide +kernel) (fun h => absurd (congrArg MethodName.cls h) (by decide +kernel)) (Nat.le_of_ble_eq_true rfl) (t_X5_fail y hy)

set_option maxHeartbeats 4000000 in
set_option maxRecDepth 100000 in
theorem t_X5_readByte {l : Launch} {sc : Nat × (Nat → Int32)} {D : Nat} {x1 : Int32} {σ : Mem} : G l sc (D + 1) m_X5_readByte 0 [(0, .ref 13), (1, .int x1)] [] σ (f_X5_readByte x1 σ) (fun τ => (none, τ)) := by
  unfold f_X5_readByte
  refine g_aload_n (n := 0) d_X5_readByte_0 rfl rfl ?_
  refine g_callv_pi (D := D + 0) (As := []) d_X5_readByte_1 sv_X5_55 ob_13 rfl (Nat.le_of_ble_eq_true rfl) rfl (fun _ hy => EvM_cast (by omega) (e_X5_peek (D := D + 0) hy)) (fun y1 => ?_)
  refine g_iload_n (n := 1) d_X5_readByte_4 rfl rfl ?_
  refine g_icmp_ne (tgt := 21) d_X5_readByte_5 (by decide) (fun c2 => ?_) (fun c2 => ?_)
  · refine g_aload_n (n := 0) d_X5_readByte_21 rfl rfl ?_
    refine g_iconst (v := 1) d_X5_readByte_22 (by decide) ?_
    refine g_callv_vv (D := D + 0) (As := [.int 1]) d_X5_readByte_23 sv_X5_62 ob_13 rfl (Nat.le_of_ble_eq_true rfl) rfl (fun _ hy => EvM_cast (by omega) (e_X5_fail (D := D + 0) hy)) (fun σ4 => ?_)
    exact g_vret d_X5_readByte_26 rfl rfl
  · refine g_aload_n (n := 0) d_X5_readByte_8 rfl rfl ?_
    refine g_dup d_X5_readByte_9 rfl ?_
    refine g_geti d_X5_readByte_10 fl_X5_19 sh_13 rfl ?_
    refine g_iconst (v := 1) d_X5_readByte_13 (by decide) ?_
    refine g_iadd d_X5_readByte_14 ?_
    refine g_puti d_X5_readByte_15 fl_X5_19 sh_13 rfl ?_
    refine g_mem (fun σ5 => ?_)
    refine g_goto (tgt := 26) d_X5_readByte_18 (by decide) ?_
    exact g_vret d_X5_readByte_26 rfl rfl
theorem e_X5_readByte {l : Launch} {D : Nat} {x1 : Int32} {σ : Mem} {y : Mem} (hy : f_X5_readByte x1 σ = some y) : EvM l (D + 1) m_X5_readByte [.ref 13, .int x1] σ ((fun τ => (none, τ)) y) :=
  evM_of (d := m_X5_readByte) (nL := 2) rfl (by decide +kernel) (fun h => absurd (congrArg MethodName.cls h) (by decide +kernel)) (Nat.le_of_ble_eq_true rfl) (t_X5_readByte y hy)

set_option maxHeartbeats 4000000 in
set_option maxRecDepth 100000 in
theorem t_X5_isFigure {l : Launch} {sc : Nat × (Nat → Int32)} {D : Nat} {σ : Mem} {x0 : Int32} : G l sc (D + 0) m_X5_isFigure 0 [(0, .int x0)] [] σ (f_X5_isFigure σ x0) (fun y => (some (.int y), σ)) := by
  unfold f_X5_isFigure
  refine g_iload_n (n := 0) d_X5_isFigure_0 rfl rfl ?_
  refine g_bipush (v := 48) d_X5_isFigure_1 (by decide) ?_
  refine g_icmp_lt (tgt := 16) d_X5_isFigure_3 (by decide) (fun c1 => ?_) (fun c1 => ?_)
  · refine g_iconst (v := 0) d_X5_isFigure_16 (by decide) ?_
    exact g_iret d_X5_isFigure_17 (Or.inr ⟨rfl, rfl⟩) rfl
  · refine g_iload_n (n := 0) d_X5_isFigure_6 rfl rfl ?_
    refine g_bipush (v := 57) d_X5_isFigure_7 (by decide) ?_
    refine g_icmp_gt (tgt := 16) d_X5_isFigure_9 (by decide) (fun c2 => ?_) (fun c2 => ?_)
    · refine g_iconst (v := 0) d_X5_isFigure_16 (by decide) ?_
      exact g_iret d_X5_isFigure_17 (Or.inr ⟨rfl, rfl⟩) rfl
    · refine g_iconst (v := 1) d_X5_isFigure_12 (by decide) ?_
      refine g_goto (tgt := 17) d_X5_isFigure_13 (by decide) ?_
      exact g_iret d_X5_isFigure_17 (Or.inr ⟨rfl, rfl⟩) rfl
theorem e_X5_isFigure {l : Launch} {D : Nat} {σ : Mem} {x0 : Int32} {y : Int32} (hy : f_X5_isFigure σ x0 = some y) : EvM l (D + 0) m_X5_isFigure [.int x0] σ ((fun y => (some (.int y), σ)) y) :=
  evM_of (d := m_X5_isFigure) (nL := 1) rfl (by decide +kernel) (fun h => absurd (congrArg MethodName.cls h) (by decide +kernel)) (Nat.le_of_ble_eq_true rfl) (t_X5_isFigure y hy)

set_option maxHeartbeats 4000000 in
set_option maxRecDepth 100000 in
theorem t_X5_readNumber_b75 {l : Launch} {sc : Nat × (Nat → Int32)} {D : Nat} {n : Nat} {x3 : Int32} {σ : Mem} : G l sc (D + 1) m_X5_readNumber 75 [(0, .ref 13), (3, .int x3)] [] σ (f_X5_readNumber_b75 n x3 σ) (fun y => (some (.int y.1), y.2)) := by
  unfold f_X5_readNumber_b75
  refine g_aload_n (n := 0) d_X5_readNumber_75 rfl rfl ?_
  refine g_iconst (v := 1) d_X5_readNumber_76 (by decide) ?_
  refine g_callv_vv (D := D + 0) (As := [.int 1]) d_X5_readNumber_77 sv_X5_62 ob_13 rfl (Nat.le_of_ble_eq_true rfl) rfl (fun _ hy => EvM_cast (by omega) (e_X5_fail (D := D + 0) hy)) (fun σ2 => ?_)
  refine g_goto (tgt := 106) d_X5_readNumber_80 (by decide) ?_
  refine g_iload_n (n := 1) d_X5_readNumber_106 rfl rfl ?_
  exact g_iret d_X5_readNumber_107 (Or.inl rfl) rfl
set_option maxHeartbeats 4000000 in
set_option maxRecDepth 100000 in
theorem t_X5_readNumber_b65 {l : Launch} {sc : Nat × (Nat → Int32)} {D : Nat} {n : Nat} {x1 : Int32} {x2 : Int32} {x3 : Int32} {σ : Mem} : G l sc (D + 1) m_X5_readNumber 65 [(0, .ref 13), (1, .int x1), (2, .int x2), (3, .int x3)] [] σ (f_X5_readNumber_b65 n x1 x2 x3 σ) (fun y => (some (.int y.1), y.2)) := by
  unfold f_X5_readNumber_b65
  refine g_iload_n (n := 2) d_X5_readNumber_65 rfl rfl ?_
  refine g_iconst (v := 1) d_X5_readNumber_66 (by decide) ?_
  refine g_icmp_lt (tgt := 75) d_X5_readNumber_67 (by decide) (fun c1 => ?_) (fun c1 => ?_)
  · refine g_sub [0, 3] rfl ?_
    exact t_X5_readNumber_b75 
  · refine g_iload_n (n := 2) d_X5_readNumber_70 rfl rfl ?_
    refine g_iconst (v := 2) d_X5_readNumber_71 (by decide) ?_
    refine g_icmp_le (tgt := 83) d_X5_readNumber_72 (by decide) (fun c2 => ?_) (fun c2 => ?_)
    · refine g_iload_n (n := 3) d_X5_readNumber_83 rfl rfl ?_
      refine g_iload_n (n := 1) d_X5_readNumber_84 rfl rfl ?_
      refine g_icmp_le (tgt := 96) d_X5_readNumber_85 (by decide) (fun c3 => ?_) (fun c3 => ?_)
      · refine g_aload_n (n := 0) d_X5_readNumber_96 rfl rfl ?_
        refine g_dup d_X5_readNumber_97 rfl ?_
        refine g_geti d_X5_readNumber_98 fl_X5_19 sh_13 rfl ?_
        refine g_iload_n (n := 2) d_X5_readNumber_101 rfl rfl ?_
        refine g_iadd d_X5_readNumber_102 ?_
        refine g_puti d_X5_readNumber_103 fl_X5_19 sh_13 rfl ?_
        refine g_mem (fun σ4 => ?_)
        refine g_iload_n (n := 3) d_X5_readNumber_106 rfl rfl ?_
        exact g_iret d_X5_readNumber_107 (Or.inl rfl) rfl
      · refine g_aload_n (n := 0) d_X5_readNumber_88 rfl rfl ?_
        refine g_iconst (v := 2) d_X5_readNumber_89 (by decide) ?_
        refine g_callv_vv (D := D + 0) (As := [.int 2]) d_X5_readNumber_90 sv_X5_62 ob_13 rfl (Nat.le_of_ble_eq_true rfl) rfl (fun _ hy => EvM_cast (by omega) (e_X5_fail (D := D + 0) hy)) (fun σ6 => ?_)
        refine g_goto (tgt := 106) d_X5_readNumber_93 (by decide) ?_
        refine g_iload_n (n := 3) d_X5_readNumber_106 rfl rfl ?_
        exact g_iret d_X5_readNumber_107 (Or.inl rfl) rfl
    · refine g_sub [0, 3] rfl ?_
      exact t_X5_readNumber_b75 
set_option maxHeartbeats 4000000 in
set_option maxRecDepth 100000 in
theorem t_X5_readNumber_b59 {l : Launch} {sc : Nat × (Nat → Int32)} {D : Nat} {n : Nat} {k4 : Int32 → Int32 → Int32 → Mem → Option (Int32 × Mem)} {x1 : Int32} {x2 : Int32} {x3 : Int32} {σ : Mem} (hk4 : ∀ x1 x2 x3 σ, G l sc (D + 1) m_X5_readNumber 4 [(0, .ref 13), (1, .int x1), (2, .int x2), (3, .int x3)] [] σ (k4 x1 x2 x3 σ) (fun y => (some (.int y.1), y.2))) : G l sc (D + 1) m_X5_readNumber 59 [(0, .ref 13), (1, .int x1), (2, .int x2), (3, .int x3)] [] σ (f_X5_readNumber_b59 n k4 x1 x2 x3 σ) (fun y => (some (.int y.1), y.2)) := by
  unfold f_X5_readNumber_b59
  refine g_iinc (n := 2) (w := 1) d_X5_readNumber_59 rfl (by decide) (by decide) rfl ?_
  refine g_goto (tgt := 4) d_X5_readNumber_62 (by decide) ?_
  refine g_sub [1, 2, 0, 3] rfl ?_
  exact hk4 _ _ _ _
set_option maxHeartbeats 4000000 in
set_option maxRecDepth 100000 in
theorem t_X5_readNumber_b4 {l : Launch} {sc : Nat × (Nat → Int32)} {D : Nat} {n : Nat} {k4 : Int32 → Int32 → Int32 → Mem → Option (Int32 × Mem)} {x1 : Int32} {x2 : Int32} {x3 : Int32} {σ : Mem} (hk4 : ∀ x1 x2 x3 σ, G l sc (D + 1) m_X5_readNumber 4 [(0, .ref 13), (1, .int x1), (2, .int x2), (3, .int x3)] [] σ (k4 x1 x2 x3 σ) (fun y => (some (.int y.1), y.2))) : G l sc (D + 1) m_X5_readNumber 4 [(0, .ref 13), (1, .int x1), (2, .int x2), (3, .int x3)] [] σ (f_X5_readNumber_b4 n k4 x1 x2 x3 σ) (fun y => (some (.int y.1), y.2)) := by
  unfold f_X5_readNumber_b4
  refine g_aload_n (n := 0) d_X5_readNumber_4 rfl rfl ?_
  refine g_geti d_X5_readNumber_5 fl_X5_19 sh_13 rfl ?_
  refine g_iload_n (n := 2) d_X5_readNumber_8 rfl rfl ?_
  refine g_iadd d_X5_readNumber_9 ?_
  refine g_aload_n (n := 0) d_X5_readNumber_10 rfl rfl ?_
  refine g_geti d_X5_readNumber_11 fl_X5_15 sh_13 rfl ?_
  refine g_icmp_ge (tgt := 65) d_X5_readNumber_14 (by decide) (fun c1 => ?_) (fun c1 => ?_)
  · refine g_sub [0, 1, 2, 3] rfl ?_
    exact t_X5_readNumber_b65 
  · refine g_aload_n (n := 0) d_X5_readNumber_17 rfl rfl ?_
    refine g_getr d_X5_readNumber_18 fl_X5_11 sh_13 rfl ?_
    refine g_aload_n (n := 0) d_X5_readNumber_21 rfl rfl ?_
    refine g_geti d_X5_readNumber_22 fl_X5_19 sh_13 rfl ?_
    refine g_iload_n (n := 2) d_X5_readNumber_25 rfl rfl ?_
    refine g_iadd d_X5_readNumber_26 ?_
    refine g_iaload d_X5_readNumber_27 sh_14 (fun _ => ?_)
    refine g_calls_pi (D := D + 0) (As := [.int (σ 14 ((σ 13 2) + x2).toNatClampNeg)]) d_X5_readNumber_28 ss_X5_77 rfl (Nat.le_of_ble_eq_true rfl) rfl (fun _ hy => EvM_cast (by omega) (e_X5_isFigure (D := D + 0) hy)) (fun y2 => ?_)
    refine g_if_eq (tgt := 65) d_X5_readNumber_31 (by decide) (fun c3 => ?_) (fun c3 => ?_)
    · refine g_sub [0, 1, 2, 3] rfl ?_
      exact t_X5_readNumber_b65 
    · refine g_iload_n (n := 2) d_X5_readNumber_34 rfl rfl ?_
      refine g_iconst (v := 2) d_X5_readNumber_35 (by decide) ?_
      refine g_icmp_ge (tgt := 59) d_X5_readNumber_36 (by decide) (fun c4 => ?_) (fun c4 => ?_)
      · refine g_sub [0, 1, 2, 3] rfl ?_
        exact t_X5_readNumber_b59 hk4
      · refine g_bipush (v := 10) d_X5_readNumber_39 (by decide) ?_
        refine g_iload_n (n := 3) d_X5_readNumber_41 rfl rfl ?_
        refine g_imul d_X5_readNumber_42 ?_
        refine g_aload_n (n := 0) d_X5_readNumber_43 rfl rfl ?_
        refine g_getr d_X5_readNumber_44 fl_X5_11 sh_13 rfl ?_
        refine g_aload_n (n := 0) d_X5_readNumber_47 rfl rfl ?_
        refine g_geti d_X5_readNumber_48 fl_X5_19 sh_13 rfl ?_
        refine g_iload_n (n := 2) d_X5_readNumber_51 rfl rfl ?_
        refine g_iadd d_X5_readNumber_52 ?_
        refine g_iaload d_X5_readNumber_53 sh_14 (fun _ => ?_)
        refine g_iadd d_X5_readNumber_54 ?_
        refine g_bipush (v := 48) d_X5_readNumber_55 (by decide) ?_
        refine g_isub d_X5_readNumber_57 ?_
        refine g_nm (fun y5 => ?_)
        refine g_istore_n d_X5_readNumber_58 rfl (by decide) rfl ?_
        refine g_sub [1, 2, 3, 0] rfl ?_
        exact t_X5_readNumber_b59 hk4
set_option maxHeartbeats 4000000 in
set_option maxRecDepth 100000 in
theorem t_X5_readNumber_l4 {l : Launch} {sc : Nat × (Nat → Int32)} {D : Nat} {n : Nat} : ∀ (f : Nat) (x1 : Int32) (x2 : Int32) (x3 : Int32) (σ : Mem), G l sc (D + 1) m_X5_readNumber 4 [(0, .ref 13), (1, .int x1), (2, .int x2), (3, .int x3)] [] σ (f_X5_readNumber_l4 n f x1 x2 x3 σ) (fun y => (some (.int y.1), y.2)) := by
  intro f
  induction f with
  | zero => intro x1 x2 x3 σ; exact g_none
  | succ f ih => intro x1 x2 x3 σ; exact t_X5_readNumber_b4 ih
set_option maxHeartbeats 4000000 in
set_option maxRecDepth 100000 in
theorem t_X5_readNumber {l : Launch} {sc : Nat × (Nat → Int32)} {D : Nat} {n : Nat} {x1 : Int32} {σ : Mem} : G l sc (D + 1) m_X5_readNumber 0 [(0, .ref 13), (1, .int x1)] [] σ (f_X5_readNumber n x1 σ) (fun y => (some (.int y.1), y.2)) := by
  unfold f_X5_readNumber
  refine g_iconst (v := 0) d_X5_readNumber_0 (by decide) ?_
  refine g_istore_n d_X5_readNumber_1 rfl (by decide) rfl ?_
  refine g_iconst (v := 0) d_X5_readNumber_2 (by decide) ?_
  refine g_istore_n d_X5_readNumber_3 rfl (by decide) rfl ?_
  refine g_sub [2, 3, 1, 0] rfl ?_
  exact t_X5_readNumber_l4  _ _ _ _ _
theorem e_X5_readNumber {l : Launch} {D : Nat} {n : Nat} {x1 : Int32} {σ : Mem} {y : (Int32 × Mem)} (hy : f_X5_readNumber n x1 σ = some y) : EvM l (D + 1) m_X5_readNumber [.ref 13, .int x1] σ ((fun y => (some (.int y.1), y.2)) y) :=
  evM_of (d := m_X5_readNumber) (nL := 4) rfl (by decide +kernel) (fun h => absurd (congrArg MethodName.cls h) (by decide +kernel)) (Nat.le_of_ble_eq_true rfl) (t_X5_readNumber y hy)

set_option maxHeartbeats 4000000 in
set_option maxRecDepth 100000 in
theorem t_X5_readLaw {l : Launch} {sc : Nat × (Nat → Int32)} {D : Nat} {n : Nat} {x1 : Nat} {σ : Mem} : G l sc (D + 2) m_X5_readLaw 0 [(0, .ref 13), (1, .ref x1)] [] σ (f_X5_readLaw n x1 σ) (fun τ => (none, τ)) := by
  unfold f_X5_readLaw
  refine g_aload_n (n := 0) d_X5_readLaw_0 rfl rfl ?_
  refine g_bipush (v := 112) d_X5_readLaw_1 (by decide) ?_
  refine g_callv_vv (D := D + 1) (As := [.int 112]) d_X5_readLaw_3 sv_X5_38 ob_13 rfl (Nat.le_of_ble_eq_true rfl) rfl (fun _ hy => EvM_cast (by omega) (e_X5_readByte (D := D + 0) hy)) (fun σ2 => ?_)
  refine g_aload_n (n := 1) d_X5_readLaw_6 rfl rfl ?_
  refine g_aload_n (n := 0) d_X5_readLaw_7 rfl rfl ?_
  refine g_bipush (v := 9) d_X5_readLaw_8 (by decide) ?_
  refine g_callv_ii (D := D + 1) (As := [.int 9]) d_X5_readLaw_10 sv_X5_42 ob_13 rfl (Nat.le_of_ble_eq_true rfl) rfl (fun _ hy => EvM_cast (by omega) (e_X5_readNumber (D := D + 0) hy)) (fun y3 σ4 => ?_)
  refine g_guard (fun h5 => ?_)
  refine g_puti d_X5_readLaw_13 fl_X5_46 (shp_town h5).1 rfl ?_
  refine g_mem (fun σ6 => ?_)
  refine g_aload_n (n := 0) d_X5_readLaw_16 rfl rfl ?_
  refine g_bipush (v := 44) d_X5_readLaw_17 (by decide) ?_
  refine g_callv_vv (D := D + 1) (As := [.int 44]) d_X5_readLaw_19 sv_X5_38 ob_13 rfl (Nat.le_of_ble_eq_true rfl) rfl (fun _ hy => EvM_cast (by omega) (e_X5_readByte (D := D + 0) hy)) (fun σ8 => ?_)
  refine g_aload_n (n := 1) d_X5_readLaw_22 rfl rfl ?_
  refine g_aload_n (n := 0) d_X5_readLaw_23 rfl rfl ?_
  refine g_bipush (v := 20) d_X5_readLaw_24 (by decide) ?_
  refine g_callv_ii (D := D + 1) (As := [.int 20]) d_X5_readLaw_26 sv_X5_42 ob_13 rfl (Nat.le_of_ble_eq_true rfl) rfl (fun _ hy => EvM_cast (by omega) (e_X5_readNumber (D := D + 0) hy)) (fun y9 σ10 => ?_)
  refine g_puti d_X5_readLaw_29 fl_X5_49 (shp_town h5).1 rfl ?_
  refine g_mem (fun σ11 => ?_)
  refine g_aload_n (n := 0) d_X5_readLaw_32 rfl rfl ?_
  refine g_bipush (v := 44) d_X5_readLaw_33 (by decide) ?_
  refine g_callv_vv (D := D + 1) (As := [.int 44]) d_X5_readLaw_35 sv_X5_38 ob_13 rfl (Nat.le_of_ble_eq_true rfl) rfl (fun _ hy => EvM_cast (by omega) (e_X5_readByte (D := D + 0) hy)) (fun σ13 => ?_)
  refine g_aload_n (n := 1) d_X5_readLaw_38 rfl rfl ?_
  refine g_aload_n (n := 0) d_X5_readLaw_39 rfl rfl ?_
  refine g_bipush (v := 60) d_X5_readLaw_40 (by decide) ?_
  refine g_callv_ii (D := D + 1) (As := [.int 60]) d_X5_readLaw_42 sv_X5_42 ob_13 rfl (Nat.le_of_ble_eq_true rfl) rfl (fun _ hy => EvM_cast (by omega) (e_X5_readNumber (D := D + 0) hy)) (fun y14 σ15 => ?_)
  refine g_puti d_X5_readLaw_45 fl_X5_52 (shp_town h5).1 rfl ?_
  refine g_mem (fun σ16 => ?_)
  refine g_aload_n (n := 0) d_X5_readLaw_48 rfl rfl ?_
  refine g_bipush (v := 59) d_X5_readLaw_49 (by decide) ?_
  refine g_callv_vv (D := D + 1) (As := [.int 59]) d_X5_readLaw_51 sv_X5_38 ob_13 rfl (Nat.le_of_ble_eq_true rfl) rfl (fun _ hy => EvM_cast (by omega) (e_X5_readByte (D := D + 0) hy)) (fun σ18 => ?_)
  exact g_vret d_X5_readLaw_54 rfl rfl
theorem e_X5_readLaw {l : Launch} {D : Nat} {n : Nat} {x1 : Nat} {σ : Mem} {y : Mem} (hy : f_X5_readLaw n x1 σ = some y) : EvM l (D + 2) m_X5_readLaw [.ref 13, .ref x1] σ ((fun τ => (none, τ)) y) :=
  evM_of (d := m_X5_readLaw) (nL := 2) rfl (by decide +kernel) (fun h => absurd (congrArg MethodName.cls h) (by decide +kernel)) (Nat.le_of_ble_eq_true rfl) (t_X5_readLaw y hy)

set_option maxHeartbeats 4000000 in
set_option maxRecDepth 100000 in
theorem t_X5_sortOf {l : Launch} {sc : Nat × (Nat → Int32)} {D : Nat} {σ : Mem} {x0 : Int32} : G l sc (D + 0) m_X5_sortOf 0 [(0, .int x0)] [] σ (f_X5_sortOf σ x0) (fun y => (some (.int y), σ)) := by
  unfold f_X5_sortOf
  refine g_iload_n (n := 0) d_X5_sortOf_0 rfl rfl ?_
  refine g_if (fun c1 => ?_) (fun c1 => ?_)
  · refine g_lookup (off := 55) (tgt := 56) d_X5_sortOf_1 (by decide) (by rw [c1] <;> rfl) (by decide) ?_
    refine g_iconst (v := 3) d_X5_sortOf_56 (by decide) ?_
    exact g_iret d_X5_sortOf_57 (Or.inl rfl) rfl
  refine g_if (fun c2 => ?_) (fun c2 => ?_)
  · refine g_lookup (off := 51) (tgt := 52) d_X5_sortOf_1 (by decide) (by rw [c2] <;> rfl) (by decide) ?_
    refine g_iconst (v := 1) d_X5_sortOf_52 (by decide) ?_
    exact g_iret d_X5_sortOf_53 (Or.inl rfl) rfl
  refine g_if (fun c3 => ?_) (fun c3 => ?_)
  · refine g_lookup (off := 59) (tgt := 60) d_X5_sortOf_1 (by decide) (by rw [c3] <;> rfl) (by decide) ?_
    refine g_iconst (v := 5) d_X5_sortOf_60 (by decide) ?_
    exact g_iret d_X5_sortOf_61 (Or.inl rfl) rfl
  refine g_if (fun c4 => ?_) (fun c4 => ?_)
  · refine g_lookup (off := 57) (tgt := 58) d_X5_sortOf_1 (by decide) (by rw [c4] <;> rfl) (by decide) ?_
    refine g_iconst (v := 4) d_X5_sortOf_58 (by decide) ?_
    exact g_iret d_X5_sortOf_59 (Or.inl rfl) rfl
  refine g_if (fun c5 => ?_) (fun c5 => ?_)
  · refine g_lookup (off := 53) (tgt := 54) d_X5_sortOf_1 (by decide) (by rw [c5] <;> rfl) (by decide) ?_
    refine g_iconst (v := 2) d_X5_sortOf_54 (by decide) ?_
    exact g_iret d_X5_sortOf_55 (Or.inl rfl) rfl
  refine g_lookup (off := 61) (tgt := 62) d_X5_sortOf_1 (by decide) ((lv_osw c1 rfl).trans <| (lv_osw c2 rfl).trans <| (lv_osw c3 rfl).trans <| (lv_osw c4 rfl).trans <| (lv_osw c5 rfl).trans <| rfl) (by decide) ?_
  refine g_iconst (v := 0) d_X5_sortOf_62 (by decide) ?_
  exact g_iret d_X5_sortOf_63 (Or.inl rfl) rfl
theorem e_X5_sortOf {l : Launch} {D : Nat} {σ : Mem} {x0 : Int32} {y : Int32} (hy : f_X5_sortOf σ x0 = some y) : EvM l (D + 0) m_X5_sortOf [.int x0] σ ((fun y => (some (.int y), σ)) y) :=
  evM_of (d := m_X5_sortOf) (nL := 1) rfl (by decide +kernel) (fun h => absurd (congrArg MethodName.cls h) (by decide +kernel)) (Nat.le_of_ble_eq_true rfl) (t_X5_sortOf y hy)

set_option maxHeartbeats 4000000 in
set_option maxRecDepth 100000 in
theorem t_X5_readReader {l : Launch} {sc : Nat × (Nat → Int32)} {D : Nat} {n : Nat} {x1 : Nat} {σ : Mem} : G l sc (D + 2) m_X5_readReader 0 [(0, .ref 13), (1, .ref x1)] [] σ (f_X5_readReader n x1 σ) (fun τ => (none, τ)) := by
  unfold f_X5_readReader
  refine g_aload_n (n := 0) d_X5_readReader_0 rfl rfl ?_
  refine g_callv_pi (D := D + 1) (As := []) d_X5_readReader_1 sv_X5_55 ob_13 rfl (Nat.le_of_ble_eq_true rfl) rfl (fun _ hy => EvM_cast (by omega) (e_X5_peek (D := D + 1) hy)) (fun y1 => ?_)
  refine g_calls_pi (D := D + 1) (As := [.int y1]) d_X5_readReader_4 ss_X5_59 rfl (Nat.le_of_ble_eq_true rfl) rfl (fun _ hy => EvM_cast (by omega) (e_X5_sortOf (D := D + 1) hy)) (fun y2 => ?_)
  refine g_istore_n d_X5_readReader_7 rfl (by decide) rfl ?_
  refine g_iload_n (n := 0) d_X5_readReader_8 rfl rfl ?_
  refine g_if_ne (tgt := 18) d_X5_readReader_9 (by decide) (fun c3 => ?_) (fun c3 => ?_)
  · refine g_aload_n (n := 2) d_X5_readReader_18 rfl rfl ?_
    refine g_guard (fun h4 => ?_)
    refine g_geti d_X5_readReader_19 fl_X5_30 (shp_town h4).1 rfl ?_
    refine g_bipush (v := 6) d_X5_readReader_22 (by decide) ?_
    refine g_icmp_lt (tgt := 33) d_X5_readReader_24 (by decide) (fun c5 => ?_) (fun c5 => ?_)
    · refine g_aload_n (n := 1) d_X5_readReader_33 rfl rfl ?_
      refine g_dup d_X5_readReader_34 rfl ?_
      refine g_geti d_X5_readReader_35 fl_X5_19 sh_13 rfl ?_
      refine g_iconst (v := 1) d_X5_readReader_38 (by decide) ?_
      refine g_iadd d_X5_readReader_39 ?_
      refine g_puti d_X5_readReader_40 fl_X5_19 sh_13 rfl ?_
      refine g_mem (fun σ6 => ?_)
      refine g_aload_n (n := 2) d_X5_readReader_43 rfl rfl ?_
      refine g_geti d_X5_readReader_44 fl_X5_30 (shp_town h4).1 rfl ?_
      refine g_nm (fun y7 => ?_)
      refine g_istore_n d_X5_readReader_47 rfl (by decide) rfl ?_
      refine g_aload_n (n := 3) d_X5_readReader_48 rfl rfl ?_
      refine g_dup d_X5_readReader_49 rfl ?_
      refine g_geti d_X5_readReader_50 fl_X5_30 (shp_town h4).1 rfl ?_
      refine g_iconst (v := 1) d_X5_readReader_53 (by decide) ?_
      refine g_iadd d_X5_readReader_54 ?_
      refine g_puti d_X5_readReader_55 fl_X5_30 (shp_town h4).1 rfl ?_
      refine g_mem (fun σ8 => ?_)
      refine g_aload_n (n := 3) d_X5_readReader_58 rfl rfl ?_
      refine g_getr d_X5_readReader_59 fl_X5_65 (shp_town h4).1 rfl ?_
      refine g_iload_n (n := 0) d_X5_readReader_62 rfl rfl ?_
      refine g_iload_n (n := 1) d_X5_readReader_63 rfl rfl ?_
      refine g_iastore d_X5_readReader_64 (shp_town h4).2.1 (fun _ => ?_)
      refine g_mem (fun σ9 => ?_)
      refine g_aload_n (n := 3) d_X5_readReader_65 rfl rfl ?_
      refine g_getr d_X5_readReader_66 fl_X5_68 (shp_town h4).1 rfl ?_
      refine g_iload_n (n := 0) d_X5_readReader_69 rfl rfl ?_
      refine g_aload_n (n := 2) d_X5_readReader_70 rfl rfl ?_
      refine g_bipush (v := 9) d_X5_readReader_71 (by decide) ?_
      refine g_callv_ii (D := D + 1) (As := [.int 9]) d_X5_readReader_73 sv_X5_42 ob_13 rfl (Nat.le_of_ble_eq_true rfl) rfl (fun _ hy => EvM_cast (by omega) (e_X5_readNumber (D := D + 0) hy)) (fun y10 σ11 => ?_)
      refine g_iastore d_X5_readReader_76 (shp_town h4).2.2.1 (fun _ => ?_)
      refine g_mem (fun σ12 => ?_)
      refine g_aload_n (n := 2) d_X5_readReader_77 rfl rfl ?_
      refine g_bipush (v := 44) d_X5_readReader_78 (by decide) ?_
      refine g_callv_vv (D := D + 1) (As := [.int 44]) d_X5_readReader_80 sv_X5_38 ob_13 rfl (Nat.le_of_ble_eq_true rfl) rfl (fun _ hy => EvM_cast (by omega) (e_X5_readByte (D := D + 0) hy)) (fun σ14 => ?_)
      refine g_aload_n (n := 3) d_X5_readReader_83 rfl rfl ?_
      refine g_getr d_X5_readReader_84 fl_X5_71 (shp_town h4).1 rfl ?_
      refine g_iload_n (n := 0) d_X5_readReader_87 rfl rfl ?_
      refine g_aload_n (n := 2) d_X5_readReader_88 rfl rfl ?_
      refine g_bipush (v := 30) d_X5_readReader_89 (by decide) ?_
      refine g_callv_ii (D := D + 1) (As := [.int 30]) d_X5_readReader_91 sv_X5_42 ob_13 rfl (Nat.le_of_ble_eq_true rfl) rfl (fun _ hy => EvM_cast (by omega) (e_X5_readNumber (D := D + 0) hy)) (fun y15 σ16 => ?_)
      refine g_iastore d_X5_readReader_94 (shp_town h4).2.2.2.1 (fun _ => ?_)
      refine g_mem (fun σ17 => ?_)
      refine g_aload_n (n := 2) d_X5_readReader_95 rfl rfl ?_
      refine g_bipush (v := 44) d_X5_readReader_96 (by decide) ?_
      refine g_callv_vv (D := D + 1) (As := [.int 44]) d_X5_readReader_98 sv_X5_38 ob_13 rfl (Nat.le_of_ble_eq_true rfl) rfl (fun _ hy => EvM_cast (by omega) (e_X5_readByte (D := D + 0) hy)) (fun σ19 => ?_)
      refine g_aload_n (n := 3) d_X5_readReader_101 rfl rfl ?_
      refine g_getr d_X5_readReader_102 fl_X5_74 (shp_town h4).1 rfl ?_
      refine g_iload_n (n := 0) d_X5_readReader_105 rfl rfl ?_
      refine g_aload_n (n := 2) d_X5_readReader_106 rfl rfl ?_
      refine g_bipush (v := 9) d_X5_readReader_107 (by decide) ?_
      refine g_callv_ii (D := D + 1) (As := [.int 9]) d_X5_readReader_109 sv_X5_42 ob_13 rfl (Nat.le_of_ble_eq_true rfl) rfl (fun _ hy => EvM_cast (by omega) (e_X5_readNumber (D := D + 0) hy)) (fun y20 σ21 => ?_)
      refine g_iastore d_X5_readReader_112 (shp_town h4).2.2.2.2 (fun _ => ?_)
      refine g_mem (fun σ22 => ?_)
      refine g_aload_n (n := 2) d_X5_readReader_113 rfl rfl ?_
      refine g_bipush (v := 59) d_X5_readReader_114 (by decide) ?_
      refine g_callv_vv (D := D + 1) (As := [.int 59]) d_X5_readReader_116 sv_X5_38 ob_13 rfl (Nat.le_of_ble_eq_true rfl) rfl (fun _ hy => EvM_cast (by omega) (e_X5_readByte (D := D + 0) hy)) (fun σ24 => ?_)
      exact g_vret d_X5_readReader_119 rfl rfl
    · refine g_aload_n (n := 1) d_X5_readReader_27 rfl rfl ?_
      refine g_iconst (v := 3) d_X5_readReader_28 (by decide) ?_
      refine g_callv_vv (D := D + 1) (As := [.int 3]) d_X5_readReader_29 sv_X5_62 ob_13 rfl (Nat.le_of_ble_eq_true rfl) rfl (fun _ hy => EvM_cast (by omega) (e_X5_fail (D := D + 1) hy)) (fun σ26 => ?_)
      exact g_vret d_X5_readReader_32 rfl rfl
  · refine g_aload_n (n := 1) d_X5_readReader_12 rfl rfl ?_
    refine g_iconst (v := 1) d_X5_readReader_13 (by decide) ?_
    refine g_callv_vv (D := D + 1) (As := [.int 1]) d_X5_readReader_14 sv_X5_62 ob_13 rfl (Nat.le_of_ble_eq_true rfl) rfl (fun _ hy => EvM_cast (by omega) (e_X5_fail (D := D + 1) hy)) (fun σ28 => ?_)
    exact g_vret d_X5_readReader_17 rfl rfl
theorem e_X5_readReader {l : Launch} {D : Nat} {n : Nat} {x1 : Nat} {σ : Mem} {y : Mem} (hy : f_X5_readReader n x1 σ = some y) : EvM l (D + 2) m_X5_readReader [.ref 13, .ref x1] σ ((fun τ => (none, τ)) y) :=
  evM_of (d := m_X5_readReader) (nL := 4) rfl (by decide +kernel) (fun h => absurd (congrArg MethodName.cls h) (by decide +kernel)) (Nat.le_of_ble_eq_true rfl) (t_X5_readReader y hy)

set_option maxHeartbeats 4000000 in
set_option maxRecDepth 100000 in
theorem t_X5_readInto_b22 {l : Launch} {sc : Nat × (Nat → Int32)} {D : Nat} {n : Nat} {k22 : Nat → Int32 → Mem → Option (Int32 × Mem)} {x1 : Nat} {x2 : Int32} {σ : Mem} (hk22 : ∀ x1 x2 σ, G l sc (D + 3) m_X5_readInto 22 [(0, .ref 13), (1, .ref x1), (2, .int x2)] [] σ (k22 x1 x2 σ) (fun y => (some (.int y.1), y.2))) : G l sc (D + 3) m_X5_readInto 22 [(0, .ref 13), (1, .ref x1), (2, .int x2)] [] σ (f_X5_readInto_b22 n k22 x1 x2 σ) (fun y => (some (.int y.1), y.2)) := by
  unfold f_X5_readInto_b22
  refine g_iload_n (n := 2) d_X5_readInto_22 rfl rfl ?_
  refine g_bipush (v := 6) d_X5_readInto_23 (by decide) ?_
  refine g_icmp_gt (tgt := 57) d_X5_readInto_25 (by decide) (fun c1 => ?_) (fun c1 => ?_)
  · refine g_aload_n (n := 0) d_X5_readInto_57 rfl rfl ?_
    refine g_geti d_X5_readInto_58 fl_X5_22 sh_13 rfl ?_
    refine g_nm (fun y2 => ?_)
    refine g_guard (fun h3 => ?_)
    exact g_iret d_X5_readInto_61 (Or.inr ⟨rfl, h3⟩) rfl
  · refine g_aload_n (n := 0) d_X5_readInto_28 rfl rfl ?_
    refine g_geti d_X5_readInto_29 fl_X5_22 sh_13 rfl ?_
    refine g_if_eq (tgt := 57) d_X5_readInto_32 (by decide) (fun c4 => ?_) (fun c4 => ?_)
    · refine g_aload_n (n := 0) d_X5_readInto_57 rfl rfl ?_
      refine g_geti d_X5_readInto_58 fl_X5_22 sh_13 rfl ?_
      refine g_nm (fun y5 => ?_)
      refine g_guard (fun h6 => ?_)
      exact g_iret d_X5_readInto_61 (Or.inr ⟨rfl, h6⟩) rfl
    · refine g_aload_n (n := 0) d_X5_readInto_35 rfl rfl ?_
      refine g_geti d_X5_readInto_36 fl_X5_19 sh_13 rfl ?_
      refine g_aload_n (n := 0) d_X5_readInto_39 rfl rfl ?_
      refine g_geti d_X5_readInto_40 fl_X5_15 sh_13 rfl ?_
      refine g_icmp_ge (tgt := 57) d_X5_readInto_43 (by decide) (fun c7 => ?_) (fun c7 => ?_)
      · refine g_aload_n (n := 0) d_X5_readInto_57 rfl rfl ?_
        refine g_geti d_X5_readInto_58 fl_X5_22 sh_13 rfl ?_
        refine g_nm (fun y8 => ?_)
        refine g_guard (fun h9 => ?_)
        exact g_iret d_X5_readInto_61 (Or.inr ⟨rfl, h9⟩) rfl
      · refine g_aload_n (n := 0) d_X5_readInto_46 rfl rfl ?_
        refine g_aload_n (n := 1) d_X5_readInto_47 rfl rfl ?_
        refine g_callv_vv (D := D + 2) (As := [.ref x1]) d_X5_readInto_48 sv_X5_35 ob_13 rfl (Nat.le_of_ble_eq_true rfl) rfl (fun _ hy => EvM_cast (by omega) (e_X5_readReader (D := D + 0) hy)) (fun σ11 => ?_)
        refine g_iinc (n := 2) (w := 1) d_X5_readInto_51 rfl (by decide) (by decide) rfl ?_
        refine g_goto (tgt := 22) d_X5_readInto_54 (by decide) ?_
        refine g_sub [1, 2, 0] rfl ?_
        exact hk22 _ _ _
set_option maxHeartbeats 4000000 in
set_option maxRecDepth 100000 in
theorem t_X5_readInto_l22 {l : Launch} {sc : Nat × (Nat → Int32)} {D : Nat} {n : Nat} : ∀ (f : Nat) (x1 : Nat) (x2 : Int32) (σ : Mem), G l sc (D + 3) m_X5_readInto 22 [(0, .ref 13), (1, .ref x1), (2, .int x2)] [] σ (f_X5_readInto_l22 n f x1 x2 σ) (fun y => (some (.int y.1), y.2)) := by
  intro f
  induction f with
  | zero => intro x1 x2 σ; exact g_none
  | succ f ih => intro x1 x2 σ; exact t_X5_readInto_b22 ih
set_option maxHeartbeats 4000000 in
set_option maxRecDepth 100000 in
theorem t_X5_readInto {l : Launch} {sc : Nat × (Nat → Int32)} {D : Nat} {n : Nat} {x1 : Nat} {σ : Mem} : G l sc (D + 3) m_X5_readInto 0 [(0, .ref 13), (1, .ref x1)] [] σ (f_X5_readInto n x1 σ) (fun y => (some (.int y.1), y.2)) := by
  unfold f_X5_readInto
  refine g_aload_n (n := 0) d_X5_readInto_0 rfl rfl ?_
  refine g_iconst (v := 0) d_X5_readInto_1 (by decide) ?_
  refine g_puti d_X5_readInto_2 fl_X5_19 sh_13 rfl ?_
  refine g_mem (fun σ1 => ?_)
  refine g_aload_n (n := 0) d_X5_readInto_5 rfl rfl ?_
  refine g_iconst (v := 1) d_X5_readInto_6 (by decide) ?_
  refine g_putb d_X5_readInto_7 fl_X5_22 sh_13 rfl (fun _ => ?_)
  refine g_mem (fun σ2 => ?_)
  refine g_aload_n (n := 0) d_X5_readInto_10 rfl rfl ?_
  refine g_aload_n (n := 1) d_X5_readInto_11 rfl rfl ?_
  refine g_callv_vv (D := D + 2) (As := [.ref x1]) d_X5_readInto_12 sv_X5_26 ob_13 rfl (Nat.le_of_ble_eq_true rfl) rfl (fun _ hy => EvM_cast (by omega) (e_X5_readLaw (D := D + 0) hy)) (fun σ4 => ?_)
  refine g_aload_n (n := 1) d_X5_readInto_15 rfl rfl ?_
  refine g_iconst (v := 0) d_X5_readInto_16 (by decide) ?_
  refine g_guard (fun h5 => ?_)
  refine g_puti d_X5_readInto_17 fl_X5_30 (shp_town h5).1 rfl ?_
  refine g_mem (fun σ6 => ?_)
  refine g_iconst (v := 0) d_X5_readInto_20 (by decide) ?_
  refine g_istore_n d_X5_readInto_21 rfl (by decide) rfl ?_
  refine g_sub [1, 2, 0] rfl ?_
  exact t_X5_readInto_l22  _ _ _ _
theorem e_X5_readInto {l : Launch} {D : Nat} {n : Nat} {x1 : Nat} {σ : Mem} {y : (Int32 × Mem)} (hy : f_X5_readInto n x1 σ = some y) : EvM l (D + 3) m_X5_readInto [.ref 13, .ref x1] σ ((fun y => (some (.int y.1), y.2)) y) :=
  evM_of (d := m_X5_readInto) (nL := 3) rfl (by decide +kernel) (fun h => absurd (congrArg MethodName.cls h) (by decide +kernel)) (Nat.le_of_ble_eq_true rfl) (t_X5_readInto y hy)

set_option maxHeartbeats 4000000 in
set_option maxRecDepth 100000 in
theorem t_X6_handAlong_b6 {l : Launch} {sc : Nat × (Nat → Int32)} {D : Nat} {n : Nat} {k6 : Nat → Nat → Int32 → Int32 → Int32 → Int32 → Mem → Option (Int32 × Mem)} {x0 : Nat} {x1 : Nat} {x2 : Int32} {x3 : Int32} {x4 : Int32} {x5 : Int32} {σ : Mem} (hk6 : ∀ x0 x1 x2 x3 x4 x5 σ, G l sc (D + 4) m_X6_handAlong 6 [(0, .ref x0), (1, .ref x1), (2, .int x2), (3, .int x3), (4, .int x4), (5, .int x5)] [] σ (k6 x0 x1 x2 x3 x4 x5 σ) (fun y => (some (.int y.1), y.2))) : G l sc (D + 4) m_X6_handAlong 6 [(0, .ref x0), (1, .ref x1), (2, .int x2), (3, .int x3), (4, .int x4), (5, .int x5)] [] σ (f_X6_handAlong_b6 n k6 x0 x1 x2 x3 x4 x5 σ) (fun y => (some (.int y.1), y.2)) := by
  unfold f_X6_handAlong_b6
  refine g_iload (n := 5) d_X6_handAlong_6 rfl ?_
  refine g_iload_n (n := 3) d_X6_handAlong_8 rfl rfl ?_
  refine g_icmp_ge (tgt := 49) d_X6_handAlong_9 (by decide) (fun c1 => ?_) (fun c1 => ?_)
  · refine g_iload (n := 4) d_X6_handAlong_49 rfl ?_
    exact g_iret d_X6_handAlong_51 (Or.inl rfl) rfl
  · refine g_aload_n (n := 1) d_X6_handAlong_12 rfl rfl ?_
    refine g_iload_n (n := 2) d_X6_handAlong_13 rfl rfl ?_
    refine g_iload (n := 5) d_X6_handAlong_14 rfl ?_
    refine g_iadd d_X6_handAlong_16 ?_
    refine g_guard (fun h2 => ?_)
    refine g_iaload d_X6_handAlong_17 (shp_IA h2) (fun _ => ?_)
    refine g_nm (fun y3 => ?_)
    refine g_istore d_X6_handAlong_18 (by decide) rfl ?_
    refine g_aload_n (n := 1) d_X6_handAlong_20 rfl rfl ?_
    refine g_iload (n := 0) d_X6_handAlong_21 rfl ?_
    refine g_guard (fun h4 => ?_)
    refine g_callv_pi (D := D + 3) (As := [.int y3]) d_X6_handAlong_23 sv_X6_89 (ob_town h4) rfl (Nat.le_of_ble_eq_true rfl) rfl (fun _ hy => EvM_cast (by omega) (e_X6_canHave (D := D + 1) hy)) (fun y5 => ?_)
    refine g_if_ne (tgt := 32) d_X6_handAlong_26 (by decide) (fun c6 => ?_) (fun c6 => ?_)
    · refine g_iload (n := 5) d_X6_handAlong_32 rfl ?_
      refine g_aload_n (n := 1) d_X6_handAlong_34 rfl rfl ?_
      refine g_iload (n := 0) d_X6_handAlong_35 rfl ?_
      refine g_callv_ii (D := D + 3) (As := [.int y3]) d_X6_handAlong_37 sv_X6_93 (ob_town h4) rfl (Nat.le_of_ble_eq_true rfl) rfl (fun _ hy => EvM_cast (by omega) (e_X6_hand (D := D + 0) hy)) (fun y7 σ8 => ?_)
      refine g_iadd d_X6_handAlong_40 ?_
      refine g_nm (fun y9 => ?_)
      refine g_istore d_X6_handAlong_41 (by decide) rfl ?_
      refine g_iinc (n := 6) (w := 1) d_X6_handAlong_43 rfl (by decide) (by decide) rfl ?_
      refine g_goto (tgt := 6) d_X6_handAlong_46 (by decide) ?_
      refine g_sub [3, 4, 5, 6, 1, 0] rfl ?_
      exact hk6 _ _ _ _ _ _ _
    · refine g_ldc d_X6_handAlong_29 kc_X6_92 ?_
      exact g_iret d_X6_handAlong_31 (Or.inl rfl) rfl
set_option maxHeartbeats 4000000 in
set_option maxRecDepth 100000 in
theorem t_X6_handAlong_l6 {l : Launch} {sc : Nat × (Nat → Int32)} {D : Nat} {n : Nat} : ∀ (f : Nat) (x0 : Nat) (x1 : Nat) (x2 : Int32) (x3 : Int32) (x4 : Int32) (x5 : Int32) (σ : Mem), G l sc (D + 4) m_X6_handAlong 6 [(0, .ref x0), (1, .ref x1), (2, .int x2), (3, .int x3), (4, .int x4), (5, .int x5)] [] σ (f_X6_handAlong_l6 n f x0 x1 x2 x3 x4 x5 σ) (fun y => (some (.int y.1), y.2)) := by
  intro f
  induction f with
  | zero => intro x0 x1 x2 x3 x4 x5 σ; exact g_none
  | succ f ih => intro x0 x1 x2 x3 x4 x5 σ; exact t_X6_handAlong_b6 ih
set_option maxHeartbeats 4000000 in
set_option maxRecDepth 100000 in
theorem t_X6_handAlong {l : Launch} {sc : Nat × (Nat → Int32)} {D : Nat} {n : Nat} {t : Nat} {x1 : Nat} {x2 : Int32} {x3 : Int32} {σ : Mem} : G l sc (D + 4) m_X6_handAlong 0 [(0, .ref t), (1, .ref x1), (2, .int x2), (3, .int x3)] [] σ (f_X6_handAlong n t x1 x2 x3 σ) (fun y => (some (.int y.1), y.2)) := by
  unfold f_X6_handAlong
  refine g_iconst (v := 0) d_X6_handAlong_0 (by decide) ?_
  refine g_istore d_X6_handAlong_1 (by decide) rfl ?_
  refine g_iconst (v := 0) d_X6_handAlong_3 (by decide) ?_
  refine g_istore d_X6_handAlong_4 (by decide) rfl ?_
  refine g_sub [2, 3, 4, 5, 1, 0] rfl ?_
  exact t_X6_handAlong_l6  _ _ _ _ _ _ _ _
theorem e_X6_handAlong {l : Launch} {D : Nat} {n : Nat} {t : Nat} {x1 : Nat} {x2 : Int32} {x3 : Int32} {σ : Mem} {y : (Int32 × Mem)} (hy : f_X6_handAlong n t x1 x2 x3 σ = some y) : EvM l (D + 4) m_X6_handAlong [.ref t, .ref x1, .int x2, .int x3] σ ((fun y => (some (.int y.1), y.2)) y) :=
  evM_of (d := m_X6_handAlong) (nL := 7) rfl (by decide +kernel) (fun h => absurd (congrArg MethodName.cls h) (by decide +kernel)) (Nat.le_of_ble_eq_true rfl) (t_X6_handAlong y hy)
