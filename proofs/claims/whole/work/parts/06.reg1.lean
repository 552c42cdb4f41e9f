set_option maxRecDepth 100000 in
set_option maxHeartbeats 4000000 in
theorem r_X6_knot_0 {P : Int32 → zM → Prop} (l1 : Int64) (F : Nat → Int32) (I : Nat → Nat → Int32) (J : Nat → Nat → Int64)
  (k : (((F 0) < 100 → vp_in (F 0) 100 ∧ AMv m_X3_forget [.ref 31] (F, I, z_ul J 0 (zn (F 0)) l1) (fun M26 => P (M26.1 0) (upd M26.1 0 ((M26.1 0) + 1), M26.2.1, M26.2.2))) ∧ (¬ (F 0) < 100 → P (-4) (F, I, J)))) :
  AMi m_X6_knot [.ref 0, .long l1] (F, I, J) P := by
  refine z_entry (pad := 0) [some (.ref 0), some (.long l1), none] (by decide) rfl rfl (fun _ => Nat.le_of_ble_eq_true rfl) ?_
  refine z_aload_n dX6_knot_0 rfl rfl ?_
  refine z_geti dX6_knot_1 fl_X6_69 lo0_0 rfl ?_
  refine z_bipush (v := 100) dX6_knot_4 (by decide) ?_
  refine z_icmp_lt 12 dX6_knot_6 (by decide) ⟨fun h1 => ?_, fun h1 => ?_⟩
  · replace k := k.1 h1
    refine z_aload_n dX6_knot_12 rfl rfl ?_
    refine z_getr dX6_knot_13 fl_X6_9 lo0_0 rfl ?_
    refine z_aload_n dX6_knot_16 rfl rfl ?_
    refine z_geti dX6_knot_17 fl_X6_69 lo0_0 rfl ?_
    refine z_lload_n dX6_knot_20 rfl rfl ?_
    refine z_last dX6_knot_21 lo0_1 ⟨k.1, ?_⟩
    replace k := k.2
    refine z_aload_n dX6_knot_22 rfl rfl ?_
    refine z_getr dX6_knot_23 fl_X6_51 lo0_0 rfl ?_
    refine z_callv (I := m_X6_knot) (I2 := m_X3_forget) (st := []) [] dX6_knot_26 ml_X6_72 rfl (by decide) lo0_31 rfl (Nat.le_of_ble_eq_true rfl) rfl (AMv.mono k (fun M26 k => ?_))
    refine z_aload_n dX6_knot_29 rfl rfl ?_
    refine z_dup dX6_knot_30 rfl ?_
    refine z_geti dX6_knot_31 fl_X6_69 lo0_0 rfl ?_
    refine z_dup_x1 dX6_knot_34 rfl rfl ?_
    refine z_iconst (v := 1) dX6_knot_35 (by decide) ?_
    refine z_iadd dX6_knot_36 ?_
    refine z_puti dX6_knot_37 fw_X6_69 lo0_0 rfl ?_
    exact z_ireturn (st := []) rfl dX6_knot_40 ⟨_, rfl, k⟩
  · replace k := k.2 h1
    refine z_bipush (v := (-4)) dX6_knot_9 (by decide) ?_
    exact z_ireturn (st := []) rfl dX6_knot_11 ⟨_, rfl, k⟩

set_option maxRecDepth 100000 in
set_option maxHeartbeats 4000000 in
theorem r_X6_kind_0 {P : Int32 → zM → Prop} (x1 : Int32) (F : Nat → Int32) (I : Nat → Nat → Int32) (J : Nat → Nat → Int64)
  (k : ((x1 < 0 → P (-2) (F, I, J)) ∧ (¬ x1 < 0 → ((x1 ≤ 2 → (((F 4) ≤ 0 → P (F 2) (upd F 2 x1, I, J)) ∧ (¬ (F 4) ≤ 0 → P (-3) (F, I, J)))) ∧ (¬ x1 ≤ 2 → P (-2) (F, I, J)))))) :
  AMi m_X6_kind [.ref 0, .int x1] (F, I, J) P := by
  refine z_entry (pad := 1) [some (.ref 0), some (.int x1), none] (by decide) rfl rfl (fun _ => Nat.le_of_ble_eq_true rfl) ?_
  refine z_iload_n dX6_kind_0 rfl rfl ?_
  refine z_if_lt 9 dX6_kind_1 (by decide) ⟨fun h1 => ?_, fun h1 => ?_⟩
  · replace k := k.1 h1
    refine z_bipush (v := (-2)) dX6_kind_9 (by decide) ?_
    exact z_ireturn (st := []) rfl dX6_kind_11 ⟨_, rfl, k⟩
  · replace k := k.2 h1
    refine z_iload_n dX6_kind_4 rfl rfl ?_
    refine z_iconst (v := 2) dX6_kind_5 (by decide) ?_
    refine z_icmp_le 12 dX6_kind_6 (by decide) ⟨fun h2 => ?_, fun h2 => ?_⟩
    · replace k := k.1 h2
      refine z_aload_n dX6_kind_12 rfl rfl ?_
      refine z_getr dX6_kind_13 fl_X6_20 lo0_0 rfl ?_
      refine z_geti dX6_kind_16 fl_X6_75 lo0_3 rfl ?_
      refine z_if_le 25 dX6_kind_19 (by decide) ⟨fun h3 => ?_, fun h3 => ?_⟩
      · replace k := k.1 h3
        refine z_aload_n dX6_kind_25 rfl rfl ?_
        refine z_geti dX6_kind_26 fl_X6_61 lo0_0 rfl ?_
        refine z_istore_n dX6_kind_29 rfl (by decide) rfl ?_
        refine z_aload_n dX6_kind_30 rfl rfl ?_
        refine z_iload_n dX6_kind_31 rfl rfl ?_
        refine z_puti dX6_kind_32 fw_X6_61 lo0_0 rfl ?_
        refine z_iload_n dX6_kind_35 rfl rfl ?_
        exact z_ireturn (st := []) rfl dX6_kind_36 ⟨_, rfl, k⟩
      · replace k := k.2 h3
        refine z_bipush (v := (-3)) dX6_kind_22 (by decide) ?_
        exact z_ireturn (st := []) rfl dX6_kind_24 ⟨_, rfl, k⟩
    · replace k := k.2 h2
      refine z_bipush (v := (-2)) dX6_kind_9 (by decide) ?_
      exact z_ireturn (st := []) rfl dX6_kind_11 ⟨_, rfl, k⟩

set_option maxRecDepth 100000 in
set_option maxHeartbeats 4000000 in
theorem r_X6_edge_0 {P : Int32 → zM → Prop} (x1 : Int32) (x2 : Int32) (l3 : Int64) (F : Nat → Int32) (I : Nat → Nat → Int32) (J : Nat → Nat → Int64)
  (k : AMi m_X6_isKnot [.ref 0, .int x1] (F, I, J) (fun r2 M2 => ((r2 = 0 → P (-2) M2) ∧ (¬ r2 = 0 → AMi m_X6_isKnot [.ref 0, .int x2] M2 (fun r10 M10 => ((r10 = 0 → P (-2) M10) ∧ (¬ r10 = 0 → ((¬ x1 = x2 → (((M10.1 4) < 300 → AMi m_X6_layTrack [.ref 0, .int x1, .int x2] M10 (fun r43 M43 => ((r43 < 0 → AW m_X6_edge (z_pi P) 71 [some (.ref 0), some (.int x1), some (.int x2), some (.long l3), none, some (.int 0), none, none] [] M43) ∧ (¬ r43 < 0 → ((¬ (M43.1 2) = 0 → AW m_X6_edge (z_pi P) 71 [some (.ref 0), some (.int x1), some (.int x2), some (.long l3), none, some (.int 1), none, none] [] M43) ∧ ((M43.1 2) = 0 → P (-3) M43)))))) ∧ (¬ (M10.1 4) < 300 → P (-4) M10))) ∧ (x1 = x2 → P (-2) M10))))))))) :
  AMi m_X6_edge [.ref 0, .int x1, .int x2, .long l3] (F, I, J) P := by
  refine z_entry (pad := 3) [some (.ref 0), some (.int x1), some (.int x2), some (.long l3), none, none, none, none] (by decide) rfl rfl (fun _ => Nat.le_of_ble_eq_true rfl) ?_
  refine z_aload_n dX6_edge_0 rfl rfl ?_
  refine z_iload_n dX6_edge_1 rfl rfl ?_
  refine z_calli (I := m_X6_edge) (I2 := m_X6_isKnot) (st := []) [.int x1] dX6_edge_2 ml_X6_78 rfl (by decide) lo0_0 rfl (Nat.le_of_ble_eq_true rfl) rfl (AMi.mono k (fun r2 M2 k => ?_))
  refine z_if_eq 21 dX6_edge_5 (by decide) ⟨fun h1 => ?_, fun h1 => ?_⟩
  · replace k := k.1 h1
    refine z_bipush (v := (-2)) dX6_edge_21 (by decide) ?_
    exact z_ireturn (st := []) rfl dX6_edge_23 ⟨_, rfl, k⟩
  · replace k := k.2 h1
    refine z_aload_n dX6_edge_8 rfl rfl ?_
    refine z_iload_n dX6_edge_9 rfl rfl ?_
    refine z_calli (I := m_X6_edge) (I2 := m_X6_isKnot) (st := []) [.int x2] dX6_edge_10 ml_X6_78 rfl (by decide) lo0_0 rfl (Nat.le_of_ble_eq_true rfl) rfl (AMi.mono k (fun r10 M10 k => ?_))
    refine z_if_eq 21 dX6_edge_13 (by decide) ⟨fun h2 => ?_, fun h2 => ?_⟩
    · replace k := k.1 h2
      refine z_bipush (v := (-2)) dX6_edge_21 (by decide) ?_
      exact z_ireturn (st := []) rfl dX6_edge_23 ⟨_, rfl, k⟩
    · replace k := k.2 h2
      refine z_iload_n dX6_edge_16 rfl rfl ?_
      refine z_iload_n dX6_edge_17 rfl rfl ?_
      refine z_icmp_ne 24 dX6_edge_18 (by decide) ⟨fun h3 => ?_, fun h3 => ?_⟩
      · replace k := k.1 h3
        refine z_aload_n dX6_edge_24 rfl rfl ?_
        refine z_getr dX6_edge_25 fl_X6_20 lo0_0 rfl ?_
        refine z_geti dX6_edge_28 fl_X6_75 lo0_3 rfl ?_
        refine z_sipush (v := 300) dX6_edge_31 (by decide) ?_
        refine z_icmp_lt 40 dX6_edge_34 (by decide) ⟨fun h4 => ?_, fun h4 => ?_⟩
        · replace k := k.1 h4
          refine z_aload_n dX6_edge_40 rfl rfl ?_
          refine z_iload_n dX6_edge_41 rfl rfl ?_
          refine z_iload_n dX6_edge_42 rfl rfl ?_
          refine z_calli (I := m_X6_edge) (I2 := m_X6_layTrack) (st := []) [.int x1, .int x2] dX6_edge_43 ml_X6_82 rfl (by decide) lo0_0 rfl (Nat.le_of_ble_eq_true rfl) rfl (AMi.mono k (fun r43 M43 k => ?_))
          refine z_if_lt 53 dX6_edge_46 (by decide) ⟨fun h5 => ?_, fun h5 => ?_⟩
          · replace k := k.1 h5
            refine z_iconst (v := 0) dX6_edge_53 (by decide) ?_
            refine z_istore dX6_edge_54 (by decide) rfl ?_
            refine z_iload dX6_edge_56 rfl ?_
            refine z_if_eq 71 dX6_edge_58 (by decide) ⟨fun h6 => ?_, fun h6 => absurd h6 (by decide)⟩
            exact k
          · replace k := k.2 h5
            refine z_iconst (v := 1) dX6_edge_49 (by decide) ?_
            refine z_goto 54 dX6_edge_50 (by decide) ?_
            refine z_istore dX6_edge_54 (by decide) rfl ?_
            refine z_iload dX6_edge_56 rfl ?_
            refine z_if_eq 71 dX6_edge_58 (by decide) ⟨fun h7 => absurd h7 (by decide), fun h7 => ?_⟩
            refine z_aload_n dX6_edge_61 rfl rfl ?_
            refine z_geti dX6_edge_62 fl_X6_61 lo0_0 rfl ?_
            refine z_if_ne 71 dX6_edge_65 (by decide) ⟨fun h8 => ?_, fun h8 => ?_⟩
            · replace k := k.1 h8
              exact k
            · replace k := k.2 h8
              refine z_bipush (v := (-3)) dX6_edge_68 (by decide) ?_
              exact z_ireturn (st := []) rfl dX6_edge_70 ⟨_, rfl, k⟩
        · replace k := k.2 h4
          refine z_bipush (v := (-4)) dX6_edge_37 (by decide) ?_
          exact z_ireturn (st := []) rfl dX6_edge_39 ⟨_, rfl, k⟩
      · replace k := k.2 h3
        refine z_bipush (v := (-2)) dX6_edge_21 (by decide) ?_
        exact z_ireturn (st := []) rfl dX6_edge_23 ⟨_, rfl, k⟩

set_option maxRecDepth 100000 in
set_option maxHeartbeats 4000000 in
theorem r_X6_edge_71 {P : Int32 → zM → Prop} (x1 : Int32) (x2 : Int32) (l3 : Int64) (x5 : Int32) (F : Nat → Int32) (I : Nat → Nat → Int32) (J : Nat → Nat → Int64)
  (k : ((x5 = 0 → AMi m_X0_append [.ref 3, .int x1, .int x2, .long l3, .int 1] (F, I, J) (fun r88 M88 => ((x5 = 0 → AMv m_X3_note [.ref 31, .int 4, .int (-1), .int (-1), .long 0] M88 (fun M126 => P r88 M126)) ∧ (¬ x5 = 0 → ((¬ (M88.1 2) = 2 → AMv m_X3_note [.ref 31, .int 4, .int (-1), .int (-1), .long 0] M88 (fun M126 => P r88 M126)) ∧ ((M88.1 2) = 2 → AMi m_X6_displaceHeavier [.ref 0, .int r88] M88 (fun r112 M112 => AMv m_X3_note [.ref 31, .int 4, .int r112, .int (-1), .long 0] M112 (fun M126 => P r88 M126)))))))) ∧ (¬ x5 = 0 → AMi m_X0_append [.ref 3, .int x1, .int x2, .long l3, .int 2] (F, I, J) (fun r88 M88 => ((x5 = 0 → AMv m_X3_note [.ref 31, .int 4, .int (-1), .int (-1), .long 0] M88 (fun M126 => P r88 M126)) ∧ (¬ x5 = 0 → ((¬ (M88.1 2) = 2 → AMv m_X3_note [.ref 31, .int 4, .int (-1), .int (-1), .long 0] M88 (fun M126 => P r88 M126)) ∧ ((M88.1 2) = 2 → AMi m_X6_displaceHeavier [.ref 0, .int r88] M88 (fun r112 M112 => AMv m_X3_note [.ref 31, .int 4, .int r112, .int (-1), .long 0] M112 (fun M126 => P r88 M126)))))))))) :
  AW m_X6_edge (z_pi P) 71 [some (.ref 0), some (.int x1), some (.int x2), some (.long l3), none, some (.int x5), none, none] [] (F, I, J) := by
  refine z_aload_n dX6_edge_71 rfl rfl ?_
  refine z_getr dX6_edge_72 fl_X6_20 lo0_0 rfl ?_
  refine z_iload_n dX6_edge_75 rfl rfl ?_
  refine z_iload_n dX6_edge_76 rfl rfl ?_
  refine z_lload_n dX6_edge_77 rfl rfl ?_
  refine z_iload dX6_edge_78 rfl ?_
  refine z_if_eq 87 dX6_edge_80 (by decide) ⟨fun h1 => ?_, fun h1 => ?_⟩
  · replace k := k.1 h1
    refine z_iconst (v := 1) dX6_edge_87 (by decide) ?_
    refine z_calli (I := m_X6_edge) (I2 := m_X0_append) (st := []) [.int x1, .int x2, .long l3, .int 1] dX6_edge_88 ml_X6_86 rfl (by decide) lo0_3 rfl (Nat.le_of_ble_eq_true rfl) rfl (AMi.mono k (fun r88 M88 k => ?_))
    refine z_istore dX6_edge_91 (by decide) rfl ?_
    refine z_iconst (v := (-1)) dX6_edge_93 (by decide) ?_
    refine z_istore dX6_edge_94 (by decide) rfl ?_
    refine z_iload dX6_edge_96 rfl ?_
    refine z_if_eq 117 dX6_edge_98 (by decide) ⟨fun h2 => ?_, fun h2 => ?_⟩
    · replace k := k.1 h2
      refine z_aload_n dX6_edge_117 rfl rfl ?_
      refine z_getr dX6_edge_118 fl_X6_51 lo0_0 rfl ?_
      refine z_iconst (v := 4) dX6_edge_121 (by decide) ?_
      refine z_iload dX6_edge_122 rfl ?_
      refine z_iconst (v := (-1)) dX6_edge_124 (by decide) ?_
      refine z_lconst (v := 0) dX6_edge_125 (by decide) ?_
      refine z_callv (I := m_X6_edge) (I2 := m_X3_note) (st := []) [.int 4, .int (-1), .int (-1), .long 0] dX6_edge_126 ml_X6_94 rfl (by decide) lo0_31 rfl (Nat.le_of_ble_eq_true rfl) rfl (AMv.mono k (fun M126 k => ?_))
      refine z_iload dX6_edge_129 rfl ?_
      exact z_ireturn (st := []) rfl dX6_edge_131 ⟨_, rfl, k⟩
    · replace k := k.2 h2
      refine z_aload_n dX6_edge_101 rfl rfl ?_
      refine z_geti dX6_edge_102 fl_X6_61 lo0_0 rfl ?_
      refine z_iconst (v := 2) dX6_edge_105 (by decide) ?_
      refine z_icmp_ne 117 dX6_edge_106 (by decide) ⟨fun h3 => ?_, fun h3 => ?_⟩
      · replace k := k.1 h3
        refine z_aload_n dX6_edge_117 rfl rfl ?_
        refine z_getr dX6_edge_118 fl_X6_51 lo0_0 rfl ?_
        refine z_iconst (v := 4) dX6_edge_121 (by decide) ?_
        refine z_iload dX6_edge_122 rfl ?_
        refine z_iconst (v := (-1)) dX6_edge_124 (by decide) ?_
        refine z_lconst (v := 0) dX6_edge_125 (by decide) ?_
        refine z_callv (I := m_X6_edge) (I2 := m_X3_note) (st := []) [.int 4, .int (-1), .int (-1), .long 0] dX6_edge_126 ml_X6_94 rfl (by decide) lo0_31 rfl (Nat.le_of_ble_eq_true rfl) rfl (AMv.mono k (fun M126 k => ?_))
        refine z_iload dX6_edge_129 rfl ?_
        exact z_ireturn (st := []) rfl dX6_edge_131 ⟨_, rfl, k⟩
      · replace k := k.2 h3
        refine z_aload_n dX6_edge_109 rfl rfl ?_
        refine z_iload dX6_edge_110 rfl ?_
        refine z_calli (I := m_X6_edge) (I2 := m_X6_displaceHeavier) (st := []) [.int r88] dX6_edge_112 ml_X6_90 rfl (by decide) lo0_0 rfl (Nat.le_of_ble_eq_true rfl) rfl (AMi.mono k (fun r112 M112 k => ?_))
        refine z_istore dX6_edge_115 (by decide) rfl ?_
        refine z_aload_n dX6_edge_117 rfl rfl ?_
        refine z_getr dX6_edge_118 fl_X6_51 lo0_0 rfl ?_
        refine z_iconst (v := 4) dX6_edge_121 (by decide) ?_
        refine z_iload dX6_edge_122 rfl ?_
        refine z_iconst (v := (-1)) dX6_edge_124 (by decide) ?_
        refine z_lconst (v := 0) dX6_edge_125 (by decide) ?_
        refine z_callv (I := m_X6_edge) (I2 := m_X3_note) (st := []) [.int 4, .int r112, .int (-1), .long 0] dX6_edge_126 ml_X6_94 rfl (by decide) lo0_31 rfl (Nat.le_of_ble_eq_true rfl) rfl (AMv.mono k (fun M126 k => ?_))
        refine z_iload dX6_edge_129 rfl ?_
        exact z_ireturn (st := []) rfl dX6_edge_131 ⟨_, rfl, k⟩
  · replace k := k.2 h1
    refine z_iconst (v := 2) dX6_edge_83 (by decide) ?_
    refine z_goto 88 dX6_edge_84 (by decide) ?_
    refine z_calli (I := m_X6_edge) (I2 := m_X0_append) (st := []) [.int x1, .int x2, .long l3, .int 2] dX6_edge_88 ml_X6_86 rfl (by decide) lo0_3 rfl (Nat.le_of_ble_eq_true rfl) rfl (AMi.mono k (fun r88 M88 k => ?_))
    refine z_istore dX6_edge_91 (by decide) rfl ?_
    refine z_iconst (v := (-1)) dX6_edge_93 (by decide) ?_
    refine z_istore dX6_edge_94 (by decide) rfl ?_
    refine z_iload dX6_edge_96 rfl ?_
    refine z_if_eq 117 dX6_edge_98 (by decide) ⟨fun h4 => ?_, fun h4 => ?_⟩
    · replace k := k.1 h4
      refine z_aload_n dX6_edge_117 rfl rfl ?_
      refine z_getr dX6_edge_118 fl_X6_51 lo0_0 rfl ?_
      refine z_iconst (v := 4) dX6_edge_121 (by decide) ?_
      refine z_iload dX6_edge_122 rfl ?_
      refine z_iconst (v := (-1)) dX6_edge_124 (by decide) ?_
      refine z_lconst (v := 0) dX6_edge_125 (by decide) ?_
      refine z_callv (I := m_X6_edge) (I2 := m_X3_note) (st := []) [.int 4, .int (-1), .int (-1), .long 0] dX6_edge_126 ml_X6_94 rfl (by decide) lo0_31 rfl (Nat.le_of_ble_eq_true rfl) rfl (AMv.mono k (fun M126 k => ?_))
      refine z_iload dX6_edge_129 rfl ?_
      exact z_ireturn (st := []) rfl dX6_edge_131 ⟨_, rfl, k⟩
    · replace k := k.2 h4
      refine z_aload_n dX6_edge_101 rfl rfl ?_
      refine z_geti dX6_edge_102 fl_X6_61 lo0_0 rfl ?_
      refine z_iconst (v := 2) dX6_edge_105 (by decide) ?_
      refine z_icmp_ne 117 dX6_edge_106 (by decide) ⟨fun h5 => ?_, fun h5 => ?_⟩
      · replace k := k.1 h5
        refine z_aload_n dX6_edge_117 rfl rfl ?_
        refine z_getr dX6_edge_118 fl_X6_51 lo0_0 rfl ?_
        refine z_iconst (v := 4) dX6_edge_121 (by decide) ?_
        refine z_iload dX6_edge_122 rfl ?_
        refine z_iconst (v := (-1)) dX6_edge_124 (by decide) ?_
        refine z_lconst (v := 0) dX6_edge_125 (by decide) ?_
        refine z_callv (I := m_X6_edge) (I2 := m_X3_note) (st := []) [.int 4, .int (-1), .int (-1), .long 0] dX6_edge_126 ml_X6_94 rfl (by decide) lo0_31 rfl (Nat.le_of_ble_eq_true rfl) rfl (AMv.mono k (fun M126 k => ?_))
        refine z_iload dX6_edge_129 rfl ?_
        exact z_ireturn (st := []) rfl dX6_edge_131 ⟨_, rfl, k⟩
      · replace k := k.2 h5
        refine z_aload_n dX6_edge_109 rfl rfl ?_
        refine z_iload dX6_edge_110 rfl ?_
        refine z_calli (I := m_X6_edge) (I2 := m_X6_displaceHeavier) (st := []) [.int r88] dX6_edge_112 ml_X6_90 rfl (by decide) lo0_0 rfl (Nat.le_of_ble_eq_true rfl) rfl (AMi.mono k (fun r112 M112 k => ?_))
        refine z_istore dX6_edge_115 (by decide) rfl ?_
        refine z_aload_n dX6_edge_117 rfl rfl ?_
        refine z_getr dX6_edge_118 fl_X6_51 lo0_0 rfl ?_
        refine z_iconst (v := 4) dX6_edge_121 (by decide) ?_
        refine z_iload dX6_edge_122 rfl ?_
        refine z_iconst (v := (-1)) dX6_edge_124 (by decide) ?_
        refine z_lconst (v := 0) dX6_edge_125 (by decide) ?_
        refine z_callv (I := m_X6_edge) (I2 := m_X3_note) (st := []) [.int 4, .int r112, .int (-1), .long 0] dX6_edge_126 ml_X6_94 rfl (by decide) lo0_31 rfl (Nat.le_of_ble_eq_true rfl) rfl (AMv.mono k (fun M126 k => ?_))
        refine z_iload dX6_edge_129 rfl ?_
        exact z_ireturn (st := []) rfl dX6_edge_131 ⟨_, rfl, k⟩

set_option maxRecDepth 100000 in
set_option maxHeartbeats 4000000 in
theorem r_X6_cut_0 {P : Int32 → zM → Prop} (x1 : Int32) (F : Nat → Int32) (I : Nat → Nat → Int32) (J : Nat → Nat → Int64)
  (k : AMi m_X0_isThere [.ref 3, .int x1] (F, I, J) (fun r5 M5 => ((¬ r5 = 0 → vp_in x1 300 ∧ ((¬ (M5.2.1 3 (zn x1)) = 1 → vp_in x1 300 ∧ AW m_X6_cut (z_pi P) 84 [some (.ref 0), some (.int x1), some (.int 0), some (.int (M5.1 5)), some (.int (-1))] [] (M5.1, z_ui M5.2.1 3 (zn x1) 0, M5.2.2)) ∧ ((M5.2.1 3 (zn x1)) = 1 → AMi m_X6_findHeir [.ref 0, .int x1, .int 1] M5 (fun r48 M48 => vp_in x1 300 ∧ ((r48 = (-1) → AW m_X6_cut (z_pi P) 84 [some (.ref 0), some (.int x1), some (.int 1), some (.int (M5.1 5)), some (.int r48)] [] (M48.1, z_ui M48.2.1 3 (zn x1) 0, M48.2.2)) ∧ (¬ r48 = (-1) → vp_in r48 300 ∧ AW m_X6_cut (z_pi P) 84 [some (.ref 0), some (.int x1), some (.int 1), some (.int (M5.1 5)), some (.int r48)] [] (M48.1, z_ui (z_ui M48.2.1 3 (zn x1) 0) 3 (zn r48) 1, M48.2.2))))))) ∧ (r5 = 0 → P (-2) M5)))) :
  AMi m_X6_cut [.ref 0, .int x1] (F, I, J) P := by
  refine z_entry (pad := 3) [some (.ref 0), some (.int x1), none, none, none] (by decide) rfl rfl (fun _ => Nat.le_of_ble_eq_true rfl) ?_
  refine z_aload_n dX6_cut_0 rfl rfl ?_
  refine z_getr dX6_cut_1 fl_X6_20 lo0_0 rfl ?_
  refine z_iload_n dX6_cut_4 rfl rfl ?_
  refine z_calli (I := m_X6_cut) (I2 := m_X0_isThere) (st := []) [.int x1] dX6_cut_5 ml_X6_98 rfl (by decide) lo0_3 rfl (Nat.le_of_ble_eq_true rfl) rfl (AMi.mono k (fun r5 M5 k => ?_))
  refine z_if_ne 14 dX6_cut_8 (by decide) ⟨fun h1 => ?_, fun h1 => ?_⟩
  · replace k := k.1 h1
    refine z_aload_n dX6_cut_14 rfl rfl ?_
    refine z_getr dX6_cut_15 fl_X6_20 lo0_0 rfl ?_
    refine z_getr dX6_cut_18 fl_X6_101 lo0_3 rfl ?_
    refine z_iload_n dX6_cut_21 rfl rfl ?_
    refine z_iald dX6_cut_22 lo0_7 ⟨k.1, ?_⟩
    replace k := k.2
    refine z_iconst (v := 1) dX6_cut_23 (by decide) ?_
    refine z_icmp_ne 31 dX6_cut_24 (by decide) ⟨fun h2 => ?_, fun h2 => ?_⟩
    · replace k := k.1 h2
      refine z_iconst (v := 0) dX6_cut_31 (by decide) ?_
      refine z_istore_n dX6_cut_32 rfl (by decide) rfl ?_
      refine z_aload_n dX6_cut_33 rfl rfl ?_
      refine z_getr dX6_cut_34 fl_X6_20 lo0_0 rfl ?_
      refine z_geti dX6_cut_37 fl_X6_104 lo0_3 rfl ?_
      refine z_istore_n dX6_cut_40 rfl (by decide) rfl ?_
      refine z_iload_n dX6_cut_41 rfl rfl ?_
      refine z_if_eq 54 dX6_cut_42 (by decide) ⟨fun h3 => ?_, fun h3 => absurd h3 (by decide)⟩
      refine z_iconst (v := (-1)) dX6_cut_54 (by decide) ?_
      refine z_istore dX6_cut_55 (by decide) rfl ?_
      refine z_aload_n dX6_cut_57 rfl rfl ?_
      refine z_getr dX6_cut_58 fl_X6_20 lo0_0 rfl ?_
      refine z_getr dX6_cut_61 fl_X6_101 lo0_3 rfl ?_
      refine z_iload_n dX6_cut_64 rfl rfl ?_
      refine z_iconst (v := 0) dX6_cut_65 (by decide) ?_
      refine z_iast dX6_cut_66 lo0_7 ⟨k.1, ?_⟩
      replace k := k.2
      refine z_iload dX6_cut_67 rfl ?_
      refine z_iconst (v := (-1)) dX6_cut_69 (by decide) ?_
      refine z_icmp_eq 84 dX6_cut_70 (by decide) ⟨fun h4 => ?_, fun h4 => absurd h4 (by decide)⟩
      exact k
    · replace k := k.2 h2
      refine z_iconst (v := 1) dX6_cut_27 (by decide) ?_
      refine z_goto 32 dX6_cut_28 (by decide) ?_
      refine z_istore_n dX6_cut_32 rfl (by decide) rfl ?_
      refine z_aload_n dX6_cut_33 rfl rfl ?_
      refine z_getr dX6_cut_34 fl_X6_20 lo0_0 rfl ?_
      refine z_geti dX6_cut_37 fl_X6_104 lo0_3 rfl ?_
      refine z_istore_n dX6_cut_40 rfl (by decide) rfl ?_
      refine z_iload_n dX6_cut_41 rfl rfl ?_
      refine z_if_eq 54 dX6_cut_42 (by decide) ⟨fun h5 => absurd h5 (by decide), fun h5 => ?_⟩
      refine z_aload_n dX6_cut_45 rfl rfl ?_
      refine z_iload_n dX6_cut_46 rfl rfl ?_
      refine z_iconst (v := 1) dX6_cut_47 (by decide) ?_
      refine z_calli (I := m_X6_cut) (I2 := m_X6_findHeir) (st := []) [.int x1, .int 1] dX6_cut_48 ml_X6_107 rfl (by decide) lo0_0 rfl (Nat.le_of_ble_eq_true rfl) rfl (AMi.mono k (fun r48 M48 k => ?_))
      refine z_goto 55 dX6_cut_51 (by decide) ?_
      refine z_istore dX6_cut_55 (by decide) rfl ?_
      refine z_aload_n dX6_cut_57 rfl rfl ?_
      refine z_getr dX6_cut_58 fl_X6_20 lo0_0 rfl ?_
      refine z_getr dX6_cut_61 fl_X6_101 lo0_3 rfl ?_
      refine z_iload_n dX6_cut_64 rfl rfl ?_
      refine z_iconst (v := 0) dX6_cut_65 (by decide) ?_
      refine z_iast dX6_cut_66 lo0_7 ⟨k.1, ?_⟩
      replace k := k.2
      refine z_iload dX6_cut_67 rfl ?_
      refine z_iconst (v := (-1)) dX6_cut_69 (by decide) ?_
      refine z_icmp_eq 84 dX6_cut_70 (by decide) ⟨fun h6 => ?_, fun h6 => ?_⟩
      · replace k := k.1 h6
        exact k
      · replace k := k.2 h6
        refine z_aload_n dX6_cut_73 rfl rfl ?_
        refine z_getr dX6_cut_74 fl_X6_20 lo0_0 rfl ?_
        refine z_getr dX6_cut_77 fl_X6_101 lo0_3 rfl ?_
        refine z_iload dX6_cut_80 rfl ?_
        refine z_iconst (v := 1) dX6_cut_82 (by decide) ?_
        refine z_iast dX6_cut_83 lo0_7 ⟨k.1, ?_⟩
        replace k := k.2
        exact k
  · replace k := k.2 h1
    refine z_bipush (v := (-2)) dX6_cut_11 (by decide) ?_
    exact z_ireturn (st := []) rfl dX6_cut_13 ⟨_, rfl, k⟩

set_option maxRecDepth 100000 in
set_option maxHeartbeats 4000000 in
theorem r_X6_cut_84 {P : Int32 → zM → Prop} (x1 : Int32) (x2 : Int32) (x3 : Int32) (x4 : Int32) (F : Nat → Int32) (I : Nat → Nat → Int32) (J : Nat → Nat → Int64)
  (k : ((x2 = 0 → AMv m_X3_note [.ref 31, .int 6, .int x1, .int x4, .long ((x3).toInt64)] (F, I, J) (fun M103 => P x4 M103)) ∧ (¬ x2 = 0 → AMv m_X3_note [.ref 31, .int 5, .int x1, .int x4, .long ((x3).toInt64)] (F, I, J) (fun M103 => P x4 M103)))) :
  AW m_X6_cut (z_pi P) 84 [some (.ref 0), some (.int x1), some (.int x2), some (.int x3), some (.int x4)] [] (F, I, J) := by
  refine z_aload_n dX6_cut_84 rfl rfl ?_
  refine z_getr dX6_cut_85 fl_X6_51 lo0_0 rfl ?_
  refine z_iload_n dX6_cut_88 rfl rfl ?_
  refine z_if_eq 96 dX6_cut_89 (by decide) ⟨fun h1 => ?_, fun h1 => ?_⟩
  · replace k := k.1 h1
    refine z_bipush (v := 6) dX6_cut_96 (by decide) ?_
    refine z_iload_n dX6_cut_98 rfl rfl ?_
    refine z_iload dX6_cut_99 rfl ?_
    refine z_iload_n dX6_cut_101 rfl rfl ?_
    refine z_i2l dX6_cut_102 ?_
    refine z_callv (I := m_X6_cut) (I2 := m_X3_note) (st := []) [.int 6, .int x1, .int x4, .long ((x3).toInt64)] dX6_cut_103 ml_X6_94 rfl (by decide) lo0_31 rfl (Nat.le_of_ble_eq_true rfl) rfl (AMv.mono k (fun M103 k => ?_))
    refine z_iload dX6_cut_106 rfl ?_
    exact z_ireturn (st := []) rfl dX6_cut_108 ⟨_, rfl, k⟩
  · replace k := k.2 h1
    refine z_iconst (v := 5) dX6_cut_92 (by decide) ?_
    refine z_goto 98 dX6_cut_93 (by decide) ?_
    refine z_iload_n dX6_cut_98 rfl rfl ?_
    refine z_iload dX6_cut_99 rfl ?_
    refine z_iload_n dX6_cut_101 rfl rfl ?_
    refine z_i2l dX6_cut_102 ?_
    refine z_callv (I := m_X6_cut) (I2 := m_X3_note) (st := []) [.int 5, .int x1, .int x4, .long ((x3).toInt64)] dX6_cut_103 ml_X6_94 rfl (by decide) lo0_31 rfl (Nat.le_of_ble_eq_true rfl) rfl (AMv.mono k (fun M103 k => ?_))
    refine z_iload dX6_cut_106 rfl ?_
    exact z_ireturn (st := []) rfl dX6_cut_108 ⟨_, rfl, k⟩

set_option maxRecDepth 100000 in
set_option maxHeartbeats 4000000 in
theorem r_X6_instead_0 {P : Int32 → zM → Prop} (x1 : Int32) (F : Nat → Int32) (I : Nat → Nat → Int32) (J : Nat → Nat → Int64)
  (k : AMi m_X0_isThere [.ref 3, .int x1] (F, I, J) (fun r5 M5 => ((¬ r5 = 0 → vp_in x1 300 ∧ ((¬ (M5.2.1 3 (zn x1)) = 1 → P (-1) M5) ∧ ((M5.2.1 3 (zn x1)) = 1 → AMi m_X6_findHeir [.ref 0, .int x1, .int 0] M5 (fun r30 M30 => P r30 M30)))) ∧ (r5 = 0 → P (-2) M5)))) :
  AMi m_X6_instead [.ref 0, .int x1] (F, I, J) P := by
  refine z_entry (pad := 0) [some (.ref 0), some (.int x1)] (by decide) rfl rfl (fun _ => Nat.le_of_ble_eq_true rfl) ?_
  refine z_aload_n dX6_instead_0 rfl rfl ?_
  refine z_getr dX6_instead_1 fl_X6_20 lo0_0 rfl ?_
  refine z_iload_n dX6_instead_4 rfl rfl ?_
  refine z_calli (I := m_X6_instead) (I2 := m_X0_isThere) (st := []) [.int x1] dX6_instead_5 ml_X6_98 rfl (by decide) lo0_3 rfl (Nat.le_of_ble_eq_true rfl) rfl (AMi.mono k (fun r5 M5 k => ?_))
  refine z_if_ne 14 dX6_instead_8 (by decide) ⟨fun h1 => ?_, fun h1 => ?_⟩
  · replace k := k.1 h1
    refine z_aload_n dX6_instead_14 rfl rfl ?_
    refine z_getr dX6_instead_15 fl_X6_20 lo0_0 rfl ?_
    refine z_getr dX6_instead_18 fl_X6_101 lo0_3 rfl ?_
    refine z_iload_n dX6_instead_21 rfl rfl ?_
    refine z_iald dX6_instead_22 lo0_7 ⟨k.1, ?_⟩
    replace k := k.2
    refine z_iconst (v := 1) dX6_instead_23 (by decide) ?_
    refine z_icmp_ne 36 dX6_instead_24 (by decide) ⟨fun h2 => ?_, fun h2 => ?_⟩
    · replace k := k.1 h2
      refine z_iconst (v := (-1)) dX6_instead_36 (by decide) ?_
      exact z_ireturn (st := []) rfl dX6_instead_37 ⟨_, rfl, k⟩
    · replace k := k.2 h2
      refine z_aload_n dX6_instead_27 rfl rfl ?_
      refine z_iload_n dX6_instead_28 rfl rfl ?_
      refine z_iconst (v := 0) dX6_instead_29 (by decide) ?_
      refine z_calli (I := m_X6_instead) (I2 := m_X6_findHeir) (st := []) [.int x1, .int 0] dX6_instead_30 ml_X6_107 rfl (by decide) lo0_0 rfl (Nat.le_of_ble_eq_true rfl) rfl (AMi.mono k (fun r30 M30 k => ?_))
      refine z_goto 37 dX6_instead_33 (by decide) ?_
      exact z_ireturn (st := []) rfl dX6_instead_37 ⟨_, rfl, k⟩
  · replace k := k.2 h1
    refine z_bipush (v := (-2)) dX6_instead_11 (by decide) ?_
    exact z_ireturn (st := []) rfl dX6_instead_13 ⟨_, rfl, k⟩

set_option maxRecDepth 100000 in
set_option maxHeartbeats 4000000 in
theorem r_X6_told_0 {P : Int32 → zM → Prop} (x1 : Int32) (x2 : Int32) (F : Nat → Int32) (I : Nat → Nat → Int32) (J : Nat → Nat → Int64)
  (k : AMi m_X0_hasCome [.ref 3, .int x1] (F, I, J) (fun r5 M5 => ((¬ r5 = 0 → ((x2 = 0 → vp_in x1 300 ∧ P (M5.2.1 3 (zn x1)) M5) ∧ (¬ x2 = 0 → ((x2 = 1 → vp_in x1 300 ∧ P (M5.2.1 1 (zn x1)) M5) ∧ (¬ x2 = 1 → ((x2 = 2 → vp_in x1 300 ∧ P (M5.2.1 2 (zn x1)) M5) ∧ (¬ x2 = 2 → ((x2 = 3 → vp_in x1 300 ∧ P (M5.2.1 4 (zn x1)) M5) ∧ (¬ x2 = 3 → ((x2 = 4 → AMv m_X2_find [.ref 25, .ref 3, .int (M5.1 0)] M5 (fun M100 => AMi m_X0_isThere [.ref 3, .int x1] M100 (fun r108 M108 => ((r108 = 0 → P 0 M108) ∧ (¬ r108 = 0 → AMi m_X2_isBridge [.ref 25, .ref 3, .int x1] M108 (fun r123 M123 => ((r123 = 0 → P 0 M123) ∧ (¬ r123 = 0 → P 1 M123)))))))) ∧ (¬ x2 = 4 → P (-2) M5))))))))))) ∧ (r5 = 0 → P (-2) M5)))) :
  AMi m_X6_told [.ref 0, .int x1, .int x2] (F, I, J) P := by
  refine z_entry (pad := 0) [some (.ref 0), some (.int x1), some (.int x2)] (by decide) rfl rfl (fun _ => Nat.le_of_ble_eq_true rfl) ?_
  refine z_aload_n dX6_told_0 rfl rfl ?_
  refine z_getr dX6_told_1 fl_X6_20 lo0_0 rfl ?_
  refine z_iload_n dX6_told_4 rfl rfl ?_
  refine z_calli (I := m_X6_told) (I2 := m_X0_hasCome) (st := []) [.int x1] dX6_told_5 ml_X6_111 rfl (by decide) lo0_3 rfl (Nat.le_of_ble_eq_true rfl) rfl (AMi.mono k (fun r5 M5 k => ?_))
  refine z_if_ne 14 dX6_told_8 (by decide) ⟨fun h1 => ?_, fun h1 => ?_⟩
  · replace k := k.1 h1
    refine z_iload_n dX6_told_14 rfl rfl ?_
    refine z_case 0 x2 ⟨fun h2 => ?_, fun h2 => ?_⟩
    · replace k := k.1 h2
      refine z_tin (off := 33) 48 dX6_told_15 (by (try dsimp only); rw [h2]; decide) (by (try dsimp only); rw [h2]; decide) (by (try dsimp only); rw [h2]; decide) (by decide) ?_
      refine z_aload_n dX6_told_48 rfl rfl ?_
      refine z_getr dX6_told_49 fl_X6_20 lo0_0 rfl ?_
      refine z_getr dX6_told_52 fl_X6_101 lo0_3 rfl ?_
      refine z_iload_n dX6_told_55 rfl rfl ?_
      refine z_iald dX6_told_56 lo0_7 ⟨k.1, ?_⟩
      replace k := k.2
      exact z_ireturn (st := []) rfl dX6_told_57 ⟨_, rfl, k⟩
    replace k := k.2 h2
    refine z_case 1 x2 ⟨fun h3 => ?_, fun h3 => ?_⟩
    · replace k := k.1 h3
      refine z_tin (off := 43) 58 dX6_told_15 (by (try dsimp only); rw [h3]; decide) (by (try dsimp only); rw [h3]; decide) (by (try dsimp only); rw [h3]; decide) (by decide) ?_
      refine z_aload_n dX6_told_58 rfl rfl ?_
      refine z_getr dX6_told_59 fl_X6_20 lo0_0 rfl ?_
      refine z_getr dX6_told_62 fl_X6_114 lo0_3 rfl ?_
      refine z_iload_n dX6_told_65 rfl rfl ?_
      refine z_iald dX6_told_66 lo0_4 ⟨k.1, ?_⟩
      replace k := k.2
      exact z_ireturn (st := []) rfl dX6_told_67 ⟨_, rfl, k⟩
    replace k := k.2 h3
    refine z_case 2 x2 ⟨fun h4 => ?_, fun h4 => ?_⟩
    · replace k := k.1 h4
      refine z_tin (off := 53) 68 dX6_told_15 (by (try dsimp only); rw [h4]; decide) (by (try dsimp only); rw [h4]; decide) (by (try dsimp only); rw [h4]; decide) (by decide) ?_
      refine z_aload_n dX6_told_68 rfl rfl ?_
      refine z_getr dX6_told_69 fl_X6_20 lo0_0 rfl ?_
      refine z_getr dX6_told_72 fl_X6_117 lo0_3 rfl ?_
      refine z_iload_n dX6_told_75 rfl rfl ?_
      refine z_iald dX6_told_76 lo0_5 ⟨k.1, ?_⟩
      replace k := k.2
      exact z_ireturn (st := []) rfl dX6_told_77 ⟨_, rfl, k⟩
    replace k := k.2 h4
    refine z_case 3 x2 ⟨fun h5 => ?_, fun h5 => ?_⟩
    · replace k := k.1 h5
      refine z_tin (off := 63) 78 dX6_told_15 (by (try dsimp only); rw [h5]; decide) (by (try dsimp only); rw [h5]; decide) (by (try dsimp only); rw [h5]; decide) (by decide) ?_
      refine z_aload_n dX6_told_78 rfl rfl ?_
      refine z_getr dX6_told_79 fl_X6_20 lo0_0 rfl ?_
      refine z_getr dX6_told_82 fl_X6_120 lo0_3 rfl ?_
      refine z_iload_n dX6_told_85 rfl rfl ?_
      refine z_iald dX6_told_86 lo0_8 ⟨k.1, ?_⟩
      replace k := k.2
      exact z_ireturn (st := []) rfl dX6_told_87 ⟨_, rfl, k⟩
    replace k := k.2 h5
    refine z_case 4 x2 ⟨fun h6 => ?_, fun h6 => ?_⟩
    · replace k := k.1 h6
      refine z_tin (off := 73) 88 dX6_told_15 (by (try dsimp only); rw [h6]; decide) (by (try dsimp only); rw [h6]; decide) (by (try dsimp only); rw [h6]; decide) (by decide) ?_
      refine z_aload_n dX6_told_88 rfl rfl ?_
      refine z_getr dX6_told_89 fl_X6_44 lo0_0 rfl ?_
      refine z_aload_n dX6_told_92 rfl rfl ?_
      refine z_getr dX6_told_93 fl_X6_20 lo0_0 rfl ?_
      refine z_aload_n dX6_told_96 rfl rfl ?_
      refine z_geti dX6_told_97 fl_X6_69 lo0_0 rfl ?_
      refine z_callv (I := m_X6_told) (I2 := m_X2_find) (st := []) [.ref 3, .int (M5.1 0)] dX6_told_100 ml_X6_123 rfl (by decide) lo0_25 rfl (Nat.le_of_ble_eq_true rfl) rfl (AMv.mono k (fun M100 k => ?_))
      refine z_aload_n dX6_told_103 rfl rfl ?_
      refine z_getr dX6_told_104 fl_X6_20 lo0_0 rfl ?_
      refine z_iload_n dX6_told_107 rfl rfl ?_
      refine z_calli (I := m_X6_told) (I2 := m_X0_isThere) (st := []) [.int x1] dX6_told_108 ml_X6_98 rfl (by decide) lo0_3 rfl (Nat.le_of_ble_eq_true rfl) rfl (AMi.mono k (fun r108 M108 k => ?_))
      refine z_if_eq 133 dX6_told_111 (by decide) ⟨fun h7 => ?_, fun h7 => ?_⟩
      · replace k := k.1 h7
        refine z_iconst (v := 0) dX6_told_133 (by decide) ?_
        exact z_ireturn (st := []) rfl dX6_told_134 ⟨_, rfl, k⟩
      · replace k := k.2 h7
        refine z_aload_n dX6_told_114 rfl rfl ?_
        refine z_getr dX6_told_115 fl_X6_44 lo0_0 rfl ?_
        refine z_aload_n dX6_told_118 rfl rfl ?_
        refine z_getr dX6_told_119 fl_X6_20 lo0_0 rfl ?_
        refine z_iload_n dX6_told_122 rfl rfl ?_
        refine z_calli (I := m_X6_told) (I2 := m_X2_isBridge) (st := []) [.ref 3, .int x1] dX6_told_123 ml_X6_127 rfl (by decide) lo0_25 rfl (Nat.le_of_ble_eq_true rfl) rfl (AMi.mono k (fun r123 M123 k => ?_))
        refine z_if_eq 133 dX6_told_126 (by decide) ⟨fun h8 => ?_, fun h8 => ?_⟩
        · replace k := k.1 h8
          refine z_iconst (v := 0) dX6_told_133 (by decide) ?_
          exact z_ireturn (st := []) rfl dX6_told_134 ⟨_, rfl, k⟩
        · replace k := k.2 h8
          refine z_iconst (v := 1) dX6_told_129 (by decide) ?_
          refine z_goto 134 dX6_told_130 (by decide) ?_
          exact z_ireturn (st := []) rfl dX6_told_134 ⟨_, rfl, k⟩
    replace k := k.2 h6
    have eh2 := lv_neT h2 (a := 0) (by decide)
    have eh3 := lv_neT h3 (a := 1) (by decide)
    have eh4 := lv_neT h4 (a := 2) (by decide)
    have eh5 := lv_neT h5 (a := 3) (by decide)
    have eh6 := lv_neT h6 (a := 4) (by decide)
    refine z_tout 135 dX6_told_15 (by omega) (by decide) ?_
    refine z_bipush (v := (-2)) dX6_told_135 (by decide) ?_
    exact z_ireturn (st := []) rfl dX6_told_137 ⟨_, rfl, k⟩
  · replace k := k.2 h1
    refine z_bipush (v := (-2)) dX6_told_11 (by decide) ?_
    exact z_ireturn (st := []) rfl dX6_told_13 ⟨_, rfl, k⟩

set_option maxRecDepth 100000 in
set_option maxHeartbeats 4000000 in
theorem r_X6_weight_0 {P : Int64 → zM → Prop} (x1 : Int32) (F : Nat → Int32) (I : Nat → Nat → Int32) (J : Nat → Nat → Int64)
  (k : AMi m_X0_hasCome [.ref 3, .int x1] (F, I, J) (fun r5 M5 => ((r5 = 0 → P (-4611686018427387904) M5) ∧ (¬ r5 = 0 → vp_in x1 300 ∧ P (M5.2.2 1 (zn x1)) M5)))) :
  AMl m_X6_weight [.ref 0, .int x1] (F, I, J) P := by
  refine z_entry (pad := 0) [some (.ref 0), some (.int x1)] (by decide) rfl rfl (fun _ => Nat.le_of_ble_eq_true rfl) ?_
  refine z_aload_n dX6_weight_0 rfl rfl ?_
  refine z_getr dX6_weight_1 fl_X6_20 lo0_0 rfl ?_
  refine z_iload_n dX6_weight_4 rfl rfl ?_
  refine z_calli (I := m_X6_weight) (I2 := m_X0_hasCome) (st := []) [.int x1] dX6_weight_5 ml_X6_111 rfl (by decide) lo0_3 rfl (Nat.le_of_ble_eq_true rfl) rfl (AMi.mono k (fun r5 M5 k => ?_))
  refine z_if_eq 23 dX6_weight_8 (by decide) ⟨fun h1 => ?_, fun h1 => ?_⟩
  · replace k := k.1 h1
    refine z_ldc2 dX6_weight_23 lc_X6_134 ?_
    exact z_lreturn (st := []) rfl dX6_weight_26 ⟨_, rfl, k⟩
  · replace k := k.2 h1
    refine z_aload_n dX6_weight_11 rfl rfl ?_
    refine z_getr dX6_weight_12 fl_X6_20 lo0_0 rfl ?_
    refine z_getr dX6_weight_15 fl_X6_131 lo0_3 rfl ?_
    refine z_iload_n dX6_weight_18 rfl rfl ?_
    refine z_lald dX6_weight_19 lo0_6 ⟨k.1, ?_⟩
    replace k := k.2
    refine z_goto 26 dX6_weight_20 (by decide) ?_
    exact z_lreturn (st := []) rfl dX6_weight_26 ⟨_, rfl, k⟩

set_option maxRecDepth 100000 in
set_option maxHeartbeats 4000000 in
theorem r_X6_count_0 {P : Int32 → zM → Prop} (x1 : Int32) (F : Nat → Int32) (I : Nat → Nat → Int32) (J : Nat → Nat → Int64)
  (k : ((x1 = 0 → P (F 0) (F, I, J)) ∧ (¬ x1 = 0 → ((x1 = 1 → P (F 4) (F, I, J)) ∧ (¬ x1 = 1 → ((x1 = 2 → AMi m_X0_howMany [.ref 3, .int 1] (F, I, J) (fun r70 M70 => P r70 M70)) ∧ (¬ x1 = 2 → ((x1 = 3 → AMi m_X0_howMany [.ref 3, .int 2] (F, I, J) (fun r79 M79 => P r79 M79)) ∧ (¬ x1 = 3 → ((x1 = 4 → AMi m_X0_howMany [.ref 3, .int 1] (F, I, J) (fun r92 M92 => P ((F 0) - r92) M92)) ∧ (¬ x1 = 4 → ((x1 = 5 → AMv m_X2_find [.ref 25, .ref 3, .int (F 0)] (F, I, J) (fun M109 => P (M109.1 11) M109)) ∧ (¬ x1 = 5 → ((x1 = 6 → AMv m_X2_find [.ref 25, .ref 3, .int (F 0)] (F, I, J) (fun M132 => P (M132.1 12) M132)) ∧ (¬ x1 = 6 → ((x1 = 7 → P (F 14) (F, I, J)) ∧ (¬ x1 = 7 → ((x1 = 8 → P (F 5) (F, I, J)) ∧ (¬ x1 = 8 → P (-2) (F, I, J)))))))))))))))))))) :
  AMi m_X6_count [.ref 0, .int x1] (F, I, J) P := by
  refine z_entry (pad := 0) [some (.ref 0), some (.int x1)] (by decide) rfl rfl (fun _ => Nat.le_of_ble_eq_true rfl) ?_
  refine z_iload_n dX6_count_0 rfl rfl ?_
  refine z_case 0 x1 ⟨fun h1 => ?_, fun h1 => ?_⟩
  · replace k := k.1 h1
    refine z_tin (off := 51) 52 dX6_count_1 (by (try dsimp only); rw [h1]; decide) (by (try dsimp only); rw [h1]; decide) (by (try dsimp only); rw [h1]; decide) (by decide) ?_
    refine z_aload_n dX6_count_52 rfl rfl ?_
    refine z_geti dX6_count_53 fl_X6_69 lo0_0 rfl ?_
    exact z_ireturn (st := []) rfl dX6_count_56 ⟨_, rfl, k⟩
  replace k := k.2 h1
  refine z_case 1 x1 ⟨fun h2 => ?_, fun h2 => ?_⟩
  · replace k := k.1 h2
    refine z_tin (off := 56) 57 dX6_count_1 (by (try dsimp only); rw [h2]; decide) (by (try dsimp only); rw [h2]; decide) (by (try dsimp only); rw [h2]; decide) (by decide) ?_
    refine z_aload_n dX6_count_57 rfl rfl ?_
    refine z_getr dX6_count_58 fl_X6_20 lo0_0 rfl ?_
    refine z_geti dX6_count_61 fl_X6_75 lo0_3 rfl ?_
    exact z_ireturn (st := []) rfl dX6_count_64 ⟨_, rfl, k⟩
  replace k := k.2 h2
  refine z_case 2 x1 ⟨fun h3 => ?_, fun h3 => ?_⟩
  · replace k := k.1 h3
    refine z_tin (off := 64) 65 dX6_count_1 (by (try dsimp only); rw [h3]; decide) (by (try dsimp only); rw [h3]; decide) (by (try dsimp only); rw [h3]; decide) (by decide) ?_
    refine z_aload_n dX6_count_65 rfl rfl ?_
    refine z_getr dX6_count_66 fl_X6_20 lo0_0 rfl ?_
    refine z_iconst (v := 1) dX6_count_69 (by decide) ?_
    refine z_calli (I := m_X6_count) (I2 := m_X0_howMany) (st := []) [.int 1] dX6_count_70 ml_X6_136 rfl (by decide) lo0_3 rfl (Nat.le_of_ble_eq_true rfl) rfl (AMi.mono k (fun r70 M70 k => ?_))
    exact z_ireturn (st := []) rfl dX6_count_73 ⟨_, rfl, k⟩
  replace k := k.2 h3
  refine z_case 3 x1 ⟨fun h4 => ?_, fun h4 => ?_⟩
  · replace k := k.1 h4
    refine z_tin (off := 73) 74 dX6_count_1 (by (try dsimp only); rw [h4]; decide) (by (try dsimp only); rw [h4]; decide) (by (try dsimp only); rw [h4]; decide) (by decide) ?_
    refine z_aload_n dX6_count_74 rfl rfl ?_
    refine z_getr dX6_count_75 fl_X6_20 lo0_0 rfl ?_
    refine z_iconst (v := 2) dX6_count_78 (by decide) ?_
    refine z_calli (I := m_X6_count) (I2 := m_X0_howMany) (st := []) [.int 2] dX6_count_79 ml_X6_136 rfl (by decide) lo0_3 rfl (Nat.le_of_ble_eq_true rfl) rfl (AMi.mono k (fun r79 M79 k => ?_))
    exact z_ireturn (st := []) rfl dX6_count_82 ⟨_, rfl, k⟩
  replace k := k.2 h4
  refine z_case 4 x1 ⟨fun h5 => ?_, fun h5 => ?_⟩
  · replace k := k.1 h5
    refine z_tin (off := 82) 83 dX6_count_1 (by (try dsimp only); rw [h5]; decide) (by (try dsimp only); rw [h5]; decide) (by (try dsimp only); rw [h5]; decide) (by decide) ?_
    refine z_aload_n dX6_count_83 rfl rfl ?_
    refine z_geti dX6_count_84 fl_X6_69 lo0_0 rfl ?_
    refine z_aload_n dX6_count_87 rfl rfl ?_
    refine z_getr dX6_count_88 fl_X6_20 lo0_0 rfl ?_
    refine z_iconst (v := 1) dX6_count_91 (by decide) ?_
    refine z_calli (I := m_X6_count) (I2 := m_X0_howMany) (st := [.int (F 0)]) [.int 1] dX6_count_92 ml_X6_136 rfl (by decide) lo0_3 rfl (Nat.le_of_ble_eq_true rfl) rfl (AMi.mono k (fun r92 M92 k => ?_))
    refine z_isub dX6_count_95 ?_
    exact z_ireturn (st := []) rfl dX6_count_96 ⟨_, rfl, k⟩
  replace k := k.2 h5
  refine z_case 5 x1 ⟨fun h6 => ?_, fun h6 => ?_⟩
  · replace k := k.1 h6
    refine z_tin (off := 96) 97 dX6_count_1 (by (try dsimp only); rw [h6]; decide) (by (try dsimp only); rw [h6]; decide) (by (try dsimp only); rw [h6]; decide) (by decide) ?_
    refine z_aload_n dX6_count_97 rfl rfl ?_
    refine z_getr dX6_count_98 fl_X6_44 lo0_0 rfl ?_
    refine z_aload_n dX6_count_101 rfl rfl ?_
    refine z_getr dX6_count_102 fl_X6_20 lo0_0 rfl ?_
    refine z_aload_n dX6_count_105 rfl rfl ?_
    refine z_geti dX6_count_106 fl_X6_69 lo0_0 rfl ?_
    refine z_callv (I := m_X6_count) (I2 := m_X2_find) (st := []) [.ref 3, .int (F 0)] dX6_count_109 ml_X6_123 rfl (by decide) lo0_25 rfl (Nat.le_of_ble_eq_true rfl) rfl (AMv.mono k (fun M109 k => ?_))
    refine z_aload_n dX6_count_112 rfl rfl ?_
    refine z_getr dX6_count_113 fl_X6_44 lo0_0 rfl ?_
    refine z_geti dX6_count_116 fl_X6_139 lo0_25 rfl ?_
    exact z_ireturn (st := []) rfl dX6_count_119 ⟨_, rfl, k⟩
  replace k := k.2 h6
  refine z_case 6 x1 ⟨fun h7 => ?_, fun h7 => ?_⟩
  · replace k := k.1 h7
    refine z_tin (off := 119) 120 dX6_count_1 (by (try dsimp only); rw [h7]; decide) (by (try dsimp only); rw [h7]; decide) (by (try dsimp only); rw [h7]; decide) (by decide) ?_
    refine z_aload_n dX6_count_120 rfl rfl ?_
    refine z_getr dX6_count_121 fl_X6_44 lo0_0 rfl ?_
    refine z_aload_n dX6_count_124 rfl rfl ?_
    refine z_getr dX6_count_125 fl_X6_20 lo0_0 rfl ?_
    refine z_aload_n dX6_count_128 rfl rfl ?_
    refine z_geti dX6_count_129 fl_X6_69 lo0_0 rfl ?_
    refine z_callv (I := m_X6_count) (I2 := m_X2_find) (st := []) [.ref 3, .int (F 0)] dX6_count_132 ml_X6_123 rfl (by decide) lo0_25 rfl (Nat.le_of_ble_eq_true rfl) rfl (AMv.mono k (fun M132 k => ?_))
    refine z_aload_n dX6_count_135 rfl rfl ?_
    refine z_getr dX6_count_136 fl_X6_44 lo0_0 rfl ?_
    refine z_geti dX6_count_139 fl_X6_142 lo0_25 rfl ?_
    exact z_ireturn (st := []) rfl dX6_count_142 ⟨_, rfl, k⟩
  replace k := k.2 h7
  refine z_case 7 x1 ⟨fun h8 => ?_, fun h8 => ?_⟩
  · replace k := k.1 h8
    refine z_tin (off := 142) 143 dX6_count_1 (by (try dsimp only); rw [h8]; decide) (by (try dsimp only); rw [h8]; decide) (by (try dsimp only); rw [h8]; decide) (by decide) ?_
    refine z_aload_n dX6_count_143 rfl rfl ?_
    refine z_getr dX6_count_144 fl_X6_51 lo0_0 rfl ?_
    refine z_geti dX6_count_147 fl_X6_145 lo0_31 rfl ?_
    exact z_ireturn (st := []) rfl dX6_count_150 ⟨_, rfl, k⟩
  replace k := k.2 h8
  refine z_case 8 x1 ⟨fun h9 => ?_, fun h9 => ?_⟩
  · replace k := k.1 h9
    refine z_tin (off := 150) 151 dX6_count_1 (by (try dsimp only); rw [h9]; decide) (by (try dsimp only); rw [h9]; decide) (by (try dsimp only); rw [h9]; decide) (by decide) ?_
    refine z_aload_n dX6_count_151 rfl rfl ?_
    refine z_getr dX6_count_152 fl_X6_20 lo0_0 rfl ?_
    refine z_geti dX6_count_155 fl_X6_104 lo0_3 rfl ?_
    exact z_ireturn (st := []) rfl dX6_count_158 ⟨_, rfl, k⟩
  replace k := k.2 h9
  have eh1 := lv_neT h1 (a := 0) (by decide)
  have eh2 := lv_neT h2 (a := 1) (by decide)
  have eh3 := lv_neT h3 (a := 2) (by decide)
  have eh4 := lv_neT h4 (a := 3) (by decide)
  have eh5 := lv_neT h5 (a := 4) (by decide)
  have eh6 := lv_neT h6 (a := 5) (by decide)
  have eh7 := lv_neT h7 (a := 6) (by decide)
  have eh8 := lv_neT h8 (a := 7) (by decide)
  have eh9 := lv_neT h9 (a := 8) (by decide)
  refine z_tout 159 dX6_count_1 (by omega) (by decide) ?_
  refine z_bipush (v := (-2)) dX6_count_159 (by decide) ?_
  exact z_ireturn (st := []) rfl dX6_count_161 ⟨_, rfl, k⟩

set_option maxRecDepth 100000 in
set_option maxHeartbeats 4000000 in
theorem r_X6_total_0 {P : Int64 → zM → Prop}  (F : Nat → Int32) (I : Nat → Nat → Int32) (J : Nat → Nat → Int64)
  (k : AW m_X6_total (z_pl P) 4 [some (.ref 0), some (.long 0), none, some (.int 0)] [] (F, I, J)) :
  AMl m_X6_total [.ref 0] (F, I, J) P := by
  refine z_entry (pad := 3) [some (.ref 0), none, none, none] (by decide) rfl rfl (fun _ => Nat.le_of_ble_eq_true rfl) ?_
  refine z_lconst (v := 0) dX6_total_0 (by decide) ?_
  refine z_lstore_n dX6_total_1 rfl (by decide) rfl ?_
  refine z_iconst (v := 0) dX6_total_2 (by decide) ?_
  refine z_istore_n dX6_total_3 rfl (by decide) rfl ?_
  exact k

set_option maxRecDepth 100000 in
set_option maxHeartbeats 4000000 in
theorem r_X6_total_4 {P : Int64 → zM → Prop} (l1 : Int64) (x3 : Int32) (F : Nat → Int32) (I : Nat → Nat → Int32) (J : Nat → Nat → Int64)
  (k : (((F 4) ≤ x3 → P l1 (F, I, J)) ∧ (¬ (F 4) ≤ x3 → vp_in x3 300 ∧ ((¬ (I 3 (zn x3)) = 1 → AW m_X6_total (z_pl P) 4 [some (.ref 0), some (.long l1), none, some (.int (x3 + 1))] [] (F, I, J)) ∧ ((I 3 (zn x3)) = 1 → vp_in x3 300 ∧ AW m_X6_total (z_pl P) 4 [some (.ref 0), some (.long (l1 + (J 1 (zn x3)))), none, some (.int (x3 + 1))] [] (F, I, J)))))) :
  AW m_X6_total (z_pl P) 4 [some (.ref 0), some (.long l1), none, some (.int x3)] [] (F, I, J) := by
  refine z_iload_n dX6_total_4 rfl rfl ?_
  refine z_aload_n dX6_total_5 rfl rfl ?_
  refine z_getr dX6_total_6 fl_X6_20 lo0_0 rfl ?_
  refine z_geti dX6_total_9 fl_X6_75 lo0_3 rfl ?_
  refine z_icmp_ge 46 dX6_total_12 (by decide) ⟨fun h1 => ?_, fun h1 => ?_⟩
  · replace k := k.1 h1
    refine z_lload_n dX6_total_46 rfl rfl ?_
    exact z_lreturn (st := []) rfl dX6_total_47 ⟨_, rfl, k⟩
  · replace k := k.2 h1
    refine z_aload_n dX6_total_15 rfl rfl ?_
    refine z_getr dX6_total_16 fl_X6_20 lo0_0 rfl ?_
    refine z_getr dX6_total_19 fl_X6_101 lo0_3 rfl ?_
    refine z_iload_n dX6_total_22 rfl rfl ?_
    refine z_iald dX6_total_23 lo0_7 ⟨k.1, ?_⟩
    replace k := k.2
    refine z_iconst (v := 1) dX6_total_24 (by decide) ?_
    refine z_icmp_ne 40 dX6_total_25 (by decide) ⟨fun h2 => ?_, fun h2 => ?_⟩
    · replace k := k.1 h2
      refine z_iinc (v := (x3 + 1)) dX6_total_40 rfl rfl (by decide) rfl ?_
      refine z_goto 4 dX6_total_43 (by decide) ?_
      exact k
    · replace k := k.2 h2
      refine z_lload_n dX6_total_28 rfl rfl ?_
      refine z_aload_n dX6_total_29 rfl rfl ?_
      refine z_getr dX6_total_30 fl_X6_20 lo0_0 rfl ?_
      refine z_getr dX6_total_33 fl_X6_131 lo0_3 rfl ?_
      refine z_iload_n dX6_total_36 rfl rfl ?_
      refine z_lald dX6_total_37 lo0_6 ⟨k.1, ?_⟩
      replace k := k.2
      refine z_ladd dX6_total_38 ?_
      refine z_lstore_n dX6_total_39 rfl (by decide) rfl ?_
      refine z_iinc (v := (x3 + 1)) dX6_total_40 rfl rfl (by decide) rfl ?_
      refine z_goto 4 dX6_total_43 (by decide) ?_
      exact k

set_option maxRecDepth 100000 in
set_option maxHeartbeats 4000000 in
theorem r_X6_together_0 {P : Int32 → zM → Prop} (x1 : Int32) (x2 : Int32) (F : Nat → Int32) (I : Nat → Nat → Int32) (J : Nat → Nat → Int64)
  (k : AMi m_X6_layTrack [.ref 0, .int x1, .int x2] (F, I, J) (fun r3 M3 => ((¬ r3 = (-2) → ((¬ r3 = (-1) → P 1 M3) ∧ (r3 = (-1) → P 0 M3))) ∧ (r3 = (-2) → P (-2) M3)))) :
  AMi m_X6_together [.ref 0, .int x1, .int x2] (F, I, J) P := by
  refine z_entry (pad := 1) [some (.ref 0), some (.int x1), some (.int x2), none] (by decide) rfl rfl (fun _ => Nat.le_of_ble_eq_true rfl) ?_
  refine z_aload_n dX6_together_0 rfl rfl ?_
  refine z_iload_n dX6_together_1 rfl rfl ?_
  refine z_iload_n dX6_together_2 rfl rfl ?_
  refine z_calli (I := m_X6_together) (I2 := m_X6_layTrack) (st := []) [.int x1, .int x2] dX6_together_3 ml_X6_82 rfl (by decide) lo0_0 rfl (Nat.le_of_ble_eq_true rfl) rfl (AMi.mono k (fun r3 M3 k => ?_))
  refine z_istore_n dX6_together_6 rfl (by decide) rfl ?_
  refine z_iload_n dX6_together_7 rfl rfl ?_
  refine z_bipush (v := (-2)) dX6_together_8 (by decide) ?_
  refine z_icmp_ne 16 dX6_together_10 (by decide) ⟨fun h1 => ?_, fun h1 => ?_⟩
  · replace k := k.1 h1
    refine z_iload_n dX6_together_16 rfl rfl ?_
    refine z_iconst (v := (-1)) dX6_together_17 (by decide) ?_
    refine z_icmp_ne 25 dX6_together_18 (by decide) ⟨fun h2 => ?_, fun h2 => ?_⟩
    · replace k := k.1 h2
      refine z_iconst (v := 1) dX6_together_25 (by decide) ?_
      exact z_ireturn (st := []) rfl dX6_together_26 ⟨_, rfl, k⟩
    · replace k := k.2 h2
      refine z_iconst (v := 0) dX6_together_21 (by decide) ?_
      refine z_goto 26 dX6_together_22 (by decide) ?_
      exact z_ireturn (st := []) rfl dX6_together_26 ⟨_, rfl, k⟩
  · replace k := k.2 h1
    refine z_bipush (v := (-2)) dX6_together_13 (by decide) ?_
    exact z_ireturn (st := []) rfl dX6_together_15 ⟨_, rfl, k⟩

set_option maxRecDepth 100000 in
set_option maxHeartbeats 4000000 in
theorem r_X6_size_0 {P : Int32 → zM → Prop} (x1 : Int32) (F : Nat → Int32) (I : Nat → Nat → Int32) (J : Nat → Nat → Int64)
  (k : AMi m_X6_isKnot [.ref 0, .int x1] (F, I, J) (fun r2 M2 => ((¬ r2 = 0 → AMv m_X6_floodPart [.ref 0, .int x1] M2 (fun M13 => P (M13.1 6) M13)) ∧ (r2 = 0 → P (-2) M2)))) :
  AMi m_X6_size [.ref 0, .int x1] (F, I, J) P := by
  refine z_entry (pad := 0) [some (.ref 0), some (.int x1)] (by decide) rfl rfl (fun _ => Nat.le_of_ble_eq_true rfl) ?_
  refine z_aload_n dX6_size_0 rfl rfl ?_
  refine z_iload_n dX6_size_1 rfl rfl ?_
  refine z_calli (I := m_X6_size) (I2 := m_X6_isKnot) (st := []) [.int x1] dX6_size_2 ml_X6_78 rfl (by decide) lo0_0 rfl (Nat.le_of_ble_eq_true rfl) rfl (AMi.mono k (fun r2 M2 k => ?_))
  refine z_if_ne 11 dX6_size_5 (by decide) ⟨fun h1 => ?_, fun h1 => ?_⟩
  · replace k := k.1 h1
    refine z_aload_n dX6_size_11 rfl rfl ?_
    refine z_iload_n dX6_size_12 rfl rfl ?_
    refine z_callv (I := m_X6_size) (I2 := m_X6_floodPart) (st := []) [.int x1] dX6_size_13 ml_X6_148 rfl (by decide) lo0_0 rfl (Nat.le_of_ble_eq_true rfl) rfl (AMv.mono k (fun M13 k => ?_))
    refine z_aload_n dX6_size_16 rfl rfl ?_
    refine z_getr dX6_size_17 fl_X6_27 lo0_0 rfl ?_
    refine z_geti dX6_size_20 fl_X6_152 lo0_12 rfl ?_
    exact z_ireturn (st := []) rfl dX6_size_23 ⟨_, rfl, k⟩
  · replace k := k.2 h1
    refine z_bipush (v := (-2)) dX6_size_8 (by decide) ?_
    exact z_ireturn (st := []) rfl dX6_size_10 ⟨_, rfl, k⟩

set_option maxRecDepth 100000 in
set_option maxHeartbeats 4000000 in
theorem r_X6_member_0 {P : Int32 → zM → Prop} (x1 : Int32) (x2 : Int32) (F : Nat → Int32) (I : Nat → Nat → Int32) (J : Nat → Nat → Int64)
  (k : AMi m_X6_isKnot [.ref 0, .int x1] (F, I, J) (fun r2 M2 => ((¬ r2 = 0 → AMv m_X6_floodPart [.ref 0, .int x1] M2 (fun M13 => AW m_X6_member (z_pi P) 21 [some (.ref 0), none, some (.int x2), some (.int 0), some (.int 0)] [] M13)) ∧ (r2 = 0 → P (-2) M2)))) :
  AMi m_X6_member [.ref 0, .int x1, .int x2] (F, I, J) P := by
  refine z_entry (pad := 2) [some (.ref 0), some (.int x1), some (.int x2), none, none] (by decide) rfl rfl (fun _ => Nat.le_of_ble_eq_true rfl) ?_
  refine z_aload_n dX6_member_0 rfl rfl ?_
  refine z_iload_n dX6_member_1 rfl rfl ?_
  refine z_calli (I := m_X6_member) (I2 := m_X6_isKnot) (st := []) [.int x1] dX6_member_2 ml_X6_78 rfl (by decide) lo0_0 rfl (Nat.le_of_ble_eq_true rfl) rfl (AMi.mono k (fun r2 M2 k => ?_))
  refine z_if_ne 11 dX6_member_5 (by decide) ⟨fun h1 => ?_, fun h1 => ?_⟩
  · replace k := k.1 h1
    refine z_aload_n dX6_member_11 rfl rfl ?_
    refine z_iload_n dX6_member_12 rfl rfl ?_
    refine z_callv (I := m_X6_member) (I2 := m_X6_floodPart) (st := []) [.int x1] dX6_member_13 ml_X6_148 rfl (by decide) lo0_0 rfl (Nat.le_of_ble_eq_true rfl) rfl (AMv.mono k (fun M13 k => ?_))
    refine z_iconst (v := 0) dX6_member_16 (by decide) ?_
    refine z_istore_n dX6_member_17 rfl (by decide) rfl ?_
    refine z_iconst (v := 0) dX6_member_18 (by decide) ?_
    refine z_istore dX6_member_19 (by decide) rfl ?_
    refine z_wk [some (.ref 0), none, some (.int x2), some (.int 0), some (.int 0)] (z_le_some (z_le_none (z_le_some (z_le_some (z_le_some z_le_nil))))) ?_
    exact k
  · replace k := k.2 h1
    refine z_bipush (v := (-2)) dX6_member_8 (by decide) ?_
    exact z_ireturn (st := []) rfl dX6_member_10 ⟨_, rfl, k⟩

set_option maxRecDepth 100000 in
set_option maxHeartbeats 4000000 in
theorem r_X6_member_21 {P : Int32 → zM → Prop} (x2 : Int32) (x3 : Int32) (x4 : Int32) (F : Nat → Int32) (I : Nat → Nat → Int32) (J : Nat → Nat → Int64)
  (k : (((F 0) ≤ x4 → P (-1) (F, I, J)) ∧ (¬ (F 0) ≤ x4 → vp_in x4 100 ∧ (((I 11 (zn x4)) = 0 → AW m_X6_member (z_pi P) 21 [some (.ref 0), none, some (.int x2), some (.int x3), some (.int (x4 + 1))] [] (F, I, J)) ∧ (¬ (I 11 (zn x4)) = 0 → ((¬ x3 = x2 → AW m_X6_member (z_pi P) 21 [some (.ref 0), none, some (.int x2), some (.int (x3 + 1)), some (.int (x4 + 1))] [] (F, I, J)) ∧ (x3 = x2 → P x4 (F, I, J)))))))) :
  AW m_X6_member (z_pi P) 21 [some (.ref 0), none, some (.int x2), some (.int x3), some (.int x4)] [] (F, I, J) := by
  refine z_iload dX6_member_21 rfl ?_
  refine z_aload_n dX6_member_23 rfl rfl ?_
  refine z_geti dX6_member_24 fl_X6_69 lo0_0 rfl ?_
  refine z_icmp_ge 60 dX6_member_27 (by decide) ⟨fun h1 => ?_, fun h1 => ?_⟩
  · replace k := k.1 h1
    refine z_iconst (v := (-1)) dX6_member_60 (by decide) ?_
    exact z_ireturn (st := []) rfl dX6_member_61 ⟨_, rfl, k⟩
  · replace k := k.2 h1
    refine z_aload_n dX6_member_30 rfl rfl ?_
    refine z_getr dX6_member_31 fl_X6_27 lo0_0 rfl ?_
    refine z_getr dX6_member_34 fl_X6_153 lo0_12 rfl ?_
    refine z_iload dX6_member_37 rfl ?_
    refine z_zald dX6_member_39 lo0_16 ⟨k.1, ?_⟩
    replace k := k.2
    refine z_if_eq 54 dX6_member_40 (by decide) ⟨fun h2 => ?_, fun h2 => ?_⟩
    · replace k := k.1 h2
      refine z_iinc (v := (x4 + 1)) dX6_member_54 rfl rfl (by decide) rfl ?_
      refine z_goto 21 dX6_member_57 (by decide) ?_
      exact k
    · replace k := k.2 h2
      refine z_iload_n dX6_member_43 rfl rfl ?_
      refine z_iload_n dX6_member_44 rfl rfl ?_
      refine z_icmp_ne 51 dX6_member_45 (by decide) ⟨fun h3 => ?_, fun h3 => ?_⟩
      · replace k := k.1 h3
        refine z_iinc (v := (x3 + 1)) dX6_member_51 rfl rfl (by decide) rfl ?_
        refine z_iinc (v := (x4 + 1)) dX6_member_54 rfl rfl (by decide) rfl ?_
        refine z_goto 21 dX6_member_57 (by decide) ?_
        exact k
      · replace k := k.2 h3
        refine z_iload dX6_member_48 rfl ?_
        exact z_ireturn (st := []) rfl dX6_member_50 ⟨_, rfl, k⟩

set_option maxRecDepth 100000 in
set_option maxHeartbeats 4000000 in
theorem r_X6_way_0 {P : Int32 → zM → Prop} (x1 : Int32) (x2 : Int32) (F : Nat → Int32) (I : Nat → Nat → Int32) (J : Nat → Nat → Int64)
  (k : AMi m_X6_layTrack [.ref 0, .int x1, .int x2] (F, I, J) (fun r3 M3 => P r3 M3)) :
  AMi m_X6_way [.ref 0, .int x1, .int x2] (F, I, J) P := by
  refine z_entry (pad := 0) [some (.ref 0), some (.int x1), some (.int x2)] (by decide) rfl rfl (fun _ => Nat.le_of_ble_eq_true rfl) ?_
  refine z_aload_n dX6_way_0 rfl rfl ?_
  refine z_iload_n dX6_way_1 rfl rfl ?_
  refine z_iload_n dX6_way_2 rfl rfl ?_
  refine z_calli (I := m_X6_way) (I2 := m_X6_layTrack) (st := []) [.int x1, .int x2] dX6_way_3 ml_X6_82 rfl (by decide) lo0_0 rfl (Nat.le_of_ble_eq_true rfl) rfl (AMi.mono k (fun r3 M3 k => ?_))
  exact z_ireturn (st := []) rfl dX6_way_6 ⟨_, rfl, k⟩

set_option maxRecDepth 100000 in
set_option maxHeartbeats 4000000 in
theorem r_X6_between_0 {P : Int32 → zM → Prop} (x1 : Int32) (x2 : Int32) (x3 : Int32) (F : Nat → Int32) (I : Nat → Nat → Int32) (J : Nat → Nat → Int64)
  (k : AMi m_X6_layTrack [.ref 0, .int x1, .int x2] (F, I, J) (fun r3 M3 => ((¬ r3 = (-2) → ((x3 < 0 → P (-1) M3) ∧ (¬ x3 < 0 → ((x3 ≤ r3 → vp_in x3 100 ∧ P (M3.2.1 16 (zn x3)) M3) ∧ (¬ x3 ≤ r3 → P (-1) M3))))) ∧ (r3 = (-2) → P (-2) M3)))) :
  AMi m_X6_between [.ref 0, .int x1, .int x2, .int x3] (F, I, J) P := by
  refine z_entry (pad := 1) [some (.ref 0), some (.int x1), some (.int x2), some (.int x3), none] (by decide) rfl rfl (fun _ => Nat.le_of_ble_eq_true rfl) ?_
  refine z_aload_n dX6_between_0 rfl rfl ?_
  refine z_iload_n dX6_between_1 rfl rfl ?_
  refine z_iload_n dX6_between_2 rfl rfl ?_
  refine z_calli (I := m_X6_between) (I2 := m_X6_layTrack) (st := []) [.int x1, .int x2] dX6_between_3 ml_X6_82 rfl (by decide) lo0_0 rfl (Nat.le_of_ble_eq_true rfl) rfl (AMi.mono k (fun r3 M3 k => ?_))
  refine z_istore dX6_between_6 (by decide) rfl ?_
  refine z_iload dX6_between_8 rfl ?_
  refine z_bipush (v := (-2)) dX6_between_10 (by decide) ?_
  refine z_icmp_ne 18 dX6_between_12 (by decide) ⟨fun h1 => ?_, fun h1 => ?_⟩
  · replace k := k.1 h1
    refine z_iload_n dX6_between_18 rfl rfl ?_
    refine z_if_lt 28 dX6_between_19 (by decide) ⟨fun h2 => ?_, fun h2 => ?_⟩
    · replace k := k.1 h2
      refine z_iconst (v := (-1)) dX6_between_28 (by decide) ?_
      refine z_goto 41 dX6_between_29 (by decide) ?_
      exact z_ireturn (st := []) rfl dX6_between_41 ⟨_, rfl, k⟩
    · replace k := k.2 h2
      refine z_iload_n dX6_between_22 rfl rfl ?_
      refine z_iload dX6_between_23 rfl ?_
      refine z_icmp_le 32 dX6_between_25 (by decide) ⟨fun h3 => ?_, fun h3 => ?_⟩
      · replace k := k.1 h3
        refine z_aload_n dX6_between_32 rfl rfl ?_
        refine z_getr dX6_between_33 fl_X6_37 lo0_0 rfl ?_
        refine z_getr dX6_between_36 fl_X6_157 lo0_22 rfl ?_
        refine z_iload_n dX6_between_39 rfl rfl ?_
        refine z_iald dX6_between_40 lo0_23 ⟨k.1, ?_⟩
        replace k := k.2
        exact z_ireturn (st := []) rfl dX6_between_41 ⟨_, rfl, k⟩
      · replace k := k.2 h3
        refine z_iconst (v := (-1)) dX6_between_28 (by decide) ?_
        refine z_goto 41 dX6_between_29 (by decide) ?_
        exact z_ireturn (st := []) rfl dX6_between_41 ⟨_, rfl, k⟩
  · replace k := k.2 h1
    refine z_bipush (v := (-2)) dX6_between_15 (by decide) ?_
    exact z_ireturn (st := []) rfl dX6_between_17 ⟨_, rfl, k⟩

set_option maxRecDepth 100000 in
set_option maxHeartbeats 4000000 in
theorem r_X6_heaviest_0 {P : Int32 → zM → Prop} (x1 : Int32) (x2 : Int32) (F : Nat → Int32) (I : Nat → Nat → Int32) (J : Nat → Nat → Int64)
  (k : AMi m_X6_layTrack [.ref 0, .int x1, .int x2] (F, I, J) (fun r3 M3 => ((¬ r3 = (-2) → AMi m_X5_heaviestOf [.ref 22, .ref 3] M3 (fun r24 M24 => P r24 M24)) ∧ (r3 = (-2) → P (-2) M3)))) :
  AMi m_X6_heaviest [.ref 0, .int x1, .int x2] (F, I, J) P := by
  refine z_entry (pad := 0) [some (.ref 0), some (.int x1), some (.int x2)] (by decide) rfl rfl (fun _ => Nat.le_of_ble_eq_true rfl) ?_
  refine z_aload_n dX6_heaviest_0 rfl rfl ?_
  refine z_iload_n dX6_heaviest_1 rfl rfl ?_
  refine z_iload_n dX6_heaviest_2 rfl rfl ?_
  refine z_calli (I := m_X6_heaviest) (I2 := m_X6_layTrack) (st := []) [.int x1, .int x2] dX6_heaviest_3 ml_X6_82 rfl (by decide) lo0_0 rfl (Nat.le_of_ble_eq_true rfl) rfl (AMi.mono k (fun r3 M3 k => ?_))
  refine z_bipush (v := (-2)) dX6_heaviest_6 (by decide) ?_
  refine z_icmp_ne 16 dX6_heaviest_8 (by decide) ⟨fun h1 => ?_, fun h1 => ?_⟩
  · replace k := k.1 h1
    refine z_aload_n dX6_heaviest_16 rfl rfl ?_
    refine z_getr dX6_heaviest_17 fl_X6_37 lo0_0 rfl ?_
    refine z_aload_n dX6_heaviest_20 rfl rfl ?_
    refine z_getr dX6_heaviest_21 fl_X6_20 lo0_0 rfl ?_
    refine z_calli (I := m_X6_heaviest) (I2 := m_X5_heaviestOf) (st := []) [.ref 3] dX6_heaviest_24 ml_X6_159 rfl (by decide) lo0_22 rfl (Nat.le_of_ble_eq_true rfl) rfl (AMi.mono k (fun r24 M24 k => ?_))
    exact z_ireturn (st := []) rfl dX6_heaviest_27 ⟨_, rfl, k⟩
  · replace k := k.2 h1
    refine z_bipush (v := (-2)) dX6_heaviest_11 (by decide) ?_
    refine z_goto 27 dX6_heaviest_13 (by decide) ?_
    exact z_ireturn (st := []) rfl dX6_heaviest_27 ⟨_, rfl, k⟩

set_option maxRecDepth 100000 in
set_option maxHeartbeats 4000000 in
theorem r_X6_sum_0 {P : Int64 → zM → Prop} (x1 : Int32) (x2 : Int32) (F : Nat → Int32) (I : Nat → Nat → Int32) (J : Nat → Nat → Int64)
  (k : AMi m_X6_layTrack [.ref 0, .int x1, .int x2] (F, I, J) (fun r3 M3 => ((0 ≤ r3 → AW m_X6_sum (z_pl P) 21 [some (.ref 0), none, none, some (.int r3), some (.long 0), none, some (.int 0)] [] M3) ∧ (¬ 0 ≤ r3 → P (-4611686018427387904) M3)))) :
  AMl m_X6_sum [.ref 0, .int x1, .int x2] (F, I, J) P := by
  refine z_entry (pad := 4) [some (.ref 0), some (.int x1), some (.int x2), none, none, none, none] (by decide) rfl rfl (fun _ => Nat.le_of_ble_eq_true rfl) ?_
  refine z_aload_n dX6_sum_0 rfl rfl ?_
  refine z_iload_n dX6_sum_1 rfl rfl ?_
  refine z_iload_n dX6_sum_2 rfl rfl ?_
  refine z_calli (I := m_X6_sum) (I2 := m_X6_layTrack) (st := []) [.int x1, .int x2] dX6_sum_3 ml_X6_82 rfl (by decide) lo0_0 rfl (Nat.le_of_ble_eq_true rfl) rfl (AMi.mono k (fun r3 M3 k => ?_))
  refine z_istore_n dX6_sum_6 rfl (by decide) rfl ?_
  refine z_iload_n dX6_sum_7 rfl rfl ?_
  refine z_if_ge 15 dX6_sum_8 (by decide) ⟨fun h1 => ?_, fun h1 => ?_⟩
  · replace k := k.1 h1
    refine z_lconst (v := 0) dX6_sum_15 (by decide) ?_
    refine z_lstore dX6_sum_16 (by decide) rfl ?_
    refine z_iconst (v := 0) dX6_sum_18 (by decide) ?_
    refine z_istore dX6_sum_19 (by decide) rfl ?_
    refine z_wk [some (.ref 0), none, none, some (.int r3), some (.long 0), none, some (.int 0)] (z_le_some (z_le_none (z_le_none (z_le_some (z_le_some (z_le_none (z_le_some z_le_nil))))))) ?_
    exact k
  · replace k := k.2 h1
    refine z_ldc2 dX6_sum_11 lc_X6_134 ?_
    exact z_lreturn (st := []) rfl dX6_sum_14 ⟨_, rfl, k⟩

set_option maxRecDepth 100000 in
set_option maxHeartbeats 4000000 in
theorem r_X6_sum_21 {P : Int64 → zM → Prop} (x3 : Int32) (l4 : Int64) (x6 : Int32) (F : Nat → Int32) (I : Nat → Nat → Int32) (J : Nat → Nat → Int64)
  (k : ((x3 < x6 → P l4 (F, I, J)) ∧ (¬ x3 < x6 → vp_in x6 100 ∧ vp_in (I 16 (zn x6)) 100 ∧ AW m_X6_sum (z_pl P) 21 [some (.ref 0), none, none, some (.int x3), some (.long (l4 + (J 0 (zn (I 16 (zn x6)))))), none, some (.int (x6 + 1))] [] (F, I, J)))) :
  AW m_X6_sum (z_pl P) 21 [some (.ref 0), none, none, some (.int x3), some (.long l4), none, some (.int x6)] [] (F, I, J) := by
  refine z_iload dX6_sum_21 rfl ?_
  refine z_iload_n dX6_sum_23 rfl rfl ?_
  refine z_icmp_gt 53 dX6_sum_24 (by decide) ⟨fun h1 => ?_, fun h1 => ?_⟩
  · replace k := k.1 h1
    refine z_lload dX6_sum_53 rfl ?_
    exact z_lreturn (st := []) rfl dX6_sum_55 ⟨_, rfl, k⟩
  · replace k := k.2 h1
    refine z_lload dX6_sum_27 rfl ?_
    refine z_aload_n dX6_sum_29 rfl rfl ?_
    refine z_getr dX6_sum_30 fl_X6_9 lo0_0 rfl ?_
    refine z_aload_n dX6_sum_33 rfl rfl ?_
    refine z_getr dX6_sum_34 fl_X6_37 lo0_0 rfl ?_
    refine z_getr dX6_sum_37 fl_X6_157 lo0_22 rfl ?_
    refine z_iload dX6_sum_40 rfl ?_
    refine z_iald dX6_sum_42 lo0_23 ⟨k.1, ?_⟩
    replace k := k.2
    refine z_lald dX6_sum_43 lo0_1 ⟨k.1, ?_⟩
    replace k := k.2
    refine z_ladd dX6_sum_44 ?_
    refine z_lstore dX6_sum_45 (by decide) rfl ?_
    refine z_iinc (v := (x6 + 1)) dX6_sum_47 rfl rfl (by decide) rfl ?_
    refine z_goto 21 dX6_sum_50 (by decide) ?_
    exact k

set_option maxRecDepth 100000 in
set_option maxHeartbeats 4000000 in
theorem r_X6_least_0 {P : Int64 → zM → Prop} (x1 : Int32) (x2 : Int32) (F : Nat → Int32) (I : Nat → Nat → Int32) (J : Nat → Nat → Int64)
  (k : AMi m_X6_layTrack [.ref 0, .int x1, .int x2] (F, I, J) (fun r3 M3 => ((0 ≤ r3 → vp_in 0 100 ∧ vp_in (M3.2.1 16 (zn 0)) 100 ∧ AW m_X6_least (z_pl P) 34 [some (.ref 0), none, none, some (.int r3), some (.long (M3.2.2 0 (zn (M3.2.1 16 (zn 0))))), none, some (.int 1)] [] M3) ∧ (¬ 0 ≤ r3 → P (-4611686018427387904) M3)))) :
  AMl m_X6_least [.ref 0, .int x1, .int x2] (F, I, J) P := by
  refine z_entry (pad := 4) [some (.ref 0), some (.int x1), some (.int x2), none, none, none, none] (by decide) rfl rfl (fun _ => Nat.le_of_ble_eq_true rfl) ?_
  refine z_aload_n dX6_least_0 rfl rfl ?_
  refine z_iload_n dX6_least_1 rfl rfl ?_
  refine z_iload_n dX6_least_2 rfl rfl ?_
  refine z_calli (I := m_X6_least) (I2 := m_X6_layTrack) (st := []) [.int x1, .int x2] dX6_least_3 ml_X6_82 rfl (by decide) lo0_0 rfl (Nat.le_of_ble_eq_true rfl) rfl (AMi.mono k (fun r3 M3 k => ?_))
  refine z_istore_n dX6_least_6 rfl (by decide) rfl ?_
  refine z_iload_n dX6_least_7 rfl rfl ?_
  refine z_if_ge 15 dX6_least_8 (by decide) ⟨fun h1 => ?_, fun h1 => ?_⟩
  · replace k := k.1 h1
    refine z_aload_n dX6_least_15 rfl rfl ?_
    refine z_getr dX6_least_16 fl_X6_9 lo0_0 rfl ?_
    refine z_aload_n dX6_least_19 rfl rfl ?_
    refine z_getr dX6_least_20 fl_X6_37 lo0_0 rfl ?_
    refine z_getr dX6_least_23 fl_X6_157 lo0_22 rfl ?_
    refine z_iconst (v := 0) dX6_least_26 (by decide) ?_
    refine z_iald dX6_least_27 lo0_23 ⟨k.1, ?_⟩
    replace k := k.2
    refine z_lald dX6_least_28 lo0_1 ⟨k.1, ?_⟩
    replace k := k.2
    refine z_lstore dX6_least_29 (by decide) rfl ?_
    refine z_iconst (v := 1) dX6_least_31 (by decide) ?_
    refine z_istore dX6_least_32 (by decide) rfl ?_
    refine z_wk [some (.ref 0), none, none, some (.int r3), some (.long (M3.2.2 0 (zn (M3.2.1 16 (zn 0))))), none, some (.int 1)] (z_le_some (z_le_none (z_le_none (z_le_some (z_le_some (z_le_none (z_le_some z_le_nil))))))) ?_
    exact k
  · replace k := k.2 h1
    refine z_ldc2 dX6_least_11 lc_X6_134 ?_
    exact z_lreturn (st := []) rfl dX6_least_14 ⟨_, rfl, k⟩

set_option maxRecDepth 100000 in
set_option maxHeartbeats 4000000 in
theorem r_X6_least_34 {P : Int64 → zM → Prop} (x3 : Int32) (l4 : Int64) (x6 : Int32) (F : Nat → Int32) (I : Nat → Nat → Int32) (J : Nat → Nat → Int64)
  (k : ((x3 < x6 → P l4 (F, I, J)) ∧ (¬ x3 < x6 → vp_in x6 100 ∧ vp_in (I 16 (zn x6)) 100 ∧ AW m_X6_least (z_pl P) 34 [some (.ref 0), none, none, some (.int x3), some (.long (if (J 0 (zn (I 16 (zn x6)))) < l4 then (J 0 (zn (I 16 (zn x6)))) else l4)), none, some (.int (x6 + 1))] [] (F, I, J)))) :
  AW m_X6_least (z_pl P) 34 [some (.ref 0), none, none, some (.int x3), some (.long l4), none, some (.int x6)] [] (F, I, J) := by
  refine z_iload dX6_least_34 rfl ?_
  refine z_iload_n dX6_least_36 rfl rfl ?_
  refine z_icmp_gt 68 dX6_least_37 (by decide) ⟨fun h1 => ?_, fun h1 => ?_⟩
  · replace k := k.1 h1
    refine z_lload dX6_least_68 rfl ?_
    exact z_lreturn (st := []) rfl dX6_least_70 ⟨_, rfl, k⟩
  · replace k := k.2 h1
    refine z_lload dX6_least_40 rfl ?_
    refine z_aload_n dX6_least_42 rfl rfl ?_
    refine z_getr dX6_least_43 fl_X6_9 lo0_0 rfl ?_
    refine z_aload_n dX6_least_46 rfl rfl ?_
    refine z_getr dX6_least_47 fl_X6_37 lo0_0 rfl ?_
    refine z_getr dX6_least_50 fl_X6_157 lo0_22 rfl ?_
    refine z_iload dX6_least_53 rfl ?_
    refine z_iald dX6_least_55 lo0_23 ⟨k.1, ?_⟩
    replace k := k.2
    refine z_lald dX6_least_56 lo0_1 ⟨k.1, ?_⟩
    replace k := k.2
    refine z_minl dX6_least_57 mn_X6_163 mn_st_l mn_in mn_cd_l (by decide) (Nat.le_of_ble_eq_true rfl) ?_
    refine z_lstore dX6_least_60 (by decide) rfl ?_
    refine z_iinc (v := (x6 + 1)) dX6_least_62 rfl rfl (by decide) rfl ?_
    refine z_goto 34 dX6_least_65 (by decide) ?_
    exact k

set_option maxRecDepth 100000 in
set_option maxHeartbeats 4000000 in
theorem r_X6_add_0 {P : Int32 → zM → Prop} (x1 : Int32) (x2 : Int32) (l3 : Int64) (F : Nat → Int32) (I : Nat → Nat → Int32) (J : Nat → Nat → Int64)
  (k : AMi m_X6_layTrack [.ref 0, .int x1, .int x2] (F, I, J) (fun r3 M3 => ((¬ r3 = (-2) → ((¬ r3 = (-1) → AMv m_X3_note [.ref 31, .int 1, .int x1, .int x2, .long l3] M3 (fun M35 => AMi m_X6_addOnTrack [.ref 0, .long l3] M35 (fun r40 M40 => P r40 M40))) ∧ (r3 = (-1) → P (-3) M3))) ∧ (r3 = (-2) → P (-2) M3)))) :
  AMi m_X6_add [.ref 0, .int x1, .int x2, .long l3] (F, I, J) P := by
  refine z_entry (pad := 1) [some (.ref 0), some (.int x1), some (.int x2), some (.long l3), none, none] (by decide) rfl rfl (fun _ => Nat.le_of_ble_eq_true rfl) ?_
  refine z_aload_n dX6_add_0 rfl rfl ?_
  refine z_iload_n dX6_add_1 rfl rfl ?_
  refine z_iload_n dX6_add_2 rfl rfl ?_
  refine z_calli (I := m_X6_add) (I2 := m_X6_layTrack) (st := []) [.int x1, .int x2] dX6_add_3 ml_X6_82 rfl (by decide) lo0_0 rfl (Nat.le_of_ble_eq_true rfl) rfl (AMi.mono k (fun r3 M3 k => ?_))
  refine z_istore dX6_add_6 (by decide) rfl ?_
  refine z_iload dX6_add_8 rfl ?_
  refine z_bipush (v := (-2)) dX6_add_10 (by decide) ?_
  refine z_icmp_ne 18 dX6_add_12 (by decide) ⟨fun h1 => ?_, fun h1 => ?_⟩
  · replace k := k.1 h1
    refine z_iload dX6_add_18 rfl ?_
    refine z_iconst (v := (-1)) dX6_add_20 (by decide) ?_
    refine z_icmp_ne 27 dX6_add_21 (by decide) ⟨fun h2 => ?_, fun h2 => ?_⟩
    · replace k := k.1 h2
      refine z_aload_n dX6_add_27 rfl rfl ?_
      refine z_getr dX6_add_28 fl_X6_51 lo0_0 rfl ?_
      refine z_iconst (v := 1) dX6_add_31 (by decide) ?_
      refine z_iload_n dX6_add_32 rfl rfl ?_
      refine z_iload_n dX6_add_33 rfl rfl ?_
      refine z_lload_n dX6_add_34 rfl rfl ?_
      refine z_callv (I := m_X6_add) (I2 := m_X3_note) (st := []) [.int 1, .int x1, .int x2, .long l3] dX6_add_35 ml_X6_94 rfl (by decide) lo0_31 rfl (Nat.le_of_ble_eq_true rfl) rfl (AMv.mono k (fun M35 k => ?_))
      refine z_aload_n dX6_add_38 rfl rfl ?_
      refine z_lload_n dX6_add_39 rfl rfl ?_
      refine z_calli (I := m_X6_add) (I2 := m_X6_addOnTrack) (st := []) [.long l3] dX6_add_40 ml_X6_169 rfl (by decide) lo0_0 rfl (Nat.le_of_ble_eq_true rfl) rfl (AMi.mono k (fun r40 M40 k => ?_))
      exact z_ireturn (st := []) rfl dX6_add_43 ⟨_, rfl, k⟩
    · replace k := k.2 h2
      refine z_bipush (v := (-3)) dX6_add_24 (by decide) ?_
      exact z_ireturn (st := []) rfl dX6_add_26 ⟨_, rfl, k⟩
  · replace k := k.2 h1
    refine z_bipush (v := (-2)) dX6_add_15 (by decide) ?_
    exact z_ireturn (st := []) rfl dX6_add_17 ⟨_, rfl, k⟩

set_option maxRecDepth 100000 in
set_option maxHeartbeats 4000000 in
theorem r_X6_value_0 {P : Int64 → zM → Prop} (x1 : Int32) (F : Nat → Int32) (I : Nat → Nat → Int32) (J : Nat → Nat → Int64)
  (k : AMi m_X6_isKnot [.ref 0, .int x1] (F, I, J) (fun r2 M2 => ((r2 = 0 → P (-4611686018427387904) M2) ∧ (¬ r2 = 0 → vp_in x1 100 ∧ P (M2.2.2 0 (zn x1)) M2)))) :
  AMl m_X6_value [.ref 0, .int x1] (F, I, J) P := by
  refine z_entry (pad := 0) [some (.ref 0), some (.int x1)] (by decide) rfl rfl (fun _ => Nat.le_of_ble_eq_true rfl) ?_
  refine z_aload_n dX6_value_0 rfl rfl ?_
  refine z_iload_n dX6_value_1 rfl rfl ?_
  refine z_calli (I := m_X6_value) (I2 := m_X6_isKnot) (st := []) [.int x1] dX6_value_2 ml_X6_78 rfl (by decide) lo0_0 rfl (Nat.le_of_ble_eq_true rfl) rfl (AMi.mono k (fun r2 M2 k => ?_))
  refine z_if_eq 17 dX6_value_5 (by decide) ⟨fun h1 => ?_, fun h1 => ?_⟩
  · replace k := k.1 h1
    refine z_ldc2 dX6_value_17 lc_X6_134 ?_
    exact z_lreturn (st := []) rfl dX6_value_20 ⟨_, rfl, k⟩
  · replace k := k.2 h1
    refine z_aload_n dX6_value_8 rfl rfl ?_
    refine z_getr dX6_value_9 fl_X6_9 lo0_0 rfl ?_
    refine z_iload_n dX6_value_12 rfl rfl ?_
    refine z_lald dX6_value_13 lo0_1 ⟨k.1, ?_⟩
    replace k := k.2
    refine z_goto 20 dX6_value_14 (by decide) ?_
    exact z_lreturn (st := []) rfl dX6_value_20 ⟨_, rfl, k⟩

set_option maxRecDepth 100000 in
set_option maxHeartbeats 4000000 in
theorem r_X6_set_0 {P : Int32 → zM → Prop} (x1 : Int32) (l2 : Int64) (F : Nat → Int32) (I : Nat → Nat → Int32) (J : Nat → Nat → Int64)
  (k : AMi m_X6_isKnot [.ref 0, .int x1] (F, I, J) (fun r2 M2 => ((¬ r2 = 0 → vp_in x1 100 ∧ AMv m_X3_note [.ref 31, .int 0, .int x1, .int (-1), .long (M2.2.2 0 (zn x1))] M2 (fun M24 => vp_in x1 100 ∧ P 1 (M24.1, M24.2.1, z_ul M24.2.2 0 (zn x1) l2))) ∧ (r2 = 0 → P (-2) M2)))) :
  AMi m_X6_set [.ref 0, .int x1, .long l2] (F, I, J) P := by
  refine z_entry (pad := 0) [some (.ref 0), some (.int x1), some (.long l2), none] (by decide) rfl rfl (fun _ => Nat.le_of_ble_eq_true rfl) ?_
  refine z_aload_n dX6_set_0 rfl rfl ?_
  refine z_iload_n dX6_set_1 rfl rfl ?_
  refine z_calli (I := m_X6_set) (I2 := m_X6_isKnot) (st := []) [.int x1] dX6_set_2 ml_X6_78 rfl (by decide) lo0_0 rfl (Nat.le_of_ble_eq_true rfl) rfl (AMi.mono k (fun r2 M2 k => ?_))
  refine z_if_ne 11 dX6_set_5 (by decide) ⟨fun h1 => ?_, fun h1 => ?_⟩
  · replace k := k.1 h1
    refine z_aload_n dX6_set_11 rfl rfl ?_
    refine z_getr dX6_set_12 fl_X6_51 lo0_0 rfl ?_
    refine z_iconst (v := 0) dX6_set_15 (by decide) ?_
    refine z_iload_n dX6_set_16 rfl rfl ?_
    refine z_iconst (v := (-1)) dX6_set_17 (by decide) ?_
    refine z_aload_n dX6_set_18 rfl rfl ?_
    refine z_getr dX6_set_19 fl_X6_9 lo0_0 rfl ?_
    refine z_iload_n dX6_set_22 rfl rfl ?_
    refine z_lald dX6_set_23 lo0_1 ⟨k.1, ?_⟩
    replace k := k.2
    refine z_callv (I := m_X6_set) (I2 := m_X3_note) (st := []) [.int 0, .int x1, .int (-1), .long (M2.2.2 0 (zn x1))] dX6_set_24 ml_X6_94 rfl (by decide) lo0_31 rfl (Nat.le_of_ble_eq_true rfl) rfl (AMv.mono k (fun M24 k => ?_))
    refine z_aload_n dX6_set_27 rfl rfl ?_
    refine z_getr dX6_set_28 fl_X6_9 lo0_0 rfl ?_
    refine z_iload_n dX6_set_31 rfl rfl ?_
    refine z_lload_n dX6_set_32 rfl rfl ?_
    refine z_last dX6_set_33 lo0_1 ⟨k.1, ?_⟩
    replace k := k.2
    refine z_iconst (v := 1) dX6_set_34 (by decide) ?_
    exact z_ireturn (st := []) rfl dX6_set_35 ⟨_, rfl, k⟩
  · replace k := k.2 h1
    refine z_bipush (v := (-2)) dX6_set_8 (by decide) ?_
    exact z_ireturn (st := []) rfl dX6_set_10 ⟨_, rfl, k⟩

set_option maxRecDepth 100000 in
set_option maxHeartbeats 4000000 in
theorem r_X6_root_0 {P : Int32 → zM → Prop} (x1 : Int32) (F : Nat → Int32) (I : Nat → Nat → Int32) (J : Nat → Nat → Int64)
  (k : AMi m_X6_isKnot [.ref 0, .int x1] (F, I, J) (fun r2 M2 => ((¬ r2 = 0 → AMi m_X6_findRoot [.ref 0, .int x1] M2 (fun r13 M13 => vp_in x1 100 ∧ AMv m_X3_note [.ref 31, .int 3, .int x1, .int (M13.2.1 0 (zn x1)), .long 0] M13 (fun M30 => vp_in x1 100 ∧ P r13 (upd M30.1 1 ((M30.1 1) + 1), z_ui M30.2.1 0 (zn x1) ((M30.1 1) + 1), M30.2.2)))) ∧ (r2 = 0 → P (-2) M2)))) :
  AMi m_X6_root [.ref 0, .int x1] (F, I, J) P := by
  refine z_entry (pad := 1) [some (.ref 0), some (.int x1), none] (by decide) rfl rfl (fun _ => Nat.le_of_ble_eq_true rfl) ?_
  refine z_aload_n dX6_root_0 rfl rfl ?_
  refine z_iload_n dX6_root_1 rfl rfl ?_
  refine z_calli (I := m_X6_root) (I2 := m_X6_isKnot) (st := []) [.int x1] dX6_root_2 ml_X6_78 rfl (by decide) lo0_0 rfl (Nat.le_of_ble_eq_true rfl) rfl (AMi.mono k (fun r2 M2 k => ?_))
  refine z_if_ne 11 dX6_root_5 (by decide) ⟨fun h1 => ?_, fun h1 => ?_⟩
  · replace k := k.1 h1
    refine z_aload_n dX6_root_11 rfl rfl ?_
    refine z_iload_n dX6_root_12 rfl rfl ?_
    refine z_calli (I := m_X6_root) (I2 := m_X6_findRoot) (st := []) [.int x1] dX6_root_13 ml_X6_173 rfl (by decide) lo0_0 rfl (Nat.le_of_ble_eq_true rfl) rfl (AMi.mono k (fun r13 M13 k => ?_))
    refine z_istore_n dX6_root_16 rfl (by decide) rfl ?_
    refine z_aload_n dX6_root_17 rfl rfl ?_
    refine z_getr dX6_root_18 fl_X6_51 lo0_0 rfl ?_
    refine z_iconst (v := 3) dX6_root_21 (by decide) ?_
    refine z_iload_n dX6_root_22 rfl rfl ?_
    refine z_aload_n dX6_root_23 rfl rfl ?_
    refine z_getr dX6_root_24 fl_X6_13 lo0_0 rfl ?_
    refine z_iload_n dX6_root_27 rfl rfl ?_
    refine z_iald dX6_root_28 lo0_2 ⟨k.1, ?_⟩
    replace k := k.2
    refine z_lconst (v := 0) dX6_root_29 (by decide) ?_
    refine z_callv (I := m_X6_root) (I2 := m_X3_note) (st := []) [.int 3, .int x1, .int (M13.2.1 0 (zn x1)), .long 0] dX6_root_30 ml_X6_94 rfl (by decide) lo0_31 rfl (Nat.le_of_ble_eq_true rfl) rfl (AMv.mono k (fun M30 k => ?_))
    refine z_aload_n dX6_root_33 rfl rfl ?_
    refine z_dup dX6_root_34 rfl ?_
    refine z_geti dX6_root_35 fl_X6_176 lo0_0 rfl ?_
    refine z_iconst (v := 1) dX6_root_38 (by decide) ?_
    refine z_iadd dX6_root_39 ?_
    refine z_puti dX6_root_40 fw_X6_176 lo0_0 rfl ?_
    refine z_aload_n dX6_root_43 rfl rfl ?_
    refine z_getr dX6_root_44 fl_X6_13 lo0_0 rfl ?_
    refine z_iload_n dX6_root_47 rfl rfl ?_
    refine z_aload_n dX6_root_48 rfl rfl ?_
    refine z_geti dX6_root_49 fl_X6_176 lo0_0 rfl ?_
    refine z_iast dX6_root_52 lo0_2 ⟨k.1, ?_⟩
    replace k := k.2
    refine z_iload_n dX6_root_53 rfl rfl ?_
    exact z_ireturn (st := []) rfl dX6_root_54 ⟨_, rfl, k⟩
  · replace k := k.2 h1
    refine z_bipush (v := (-2)) dX6_root_8 (by decide) ?_
    exact z_ireturn (st := []) rfl dX6_root_10 ⟨_, rfl, k⟩

set_option maxRecDepth 100000 in
set_option maxHeartbeats 4000000 in
theorem r_X6_below_0 {P : Int32 → zM → Prop} (x1 : Int32) (x2 : Int32) (F : Nat → Int32) (I : Nat → Nat → Int32) (J : Nat → Nat → Int64)
  (k : AMi m_X6_isKnot [.ref 0, .int x1] (F, I, J) (fun r2 M2 => ((¬ r2 = 0 → ((x2 = 0 → AMi m_X6_findRoot [.ref 0, .int x1] M2 (fun r50 M50 => P r50 M50)) ∧ (¬ x2 = 0 → ((x2 = 1 → AMv m_X6_floodFromRoot [.ref 0, .int x1] M2 (fun M56 => AMi m_X1_before [.ref 12, .ref 3, .int x1] M56 (fun r68 M68 => P r68 M68))) ∧ (¬ x2 = 1 → ((x2 = 2 → AMv m_X6_floodFromRoot [.ref 0, .int x1] M2 (fun M74 => vp_in x1 100 ∧ P (M74.2.1 9 (zn x1)) M74)) ∧ (¬ x2 = 2 → ((x2 = 3 → AMv m_X6_floodBelow [.ref 0, .int x1] M2 (fun M89 => P (M89.1 6) M89)) ∧ (¬ x2 = 3 → ((x2 = 4 → AMv m_X2_find [.ref 25, .ref 3, .int (M2.1 0)] M2 (fun M112 => vp_in x1 100 ∧ (((M112.2.1 22 (zn x1)) = 0 → P 0 M112) ∧ (¬ (M112.2.1 22 (zn x1)) = 0 → P 1 M112)))) ∧ (¬ x2 = 4 → P (-2) M2))))))))))) ∧ (r2 = 0 → P (-2) M2)))) :
  AMi m_X6_below [.ref 0, .int x1, .int x2] (F, I, J) P := by
  refine z_entry (pad := 0) [some (.ref 0), some (.int x1), some (.int x2)] (by decide) rfl rfl (fun _ => Nat.le_of_ble_eq_true rfl) ?_
  refine z_aload_n dX6_below_0 rfl rfl ?_
  refine z_iload_n dX6_below_1 rfl rfl ?_
  refine z_calli (I := m_X6_below) (I2 := m_X6_isKnot) (st := []) [.int x1] dX6_below_2 ml_X6_78 rfl (by decide) lo0_0 rfl (Nat.le_of_ble_eq_true rfl) rfl (AMi.mono k (fun r2 M2 k => ?_))
  refine z_if_ne 11 dX6_below_5 (by decide) ⟨fun h1 => ?_, fun h1 => ?_⟩
  · replace k := k.1 h1
    refine z_iload_n dX6_below_11 rfl rfl ?_
    refine z_case 0 x2 ⟨fun h2 => ?_, fun h2 => ?_⟩
    · replace k := k.1 h2
      refine z_tin (off := 36) 48 dX6_below_12 (by (try dsimp only); rw [h2]; decide) (by (try dsimp only); rw [h2]; decide) (by (try dsimp only); rw [h2]; decide) (by decide) ?_
      refine z_aload_n dX6_below_48 rfl rfl ?_
      refine z_iload_n dX6_below_49 rfl rfl ?_
      refine z_calli (I := m_X6_below) (I2 := m_X6_findRoot) (st := []) [.int x1] dX6_below_50 ml_X6_173 rfl (by decide) lo0_0 rfl (Nat.le_of_ble_eq_true rfl) rfl (AMi.mono k (fun r50 M50 k => ?_))
      exact z_ireturn (st := []) rfl dX6_below_53 ⟨_, rfl, k⟩
    replace k := k.2 h2
    refine z_case 1 x2 ⟨fun h3 => ?_, fun h3 => ?_⟩
    · replace k := k.1 h3
      refine z_tin (off := 42) 54 dX6_below_12 (by (try dsimp only); rw [h3]; decide) (by (try dsimp only); rw [h3]; decide) (by (try dsimp only); rw [h3]; decide) (by decide) ?_
      refine z_aload_n dX6_below_54 rfl rfl ?_
      refine z_iload_n dX6_below_55 rfl rfl ?_
      refine z_callv (I := m_X6_below) (I2 := m_X6_floodFromRoot) (st := []) [.int x1] dX6_below_56 ml_X6_179 rfl (by decide) lo0_0 rfl (Nat.le_of_ble_eq_true rfl) rfl (AMv.mono k (fun M56 k => ?_))
      refine z_aload_n dX6_below_59 rfl rfl ?_
      refine z_getr dX6_below_60 fl_X6_27 lo0_0 rfl ?_
      refine z_aload_n dX6_below_63 rfl rfl ?_
      refine z_getr dX6_below_64 fl_X6_20 lo0_0 rfl ?_
      refine z_iload_n dX6_below_67 rfl rfl ?_
      refine z_calli (I := m_X6_below) (I2 := m_X1_before) (st := []) [.ref 3, .int x1] dX6_below_68 ml_X6_182 rfl (by decide) lo0_12 rfl (Nat.le_of_ble_eq_true rfl) rfl (AMi.mono k (fun r68 M68 k => ?_))
      exact z_ireturn (st := []) rfl dX6_below_71 ⟨_, rfl, k⟩
    replace k := k.2 h3
    refine z_case 2 x2 ⟨fun h4 => ?_, fun h4 => ?_⟩
    · replace k := k.1 h4
      refine z_tin (off := 60) 72 dX6_below_12 (by (try dsimp only); rw [h4]; decide) (by (try dsimp only); rw [h4]; decide) (by (try dsimp only); rw [h4]; decide) (by decide) ?_
      refine z_aload_n dX6_below_72 rfl rfl ?_
      refine z_iload_n dX6_below_73 rfl rfl ?_
      refine z_callv (I := m_X6_below) (I2 := m_X6_floodFromRoot) (st := []) [.int x1] dX6_below_74 ml_X6_179 rfl (by decide) lo0_0 rfl (Nat.le_of_ble_eq_true rfl) rfl (AMv.mono k (fun M74 k => ?_))
      refine z_aload_n dX6_below_77 rfl rfl ?_
      refine z_getr dX6_below_78 fl_X6_27 lo0_0 rfl ?_
      refine z_getr dX6_below_81 fl_X6_186 lo0_12 rfl ?_
      refine z_iload_n dX6_below_84 rfl rfl ?_
      refine z_iald dX6_below_85 lo0_14 ⟨k.1, ?_⟩
      replace k := k.2
      exact z_ireturn (st := []) rfl dX6_below_86 ⟨_, rfl, k⟩
    replace k := k.2 h4
    refine z_case 3 x2 ⟨fun h5 => ?_, fun h5 => ?_⟩
    · replace k := k.1 h5
      refine z_tin (off := 75) 87 dX6_below_12 (by (try dsimp only); rw [h5]; decide) (by (try dsimp only); rw [h5]; decide) (by (try dsimp only); rw [h5]; decide) (by decide) ?_
      refine z_aload_n dX6_below_87 rfl rfl ?_
      refine z_iload_n dX6_below_88 rfl rfl ?_
      refine z_callv (I := m_X6_below) (I2 := m_X6_floodBelow) (st := []) [.int x1] dX6_below_89 ml_X6_189 rfl (by decide) lo0_0 rfl (Nat.le_of_ble_eq_true rfl) rfl (AMv.mono k (fun M89 k => ?_))
      refine z_aload_n dX6_below_92 rfl rfl ?_
      refine z_getr dX6_below_93 fl_X6_27 lo0_0 rfl ?_
      refine z_geti dX6_below_96 fl_X6_152 lo0_12 rfl ?_
      exact z_ireturn (st := []) rfl dX6_below_99 ⟨_, rfl, k⟩
    replace k := k.2 h5
    refine z_case 4 x2 ⟨fun h6 => ?_, fun h6 => ?_⟩
    · replace k := k.1 h6
      refine z_tin (off := 88) 100 dX6_below_12 (by (try dsimp only); rw [h6]; decide) (by (try dsimp only); rw [h6]; decide) (by (try dsimp only); rw [h6]; decide) (by decide) ?_
      refine z_aload_n dX6_below_100 rfl rfl ?_
      refine z_getr dX6_below_101 fl_X6_44 lo0_0 rfl ?_
      refine z_aload_n dX6_below_104 rfl rfl ?_
      refine z_getr dX6_below_105 fl_X6_20 lo0_0 rfl ?_
      refine z_aload_n dX6_below_108 rfl rfl ?_
      refine z_geti dX6_below_109 fl_X6_69 lo0_0 rfl ?_
      refine z_callv (I := m_X6_below) (I2 := m_X2_find) (st := []) [.ref 3, .int (M2.1 0)] dX6_below_112 ml_X6_123 rfl (by decide) lo0_25 rfl (Nat.le_of_ble_eq_true rfl) rfl (AMv.mono k (fun M112 k => ?_))
      refine z_aload_n dX6_below_115 rfl rfl ?_
      refine z_getr dX6_below_116 fl_X6_44 lo0_0 rfl ?_
      refine z_getr dX6_below_119 fl_X6_192 lo0_25 rfl ?_
      refine z_iload_n dX6_below_122 rfl rfl ?_
      refine z_zald dX6_below_123 lo0_30 ⟨k.1, ?_⟩
      replace k := k.2
      refine z_if_eq 131 dX6_below_124 (by decide) ⟨fun h7 => ?_, fun h7 => ?_⟩
      · replace k := k.1 h7
        refine z_iconst (v := 0) dX6_below_131 (by decide) ?_
        exact z_ireturn (st := []) rfl dX6_below_132 ⟨_, rfl, k⟩
      · replace k := k.2 h7
        refine z_iconst (v := 1) dX6_below_127 (by decide) ?_
        refine z_goto 132 dX6_below_128 (by decide) ?_
        exact z_ireturn (st := []) rfl dX6_below_132 ⟨_, rfl, k⟩
    replace k := k.2 h6
    have eh2 := lv_neT h2 (a := 0) (by decide)
    have eh3 := lv_neT h3 (a := 1) (by decide)
    have eh4 := lv_neT h4 (a := 2) (by decide)
    have eh5 := lv_neT h5 (a := 3) (by decide)
    have eh6 := lv_neT h6 (a := 4) (by decide)
    refine z_tout 133 dX6_below_12 (by omega) (by decide) ?_
    refine z_bipush (v := (-2)) dX6_below_133 (by decide) ?_
    exact z_ireturn (st := []) rfl dX6_below_135 ⟨_, rfl, k⟩
  · replace k := k.2 h1
    refine z_bipush (v := (-2)) dX6_below_8 (by decide) ?_
    exact z_ireturn (st := []) rfl dX6_below_10 ⟨_, rfl, k⟩

set_option maxRecDepth 100000 in
set_option maxHeartbeats 4000000 in
theorem r_X6_meet_0 {P : Int32 → zM → Prop} (x1 : Int32) (x2 : Int32) (F : Nat → Int32) (I : Nat → Nat → Int32) (J : Nat → Nat → Int64)
  (k : AMi m_X6_isKnot [.ref 0, .int x1] (F, I, J) (fun r2 M2 => ((r2 = 0 → P (-2) M2) ∧ (¬ r2 = 0 → AMi m_X6_isKnot [.ref 0, .int x2] M2 (fun r10 M10 => ((¬ r10 = 0 → AMv m_X6_floodFromRoot [.ref 0, .int x1] M10 (fun M21 => vp_in x2 100 ∧ ((¬ (M21.2.1 11 (zn x2)) = 0 → AW m_X6_meet (z_pi P) 46 [some (.ref 0), none, none, some (.int x1), some (.int x2), some (.int 0)] [] M21) ∧ ((M21.2.1 11 (zn x2)) = 0 → P (-1) M21)))) ∧ (r10 = 0 → P (-2) M10))))))) :
  AMi m_X6_meet [.ref 0, .int x1, .int x2] (F, I, J) P := by
  refine z_entry (pad := 3) [some (.ref 0), some (.int x1), some (.int x2), none, none, none] (by decide) rfl rfl (fun _ => Nat.le_of_ble_eq_true rfl) ?_
  refine z_aload_n dX6_meet_0 rfl rfl ?_
  refine z_iload_n dX6_meet_1 rfl rfl ?_
  refine z_calli (I := m_X6_meet) (I2 := m_X6_isKnot) (st := []) [.int x1] dX6_meet_2 ml_X6_78 rfl (by decide) lo0_0 rfl (Nat.le_of_ble_eq_true rfl) rfl (AMi.mono k (fun r2 M2 k => ?_))
  refine z_if_eq 16 dX6_meet_5 (by decide) ⟨fun h1 => ?_, fun h1 => ?_⟩
  · replace k := k.1 h1
    refine z_bipush (v := (-2)) dX6_meet_16 (by decide) ?_
    exact z_ireturn (st := []) rfl dX6_meet_18 ⟨_, rfl, k⟩
  · replace k := k.2 h1
    refine z_aload_n dX6_meet_8 rfl rfl ?_
    refine z_iload_n dX6_meet_9 rfl rfl ?_
    refine z_calli (I := m_X6_meet) (I2 := m_X6_isKnot) (st := []) [.int x2] dX6_meet_10 ml_X6_78 rfl (by decide) lo0_0 rfl (Nat.le_of_ble_eq_true rfl) rfl (AMi.mono k (fun r10 M10 k => ?_))
    refine z_if_ne 19 dX6_meet_13 (by decide) ⟨fun h2 => ?_, fun h2 => ?_⟩
    · replace k := k.1 h2
      refine z_aload_n dX6_meet_19 rfl rfl ?_
      refine z_iload_n dX6_meet_20 rfl rfl ?_
      refine z_callv (I := m_X6_meet) (I2 := m_X6_floodFromRoot) (st := []) [.int x1] dX6_meet_21 ml_X6_179 rfl (by decide) lo0_0 rfl (Nat.le_of_ble_eq_true rfl) rfl (AMv.mono k (fun M21 k => ?_))
      refine z_aload_n dX6_meet_24 rfl rfl ?_
      refine z_getr dX6_meet_25 fl_X6_27 lo0_0 rfl ?_
      refine z_getr dX6_meet_28 fl_X6_153 lo0_12 rfl ?_
      refine z_iload_n dX6_meet_31 rfl rfl ?_
      refine z_zald dX6_meet_32 lo0_16 ⟨k.1, ?_⟩
      replace k := k.2
      refine z_if_ne 38 dX6_meet_33 (by decide) ⟨fun h3 => ?_, fun h3 => ?_⟩
      · replace k := k.1 h3
        refine z_iload_n dX6_meet_38 rfl rfl ?_
        refine z_istore_n dX6_meet_39 rfl (by decide) rfl ?_
        refine z_iload_n dX6_meet_40 rfl rfl ?_
        refine z_istore dX6_meet_41 (by decide) rfl ?_
        refine z_iconst (v := 0) dX6_meet_43 (by decide) ?_
        refine z_istore dX6_meet_44 (by decide) rfl ?_
        refine z_wk [some (.ref 0), none, none, some (.int x1), some (.int x2), some (.int 0)] (z_le_some (z_le_none (z_le_none (z_le_some (z_le_some (z_le_some z_le_nil)))))) ?_
        exact k
      · replace k := k.2 h3
        refine z_iconst (v := (-1)) dX6_meet_36 (by decide) ?_
        exact z_ireturn (st := []) rfl dX6_meet_37 ⟨_, rfl, k⟩
    · replace k := k.2 h2
      refine z_bipush (v := (-2)) dX6_meet_16 (by decide) ?_
      exact z_ireturn (st := []) rfl dX6_meet_18 ⟨_, rfl, k⟩

set_option maxRecDepth 100000 in
set_option maxHeartbeats 4000000 in
theorem r_X6_meet_46 {P : Int32 → zM → Prop} (x3 : Int32) (x4 : Int32) (x5 : Int32) (F : Nat → Int32) (I : Nat → Nat → Int32) (J : Nat → Nat → Int64)
  (k : ((x3 = x4 → P x3 (F, I, J)) ∧ (¬ x3 = x4 → ((200 ≤ x5 → P x3 (F, I, J)) ∧ (¬ 200 ≤ x5 → vp_in x3 100 ∧ vp_in x4 100 ∧ (((I 9 (zn x3)) < (I 9 (zn x4)) → AMi m_X1_before [.ref 12, .ref 3, .int x4] (F, I, J) (fun r108 M108 => AW m_X6_meet (z_pi P) 46 [some (.ref 0), none, none, some (.int x3), some (.int r108), some (.int (x5 + 1))] [] M108)) ∧ (¬ (I 9 (zn x3)) < (I 9 (zn x4)) → AMi m_X1_before [.ref 12, .ref 3, .int x3] (F, I, J) (fun r91 M91 => AW m_X6_meet (z_pi P) 46 [some (.ref 0), none, none, some (.int r91), some (.int x4), some (.int (x5 + 1))] [] M91)))))))) :
  AW m_X6_meet (z_pi P) 46 [some (.ref 0), none, none, some (.int x3), some (.int x4), some (.int x5)] [] (F, I, J) := by
  refine z_iload_n dX6_meet_46 rfl rfl ?_
  refine z_iload dX6_meet_47 rfl ?_
  refine z_icmp_eq 119 dX6_meet_49 (by decide) ⟨fun h1 => ?_, fun h1 => ?_⟩
  · replace k := k.1 h1
    refine z_iload_n dX6_meet_119 rfl rfl ?_
    exact z_ireturn (st := []) rfl dX6_meet_120 ⟨_, rfl, k⟩
  · replace k := k.2 h1
    refine z_iload dX6_meet_52 rfl ?_
    refine z_sipush (v := 200) dX6_meet_54 (by decide) ?_
    refine z_icmp_ge 119 dX6_meet_57 (by decide) ⟨fun h2 => ?_, fun h2 => ?_⟩
    · replace k := k.1 h2
      refine z_iload_n dX6_meet_119 rfl rfl ?_
      exact z_ireturn (st := []) rfl dX6_meet_120 ⟨_, rfl, k⟩
    · replace k := k.2 h2
      refine z_aload_n dX6_meet_60 rfl rfl ?_
      refine z_getr dX6_meet_61 fl_X6_27 lo0_0 rfl ?_
      refine z_getr dX6_meet_64 fl_X6_186 lo0_12 rfl ?_
      refine z_iload_n dX6_meet_67 rfl rfl ?_
      refine z_iald dX6_meet_68 lo0_14 ⟨k.1, ?_⟩
      replace k := k.2
      refine z_aload_n dX6_meet_69 rfl rfl ?_
      refine z_getr dX6_meet_70 fl_X6_27 lo0_0 rfl ?_
      refine z_getr dX6_meet_73 fl_X6_186 lo0_12 rfl ?_
      refine z_iload dX6_meet_76 rfl ?_
      refine z_iald dX6_meet_78 lo0_14 ⟨k.1, ?_⟩
      replace k := k.2
      refine z_icmp_lt 98 dX6_meet_79 (by decide) ⟨fun h3 => ?_, fun h3 => ?_⟩
      · replace k := k.1 h3
        refine z_aload_n dX6_meet_98 rfl rfl ?_
        refine z_getr dX6_meet_99 fl_X6_27 lo0_0 rfl ?_
        refine z_aload_n dX6_meet_102 rfl rfl ?_
        refine z_getr dX6_meet_103 fl_X6_20 lo0_0 rfl ?_
        refine z_iload dX6_meet_106 rfl ?_
        refine z_calli (I := m_X6_meet) (I2 := m_X1_before) (st := []) [.ref 3, .int x4] dX6_meet_108 ml_X6_182 rfl (by decide) lo0_12 rfl (Nat.le_of_ble_eq_true rfl) rfl (AMi.mono k (fun r108 M108 k => ?_))
        refine z_istore dX6_meet_111 (by decide) rfl ?_
        refine z_iinc (v := (x5 + 1)) dX6_meet_113 rfl rfl (by decide) rfl ?_
        refine z_goto 46 dX6_meet_116 (by decide) ?_
        exact k
      · replace k := k.2 h3
        refine z_aload_n dX6_meet_82 rfl rfl ?_
        refine z_getr dX6_meet_83 fl_X6_27 lo0_0 rfl ?_
        refine z_aload_n dX6_meet_86 rfl rfl ?_
        refine z_getr dX6_meet_87 fl_X6_20 lo0_0 rfl ?_
        refine z_iload_n dX6_meet_90 rfl rfl ?_
        refine z_calli (I := m_X6_meet) (I2 := m_X1_before) (st := []) [.ref 3, .int x3] dX6_meet_91 ml_X6_182 rfl (by decide) lo0_12 rfl (Nat.le_of_ble_eq_true rfl) rfl (AMi.mono k (fun r91 M91 k => ?_))
        refine z_istore_n dX6_meet_94 rfl (by decide) rfl ?_
        refine z_goto 113 dX6_meet_95 (by decide) ?_
        refine z_iinc (v := (x5 + 1)) dX6_meet_113 rfl rfl (by decide) rfl ?_
        refine z_goto 46 dX6_meet_116 (by decide) ?_
        exact k

set_option maxRecDepth 100000 in
set_option maxHeartbeats 4000000 in
theorem r_X6_sumBelow_0 {P : Int64 → zM → Prop} (x1 : Int32) (F : Nat → Int32) (I : Nat → Nat → Int32) (J : Nat → Nat → Int64)
  (k : AMi m_X6_isKnot [.ref 0, .int x1] (F, I, J) (fun r2 M2 => ((¬ r2 = 0 → AMv m_X6_floodBelow [.ref 0, .int x1] M2 (fun M14 => AW m_X6_sumBelow (z_pl P) 22 [some (.ref 0), none, some (.long 0), none, some (.int 0)] [] M14)) ∧ (r2 = 0 → P (-4611686018427387904) M2)))) :
  AMl m_X6_sumBelow [.ref 0, .int x1] (F, I, J) P := by
  refine z_entry (pad := 3) [some (.ref 0), some (.int x1), none, none, none] (by decide) rfl rfl (fun _ => Nat.le_of_ble_eq_true rfl) ?_
  refine z_aload_n dX6_sumBelow_0 rfl rfl ?_
  refine z_iload_n dX6_sumBelow_1 rfl rfl ?_
  refine z_calli (I := m_X6_sumBelow) (I2 := m_X6_isKnot) (st := []) [.int x1] dX6_sumBelow_2 ml_X6_78 rfl (by decide) lo0_0 rfl (Nat.le_of_ble_eq_true rfl) rfl (AMi.mono k (fun r2 M2 k => ?_))
  refine z_if_ne 12 dX6_sumBelow_5 (by decide) ⟨fun h1 => ?_, fun h1 => ?_⟩
  · replace k := k.1 h1
    refine z_aload_n dX6_sumBelow_12 rfl rfl ?_
    refine z_iload_n dX6_sumBelow_13 rfl rfl ?_
    refine z_callv (I := m_X6_sumBelow) (I2 := m_X6_floodBelow) (st := []) [.int x1] dX6_sumBelow_14 ml_X6_189 rfl (by decide) lo0_0 rfl (Nat.le_of_ble_eq_true rfl) rfl (AMv.mono k (fun M14 k => ?_))
    refine z_lconst (v := 0) dX6_sumBelow_17 (by decide) ?_
    refine z_lstore_n dX6_sumBelow_18 rfl (by decide) rfl ?_
    refine z_iconst (v := 0) dX6_sumBelow_19 (by decide) ?_
    refine z_istore dX6_sumBelow_20 (by decide) rfl ?_
    refine z_wk [some (.ref 0), none, some (.long 0), none, some (.int 0)] (z_le_some (z_le_none (z_le_some (z_le_none (z_le_some z_le_nil))))) ?_
    exact k
  · replace k := k.2 h1
    refine z_ldc2 dX6_sumBelow_8 lc_X6_134 ?_
    exact z_lreturn (st := []) rfl dX6_sumBelow_11 ⟨_, rfl, k⟩

set_option maxRecDepth 100000 in
set_option maxHeartbeats 4000000 in
theorem r_X6_sumBelow_22 {P : Int64 → zM → Prop} (l2 : Int64) (x4 : Int32) (F : Nat → Int32) (I : Nat → Nat → Int32) (J : Nat → Nat → Int64)
  (k : (((F 6) ≤ x4 → P l2 (F, I, J)) ∧ (¬ (F 6) ≤ x4 → vp_in x4 100 ∧ vp_in (I 8 (zn x4)) 100 ∧ AW m_X6_sumBelow (z_pl P) 22 [some (.ref 0), none, some (.long (l2 + (J 0 (zn (I 8 (zn x4)))))), none, some (.int (x4 + 1))] [] (F, I, J)))) :
  AW m_X6_sumBelow (z_pl P) 22 [some (.ref 0), none, some (.long l2), none, some (.int x4)] [] (F, I, J) := by
  refine z_iload dX6_sumBelow_22 rfl ?_
  refine z_aload_n dX6_sumBelow_24 rfl rfl ?_
  refine z_getr dX6_sumBelow_25 fl_X6_27 lo0_0 rfl ?_
  refine z_geti dX6_sumBelow_28 fl_X6_152 lo0_12 rfl ?_
  refine z_icmp_ge 58 dX6_sumBelow_31 (by decide) ⟨fun h1 => ?_, fun h1 => ?_⟩
  · replace k := k.1 h1
    refine z_lload_n dX6_sumBelow_58 rfl rfl ?_
    exact z_lreturn (st := []) rfl dX6_sumBelow_59 ⟨_, rfl, k⟩
  · replace k := k.2 h1
    refine z_lload_n dX6_sumBelow_34 rfl rfl ?_
    refine z_aload_n dX6_sumBelow_35 rfl rfl ?_
    refine z_getr dX6_sumBelow_36 fl_X6_9 lo0_0 rfl ?_
    refine z_aload_n dX6_sumBelow_39 rfl rfl ?_
    refine z_getr dX6_sumBelow_40 fl_X6_27 lo0_0 rfl ?_
    refine z_getr dX6_sumBelow_43 fl_X6_195 lo0_12 rfl ?_
    refine z_iload dX6_sumBelow_46 rfl ?_
    refine z_iald dX6_sumBelow_48 lo0_13 ⟨k.1, ?_⟩
    replace k := k.2
    refine z_lald dX6_sumBelow_49 lo0_1 ⟨k.1, ?_⟩
    replace k := k.2
    refine z_ladd dX6_sumBelow_50 ?_
    refine z_lstore_n dX6_sumBelow_51 rfl (by decide) rfl ?_
    refine z_iinc (v := (x4 + 1)) dX6_sumBelow_52 rfl rfl (by decide) rfl ?_
    refine z_goto 22 dX6_sumBelow_55 (by decide) ?_
    exact k

set_option maxRecDepth 100000 in
set_option maxHeartbeats 4000000 in
theorem r_X6_addBelow_0 {P : Int32 → zM → Prop} (x1 : Int32) (l2 : Int64) (F : Nat → Int32) (I : Nat → Nat → Int32) (J : Nat → Nat → Int64)
  (k : AMi m_X6_isKnot [.ref 0, .int x1] (F, I, J) (fun r2 M2 => ((¬ r2 = 0 → AMv m_X3_note [.ref 31, .int 2, .int x1, .int (-1), .long l2] M2 (fun M19 => AMv m_X6_floodBelow [.ref 0, .int x1] M19 (fun M24 => AMi m_X6_addOnFlood [.ref 0, .long l2] M24 (fun r29 M29 => P r29 M29)))) ∧ (r2 = 0 → P (-2) M2)))) :
  AMi m_X6_addBelow [.ref 0, .int x1, .long l2] (F, I, J) P := by
  refine z_entry (pad := 0) [some (.ref 0), some (.int x1), some (.long l2), none] (by decide) rfl rfl (fun _ => Nat.le_of_ble_eq_true rfl) ?_
  refine z_aload_n dX6_addBelow_0 rfl rfl ?_
  refine z_iload_n dX6_addBelow_1 rfl rfl ?_
  refine z_calli (I := m_X6_addBelow) (I2 := m_X6_isKnot) (st := []) [.int x1] dX6_addBelow_2 ml_X6_78 rfl (by decide) lo0_0 rfl (Nat.le_of_ble_eq_true rfl) rfl (AMi.mono k (fun r2 M2 k => ?_))
  refine z_if_ne 11 dX6_addBelow_5 (by decide) ⟨fun h1 => ?_, fun h1 => ?_⟩
  · replace k := k.1 h1
    refine z_aload_n dX6_addBelow_11 rfl rfl ?_
    refine z_getr dX6_addBelow_12 fl_X6_51 lo0_0 rfl ?_
    refine z_iconst (v := 2) dX6_addBelow_15 (by decide) ?_
    refine z_iload_n dX6_addBelow_16 rfl rfl ?_
    refine z_iconst (v := (-1)) dX6_addBelow_17 (by decide) ?_
    refine z_lload_n dX6_addBelow_18 rfl rfl ?_
    refine z_callv (I := m_X6_addBelow) (I2 := m_X3_note) (st := []) [.int 2, .int x1, .int (-1), .long l2] dX6_addBelow_19 ml_X6_94 rfl (by decide) lo0_31 rfl (Nat.le_of_ble_eq_true rfl) rfl (AMv.mono k (fun M19 k => ?_))
    refine z_aload_n dX6_addBelow_22 rfl rfl ?_
    refine z_iload_n dX6_addBelow_23 rfl rfl ?_
    refine z_callv (I := m_X6_addBelow) (I2 := m_X6_floodBelow) (st := []) [.int x1] dX6_addBelow_24 ml_X6_189 rfl (by decide) lo0_0 rfl (Nat.le_of_ble_eq_true rfl) rfl (AMv.mono k (fun M24 k => ?_))
    refine z_aload_n dX6_addBelow_27 rfl rfl ?_
    refine z_lload_n dX6_addBelow_28 rfl rfl ?_
    refine z_calli (I := m_X6_addBelow) (I2 := m_X6_addOnFlood) (st := []) [.long l2] dX6_addBelow_29 ml_X6_198 rfl (by decide) lo0_0 rfl (Nat.le_of_ble_eq_true rfl) rfl (AMi.mono k (fun r29 M29 k => ?_))
    exact z_ireturn (st := []) rfl dX6_addBelow_32 ⟨_, rfl, k⟩
  · replace k := k.2 h1
    refine z_bipush (v := (-2)) dX6_addBelow_8 (by decide) ?_
    exact z_ireturn (st := []) rfl dX6_addBelow_10 ⟨_, rfl, k⟩

set_option maxRecDepth 100000 in
set_option maxHeartbeats 4000000 in
theorem r_X6_undo_0 {P : Int32 → zM → Prop}  (F : Nat → Int32) (I : Nat → Nat → Int32) (J : Nat → Nat → Int64)
  (k : AMi m_X3_takeLatest [.ref 31] (F, I, J) (fun r4 M4 => ((¬ r4 = (-1) → vp_in r4 20 ∧ vp_in r4 20 ∧ vp_in r4 20 ∧ vp_in r4 20 ∧ AMv m_X6_takeBack [.ref 0, .int (M4.2.1 23 (zn r4)), .int (M4.2.1 24 (zn r4)), .int (M4.2.1 25 (zn r4)), .long (M4.2.2 2 (zn r4))] M4 (fun M52 => P 1 M52)) ∧ (r4 = (-1) → P (-1) M4)))) :
  AMi m_X6_undo [.ref 0] (F, I, J) P := by
  refine z_entry (pad := 1) [some (.ref 0), none] (by decide) rfl rfl (fun _ => Nat.le_of_ble_eq_true rfl) ?_
  refine z_aload_n dX6_undo_0 rfl rfl ?_
  refine z_getr dX6_undo_1 fl_X6_51 lo0_0 rfl ?_
  refine z_calli (I := m_X6_undo) (I2 := m_X3_takeLatest) (st := []) [] dX6_undo_4 ml_X6_201 rfl (by decide) lo0_31 rfl (Nat.le_of_ble_eq_true rfl) rfl (AMi.mono k (fun r4 M4 k => ?_))
  refine z_istore_n dX6_undo_7 rfl (by decide) rfl ?_
  refine z_iload_n dX6_undo_8 rfl rfl ?_
  refine z_iconst (v := (-1)) dX6_undo_9 (by decide) ?_
  refine z_icmp_ne 15 dX6_undo_10 (by decide) ⟨fun h1 => ?_, fun h1 => ?_⟩
  · replace k := k.1 h1
    refine z_aload_n dX6_undo_15 rfl rfl ?_
    refine z_aload_n dX6_undo_16 rfl rfl ?_
    refine z_getr dX6_undo_17 fl_X6_51 lo0_0 rfl ?_
    refine z_getr dX6_undo_20 fl_X6_205 lo0_31 rfl ?_
    refine z_iload_n dX6_undo_23 rfl rfl ?_
    refine z_iald dX6_undo_24 lo0_32 ⟨k.1, ?_⟩
    replace k := k.2
    refine z_aload_n dX6_undo_25 rfl rfl ?_
    refine z_getr dX6_undo_26 fl_X6_51 lo0_0 rfl ?_
    refine z_getr dX6_undo_29 fl_X6_208 lo0_31 rfl ?_
    refine z_iload_n dX6_undo_32 rfl rfl ?_
    refine z_iald dX6_undo_33 lo0_33 ⟨k.1, ?_⟩
    replace k := k.2
    refine z_aload_n dX6_undo_34 rfl rfl ?_
    refine z_getr dX6_undo_35 fl_X6_51 lo0_0 rfl ?_
    refine z_getr dX6_undo_38 fl_X6_211 lo0_31 rfl ?_
    refine z_iload_n dX6_undo_41 rfl rfl ?_
    refine z_iald dX6_undo_42 lo0_34 ⟨k.1, ?_⟩
    replace k := k.2
    refine z_aload_n dX6_undo_43 rfl rfl ?_
    refine z_getr dX6_undo_44 fl_X6_51 lo0_0 rfl ?_
    refine z_getr dX6_undo_47 fl_X6_214 lo0_31 rfl ?_
    refine z_iload_n dX6_undo_50 rfl rfl ?_
    refine z_lald dX6_undo_51 lo0_35 ⟨k.1, ?_⟩
    replace k := k.2
    refine z_callv (I := m_X6_undo) (I2 := m_X6_takeBack) (st := []) [.int (M4.2.1 23 (zn r4)), .int (M4.2.1 24 (zn r4)), .int (M4.2.1 25 (zn r4)), .long (M4.2.2 2 (zn r4))] dX6_undo_52 ml_X6_217 rfl (by decide) lo0_0 rfl (Nat.le_of_ble_eq_true rfl) rfl (AMv.mono k (fun M52 k => ?_))
    refine z_iconst (v := 1) dX6_undo_55 (by decide) ?_
    exact z_ireturn (st := []) rfl dX6_undo_56 ⟨_, rfl, k⟩
  · replace k := k.2 h1
    refine z_iconst (v := (-1)) dX6_undo_13 (by decide) ?_
    exact z_ireturn (st := []) rfl dX6_undo_14 ⟨_, rfl, k⟩

set_option maxRecDepth 100000 in
set_option maxHeartbeats 4000000 in
theorem r_X6_put_0 {P : Int32 → zM → Prop} (x1 : Int32) (x2 : Int32) (x3 : Int32) (x4 : Int32) (F : Nat → Int32) (I : Nat → Nat → Int32) (J : Nat → Nat → Int64)
  (k : AMi m_X6_isTray [.ref 0, .int x1] (F, I, J) (fun r2 M2 => ((r2 = 0 → AMi m_X6_refuse [.ref 0, .int 1] M2 (fun r21 M21 => P r21 M21)) ∧ (¬ r2 = 0 → AMi m_X6_canPut [.ref 0, .int x2, .int x3, .int x4] M2 (fun r13 M13 => ((¬ r13 = 0 → vp_in x1 6 ∧ ((x2 = 1 → AMv m_X4_begin [.ref (37 + 2 * (zn x1)), .int 1] M13 (fun M67 => vp_in x3 300 ∧ AMv m_X4_lay [.ref (37 + 2 * (zn x1)), .long ((M67.2.1 1 (zn x3)).toInt64)] M67 (fun M82 => P 1 (upd M82.1 3 0, M82.2.1, M82.2.2)))) ∧ (¬ x2 = 1 → ((x2 = 2 → AMv m_X6_putKnots [.ref 0, .ref (37 + 2 * (zn x1)), .int x3] M13 (fun M92 => P 1 (upd M92.1 3 0, M92.2.1, M92.2.2))) ∧ (¬ x2 = 2 → ((x2 = 3 → AMv m_X6_putWeights [.ref 0, .ref (37 + 2 * (zn x1)), .int x3, .int x4] M13 (fun M104 => P 1 (upd M104.1 3 0, M104.2.1, M104.2.2))) ∧ (¬ x2 = 3 → ((x2 = 4 → AMv m_X6_putTruths [.ref 0, .ref (37 + 2 * (zn x1)), .int x3] M13 (fun M114 => P 1 (upd M114.1 3 0, M114.2.1, M114.2.2))) ∧ (¬ x2 = 4 → AMv m_X4_begin [.ref (37 + 2 * (zn x1)), .int 0] M13 (fun M123 => P 1 (upd M123.1 3 0, M123.2.1, M123.2.2))))))))))) ∧ (r13 = 0 → AMi m_X6_refuse [.ref 0, .int 1] M13 (fun r21 M21 => P r21 M21)))))))) :
  AMi m_X6_put [.ref 0, .int x1, .int x2, .int x3, .int x4] (F, I, J) P := by
  refine z_entry (pad := 1) [some (.ref 0), some (.int x1), some (.int x2), some (.int x3), some (.int x4), none] (by decide) rfl rfl (fun _ => Nat.le_of_ble_eq_true rfl) ?_
  refine z_aload_n dX6_put_0 rfl rfl ?_
  refine z_iload_n dX6_put_1 rfl rfl ?_
  refine z_calli (I := m_X6_put) (I2 := m_X6_isTray) (st := []) [.int x1] dX6_put_2 ml_X6_220 rfl (by decide) lo0_0 rfl (Nat.le_of_ble_eq_true rfl) rfl (AMi.mono k (fun r2 M2 k => ?_))
  refine z_if_eq 19 dX6_put_5 (by decide) ⟨fun h1 => ?_, fun h1 => ?_⟩
  · replace k := k.1 h1
    refine z_aload_n dX6_put_19 rfl rfl ?_
    refine z_iconst (v := 1) dX6_put_20 (by decide) ?_
    refine z_calli (I := m_X6_put) (I2 := m_X6_refuse) (st := []) [.int 1] dX6_put_21 ml_X6_227 rfl (by decide) lo0_0 rfl (Nat.le_of_ble_eq_true rfl) rfl (AMi.mono k (fun r21 M21 k => ?_))
    exact z_ireturn (st := []) rfl dX6_put_24 ⟨_, rfl, k⟩
  · replace k := k.2 h1
    refine z_aload_n dX6_put_8 rfl rfl ?_
    refine z_iload_n dX6_put_9 rfl rfl ?_
    refine z_iload_n dX6_put_10 rfl rfl ?_
    refine z_iload dX6_put_11 rfl ?_
    refine z_calli (I := m_X6_put) (I2 := m_X6_canPut) (st := []) [.int x2, .int x3, .int x4] dX6_put_13 ml_X6_223 rfl (by decide) lo0_0 rfl (Nat.le_of_ble_eq_true rfl) rfl (AMi.mono k (fun r13 M13 k => ?_))
    refine z_if_ne 25 dX6_put_16 (by decide) ⟨fun h2 => ?_, fun h2 => ?_⟩
    · replace k := k.1 h2
      refine z_aload_n dX6_put_25 rfl rfl ?_
      refine z_getr dX6_put_26 fl_X6_57 lo0_0 rfl ?_
      refine z_iload_n dX6_put_29 rfl rfl ?_
      refine z_aald dX6_put_30 lo0_36 ⟨k.1, ?_⟩
      have q3 := z_in_lt k.1
      replace k := k.2
      refine z_astore dX6_put_31 (by decide) rfl ?_
      refine z_iload_n dX6_put_33 rfl rfl ?_
      refine z_case 1 x2 ⟨fun h4 => ?_, fun h4 => ?_⟩
      · replace k := k.1 h4
        refine z_tin (off := 30) 64 dX6_put_34 (by (try dsimp only); rw [h4]; decide) (by (try dsimp only); rw [h4]; decide) (by (try dsimp only); rw [h4]; decide) (by decide) ?_
        refine z_aload dX6_put_64 rfl ?_
        refine z_iconst (v := 1) dX6_put_66 (by decide) ?_
        refine z_callv (I := m_X6_put) (I2 := m_X4_begin) (st := []) [.int 1] dX6_put_67 ml_X6_230 rfl (by decide) (z_trayC q3) rfl (Nat.le_of_ble_eq_true rfl) rfl (AMv.mono k (fun M67 k => ?_))
        refine z_aload dX6_put_70 rfl ?_
        refine z_aload_n dX6_put_72 rfl rfl ?_
        refine z_getr dX6_put_73 fl_X6_20 lo0_0 rfl ?_
        refine z_getr dX6_put_76 fl_X6_114 lo0_3 rfl ?_
        refine z_iload_n dX6_put_79 rfl rfl ?_
        refine z_iald dX6_put_80 lo0_4 ⟨k.1, ?_⟩
        replace k := k.2
        refine z_i2l dX6_put_81 ?_
        refine z_callv (I := m_X6_put) (I2 := m_X4_lay) (st := []) [.long ((M67.2.1 1 (zn x3)).toInt64)] dX6_put_82 ml_X6_233 rfl (by decide) (z_trayC q3) rfl (Nat.le_of_ble_eq_true rfl) rfl (AMv.mono k (fun M82 k => ?_))
        refine z_goto 126 dX6_put_85 (by decide) ?_
        refine z_aload_n dX6_put_126 rfl rfl ?_
        refine z_iconst (v := 0) dX6_put_127 (by decide) ?_
        refine z_puti dX6_put_128 fw_X6_65 lo0_0 rfl ?_
        refine z_iconst (v := 1) dX6_put_131 (by decide) ?_
        exact z_ireturn (st := []) rfl dX6_put_132 ⟨_, rfl, k⟩
      replace k := k.2 h4
      refine z_case 2 x2 ⟨fun h5 => ?_, fun h5 => ?_⟩
      · replace k := k.1 h5
        refine z_tin (off := 54) 88 dX6_put_34 (by (try dsimp only); rw [h5]; decide) (by (try dsimp only); rw [h5]; decide) (by (try dsimp only); rw [h5]; decide) (by decide) ?_
        refine z_aload_n dX6_put_88 rfl rfl ?_
        refine z_aload dX6_put_89 rfl ?_
        refine z_iload_n dX6_put_91 rfl rfl ?_
        refine z_callv (I := m_X6_put) (I2 := m_X6_putKnots) (st := []) [.ref (37 + 2 * (zn x1)), .int x3] dX6_put_92 ml_X6_237 rfl (by decide) lo0_0 rfl (Nat.le_of_ble_eq_true rfl) rfl (AMv.mono k (fun M92 k => ?_))
        refine z_goto 126 dX6_put_95 (by decide) ?_
        refine z_aload_n dX6_put_126 rfl rfl ?_
        refine z_iconst (v := 0) dX6_put_127 (by decide) ?_
        refine z_puti dX6_put_128 fw_X6_65 lo0_0 rfl ?_
        refine z_iconst (v := 1) dX6_put_131 (by decide) ?_
        exact z_ireturn (st := []) rfl dX6_put_132 ⟨_, rfl, k⟩
      replace k := k.2 h5
      refine z_case 3 x2 ⟨fun h6 => ?_, fun h6 => ?_⟩
      · replace k := k.1 h6
        refine z_tin (off := 64) 98 dX6_put_34 (by (try dsimp only); rw [h6]; decide) (by (try dsimp only); rw [h6]; decide) (by (try dsimp only); rw [h6]; decide) (by decide) ?_
        refine z_aload_n dX6_put_98 rfl rfl ?_
        refine z_aload dX6_put_99 rfl ?_
        refine z_iload_n dX6_put_101 rfl rfl ?_
        refine z_iload dX6_put_102 rfl ?_
        refine z_callv (I := m_X6_put) (I2 := m_X6_putWeights) (st := []) [.ref (37 + 2 * (zn x1)), .int x3, .int x4] dX6_put_104 ml_X6_241 rfl (by decide) lo0_0 rfl (Nat.le_of_ble_eq_true rfl) rfl (AMv.mono k (fun M104 k => ?_))
        refine z_goto 126 dX6_put_107 (by decide) ?_
        refine z_aload_n dX6_put_126 rfl rfl ?_
        refine z_iconst (v := 0) dX6_put_127 (by decide) ?_
        refine z_puti dX6_put_128 fw_X6_65 lo0_0 rfl ?_
        refine z_iconst (v := 1) dX6_put_131 (by decide) ?_
        exact z_ireturn (st := []) rfl dX6_put_132 ⟨_, rfl, k⟩
      replace k := k.2 h6
      refine z_case 4 x2 ⟨fun h7 => ?_, fun h7 => ?_⟩
      · replace k := k.1 h7
        refine z_tin (off := 76) 110 dX6_put_34 (by (try dsimp only); rw [h7]; decide) (by (try dsimp only); rw [h7]; decide) (by (try dsimp only); rw [h7]; decide) (by decide) ?_
        refine z_aload_n dX6_put_110 rfl rfl ?_
        refine z_aload dX6_put_111 rfl ?_
        refine z_iload_n dX6_put_113 rfl rfl ?_
        refine z_callv (I := m_X6_put) (I2 := m_X6_putTruths) (st := []) [.ref (37 + 2 * (zn x1)), .int x3] dX6_put_114 ml_X6_245 rfl (by decide) lo0_0 rfl (Nat.le_of_ble_eq_true rfl) rfl (AMv.mono k (fun M114 k => ?_))
        refine z_goto 126 dX6_put_117 (by decide) ?_
        refine z_aload_n dX6_put_126 rfl rfl ?_
        refine z_iconst (v := 0) dX6_put_127 (by decide) ?_
        refine z_puti dX6_put_128 fw_X6_65 lo0_0 rfl ?_
        refine z_iconst (v := 1) dX6_put_131 (by decide) ?_
        exact z_ireturn (st := []) rfl dX6_put_132 ⟨_, rfl, k⟩
      replace k := k.2 h7
      have eh4 := lv_neT h4 (a := 1) (by decide)
      have eh5 := lv_neT h5 (a := 2) (by decide)
      have eh6 := lv_neT h6 (a := 3) (by decide)
      have eh7 := lv_neT h7 (a := 4) (by decide)
      refine z_tout 120 dX6_put_34 (by omega) (by decide) ?_
      refine z_aload dX6_put_120 rfl ?_
      refine z_iconst (v := 0) dX6_put_122 (by decide) ?_
      refine z_callv (I := m_X6_put) (I2 := m_X4_begin) (st := []) [.int 0] dX6_put_123 ml_X6_230 rfl (by decide) (z_trayC q3) rfl (Nat.le_of_ble_eq_true rfl) rfl (AMv.mono k (fun M123 k => ?_))
      refine z_aload_n dX6_put_126 rfl rfl ?_
      refine z_iconst (v := 0) dX6_put_127 (by decide) ?_
      refine z_puti dX6_put_128 fw_X6_65 lo0_0 rfl ?_
      refine z_iconst (v := 1) dX6_put_131 (by decide) ?_
      exact z_ireturn (st := []) rfl dX6_put_132 ⟨_, rfl, k⟩
    · replace k := k.2 h2
      refine z_aload_n dX6_put_19 rfl rfl ?_
      refine z_iconst (v := 1) dX6_put_20 (by decide) ?_
      refine z_calli (I := m_X6_put) (I2 := m_X6_refuse) (st := []) [.int 1] dX6_put_21 ml_X6_227 rfl (by decide) lo0_0 rfl (Nat.le_of_ble_eq_true rfl) rfl (AMi.mono k (fun r21 M21 k => ?_))
      exact z_ireturn (st := []) rfl dX6_put_24 ⟨_, rfl, k⟩

set_option maxRecDepth 100000 in
set_option maxHeartbeats 4000000 in
theorem r_X6_forge_0 {P : Int32 → zM → Prop} (x1 : Int32) (x2 : Int32) (x3 : Int32) (F : Nat → Int32) (I : Nat → Nat → Int32) (J : Nat → Nat → Int64)
  (k : AMi m_X6_isTray [.ref 0, .int x1] (F, I, J) (fun r2 M2 => ((r2 = 0 → AMi m_X6_refuse [.ref 0, .int 1] M2 (fun r32 M32 => P r32 M32)) ∧ (¬ r2 = 0 → ((x2 < 0 → AMi m_X6_refuse [.ref 0, .int 1] M2 (fun r32 M32 => P r32 M32)) ∧ (¬ x2 < 0 → ((8 < x2 → AMi m_X6_refuse [.ref 0, .int 1] M2 (fun r32 M32 => P r32 M32)) ∧ (¬ 8 < x2 → ((x3 < (-100) → AMi m_X6_refuse [.ref 0, .int 1] M2 (fun r32 M32 => P r32 M32)) ∧ (¬ x3 < (-100) → ((x3 ≤ 100 → vp_in x1 6 ∧ ((x2 = 0 → AMi m_X6_pick [.ref 0, .ref (37 + 2 * (zn x1)), .int 1, .int 0] M2 (fun r97 M97 => P r97 M97)) ∧ (¬ x2 = 0 → ((x2 = 1 → AMi m_X6_pick [.ref 0, .ref (37 + 2 * (zn x1)), .int 2, .int x3] M2 (fun r106 M106 => P r106 M106)) ∧ (¬ x2 = 1 → ((x2 = 2 → AMi m_X6_countLike [.ref 0, .ref (37 + 2 * (zn x1)), .int x3] M2 (fun r114 M114 => P r114 M114)) ∧ (¬ x2 = 2 → ((x2 = 3 → AMi m_X6_pick [.ref 0, .ref (37 + 2 * (zn x1)), .int 4, .int x3] M2 (fun r123 M123 => P r123 M123)) ∧ (¬ x2 = 3 → ((x2 = 4 → ((0 ≤ x3 → AMi m_X6_grant [.ref 0, .int x3] M2 (fun r142 M142 => P r142 M142)) ∧ (¬ 0 ≤ x3 → AMi m_X6_refuse [.ref 0, .int 13] M2 (fun r134 M134 => P r134 M134)))) ∧ (¬ x2 = 4 → ((x2 = 5 → AMi m_X6_sumOfCopy [.ref 0, .ref (37 + 2 * (zn x1)), .int x3] M2 (fun r150 M150 => P r150 M150)) ∧ (¬ x2 = 5 → ((x2 = 6 → AMi m_X6_layIntoRows [.ref 0, .ref (37 + 2 * (zn x1))] M2 (fun r157 M157 => P r157 M157)) ∧ (¬ x2 = 6 → ((x2 = 7 → ((¬ x3 = 0 → (¬ x3 = 0) ∧ AMi m_X6_grant [.ref 0, .int (1000 / x3)] M2 (fun r180 M180 => P r180 M180)) ∧ (x3 = 0 → AMi m_X6_refuse [.ref 0, .int 15] M2 (fun r168 M168 => P r168 M168)))) ∧ (¬ x2 = 7 → AMi m_X6_refuse [.ref 0, .int 10] M2 (fun r187 M187 => P r187 M187)))))))))))))))))) ∧ (¬ x3 ≤ 100 → AMi m_X6_refuse [.ref 0, .int 1] M2 (fun r32 M32 => P r32 M32))))))))))))) :
  AMi m_X6_forge [.ref 0, .int x1, .int x2, .int x3] (F, I, J) P := by
  refine z_entry (pad := 1) [some (.ref 0), some (.int x1), some (.int x2), some (.int x3), none] (by decide) rfl rfl (fun _ => Nat.le_of_ble_eq_true rfl) ?_
  refine z_aload_n dX6_forge_0 rfl rfl ?_
  refine z_iload_n dX6_forge_1 rfl rfl ?_
  refine z_calli (I := m_X6_forge) (I2 := m_X6_isTray) (st := []) [.int x1] dX6_forge_2 ml_X6_220 rfl (by decide) lo0_0 rfl (Nat.le_of_ble_eq_true rfl) rfl (AMi.mono k (fun r2 M2 k => ?_))
  refine z_if_eq 30 dX6_forge_5 (by decide) ⟨fun h1 => ?_, fun h1 => ?_⟩
  · replace k := k.1 h1
    refine z_aload_n dX6_forge_30 rfl rfl ?_
    refine z_iconst (v := 1) dX6_forge_31 (by decide) ?_
    refine z_calli (I := m_X6_forge) (I2 := m_X6_refuse) (st := []) [.int 1] dX6_forge_32 ml_X6_227 rfl (by decide) lo0_0 rfl (Nat.le_of_ble_eq_true rfl) rfl (AMi.mono k (fun r32 M32 k => ?_))
    exact z_ireturn (st := []) rfl dX6_forge_35 ⟨_, rfl, k⟩
  · replace k := k.2 h1
    refine z_iload_n dX6_forge_8 rfl rfl ?_
    refine z_if_lt 30 dX6_forge_9 (by decide) ⟨fun h2 => ?_, fun h2 => ?_⟩
    · replace k := k.1 h2
      refine z_aload_n dX6_forge_30 rfl rfl ?_
      refine z_iconst (v := 1) dX6_forge_31 (by decide) ?_
      refine z_calli (I := m_X6_forge) (I2 := m_X6_refuse) (st := []) [.int 1] dX6_forge_32 ml_X6_227 rfl (by decide) lo0_0 rfl (Nat.le_of_ble_eq_true rfl) rfl (AMi.mono k (fun r32 M32 k => ?_))
      exact z_ireturn (st := []) rfl dX6_forge_35 ⟨_, rfl, k⟩
    · replace k := k.2 h2
      refine z_iload_n dX6_forge_12 rfl rfl ?_
      refine z_bipush (v := 8) dX6_forge_13 (by decide) ?_
      refine z_icmp_gt 30 dX6_forge_15 (by decide) ⟨fun h3 => ?_, fun h3 => ?_⟩
      · replace k := k.1 h3
        refine z_aload_n dX6_forge_30 rfl rfl ?_
        refine z_iconst (v := 1) dX6_forge_31 (by decide) ?_
        refine z_calli (I := m_X6_forge) (I2 := m_X6_refuse) (st := []) [.int 1] dX6_forge_32 ml_X6_227 rfl (by decide) lo0_0 rfl (Nat.le_of_ble_eq_true rfl) rfl (AMi.mono k (fun r32 M32 k => ?_))
        exact z_ireturn (st := []) rfl dX6_forge_35 ⟨_, rfl, k⟩
      · replace k := k.2 h3
        refine z_iload_n dX6_forge_18 rfl rfl ?_
        refine z_bipush (v := (-100)) dX6_forge_19 (by decide) ?_
        refine z_icmp_lt 30 dX6_forge_21 (by decide) ⟨fun h4 => ?_, fun h4 => ?_⟩
        · replace k := k.1 h4
          refine z_aload_n dX6_forge_30 rfl rfl ?_
          refine z_iconst (v := 1) dX6_forge_31 (by decide) ?_
          refine z_calli (I := m_X6_forge) (I2 := m_X6_refuse) (st := []) [.int 1] dX6_forge_32 ml_X6_227 rfl (by decide) lo0_0 rfl (Nat.le_of_ble_eq_true rfl) rfl (AMi.mono k (fun r32 M32 k => ?_))
          exact z_ireturn (st := []) rfl dX6_forge_35 ⟨_, rfl, k⟩
        · replace k := k.2 h4
          refine z_iload_n dX6_forge_24 rfl rfl ?_
          refine z_bipush (v := 100) dX6_forge_25 (by decide) ?_
          refine z_icmp_le 36 dX6_forge_27 (by decide) ⟨fun h5 => ?_, fun h5 => ?_⟩
          · replace k := k.1 h5
            refine z_aload_n dX6_forge_36 rfl rfl ?_
            refine z_getr dX6_forge_37 fl_X6_57 lo0_0 rfl ?_
            refine z_iload_n dX6_forge_40 rfl rfl ?_
            refine z_aald dX6_forge_41 lo0_36 ⟨k.1, ?_⟩
            have q6 := z_in_lt k.1
            replace k := k.2
            refine z_astore dX6_forge_42 (by decide) rfl ?_
            refine z_iload_n dX6_forge_44 rfl rfl ?_
            refine z_case 0 x2 ⟨fun h7 => ?_, fun h7 => ?_⟩
            · replace k := k.1 h7
              refine z_tin (off := 47) 92 dX6_forge_45 (by (try dsimp only); rw [h7]; decide) (by (try dsimp only); rw [h7]; decide) (by (try dsimp only); rw [h7]; decide) (by decide) ?_
              refine z_aload_n dX6_forge_92 rfl rfl ?_
              refine z_aload dX6_forge_93 rfl ?_
              refine z_iconst (v := 1) dX6_forge_95 (by decide) ?_
              refine z_iconst (v := 0) dX6_forge_96 (by decide) ?_
              refine z_calli (I := m_X6_forge) (I2 := m_X6_pick) (st := []) [.ref (37 + 2 * (zn x1)), .int 1, .int 0] dX6_forge_97 ml_X6_248 rfl (by decide) lo0_0 rfl (Nat.le_of_ble_eq_true rfl) rfl (AMi.mono k (fun r97 M97 k => ?_))
              exact z_ireturn (st := []) rfl dX6_forge_100 ⟨_, rfl, k⟩
            replace k := k.2 h7
            refine z_case 1 x2 ⟨fun h8 => ?_, fun h8 => ?_⟩
            · replace k := k.1 h8
              refine z_tin (off := 56) 101 dX6_forge_45 (by (try dsimp only); rw [h8]; decide) (by (try dsimp only); rw [h8]; decide) (by (try dsimp only); rw [h8]; decide) (by decide) ?_
              refine z_aload_n dX6_forge_101 rfl rfl ?_
              refine z_aload dX6_forge_102 rfl ?_
              refine z_iconst (v := 2) dX6_forge_104 (by decide) ?_
              refine z_iload_n dX6_forge_105 rfl rfl ?_
              refine z_calli (I := m_X6_forge) (I2 := m_X6_pick) (st := []) [.ref (37 + 2 * (zn x1)), .int 2, .int x3] dX6_forge_106 ml_X6_248 rfl (by decide) lo0_0 rfl (Nat.le_of_ble_eq_true rfl) rfl (AMi.mono k (fun r106 M106 k => ?_))
              exact z_ireturn (st := []) rfl dX6_forge_109 ⟨_, rfl, k⟩
            replace k := k.2 h8
            refine z_case 2 x2 ⟨fun h9 => ?_, fun h9 => ?_⟩
            · replace k := k.1 h9
              refine z_tin (off := 65) 110 dX6_forge_45 (by (try dsimp only); rw [h9]; decide) (by (try dsimp only); rw [h9]; decide) (by (try dsimp only); rw [h9]; decide) (by decide) ?_
              refine z_aload_n dX6_forge_110 rfl rfl ?_
              refine z_aload dX6_forge_111 rfl ?_
              refine z_iload_n dX6_forge_113 rfl rfl ?_
              refine z_calli (I := m_X6_forge) (I2 := m_X6_countLike) (st := []) [.ref (37 + 2 * (zn x1)), .int x3] dX6_forge_114 ml_X6_252 rfl (by decide) lo0_0 rfl (Nat.le_of_ble_eq_true rfl) rfl (AMi.mono k (fun r114 M114 k => ?_))
              exact z_ireturn (st := []) rfl dX6_forge_117 ⟨_, rfl, k⟩
            replace k := k.2 h9
            refine z_case 3 x2 ⟨fun h10 => ?_, fun h10 => ?_⟩
            · replace k := k.1 h10
              refine z_tin (off := 73) 118 dX6_forge_45 (by (try dsimp only); rw [h10]; decide) (by (try dsimp only); rw [h10]; decide) (by (try dsimp only); rw [h10]; decide) (by decide) ?_
              refine z_aload_n dX6_forge_118 rfl rfl ?_
              refine z_aload dX6_forge_119 rfl ?_
              refine z_iconst (v := 4) dX6_forge_121 (by decide) ?_
              refine z_iload_n dX6_forge_122 rfl rfl ?_
              refine z_calli (I := m_X6_forge) (I2 := m_X6_pick) (st := []) [.ref (37 + 2 * (zn x1)), .int 4, .int x3] dX6_forge_123 ml_X6_248 rfl (by decide) lo0_0 rfl (Nat.le_of_ble_eq_true rfl) rfl (AMi.mono k (fun r123 M123 k => ?_))
              exact z_ireturn (st := []) rfl dX6_forge_126 ⟨_, rfl, k⟩
            replace k := k.2 h10
            refine z_case 4 x2 ⟨fun h11 => ?_, fun h11 => ?_⟩
            · replace k := k.1 h11
              refine z_tin (off := 82) 127 dX6_forge_45 (by (try dsimp only); rw [h11]; decide) (by (try dsimp only); rw [h11]; decide) (by (try dsimp only); rw [h11]; decide) (by decide) ?_
              refine z_iload_n dX6_forge_127 rfl rfl ?_
              refine z_if_ge 140 dX6_forge_128 (by decide) ⟨fun h12 => ?_, fun h12 => ?_⟩
              · replace k := k.1 h12
                refine z_aload_n dX6_forge_140 rfl rfl ?_
                refine z_iload_n dX6_forge_141 rfl rfl ?_
                refine z_calli (I := m_X6_forge) (I2 := m_X6_grant) (st := []) [.int x3] dX6_forge_142 ml_X6_256 rfl (by decide) lo0_0 rfl (Nat.le_of_ble_eq_true rfl) rfl (AMi.mono k (fun r142 M142 k => ?_))
                exact z_ireturn (st := []) rfl dX6_forge_145 ⟨_, rfl, k⟩
              · replace k := k.2 h12
                refine z_aload_n dX6_forge_131 rfl rfl ?_
                refine z_bipush (v := 13) dX6_forge_132 (by decide) ?_
                refine z_calli (I := m_X6_forge) (I2 := m_X6_refuse) (st := []) [.int 13] dX6_forge_134 ml_X6_227 rfl (by decide) lo0_0 rfl (Nat.le_of_ble_eq_true rfl) rfl (AMi.mono k (fun r134 M134 k => ?_))
                refine z_goto 145 dX6_forge_137 (by decide) ?_
                exact z_ireturn (st := []) rfl dX6_forge_145 ⟨_, rfl, k⟩
            replace k := k.2 h11
            refine z_case 5 x2 ⟨fun h13 => ?_, fun h13 => ?_⟩
            · replace k := k.1 h13
              refine z_tin (off := 101) 146 dX6_forge_45 (by (try dsimp only); rw [h13]; decide) (by (try dsimp only); rw [h13]; decide) (by (try dsimp only); rw [h13]; decide) (by decide) ?_
              refine z_aload_n dX6_forge_146 rfl rfl ?_
              refine z_aload dX6_forge_147 rfl ?_
              refine z_iload_n dX6_forge_149 rfl rfl ?_
              refine z_calli (I := m_X6_forge) (I2 := m_X6_sumOfCopy) (st := []) [.ref (37 + 2 * (zn x1)), .int x3] dX6_forge_150 ml_X6_259 rfl (by decide) lo0_0 rfl (Nat.le_of_ble_eq_true rfl) rfl (AMi.mono k (fun r150 M150 k => ?_))
              exact z_ireturn (st := []) rfl dX6_forge_153 ⟨_, rfl, k⟩
            replace k := k.2 h13
            refine z_case 6 x2 ⟨fun h14 => ?_, fun h14 => ?_⟩
            · replace k := k.1 h14
              refine z_tin (off := 109) 154 dX6_forge_45 (by (try dsimp only); rw [h14]; decide) (by (try dsimp only); rw [h14]; decide) (by (try dsimp only); rw [h14]; decide) (by decide) ?_
              refine z_aload_n dX6_forge_154 rfl rfl ?_
              refine z_aload dX6_forge_155 rfl ?_
              refine z_calli (I := m_X6_forge) (I2 := m_X6_layIntoRows) (st := []) [.ref (37 + 2 * (zn x1))] dX6_forge_157 ml_X6_262 rfl (by decide) lo0_0 rfl (Nat.le_of_ble_eq_true rfl) rfl (AMi.mono k (fun r157 M157 k => ?_))
              exact z_ireturn (st := []) rfl dX6_forge_160 ⟨_, rfl, k⟩
            replace k := k.2 h14
            refine z_case 7 x2 ⟨fun h15 => ?_, fun h15 => ?_⟩
            · replace k := k.1 h15
              refine z_tin (off := 116) 161 dX6_forge_45 (by (try dsimp only); rw [h15]; decide) (by (try dsimp only); rw [h15]; decide) (by (try dsimp only); rw [h15]; decide) (by decide) ?_
              refine z_iload_n dX6_forge_161 rfl rfl ?_
              refine z_if_ne 174 dX6_forge_162 (by decide) ⟨fun h16 => ?_, fun h16 => ?_⟩
              · replace k := k.1 h16
                refine z_aload_n dX6_forge_174 rfl rfl ?_
                refine z_sipush (v := 1000) dX6_forge_175 (by decide) ?_
                refine z_iload_n dX6_forge_178 rfl rfl ?_
                refine z_idiv dX6_forge_179 k.1 ?_
                replace k := k.2
                refine z_calli (I := m_X6_forge) (I2 := m_X6_grant) (st := []) [.int (1000 / x3)] dX6_forge_180 ml_X6_256 rfl (by decide) lo0_0 rfl (Nat.le_of_ble_eq_true rfl) rfl (AMi.mono k (fun r180 M180 k => ?_))
                exact z_ireturn (st := []) rfl dX6_forge_183 ⟨_, rfl, k⟩
              · replace k := k.2 h16
                refine z_aload_n dX6_forge_165 rfl rfl ?_
                refine z_bipush (v := 15) dX6_forge_166 (by decide) ?_
                refine z_calli (I := m_X6_forge) (I2 := m_X6_refuse) (st := []) [.int 15] dX6_forge_168 ml_X6_227 rfl (by decide) lo0_0 rfl (Nat.le_of_ble_eq_true rfl) rfl (AMi.mono k (fun r168 M168 k => ?_))
                refine z_goto 183 dX6_forge_171 (by decide) ?_
                exact z_ireturn (st := []) rfl dX6_forge_183 ⟨_, rfl, k⟩
            replace k := k.2 h15
            have eh7 := lv_neT h7 (a := 0) (by decide)
            have eh8 := lv_neT h8 (a := 1) (by decide)
            have eh9 := lv_neT h9 (a := 2) (by decide)
            have eh10 := lv_neT h10 (a := 3) (by decide)
            have eh11 := lv_neT h11 (a := 4) (by decide)
            have eh13 := lv_neT h13 (a := 5) (by decide)
            have eh14 := lv_neT h14 (a := 6) (by decide)
            have eh15 := lv_neT h15 (a := 7) (by decide)
            refine z_tout 184 dX6_forge_45 (by omega) (by decide) ?_
            refine z_aload_n dX6_forge_184 rfl rfl ?_
            refine z_bipush (v := 10) dX6_forge_185 (by decide) ?_
            refine z_calli (I := m_X6_forge) (I2 := m_X6_refuse) (st := []) [.int 10] dX6_forge_187 ml_X6_227 rfl (by decide) lo0_0 rfl (Nat.le_of_ble_eq_true rfl) rfl (AMi.mono k (fun r187 M187 k => ?_))
            exact z_ireturn (st := []) rfl dX6_forge_190 ⟨_, rfl, k⟩
          · replace k := k.2 h5
            refine z_aload_n dX6_forge_30 rfl rfl ?_
            refine z_iconst (v := 1) dX6_forge_31 (by decide) ?_
            refine z_calli (I := m_X6_forge) (I2 := m_X6_refuse) (st := []) [.int 1] dX6_forge_32 ml_X6_227 rfl (by decide) lo0_0 rfl (Nat.le_of_ble_eq_true rfl) rfl (AMi.mono k (fun r32 M32 k => ?_))
            exact z_ireturn (st := []) rfl dX6_forge_35 ⟨_, rfl, k⟩

set_option maxRecDepth 100000 in
set_option maxHeartbeats 4000000 in
theorem r_X6_status_0 {P : Int32 → zM → Prop}  (F : Nat → Int32) (I : Nat → Nat → Int32) (J : Nat → Nat → Int64)
  (k : P (F 3) (F, I, J)) :
  AMi m_X6_status [.ref 0] (F, I, J) P := by
  refine z_entry (pad := 0) [some (.ref 0)] (by decide) rfl rfl (fun _ => Nat.le_of_ble_eq_true rfl) ?_
  refine z_aload_n dX6_status_0 rfl rfl ?_
  refine z_geti dX6_status_1 fl_X6_65 lo0_0 rfl ?_
  exact z_ireturn (st := []) rfl dX6_status_4 ⟨_, rfl, k⟩

set_option maxRecDepth 100000 in
set_option maxHeartbeats 4000000 in
theorem r_X6_isKnot_0 {P : Int32 → zM → Prop} (x1 : Int32) (F : Nat → Int32) (I : Nat → Nat → Int32) (J : Nat → Nat → Int64)
  (k : ((x1 < 0 → P 0 (F, I, J)) ∧ (¬ x1 < 0 → (((F 0) ≤ x1 → P 0 (F, I, J)) ∧ (¬ (F 0) ≤ x1 → P 1 (F, I, J)))))) :
  AMi m_X6_isKnot [.ref 0, .int x1] (F, I, J) P := by
  refine z_entry (pad := 0) [some (.ref 0), some (.int x1)] (by decide) rfl rfl (fun _ => Nat.le_of_ble_eq_true rfl) ?_
  refine z_iload_n dX6_isKnot_0 rfl rfl ?_
  refine z_if_lt 16 dX6_isKnot_1 (by decide) ⟨fun h1 => ?_, fun h1 => ?_⟩
  · replace k := k.1 h1
    refine z_iconst (v := 0) dX6_isKnot_16 (by decide) ?_
    exact z_zreturn (st := []) rfl rfl dX6_isKnot_17 ⟨_, rfl, k⟩
  · replace k := k.2 h1
    refine z_iload_n dX6_isKnot_4 rfl rfl ?_
    refine z_aload_n dX6_isKnot_5 rfl rfl ?_
    refine z_geti dX6_isKnot_6 fl_X6_69 lo0_0 rfl ?_
    refine z_icmp_ge 16 dX6_isKnot_9 (by decide) ⟨fun h2 => ?_, fun h2 => ?_⟩
    · replace k := k.1 h2
      refine z_iconst (v := 0) dX6_isKnot_16 (by decide) ?_
      exact z_zreturn (st := []) rfl rfl dX6_isKnot_17 ⟨_, rfl, k⟩
    · replace k := k.2 h2
      refine z_iconst (v := 1) dX6_isKnot_12 (by decide) ?_
      refine z_goto 17 dX6_isKnot_13 (by decide) ?_
      exact z_zreturn (st := []) rfl rfl dX6_isKnot_17 ⟨_, rfl, k⟩

set_option maxRecDepth 100000 in
set_option maxHeartbeats 4000000 in
theorem r_X6_isTray_0 {P : Int32 → zM → Prop} (x1 : Int32) (F : Nat → Int32) (I : Nat → Nat → Int32) (J : Nat → Nat → Int64)
  (k : ((x1 < 0 → P 0 (F, I, J)) ∧ (¬ x1 < 0 → ((6 ≤ x1 → P 0 (F, I, J)) ∧ (¬ 6 ≤ x1 → P 1 (F, I, J)))))) :
  AMi m_X6_isTray [.ref 0, .int x1] (F, I, J) P := by
  refine z_entry (pad := 0) [some (.ref 0), some (.int x1)] (by decide) rfl rfl (fun _ => Nat.le_of_ble_eq_true rfl) ?_
  refine z_iload_n dX6_isTray_0 rfl rfl ?_
  refine z_if_lt 14 dX6_isTray_1 (by decide) ⟨fun h1 => ?_, fun h1 => ?_⟩
  · replace k := k.1 h1
    refine z_iconst (v := 0) dX6_isTray_14 (by decide) ?_
    exact z_zreturn (st := []) rfl rfl dX6_isTray_15 ⟨_, rfl, k⟩
  · replace k := k.2 h1
    refine z_iload_n dX6_isTray_4 rfl rfl ?_
    refine z_bipush (v := 6) dX6_isTray_5 (by decide) ?_
    refine z_icmp_ge 14 dX6_isTray_7 (by decide) ⟨fun h2 => ?_, fun h2 => ?_⟩
    · replace k := k.1 h2
      refine z_iconst (v := 0) dX6_isTray_14 (by decide) ?_
      exact z_zreturn (st := []) rfl rfl dX6_isTray_15 ⟨_, rfl, k⟩
    · replace k := k.2 h2
      refine z_iconst (v := 1) dX6_isTray_10 (by decide) ?_
      refine z_goto 15 dX6_isTray_11 (by decide) ?_
      exact z_zreturn (st := []) rfl rfl dX6_isTray_15 ⟨_, rfl, k⟩

set_option maxRecDepth 100000 in
set_option maxHeartbeats 4000000 in
theorem r_X6_layTrack_0 {P : Int32 → zM → Prop} (x1 : Int32) (x2 : Int32) (F : Nat → Int32) (I : Nat → Nat → Int32) (J : Nat → Nat → Int64)
  (k : AMi m_X6_isKnot [.ref 0, .int x1] (F, I, J) (fun r2 M2 => ((r2 = 0 → P (-2) M2) ∧ (¬ r2 = 0 → AMi m_X6_isKnot [.ref 0, .int x2] M2 (fun r10 M10 => ((¬ r10 = 0 → AMv m_X6_floodPart [.ref 0, .int x2] M10 (fun M21 => AMv m_X5_lay [.ref 22, .ref 3, .ref 12, .int x1] M21 (fun M37 => P (M37.1 8) M37))) ∧ (r10 = 0 → P (-2) M10))))))) :
  AMi m_X6_layTrack [.ref 0, .int x1, .int x2] (F, I, J) P := by
  refine z_entry (pad := 0) [some (.ref 0), some (.int x1), some (.int x2)] (by decide) rfl rfl (fun _ => Nat.le_of_ble_eq_true rfl) ?_
  refine z_aload_n dX6_layTrack_0 rfl rfl ?_
  refine z_iload_n dX6_layTrack_1 rfl rfl ?_
  refine z_calli (I := m_X6_layTrack) (I2 := m_X6_isKnot) (st := []) [.int x1] dX6_layTrack_2 ml_X6_78 rfl (by decide) lo0_0 rfl (Nat.le_of_ble_eq_true rfl) rfl (AMi.mono k (fun r2 M2 k => ?_))
  refine z_if_eq 16 dX6_layTrack_5 (by decide) ⟨fun h1 => ?_, fun h1 => ?_⟩
  · replace k := k.1 h1
    refine z_bipush (v := (-2)) dX6_layTrack_16 (by decide) ?_
    exact z_ireturn (st := []) rfl dX6_layTrack_18 ⟨_, rfl, k⟩
  · replace k := k.2 h1
    refine z_aload_n dX6_layTrack_8 rfl rfl ?_
    refine z_iload_n dX6_layTrack_9 rfl rfl ?_
    refine z_calli (I := m_X6_layTrack) (I2 := m_X6_isKnot) (st := []) [.int x2] dX6_layTrack_10 ml_X6_78 rfl (by decide) lo0_0 rfl (Nat.le_of_ble_eq_true rfl) rfl (AMi.mono k (fun r10 M10 k => ?_))
    refine z_if_ne 19 dX6_layTrack_13 (by decide) ⟨fun h2 => ?_, fun h2 => ?_⟩
    · replace k := k.1 h2
      refine z_aload_n dX6_layTrack_19 rfl rfl ?_
      refine z_iload_n dX6_layTrack_20 rfl rfl ?_
      refine z_callv (I := m_X6_layTrack) (I2 := m_X6_floodPart) (st := []) [.int x2] dX6_layTrack_21 ml_X6_148 rfl (by decide) lo0_0 rfl (Nat.le_of_ble_eq_true rfl) rfl (AMv.mono k (fun M21 k => ?_))
      refine z_aload_n dX6_layTrack_24 rfl rfl ?_
      refine z_getr dX6_layTrack_25 fl_X6_37 lo0_0 rfl ?_
      refine z_aload_n dX6_layTrack_28 rfl rfl ?_
      refine z_getr dX6_layTrack_29 fl_X6_20 lo0_0 rfl ?_
      refine z_aload_n dX6_layTrack_32 rfl rfl ?_
      refine z_getr dX6_layTrack_33 fl_X6_27 lo0_0 rfl ?_
      refine z_iload_n dX6_layTrack_36 rfl rfl ?_
      refine z_callv (I := m_X6_layTrack) (I2 := m_X5_lay) (st := []) [.ref 3, .ref 12, .int x1] dX6_layTrack_37 ml_X6_266 rfl (by decide) lo0_22 rfl (Nat.le_of_ble_eq_true rfl) rfl (AMv.mono k (fun M37 k => ?_))
      refine z_aload_n dX6_layTrack_40 rfl rfl ?_
      refine z_getr dX6_layTrack_41 fl_X6_37 lo0_0 rfl ?_
      refine z_geti dX6_layTrack_44 fl_X6_269 lo0_22 rfl ?_
      exact z_ireturn (st := []) rfl dX6_layTrack_47 ⟨_, rfl, k⟩
    · replace k := k.2 h2
      refine z_bipush (v := (-2)) dX6_layTrack_16 (by decide) ?_
      exact z_ireturn (st := []) rfl dX6_layTrack_18 ⟨_, rfl, k⟩

set_option maxRecDepth 100000 in
set_option maxHeartbeats 4000000 in
theorem r_X6_floodPart_0 {P : zM → Prop} (x1 : Int32) (F : Nat → Int32) (I : Nat → Nat → Int32) (J : Nat → Nat → Int64)
  (k : AMv m_X1_spread [.ref 12, .ref 3, .int x1, .int (-1), .int 0] (F, I, J) (fun M11 => P M11)) :
  AMv m_X6_floodPart [.ref 0, .int x1] (F, I, J) P := by
  refine z_entry (pad := 0) [some (.ref 0), some (.int x1)] (by decide) rfl rfl (fun _ => Nat.le_of_ble_eq_true rfl) ?_
  refine z_aload_n dX6_floodPart_0 rfl rfl ?_
  refine z_getr dX6_floodPart_1 fl_X6_27 lo0_0 rfl ?_
  refine z_aload_n dX6_floodPart_4 rfl rfl ?_
  refine z_getr dX6_floodPart_5 fl_X6_20 lo0_0 rfl ?_
  refine z_iload_n dX6_floodPart_8 rfl rfl ?_
  refine z_iconst (v := (-1)) dX6_floodPart_9 (by decide) ?_
  refine z_iconst (v := 0) dX6_floodPart_10 (by decide) ?_
  refine z_callv (I := m_X6_floodPart) (I2 := m_X1_spread) (st := []) [.ref 3, .int x1, .int (-1), .int 0] dX6_floodPart_11 ml_X6_270 rfl (by decide) lo0_12 rfl (Nat.le_of_ble_eq_true rfl) rfl (AMv.mono k (fun M11 k => ?_))
  exact z_return (st := []) rfl dX6_floodPart_14 ⟨rfl, k⟩

set_option maxRecDepth 100000 in
set_option maxHeartbeats 4000000 in
theorem r_X6_findRoot_0 {P : Int32 → zM → Prop} (x1 : Int32) (F : Nat → Int32) (I : Nat → Nat → Int32) (J : Nat → Nat → Int64)
  (k : AMv m_X1_spread [.ref 12, .ref 3, .int x1, .int (-1), .int 0] (F, I, J) (fun M11 => AW m_X6_findRoot (z_pi P) 18 [some (.ref 0), none, some (.int x1), some (.int 0), none] [] M11)) :
  AMi m_X6_findRoot [.ref 0, .int x1] (F, I, J) P := by
  refine z_entry (pad := 3) [some (.ref 0), some (.int x1), none, none, none] (by decide) rfl rfl (fun _ => Nat.le_of_ble_eq_true rfl) ?_
  refine z_aload_n dX6_findRoot_0 rfl rfl ?_
  refine z_getr dX6_findRoot_1 fl_X6_27 lo0_0 rfl ?_
  refine z_aload_n dX6_findRoot_4 rfl rfl ?_
  refine z_getr dX6_findRoot_5 fl_X6_20 lo0_0 rfl ?_
  refine z_iload_n dX6_findRoot_8 rfl rfl ?_
  refine z_iconst (v := (-1)) dX6_findRoot_9 (by decide) ?_
  refine z_iconst (v := 0) dX6_findRoot_10 (by decide) ?_
  refine z_callv (I := m_X6_findRoot) (I2 := m_X1_spread) (st := []) [.ref 3, .int x1, .int (-1), .int 0] dX6_findRoot_11 ml_X6_270 rfl (by decide) lo0_12 rfl (Nat.le_of_ble_eq_true rfl) rfl (AMv.mono k (fun M11 k => ?_))
  refine z_iload_n dX6_findRoot_14 rfl rfl ?_
  refine z_istore_n dX6_findRoot_15 rfl (by decide) rfl ?_
  refine z_iconst (v := 0) dX6_findRoot_16 (by decide) ?_
  refine z_istore_n dX6_findRoot_17 rfl (by decide) rfl ?_
  refine z_wk [some (.ref 0), none, some (.int x1), some (.int 0), none] (z_le_some (z_le_none (z_le_some (z_le_some (z_le_none z_le_nil))))) ?_
  exact k

set_option maxRecDepth 100000 in
set_option maxHeartbeats 4000000 in
theorem r_X6_findRoot_18 {P : Int32 → zM → Prop} (x2 : Int32) (x3 : Int32) (F : Nat → Int32) (I : Nat → Nat → Int32) (J : Nat → Nat → Int64)
  (k : (((F 6) ≤ x3 → P x2 (F, I, J)) ∧ (¬ (F 6) ≤ x3 → vp_in x3 100 ∧ vp_in (I 8 (zn x3)) 100 ∧ vp_in x2 100 ∧ (((I 0 (zn x2)) < (I 0 (zn (I 8 (zn x3)))) → AW m_X6_findRoot (z_pi P) 18 [some (.ref 0), none, some (.int (I 8 (zn x3))), some (.int (x3 + 1)), none] [] (F, I, J)) ∧ (¬ (I 0 (zn x2)) < (I 0 (zn (I 8 (zn x3)))) → vp_in (I 8 (zn x3)) 100 ∧ vp_in x2 100 ∧ ((¬ (I 0 (zn (I 8 (zn x3)))) = (I 0 (zn x2)) → AW m_X6_findRoot (z_pi P) 18 [some (.ref 0), none, some (.int x2), some (.int (x3 + 1)), none] [] (F, I, J)) ∧ ((I 0 (zn (I 8 (zn x3)))) = (I 0 (zn x2)) → ((x2 ≤ (I 8 (zn x3)) → AW m_X6_findRoot (z_pi P) 18 [some (.ref 0), none, some (.int x2), some (.int (x3 + 1)), none] [] (F, I, J)) ∧ (¬ x2 ≤ (I 8 (zn x3)) → AW m_X6_findRoot (z_pi P) 18 [some (.ref 0), none, some (.int (I 8 (zn x3))), some (.int (x3 + 1)), none] [] (F, I, J)))))))))) :
  AW m_X6_findRoot (z_pi P) 18 [some (.ref 0), none, some (.int x2), some (.int x3), none] [] (F, I, J) := by
  refine z_iload_n dX6_findRoot_18 rfl rfl ?_
  refine z_aload_n dX6_findRoot_19 rfl rfl ?_
  refine z_getr dX6_findRoot_20 fl_X6_27 lo0_0 rfl ?_
  refine z_geti dX6_findRoot_23 fl_X6_152 lo0_12 rfl ?_
  refine z_icmp_ge 87 dX6_findRoot_26 (by decide) ⟨fun h1 => ?_, fun h1 => ?_⟩
  · replace k := k.1 h1
    refine z_iload_n dX6_findRoot_87 rfl rfl ?_
    exact z_ireturn (st := []) rfl dX6_findRoot_88 ⟨_, rfl, k⟩
  · replace k := k.2 h1
    refine z_aload_n dX6_findRoot_29 rfl rfl ?_
    refine z_getr dX6_findRoot_30 fl_X6_27 lo0_0 rfl ?_
    refine z_getr dX6_findRoot_33 fl_X6_195 lo0_12 rfl ?_
    refine z_iload_n dX6_findRoot_36 rfl rfl ?_
    refine z_iald dX6_findRoot_37 lo0_13 ⟨k.1, ?_⟩
    replace k := k.2
    refine z_istore dX6_findRoot_38 (by decide) rfl ?_
    refine z_aload_n dX6_findRoot_40 rfl rfl ?_
    refine z_getr dX6_findRoot_41 fl_X6_13 lo0_0 rfl ?_
    refine z_iload dX6_findRoot_44 rfl ?_
    refine z_iald dX6_findRoot_46 lo0_2 ⟨k.1, ?_⟩
    replace k := k.2
    refine z_aload_n dX6_findRoot_47 rfl rfl ?_
    refine z_getr dX6_findRoot_48 fl_X6_13 lo0_0 rfl ?_
    refine z_iload_n dX6_findRoot_51 rfl rfl ?_
    refine z_iald dX6_findRoot_52 lo0_2 ⟨k.1, ?_⟩
    replace k := k.2
    refine z_icmp_gt 78 dX6_findRoot_53 (by decide) ⟨fun h2 => ?_, fun h2 => ?_⟩
    · replace k := k.1 h2
      refine z_iload dX6_findRoot_78 rfl ?_
      refine z_istore_n dX6_findRoot_80 rfl (by decide) rfl ?_
      refine z_iinc (v := (x3 + 1)) dX6_findRoot_81 rfl rfl (by decide) rfl ?_
      refine z_goto 18 dX6_findRoot_84 (by decide) ?_
      refine z_wk [some (.ref 0), none, some (.int (I 8 (zn x3))), some (.int (x3 + 1)), none] (z_le_some (z_le_none (z_le_some (z_le_some (z_le_none z_le_nil))))) ?_
      exact k
    · replace k := k.2 h2
      refine z_aload_n dX6_findRoot_56 rfl rfl ?_
      refine z_getr dX6_findRoot_57 fl_X6_13 lo0_0 rfl ?_
      refine z_iload dX6_findRoot_60 rfl ?_
      refine z_iald dX6_findRoot_62 lo0_2 ⟨k.1, ?_⟩
      replace k := k.2
      refine z_aload_n dX6_findRoot_63 rfl rfl ?_
      refine z_getr dX6_findRoot_64 fl_X6_13 lo0_0 rfl ?_
      refine z_iload_n dX6_findRoot_67 rfl rfl ?_
      refine z_iald dX6_findRoot_68 lo0_2 ⟨k.1, ?_⟩
      replace k := k.2
      refine z_icmp_ne 81 dX6_findRoot_69 (by decide) ⟨fun h3 => ?_, fun h3 => ?_⟩
      · replace k := k.1 h3
        refine z_iinc (v := (x3 + 1)) dX6_findRoot_81 rfl rfl (by decide) rfl ?_
        refine z_goto 18 dX6_findRoot_84 (by decide) ?_
        refine z_wk [some (.ref 0), none, some (.int x2), some (.int (x3 + 1)), none] (z_le_some (z_le_none (z_le_some (z_le_some (z_le_none z_le_nil))))) ?_
        exact k
      · replace k := k.2 h3
        refine z_iload dX6_findRoot_72 rfl ?_
        refine z_iload_n dX6_findRoot_74 rfl rfl ?_
        refine z_icmp_ge 81 dX6_findRoot_75 (by decide) ⟨fun h4 => ?_, fun h4 => ?_⟩
        · replace k := k.1 h4
          refine z_iinc (v := (x3 + 1)) dX6_findRoot_81 rfl rfl (by decide) rfl ?_
          refine z_goto 18 dX6_findRoot_84 (by decide) ?_
          refine z_wk [some (.ref 0), none, some (.int x2), some (.int (x3 + 1)), none] (z_le_some (z_le_none (z_le_some (z_le_some (z_le_none z_le_nil))))) ?_
          exact k
        · replace k := k.2 h4
          refine z_iload dX6_findRoot_78 rfl ?_
          refine z_istore_n dX6_findRoot_80 rfl (by decide) rfl ?_
          refine z_iinc (v := (x3 + 1)) dX6_findRoot_81 rfl rfl (by decide) rfl ?_
          refine z_goto 18 dX6_findRoot_84 (by decide) ?_
          refine z_wk [some (.ref 0), none, some (.int (I 8 (zn x3))), some (.int (x3 + 1)), none] (z_le_some (z_le_none (z_le_some (z_le_some (z_le_none z_le_nil))))) ?_
          exact k

set_option maxRecDepth 100000 in
set_option maxHeartbeats 4000000 in
theorem r_X6_floodFromRoot_0 {P : zM → Prop} (x1 : Int32) (F : Nat → Int32) (I : Nat → Nat → Int32) (J : Nat → Nat → Int64)
  (k : AMi m_X6_findRoot [.ref 0, .int x1] (F, I, J) (fun r10 M10 => AMv m_X1_spread [.ref 12, .ref 3, .int r10, .int (-1), .int 0] M10 (fun M15 => P M15))) :
  AMv m_X6_floodFromRoot [.ref 0, .int x1] (F, I, J) P := by
  refine z_entry (pad := 0) [some (.ref 0), some (.int x1)] (by decide) rfl rfl (fun _ => Nat.le_of_ble_eq_true rfl) ?_
  refine z_aload_n dX6_floodFromRoot_0 rfl rfl ?_
  refine z_getr dX6_floodFromRoot_1 fl_X6_27 lo0_0 rfl ?_
  refine z_aload_n dX6_floodFromRoot_4 rfl rfl ?_
  refine z_getr dX6_floodFromRoot_5 fl_X6_20 lo0_0 rfl ?_
  refine z_aload_n dX6_floodFromRoot_8 rfl rfl ?_
  refine z_iload_n dX6_floodFromRoot_9 rfl rfl ?_
  refine z_calli (I := m_X6_floodFromRoot) (I2 := m_X6_findRoot) (st := [.ref 3, .ref 12]) [.int x1] dX6_floodFromRoot_10 ml_X6_173 rfl (by decide) lo0_0 rfl (Nat.le_of_ble_eq_true rfl) rfl (AMi.mono k (fun r10 M10 k => ?_))
  refine z_iconst (v := (-1)) dX6_floodFromRoot_13 (by decide) ?_
  refine z_iconst (v := 0) dX6_floodFromRoot_14 (by decide) ?_
  refine z_callv (I := m_X6_floodFromRoot) (I2 := m_X1_spread) (st := []) [.ref 3, .int r10, .int (-1), .int 0] dX6_floodFromRoot_15 ml_X6_270 rfl (by decide) lo0_12 rfl (Nat.le_of_ble_eq_true rfl) rfl (AMv.mono k (fun M15 k => ?_))
  exact z_return (st := []) rfl dX6_floodFromRoot_18 ⟨rfl, k⟩

set_option maxRecDepth 100000 in
set_option maxHeartbeats 4000000 in
theorem r_X6_floodBelow_0 {P : zM → Prop} (x1 : Int32) (F : Nat → Int32) (I : Nat → Nat → Int32) (J : Nat → Nat → Int64)
  (k : AMi m_X6_findRoot [.ref 0, .int x1] (F, I, J) (fun r10 M10 => AMv m_X1_spread [.ref 12, .ref 3, .int r10, .int (-1), .int 0] M10 (fun M15 => vp_in x1 100 ∧ AMv m_X1_spread [.ref 12, .ref 3, .int x1, .int (M15.2.1 10 (zn x1)), .int 0] M15 (fun M37 => P M37)))) :
  AMv m_X6_floodBelow [.ref 0, .int x1] (F, I, J) P := by
  refine z_entry (pad := 0) [some (.ref 0), some (.int x1)] (by decide) rfl rfl (fun _ => Nat.le_of_ble_eq_true rfl) ?_
  refine z_aload_n dX6_floodBelow_0 rfl rfl ?_
  refine z_getr dX6_floodBelow_1 fl_X6_27 lo0_0 rfl ?_
  refine z_aload_n dX6_floodBelow_4 rfl rfl ?_
  refine z_getr dX6_floodBelow_5 fl_X6_20 lo0_0 rfl ?_
  refine z_aload_n dX6_floodBelow_8 rfl rfl ?_
  refine z_iload_n dX6_floodBelow_9 rfl rfl ?_
  refine z_calli (I := m_X6_floodBelow) (I2 := m_X6_findRoot) (st := [.ref 3, .ref 12]) [.int x1] dX6_floodBelow_10 ml_X6_173 rfl (by decide) lo0_0 rfl (Nat.le_of_ble_eq_true rfl) rfl (AMi.mono k (fun r10 M10 k => ?_))
  refine z_iconst (v := (-1)) dX6_floodBelow_13 (by decide) ?_
  refine z_iconst (v := 0) dX6_floodBelow_14 (by decide) ?_
  refine z_callv (I := m_X6_floodBelow) (I2 := m_X1_spread) (st := []) [.ref 3, .int r10, .int (-1), .int 0] dX6_floodBelow_15 ml_X6_270 rfl (by decide) lo0_12 rfl (Nat.le_of_ble_eq_true rfl) rfl (AMv.mono k (fun M15 k => ?_))
  refine z_aload_n dX6_floodBelow_18 rfl rfl ?_
  refine z_getr dX6_floodBelow_19 fl_X6_27 lo0_0 rfl ?_
  refine z_aload_n dX6_floodBelow_22 rfl rfl ?_
  refine z_getr dX6_floodBelow_23 fl_X6_20 lo0_0 rfl ?_
  refine z_iload_n dX6_floodBelow_26 rfl rfl ?_
  refine z_aload_n dX6_floodBelow_27 rfl rfl ?_
  refine z_getr dX6_floodBelow_28 fl_X6_27 lo0_0 rfl ?_
  refine z_getr dX6_floodBelow_31 fl_X6_274 lo0_12 rfl ?_
  refine z_iload_n dX6_floodBelow_34 rfl rfl ?_
  refine z_iald dX6_floodBelow_35 lo0_15 ⟨k.1, ?_⟩
  replace k := k.2
  refine z_iconst (v := 0) dX6_floodBelow_36 (by decide) ?_
  refine z_callv (I := m_X6_floodBelow) (I2 := m_X1_spread) (st := []) [.ref 3, .int x1, .int (M15.2.1 10 (zn x1)), .int 0] dX6_floodBelow_37 ml_X6_270 rfl (by decide) lo0_12 rfl (Nat.le_of_ble_eq_true rfl) rfl (AMv.mono k (fun M37 k => ?_))
  exact z_return (st := []) rfl dX6_floodBelow_40 ⟨rfl, k⟩

set_option maxRecDepth 100000 in
set_option maxHeartbeats 4000000 in
theorem r_X6_addOnTrack_0 {P : Int32 → zM → Prop} (l1 : Int64) (F : Nat → Int32) (I : Nat → Nat → Int32) (J : Nat → Nat → Int64)
  (k : AW m_X6_addOnTrack (z_pi P) 2 [some (.ref 0), some (.long l1), none, some (.int 0)] [] (F, I, J)) :
  AMi m_X6_addOnTrack [.ref 0, .long l1] (F, I, J) P := by
  refine z_entry (pad := 1) [some (.ref 0), some (.long l1), none, none] (by decide) rfl rfl (fun _ => Nat.le_of_ble_eq_true rfl) ?_
  refine z_iconst (v := 0) dX6_addOnTrack_0 (by decide) ?_
  refine z_istore_n dX6_addOnTrack_1 rfl (by decide) rfl ?_
  exact k

set_option maxRecDepth 100000 in
set_option maxHeartbeats 4000000 in
theorem r_X6_addOnTrack_2 {P : Int32 → zM → Prop} (l1 : Int64) (x3 : Int32) (F : Nat → Int32) (I : Nat → Nat → Int32) (J : Nat → Nat → Int64)
  (k : (((F 8) < x3 → P ((F 8) + 1) (F, I, J)) ∧ (¬ (F 8) < x3 → vp_in x3 100 ∧ vp_in (I 16 (zn x3)) 100 ∧ vp_in (I 16 (zn x3)) 100 ∧ AW m_X6_addOnTrack (z_pi P) 2 [some (.ref 0), some (.long l1), none, some (.int (x3 + 1))] [] (F, I, z_ul J 0 (zn (I 16 (zn x3))) ((J 0 (zn (I 16 (zn x3)))) + l1))))) :
  AW m_X6_addOnTrack (z_pi P) 2 [some (.ref 0), some (.long l1), none, some (.int x3)] [] (F, I, J) := by
  refine z_iload_n dX6_addOnTrack_2 rfl rfl ?_
  refine z_aload_n dX6_addOnTrack_3 rfl rfl ?_
  refine z_getr dX6_addOnTrack_4 fl_X6_37 lo0_0 rfl ?_
  refine z_geti dX6_addOnTrack_7 fl_X6_269 lo0_22 rfl ?_
  refine z_icmp_gt 37 dX6_addOnTrack_10 (by decide) ⟨fun h1 => ?_, fun h1 => ?_⟩
  · replace k := k.1 h1
    refine z_aload_n dX6_addOnTrack_37 rfl rfl ?_
    refine z_getr dX6_addOnTrack_38 fl_X6_37 lo0_0 rfl ?_
    refine z_geti dX6_addOnTrack_41 fl_X6_269 lo0_22 rfl ?_
    refine z_iconst (v := 1) dX6_addOnTrack_44 (by decide) ?_
    refine z_iadd dX6_addOnTrack_45 ?_
    exact z_ireturn (st := []) rfl dX6_addOnTrack_46 ⟨_, rfl, k⟩
  · replace k := k.2 h1
    refine z_aload_n dX6_addOnTrack_13 rfl rfl ?_
    refine z_getr dX6_addOnTrack_14 fl_X6_9 lo0_0 rfl ?_
    refine z_aload_n dX6_addOnTrack_17 rfl rfl ?_
    refine z_getr dX6_addOnTrack_18 fl_X6_37 lo0_0 rfl ?_
    refine z_getr dX6_addOnTrack_21 fl_X6_157 lo0_22 rfl ?_
    refine z_iload_n dX6_addOnTrack_24 rfl rfl ?_
    refine z_iald dX6_addOnTrack_25 lo0_23 ⟨k.1, ?_⟩
    replace k := k.2
    refine z_dup2 dX6_addOnTrack_26 rfl rfl ?_
    refine z_lald dX6_addOnTrack_27 lo0_1 ⟨k.1, ?_⟩
    replace k := k.2
    refine z_lload_n dX6_addOnTrack_28 rfl rfl ?_
    refine z_ladd dX6_addOnTrack_29 ?_
    refine z_last dX6_addOnTrack_30 lo0_1 ⟨k.1, ?_⟩
    replace k := k.2
    refine z_iinc (v := (x3 + 1)) dX6_addOnTrack_31 rfl rfl (by decide) rfl ?_
    refine z_goto 2 dX6_addOnTrack_34 (by decide) ?_
    exact k

set_option maxRecDepth 100000 in
set_option maxHeartbeats 4000000 in
theorem r_X6_addOnFlood_0 {P : Int32 → zM → Prop} (l1 : Int64) (F : Nat → Int32) (I : Nat → Nat → Int32) (J : Nat → Nat → Int64)
  (k : AW m_X6_addOnFlood (z_pi P) 2 [some (.ref 0), some (.long l1), none, some (.int 0)] [] (F, I, J)) :
  AMi m_X6_addOnFlood [.ref 0, .long l1] (F, I, J) P := by
  refine z_entry (pad := 1) [some (.ref 0), some (.long l1), none, none] (by decide) rfl rfl (fun _ => Nat.le_of_ble_eq_true rfl) ?_
  refine z_iconst (v := 0) dX6_addOnFlood_0 (by decide) ?_
  refine z_istore_n dX6_addOnFlood_1 rfl (by decide) rfl ?_
  exact k

set_option maxRecDepth 100000 in
set_option maxHeartbeats 4000000 in
theorem r_X6_addOnFlood_2 {P : Int32 → zM → Prop} (l1 : Int64) (x3 : Int32) (F : Nat → Int32) (I : Nat → Nat → Int32) (J : Nat → Nat → Int64)
  (k : (((F 6) ≤ x3 → P (F 6) (F, I, J)) ∧ (¬ (F 6) ≤ x3 → vp_in x3 100 ∧ vp_in (I 8 (zn x3)) 100 ∧ vp_in (I 8 (zn x3)) 100 ∧ AW m_X6_addOnFlood (z_pi P) 2 [some (.ref 0), some (.long l1), none, some (.int (x3 + 1))] [] (F, I, z_ul J 0 (zn (I 8 (zn x3))) ((J 0 (zn (I 8 (zn x3)))) + l1))))) :
  AW m_X6_addOnFlood (z_pi P) 2 [some (.ref 0), some (.long l1), none, some (.int x3)] [] (F, I, J) := by
  refine z_iload_n dX6_addOnFlood_2 rfl rfl ?_
  refine z_aload_n dX6_addOnFlood_3 rfl rfl ?_
  refine z_getr dX6_addOnFlood_4 fl_X6_27 lo0_0 rfl ?_
  refine z_geti dX6_addOnFlood_7 fl_X6_152 lo0_12 rfl ?_
  refine z_icmp_ge 37 dX6_addOnFlood_10 (by decide) ⟨fun h1 => ?_, fun h1 => ?_⟩
  · replace k := k.1 h1
    refine z_aload_n dX6_addOnFlood_37 rfl rfl ?_
    refine z_getr dX6_addOnFlood_38 fl_X6_27 lo0_0 rfl ?_
    refine z_geti dX6_addOnFlood_41 fl_X6_152 lo0_12 rfl ?_
    exact z_ireturn (st := []) rfl dX6_addOnFlood_44 ⟨_, rfl, k⟩
  · replace k := k.2 h1
    refine z_aload_n dX6_addOnFlood_13 rfl rfl ?_
    refine z_getr dX6_addOnFlood_14 fl_X6_9 lo0_0 rfl ?_
    refine z_aload_n dX6_addOnFlood_17 rfl rfl ?_
    refine z_getr dX6_addOnFlood_18 fl_X6_27 lo0_0 rfl ?_
    refine z_getr dX6_addOnFlood_21 fl_X6_195 lo0_12 rfl ?_
    refine z_iload_n dX6_addOnFlood_24 rfl rfl ?_
    refine z_iald dX6_addOnFlood_25 lo0_13 ⟨k.1, ?_⟩
    replace k := k.2
    refine z_dup2 dX6_addOnFlood_26 rfl rfl ?_
    refine z_lald dX6_addOnFlood_27 lo0_1 ⟨k.1, ?_⟩
    replace k := k.2
    refine z_lload_n dX6_addOnFlood_28 rfl rfl ?_
    refine z_ladd dX6_addOnFlood_29 ?_
    refine z_last dX6_addOnFlood_30 lo0_1 ⟨k.1, ?_⟩
    replace k := k.2
    refine z_iinc (v := (x3 + 1)) dX6_addOnFlood_31 rfl rfl (by decide) rfl ?_
    refine z_goto 2 dX6_addOnFlood_34 (by decide) ?_
    exact k

set_option maxRecDepth 100000 in
set_option maxHeartbeats 4000000 in
theorem r_X6_displaceHeavier_0 {P : Int32 → zM → Prop} (x1 : Int32) (F : Nat → Int32) (I : Nat → Nat → Int32) (J : Nat → Nat → Int64)
  (k : AMi m_X5_heaviestOf [.ref 22, .ref 3] (F, I, J) (fun r8 M8 => ((r8 = (-1) → P (-1) M8) ∧ (¬ r8 = (-1) → AMi m_X0_isHeavier [.ref 3, .int r8, .int x1] M8 (fun r23 M23 => ((¬ r23 = 0 → vp_in r8 300 ∧ vp_in x1 300 ∧ P r8 (M23.1, z_ui (z_ui M23.2.1 3 (zn r8) 2) 3 (zn x1) 1, M23.2.2)) ∧ (r23 = 0 → P (-1) M23))))))) :
  AMi m_X6_displaceHeavier [.ref 0, .int x1] (F, I, J) P := by
  refine z_entry (pad := 1) [some (.ref 0), some (.int x1), none] (by decide) rfl rfl (fun _ => Nat.le_of_ble_eq_true rfl) ?_
  refine z_aload_n dX6_displaceHeavier_0 rfl rfl ?_
  refine z_getr dX6_displaceHeavier_1 fl_X6_37 lo0_0 rfl ?_
  refine z_aload_n dX6_displaceHeavier_4 rfl rfl ?_
  refine z_getr dX6_displaceHeavier_5 fl_X6_20 lo0_0 rfl ?_
  refine z_calli (I := m_X6_displaceHeavier) (I2 := m_X5_heaviestOf) (st := []) [.ref 3] dX6_displaceHeavier_8 ml_X6_159 rfl (by decide) lo0_22 rfl (Nat.le_of_ble_eq_true rfl) rfl (AMi.mono k (fun r8 M8 k => ?_))
  refine z_istore_n dX6_displaceHeavier_11 rfl (by decide) rfl ?_
  refine z_iload_n dX6_displaceHeavier_12 rfl rfl ?_
  refine z_iconst (v := (-1)) dX6_displaceHeavier_13 (by decide) ?_
  refine z_icmp_eq 29 dX6_displaceHeavier_14 (by decide) ⟨fun h1 => ?_, fun h1 => ?_⟩
  · replace k := k.1 h1
    refine z_iconst (v := (-1)) dX6_displaceHeavier_29 (by decide) ?_
    exact z_ireturn (st := []) rfl dX6_displaceHeavier_30 ⟨_, rfl, k⟩
  · replace k := k.2 h1
    refine z_aload_n dX6_displaceHeavier_17 rfl rfl ?_
    refine z_getr dX6_displaceHeavier_18 fl_X6_20 lo0_0 rfl ?_
    refine z_iload_n dX6_displaceHeavier_21 rfl rfl ?_
    refine z_iload_n dX6_displaceHeavier_22 rfl rfl ?_
    refine z_calli (I := m_X6_displaceHeavier) (I2 := m_X0_isHeavier) (st := []) [.int r8, .int x1] dX6_displaceHeavier_23 ml_X6_277 rfl (by decide) lo0_3 rfl (Nat.le_of_ble_eq_true rfl) rfl (AMi.mono k (fun r23 M23 k => ?_))
    refine z_if_ne 31 dX6_displaceHeavier_26 (by decide) ⟨fun h2 => ?_, fun h2 => ?_⟩
    · replace k := k.1 h2
      refine z_aload_n dX6_displaceHeavier_31 rfl rfl ?_
      refine z_getr dX6_displaceHeavier_32 fl_X6_20 lo0_0 rfl ?_
      refine z_getr dX6_displaceHeavier_35 fl_X6_101 lo0_3 rfl ?_
      refine z_iload_n dX6_displaceHeavier_38 rfl rfl ?_
      refine z_iconst (v := 2) dX6_displaceHeavier_39 (by decide) ?_
      refine z_iast dX6_displaceHeavier_40 lo0_7 ⟨k.1, ?_⟩
      replace k := k.2
      refine z_aload_n dX6_displaceHeavier_41 rfl rfl ?_
      refine z_getr dX6_displaceHeavier_42 fl_X6_20 lo0_0 rfl ?_
      refine z_getr dX6_displaceHeavier_45 fl_X6_101 lo0_3 rfl ?_
      refine z_iload_n dX6_displaceHeavier_48 rfl rfl ?_
      refine z_iconst (v := 1) dX6_displaceHeavier_49 (by decide) ?_
      refine z_iast dX6_displaceHeavier_50 lo0_7 ⟨k.1, ?_⟩
      replace k := k.2
      refine z_iload_n dX6_displaceHeavier_51 rfl rfl ?_
      exact z_ireturn (st := []) rfl dX6_displaceHeavier_52 ⟨_, rfl, k⟩
    · replace k := k.2 h2
      refine z_iconst (v := (-1)) dX6_displaceHeavier_29 (by decide) ?_
      exact z_ireturn (st := []) rfl dX6_displaceHeavier_30 ⟨_, rfl, k⟩

set_option maxRecDepth 100000 in
set_option maxHeartbeats 4000000 in
theorem r_X6_findHeir_0 {P : Int32 → zM → Prop} (x1 : Int32) (x2 : Int32) (F : Nat → Int32) (I : Nat → Nat → Int32) (J : Nat → Nat → Int64)
  (k : (((F 2) = 1 → AMi m_X6_findHeirByLevels [.ref 0, .int x1, .int x2] (F, I, J) (fun r35 M35 => P r35 M35)) ∧ (¬ (F 2) = 1 → (((F 2) = 2 → AMi m_X6_findLightestAcross [.ref 0, .int x1] (F, I, J) (fun r41 M41 => P r41 M41)) ∧ (¬ (F 2) = 2 → P (-1) (F, I, J)))))) :
  AMi m_X6_findHeir [.ref 0, .int x1, .int x2] (F, I, J) P := by
  refine z_entry (pad := 0) [some (.ref 0), some (.int x1), some (.int x2)] (by decide) rfl rfl (fun _ => Nat.le_of_ble_eq_true rfl) ?_
  refine z_aload_n dX6_findHeir_0 rfl rfl ?_
  refine z_geti dX6_findHeir_1 fl_X6_61 lo0_0 rfl ?_
  refine z_case 1 (F 2) ⟨fun h1 => ?_, fun h1 => ?_⟩
  · replace k := k.1 h1
    refine z_lkp (off := 28) 32 dX6_findHeir_4 (by decide) (by (try dsimp only); rw [h1]; decide) (by decide) ?_
    refine z_aload_n dX6_findHeir_32 rfl rfl ?_
    refine z_iload_n dX6_findHeir_33 rfl rfl ?_
    refine z_iload_n dX6_findHeir_34 rfl rfl ?_
    refine z_calli (I := m_X6_findHeir) (I2 := m_X6_findHeirByLevels) (st := []) [.int x1, .int x2] dX6_findHeir_35 ml_X6_281 rfl (by decide) lo0_0 rfl (Nat.le_of_ble_eq_true rfl) rfl (AMi.mono k (fun r35 M35 k => ?_))
    exact z_ireturn (st := []) rfl dX6_findHeir_38 ⟨_, rfl, k⟩
  replace k := k.2 h1
  refine z_case 2 (F 2) ⟨fun h2 => ?_, fun h2 => ?_⟩
  · replace k := k.1 h2
    refine z_lkp (off := 35) 39 dX6_findHeir_4 (by decide) (by (try dsimp only); rw [h2]; decide) (by decide) ?_
    refine z_aload_n dX6_findHeir_39 rfl rfl ?_
    refine z_iload_n dX6_findHeir_40 rfl rfl ?_
    refine z_calli (I := m_X6_findHeir) (I2 := m_X6_findLightestAcross) (st := []) [.int x1] dX6_findHeir_41 ml_X6_284 rfl (by decide) lo0_0 rfl (Nat.le_of_ble_eq_true rfl) rfl (AMi.mono k (fun r41 M41 k => ?_))
    exact z_ireturn (st := []) rfl dX6_findHeir_44 ⟨_, rfl, k⟩
  replace k := k.2 h2
  have eh1 := lv_neT h1 (a := 1) (by decide)
  have eh2 := lv_neT h2 (a := 2) (by decide)
  refine z_lkp (off := 41) 45 dX6_findHeir_4 (by decide) (by (try dsimp only); rw [lv_osw h1 (by decide)]; rw [lv_osw h2 (by decide)]; rfl) (by decide) ?_
  refine z_iconst (v := (-1)) dX6_findHeir_45 (by decide) ?_
  exact z_ireturn (st := []) rfl dX6_findHeir_46 ⟨_, rfl, k⟩

set_option maxRecDepth 100000 in
set_option maxHeartbeats 4000000 in
theorem r_X6_findHeirByLevels_0 {P : Int32 → zM → Prop} (x1 : Int32) (x2 : Int32) (F : Nat → Int32) (I : Nat → Nat → Int32) (J : Nat → Nat → Int64)
  (k : vp_in x1 300 ∧ AW m_X6_findHeirByLevels (z_pi P) 10 [some (.ref 0), some (.int x1), some (.int x2), some (.int (I 4 (zn x1))), none, none] [] (F, I, J)) :
  AMi m_X6_findHeirByLevels [.ref 0, .int x1, .int x2] (F, I, J) P := by
  refine z_entry (pad := 3) [some (.ref 0), some (.int x1), some (.int x2), none, none, none] (by decide) rfl rfl (fun _ => Nat.le_of_ble_eq_true rfl) ?_
  refine z_aload_n dX6_findHeirByLevels_0 rfl rfl ?_
  refine z_getr dX6_findHeirByLevels_1 fl_X6_20 lo0_0 rfl ?_
  refine z_getr dX6_findHeirByLevels_4 fl_X6_120 lo0_3 rfl ?_
  refine z_iload_n dX6_findHeirByLevels_7 rfl rfl ?_
  refine z_iald dX6_findHeirByLevels_8 lo0_8 ⟨k.1, ?_⟩
  replace k := k.2
  refine z_istore_n dX6_findHeirByLevels_9 rfl (by decide) rfl ?_
  exact k

set_option maxRecDepth 100000 in
set_option maxHeartbeats 4000000 in
theorem r_X6_findHeirByLevels_10 {P : Int32 → zM → Prop} (x1 : Int32) (x2 : Int32) (x3 : Int32) (F : Nat → Int32) (I : Nat → Nat → Int32) (J : Nat → Nat → Int64)
  (k : ((x3 < 0 → P (-1) (F, I, J)) ∧ (¬ x3 < 0 → AMr m_X6_floodSmaller [.ref 0, .int x1, .int x3] (F, I, J) (fun r17 M17 => (r17 = 12 ∧ ((x2 = 0 → AMi m_X6_findHeirAt [.ref 0, .ref 12, .int x3, .int x2] M17 (fun r38 M38 => ((r38 = (-1) → AW m_X6_findHeirByLevels (z_pi P) 10 [some (.ref 0), some (.int x1), some (.int x2), some (.int (x3 + (-1))), none, none] [] M38) ∧ (¬ r38 = (-1) → P r38 M38)))) ∧ (¬ x2 = 0 → AMv m_X6_raiseTrees [.ref 0, .ref 12, .int x3] M17 (fun M30 => AMi m_X6_findHeirAt [.ref 0, .ref 12, .int x3, .int x2] M30 (fun r38 M38 => ((r38 = (-1) → AW m_X6_findHeirByLevels (z_pi P) 10 [some (.ref 0), some (.int x1), some (.int x2), some (.int (x3 + (-1))), none, none] [] M38) ∧ (¬ r38 = (-1) → P r38 M38))))))) ∨ (r17 = 17 ∧ ((x2 = 0 → AMi m_X6_findHeirAt [.ref 0, .ref 17, .int x3, .int x2] M17 (fun r38 M38 => ((r38 = (-1) → AW m_X6_findHeirByLevels (z_pi P) 10 [some (.ref 0), some (.int x1), some (.int x2), some (.int (x3 + (-1))), none, none] [] M38) ∧ (¬ r38 = (-1) → P r38 M38)))) ∧ (¬ x2 = 0 → AMv m_X6_raiseTrees [.ref 0, .ref 17, .int x3] M17 (fun M30 => AMi m_X6_findHeirAt [.ref 0, .ref 17, .int x3, .int x2] M30 (fun r38 M38 => ((r38 = (-1) → AW m_X6_findHeirByLevels (z_pi P) 10 [some (.ref 0), some (.int x1), some (.int x2), some (.int (x3 + (-1))), none, none] [] M38) ∧ (¬ r38 = (-1) → P r38 M38))))))))))) :
  AW m_X6_findHeirByLevels (z_pi P) 10 [some (.ref 0), some (.int x1), some (.int x2), some (.int x3), none, none] [] (F, I, J) := by
  refine z_iload_n dX6_findHeirByLevels_10 rfl rfl ?_
  refine z_if_lt 58 dX6_findHeirByLevels_11 (by decide) ⟨fun h1 => ?_, fun h1 => ?_⟩
  · replace k := k.1 h1
    refine z_iconst (v := (-1)) dX6_findHeirByLevels_58 (by decide) ?_
    exact z_ireturn (st := []) rfl dX6_findHeirByLevels_59 ⟨_, rfl, k⟩
  · replace k := k.2 h1
    refine z_aload_n dX6_findHeirByLevels_14 rfl rfl ?_
    refine z_iload_n dX6_findHeirByLevels_15 rfl rfl ?_
    refine z_iload_n dX6_findHeirByLevels_16 rfl rfl ?_
    refine z_callr (I := m_X6_findHeirByLevels) (I2 := m_X6_floodSmaller) (st := []) [.int x1, .int x3] dX6_findHeirByLevels_17 ml_X6_287 rfl (by decide) lo0_0 rfl (Nat.le_of_ble_eq_true rfl) rfl (AMr.mono k (fun r17 M17 k => ?_))
    rcases k with ⟨er17, k⟩ | ⟨er17, k⟩
    · subst er17
      refine z_astore dX6_findHeirByLevels_20 (by decide) rfl ?_
      refine z_iload_n dX6_findHeirByLevels_22 rfl rfl ?_
      refine z_if_eq 33 dX6_findHeirByLevels_23 (by decide) ⟨fun h2 => ?_, fun h2 => ?_⟩
      · replace k := k.1 h2
        refine z_aload_n dX6_findHeirByLevels_33 rfl rfl ?_
        refine z_aload dX6_findHeirByLevels_34 rfl ?_
        refine z_iload_n dX6_findHeirByLevels_36 rfl rfl ?_
        refine z_iload_n dX6_findHeirByLevels_37 rfl rfl ?_
        refine z_calli (I := m_X6_findHeirByLevels) (I2 := m_X6_findHeirAt) (st := []) [.ref 12, .int x3, .int x2] dX6_findHeirByLevels_38 ml_X6_295 rfl (by decide) lo0_0 rfl (Nat.le_of_ble_eq_true rfl) rfl (AMi.mono k (fun r38 M38 k => ?_))
        refine z_istore dX6_findHeirByLevels_41 (by decide) rfl ?_
        refine z_iload dX6_findHeirByLevels_43 rfl ?_
        refine z_iconst (v := (-1)) dX6_findHeirByLevels_45 (by decide) ?_
        refine z_icmp_eq 52 dX6_findHeirByLevels_46 (by decide) ⟨fun h3 => ?_, fun h3 => ?_⟩
        · replace k := k.1 h3
          refine z_iinc (v := (x3 + (-1))) dX6_findHeirByLevels_52 rfl rfl (by decide) rfl ?_
          refine z_goto 10 dX6_findHeirByLevels_55 (by decide) ?_
          refine z_wk [some (.ref 0), some (.int x1), some (.int x2), some (.int (x3 + (-1))), none, none] (z_le_some (z_le_some (z_le_some (z_le_some (z_le_none (z_le_none z_le_nil)))))) ?_
          exact k
        · replace k := k.2 h3
          refine z_iload dX6_findHeirByLevels_49 rfl ?_
          exact z_ireturn (st := []) rfl dX6_findHeirByLevels_51 ⟨_, rfl, k⟩
      · replace k := k.2 h2
        refine z_aload_n dX6_findHeirByLevels_26 rfl rfl ?_
        refine z_aload dX6_findHeirByLevels_27 rfl ?_
        refine z_iload_n dX6_findHeirByLevels_29 rfl rfl ?_
        refine z_callv (I := m_X6_findHeirByLevels) (I2 := m_X6_raiseTrees) (st := []) [.ref 12, .int x3] dX6_findHeirByLevels_30 ml_X6_291 rfl (by decide) lo0_0 rfl (Nat.le_of_ble_eq_true rfl) rfl (AMv.mono k (fun M30 k => ?_))
        refine z_aload_n dX6_findHeirByLevels_33 rfl rfl ?_
        refine z_aload dX6_findHeirByLevels_34 rfl ?_
        refine z_iload_n dX6_findHeirByLevels_36 rfl rfl ?_
        refine z_iload_n dX6_findHeirByLevels_37 rfl rfl ?_
        refine z_calli (I := m_X6_findHeirByLevels) (I2 := m_X6_findHeirAt) (st := []) [.ref 12, .int x3, .int x2] dX6_findHeirByLevels_38 ml_X6_295 rfl (by decide) lo0_0 rfl (Nat.le_of_ble_eq_true rfl) rfl (AMi.mono k (fun r38 M38 k => ?_))
        refine z_istore dX6_findHeirByLevels_41 (by decide) rfl ?_
        refine z_iload dX6_findHeirByLevels_43 rfl ?_
        refine z_iconst (v := (-1)) dX6_findHeirByLevels_45 (by decide) ?_
        refine z_icmp_eq 52 dX6_findHeirByLevels_46 (by decide) ⟨fun h4 => ?_, fun h4 => ?_⟩
        · replace k := k.1 h4
          refine z_iinc (v := (x3 + (-1))) dX6_findHeirByLevels_52 rfl rfl (by decide) rfl ?_
          refine z_goto 10 dX6_findHeirByLevels_55 (by decide) ?_
          refine z_wk [some (.ref 0), some (.int x1), some (.int x2), some (.int (x3 + (-1))), none, none] (z_le_some (z_le_some (z_le_some (z_le_some (z_le_none (z_le_none z_le_nil)))))) ?_
          exact k
        · replace k := k.2 h4
          refine z_iload dX6_findHeirByLevels_49 rfl ?_
          exact z_ireturn (st := []) rfl dX6_findHeirByLevels_51 ⟨_, rfl, k⟩
    · subst er17
      refine z_astore dX6_findHeirByLevels_20 (by decide) rfl ?_
      refine z_iload_n dX6_findHeirByLevels_22 rfl rfl ?_
      refine z_if_eq 33 dX6_findHeirByLevels_23 (by decide) ⟨fun h5 => ?_, fun h5 => ?_⟩
      · replace k := k.1 h5
        refine z_aload_n dX6_findHeirByLevels_33 rfl rfl ?_
        refine z_aload dX6_findHeirByLevels_34 rfl ?_
        refine z_iload_n dX6_findHeirByLevels_36 rfl rfl ?_
        refine z_iload_n dX6_findHeirByLevels_37 rfl rfl ?_
        refine z_calli (I := m_X6_findHeirByLevels) (I2 := m_X6_findHeirAt) (st := []) [.ref 17, .int x3, .int x2] dX6_findHeirByLevels_38 ml_X6_295 rfl (by decide) lo0_0 rfl (Nat.le_of_ble_eq_true rfl) rfl (AMi.mono k (fun r38 M38 k => ?_))
        refine z_istore dX6_findHeirByLevels_41 (by decide) rfl ?_
        refine z_iload dX6_findHeirByLevels_43 rfl ?_
        refine z_iconst (v := (-1)) dX6_findHeirByLevels_45 (by decide) ?_
        refine z_icmp_eq 52 dX6_findHeirByLevels_46 (by decide) ⟨fun h6 => ?_, fun h6 => ?_⟩
        · replace k := k.1 h6
          refine z_iinc (v := (x3 + (-1))) dX6_findHeirByLevels_52 rfl rfl (by decide) rfl ?_
          refine z_goto 10 dX6_findHeirByLevels_55 (by decide) ?_
          refine z_wk [some (.ref 0), some (.int x1), some (.int x2), some (.int (x3 + (-1))), none, none] (z_le_some (z_le_some (z_le_some (z_le_some (z_le_none (z_le_none z_le_nil)))))) ?_
          exact k
        · replace k := k.2 h6
          refine z_iload dX6_findHeirByLevels_49 rfl ?_
          exact z_ireturn (st := []) rfl dX6_findHeirByLevels_51 ⟨_, rfl, k⟩
      · replace k := k.2 h5
        refine z_aload_n dX6_findHeirByLevels_26 rfl rfl ?_
        refine z_aload dX6_findHeirByLevels_27 rfl ?_
        refine z_iload_n dX6_findHeirByLevels_29 rfl rfl ?_
        refine z_callv (I := m_X6_findHeirByLevels) (I2 := m_X6_raiseTrees) (st := []) [.ref 17, .int x3] dX6_findHeirByLevels_30 ml_X6_291 rfl (by decide) lo0_0 rfl (Nat.le_of_ble_eq_true rfl) rfl (AMv.mono k (fun M30 k => ?_))
        refine z_aload_n dX6_findHeirByLevels_33 rfl rfl ?_
        refine z_aload dX6_findHeirByLevels_34 rfl ?_
        refine z_iload_n dX6_findHeirByLevels_36 rfl rfl ?_
        refine z_iload_n dX6_findHeirByLevels_37 rfl rfl ?_
        refine z_calli (I := m_X6_findHeirByLevels) (I2 := m_X6_findHeirAt) (st := []) [.ref 17, .int x3, .int x2] dX6_findHeirByLevels_38 ml_X6_295 rfl (by decide) lo0_0 rfl (Nat.le_of_ble_eq_true rfl) rfl (AMi.mono k (fun r38 M38 k => ?_))
        refine z_istore dX6_findHeirByLevels_41 (by decide) rfl ?_
        refine z_iload dX6_findHeirByLevels_43 rfl ?_
        refine z_iconst (v := (-1)) dX6_findHeirByLevels_45 (by decide) ?_
        refine z_icmp_eq 52 dX6_findHeirByLevels_46 (by decide) ⟨fun h7 => ?_, fun h7 => ?_⟩
        · replace k := k.1 h7
          refine z_iinc (v := (x3 + (-1))) dX6_findHeirByLevels_52 rfl rfl (by decide) rfl ?_
          refine z_goto 10 dX6_findHeirByLevels_55 (by decide) ?_
          refine z_wk [some (.ref 0), some (.int x1), some (.int x2), some (.int (x3 + (-1))), none, none] (z_le_some (z_le_some (z_le_some (z_le_some (z_le_none (z_le_none z_le_nil)))))) ?_
          exact k
        · replace k := k.2 h7
          refine z_iload dX6_findHeirByLevels_49 rfl ?_
          exact z_ireturn (st := []) rfl dX6_findHeirByLevels_51 ⟨_, rfl, k⟩

set_option maxRecDepth 100000 in
set_option maxHeartbeats 4000000 in
theorem r_X6_floodSmaller_0 {P : Nat → zM → Prop} (x1 : Int32) (x2 : Int32) (F : Nat → Int32) (I : Nat → Nat → Int32) (J : Nat → Nat → Int64)
  (k : vp_in x1 300 ∧ AMv m_X1_spread [.ref 12, .ref 3, .int (I 1 (zn x1)), .int x1, .int x2] (F, I, J) (fun M19 => vp_in x1 300 ∧ AMv m_X1_spread [.ref 17, .ref 3, .int (M19.2.1 2 (zn x1)), .int x1, .int x2] M19 (fun M41 => (((M41.1 7) < (M41.1 6) → P 17 M41) ∧ (¬ (M41.1 7) < (M41.1 6) → P 12 M41))))) :
  AMr m_X6_floodSmaller [.ref 0, .int x1, .int x2] (F, I, J) P := by
  refine z_entry (pad := 0) [some (.ref 0), some (.int x1), some (.int x2)] (by decide) rfl rfl (fun _ => Nat.le_of_ble_eq_true rfl) ?_
  refine z_aload_n dX6_floodSmaller_0 rfl rfl ?_
  refine z_getr dX6_floodSmaller_1 fl_X6_27 lo0_0 rfl ?_
  refine z_aload_n dX6_floodSmaller_4 rfl rfl ?_
  refine z_getr dX6_floodSmaller_5 fl_X6_20 lo0_0 rfl ?_
  refine z_aload_n dX6_floodSmaller_8 rfl rfl ?_
  refine z_getr dX6_floodSmaller_9 fl_X6_20 lo0_0 rfl ?_
  refine z_getr dX6_floodSmaller_12 fl_X6_114 lo0_3 rfl ?_
  refine z_iload_n dX6_floodSmaller_15 rfl rfl ?_
  refine z_iald dX6_floodSmaller_16 lo0_4 ⟨k.1, ?_⟩
  replace k := k.2
  refine z_iload_n dX6_floodSmaller_17 rfl rfl ?_
  refine z_iload_n dX6_floodSmaller_18 rfl rfl ?_
  refine z_callv (I := m_X6_floodSmaller) (I2 := m_X1_spread) (st := []) [.ref 3, .int (I 1 (zn x1)), .int x1, .int x2] dX6_floodSmaller_19 ml_X6_270 rfl (by decide) lo0_12 rfl (Nat.le_of_ble_eq_true rfl) rfl (AMv.mono k (fun M19 k => ?_))
  refine z_aload_n dX6_floodSmaller_22 rfl rfl ?_
  refine z_getr dX6_floodSmaller_23 fl_X6_31 lo0_0 rfl ?_
  refine z_aload_n dX6_floodSmaller_26 rfl rfl ?_
  refine z_getr dX6_floodSmaller_27 fl_X6_20 lo0_0 rfl ?_
  refine z_aload_n dX6_floodSmaller_30 rfl rfl ?_
  refine z_getr dX6_floodSmaller_31 fl_X6_20 lo0_0 rfl ?_
  refine z_getr dX6_floodSmaller_34 fl_X6_117 lo0_3 rfl ?_
  refine z_iload_n dX6_floodSmaller_37 rfl rfl ?_
  refine z_iald dX6_floodSmaller_38 lo0_5 ⟨k.1, ?_⟩
  replace k := k.2
  refine z_iload_n dX6_floodSmaller_39 rfl rfl ?_
  refine z_iload_n dX6_floodSmaller_40 rfl rfl ?_
  refine z_callv (I := m_X6_floodSmaller) (I2 := m_X1_spread) (st := []) [.ref 3, .int (M19.2.1 2 (zn x1)), .int x1, .int x2] dX6_floodSmaller_41 ml_X6_270 rfl (by decide) lo0_17 rfl (Nat.le_of_ble_eq_true rfl) rfl (AMv.mono k (fun M41 k => ?_))
  refine z_aload_n dX6_floodSmaller_44 rfl rfl ?_
  refine z_getr dX6_floodSmaller_45 fl_X6_27 lo0_0 rfl ?_
  refine z_geti dX6_floodSmaller_48 fl_X6_152 lo0_12 rfl ?_
  refine z_aload_n dX6_floodSmaller_51 rfl rfl ?_
  refine z_getr dX6_floodSmaller_52 fl_X6_31 lo0_0 rfl ?_
  refine z_geti dX6_floodSmaller_55 fl_X6_152 lo0_17 rfl ?_
  refine z_icmp_gt 68 dX6_floodSmaller_58 (by decide) ⟨fun h1 => ?_, fun h1 => ?_⟩
  · replace k := k.1 h1
    refine z_aload_n dX6_floodSmaller_68 rfl rfl ?_
    refine z_getr dX6_floodSmaller_69 fl_X6_31 lo0_0 rfl ?_
    exact z_areturn (st := []) rfl dX6_floodSmaller_72 ⟨_, rfl, k⟩
  · replace k := k.2 h1
    refine z_aload_n dX6_floodSmaller_61 rfl rfl ?_
    refine z_getr dX6_floodSmaller_62 fl_X6_27 lo0_0 rfl ?_
    refine z_goto 72 dX6_floodSmaller_65 (by decide) ?_
    exact z_areturn (st := []) rfl dX6_floodSmaller_72 ⟨_, rfl, k⟩

set_option maxRecDepth 100000 in
set_option maxHeartbeats 4000000 in
theorem r_X6_raiseTrees_a_0 {P : zM → Prop} (x2 : Int32) (F : Nat → Int32) (I : Nat → Nat → Int32) (J : Nat → Nat → Int64)
  (k : AW m_X6_raiseTrees (z_pv P) 2 [some (.ref 0), some (.ref 12), some (.int x2), some (.int 0)] [] (F, I, J)) :
  AMv m_X6_raiseTrees [.ref 0, .ref 12, .int x2] (F, I, J) P := by
  refine z_entry (pad := 1) [some (.ref 0), some (.ref 12), some (.int x2), none] (by decide) rfl rfl (fun _ => Nat.le_of_ble_eq_true rfl) ?_
  refine z_iconst (v := 0) dX6_raiseTrees_0 (by decide) ?_
  refine z_istore_n dX6_raiseTrees_1 rfl (by decide) rfl ?_
  exact k

set_option maxRecDepth 100000 in
set_option maxHeartbeats 4000000 in
theorem r_X6_raiseTrees_a_2 {P : zM → Prop} (x2 : Int32) (x3 : Int32) (F : Nat → Int32) (I : Nat → Nat → Int32) (J : Nat → Nat → Int64)
  (k : (((F 4) ≤ x3 → P (F, I, J)) ∧ (¬ (F 4) ≤ x3 → AMi m_X0_isAt [.ref 3, .int x3, .int 1, .int x2] (F, I, J) (fun r20 M20 => ((r20 = 0 → AW m_X6_raiseTrees (z_pv P) 2 [some (.ref 0), some (.ref 12), some (.int x2), some (.int (x3 + 1))] [] M20) ∧ (¬ r20 = 0 → AMi m_X1_endsOf [.ref 12, .ref 3, .int x3] M20 (fun r32 M32 => ((¬ r32 = 2 → AW m_X6_raiseTrees (z_pv P) 2 [some (.ref 0), some (.ref 12), some (.int x2), some (.int (x3 + 1))] [] M32) ∧ (r32 = 2 → AMv m_X0_raise [.ref 3, .int x3] M32 (fun M44 => AW m_X6_raiseTrees (z_pv P) 2 [some (.ref 0), some (.ref 12), some (.int x2), some (.int (x3 + 1))] [] M44)))))))))) :
  AW m_X6_raiseTrees (z_pv P) 2 [some (.ref 0), some (.ref 12), some (.int x2), some (.int x3)] [] (F, I, J) := by
  refine z_iload_n dX6_raiseTrees_2 rfl rfl ?_
  refine z_aload_n dX6_raiseTrees_3 rfl rfl ?_
  refine z_getr dX6_raiseTrees_4 fl_X6_20 lo0_0 rfl ?_
  refine z_geti dX6_raiseTrees_7 fl_X6_75 lo0_3 rfl ?_
  refine z_icmp_ge 53 dX6_raiseTrees_10 (by decide) ⟨fun h1 => ?_, fun h1 => ?_⟩
  · replace k := k.1 h1
    exact z_return (st := []) rfl dX6_raiseTrees_53 ⟨rfl, k⟩
  · replace k := k.2 h1
    refine z_aload_n dX6_raiseTrees_13 rfl rfl ?_
    refine z_getr dX6_raiseTrees_14 fl_X6_20 lo0_0 rfl ?_
    refine z_iload_n dX6_raiseTrees_17 rfl rfl ?_
    refine z_iconst (v := 1) dX6_raiseTrees_18 (by decide) ?_
    refine z_iload_n dX6_raiseTrees_19 rfl rfl ?_
    refine z_calli (I := m_X6_raiseTrees) (I2 := m_X0_isAt) (st := []) [.int x3, .int 1, .int x2] dX6_raiseTrees_20 ml_X6_299 rfl (by decide) lo0_3 rfl (Nat.le_of_ble_eq_true rfl) rfl (AMi.mono k (fun r20 M20 k => ?_))
    refine z_if_eq 47 dX6_raiseTrees_23 (by decide) ⟨fun h2 => ?_, fun h2 => ?_⟩
    · replace k := k.1 h2
      refine z_iinc (v := (x3 + 1)) dX6_raiseTrees_47 rfl rfl (by decide) rfl ?_
      refine z_goto 2 dX6_raiseTrees_50 (by decide) ?_
      exact k
    · replace k := k.2 h2
      refine z_aload_n dX6_raiseTrees_26 rfl rfl ?_
      refine z_aload_n dX6_raiseTrees_27 rfl rfl ?_
      refine z_getr dX6_raiseTrees_28 fl_X6_20 lo0_0 rfl ?_
      refine z_iload_n dX6_raiseTrees_31 rfl rfl ?_
      refine z_calli (I := m_X6_raiseTrees) (I2 := m_X1_endsOf) (st := []) [.ref 3, .int x3] dX6_raiseTrees_32 ml_X6_302 rfl (by decide) lo0_12 rfl (Nat.le_of_ble_eq_true rfl) rfl (AMi.mono k (fun r32 M32 k => ?_))
      refine z_iconst (v := 2) dX6_raiseTrees_35 (by decide) ?_
      refine z_icmp_ne 47 dX6_raiseTrees_36 (by decide) ⟨fun h3 => ?_, fun h3 => ?_⟩
      · replace k := k.1 h3
        refine z_iinc (v := (x3 + 1)) dX6_raiseTrees_47 rfl rfl (by decide) rfl ?_
        refine z_goto 2 dX6_raiseTrees_50 (by decide) ?_
        exact k
      · replace k := k.2 h3
        refine z_aload_n dX6_raiseTrees_39 rfl rfl ?_
        refine z_getr dX6_raiseTrees_40 fl_X6_20 lo0_0 rfl ?_
        refine z_iload_n dX6_raiseTrees_43 rfl rfl ?_
        refine z_callv (I := m_X6_raiseTrees) (I2 := m_X0_raise) (st := []) [.int x3] dX6_raiseTrees_44 ml_X6_305 rfl (by decide) lo0_3 rfl (Nat.le_of_ble_eq_true rfl) rfl (AMv.mono k (fun M44 k => ?_))
        refine z_iinc (v := (x3 + 1)) dX6_raiseTrees_47 rfl rfl (by decide) rfl ?_
        refine z_goto 2 dX6_raiseTrees_50 (by decide) ?_
        exact k

set_option maxRecDepth 100000 in
set_option maxHeartbeats 4000000 in
theorem r_X6_raiseTrees_b_0 {P : zM → Prop} (x2 : Int32) (F : Nat → Int32) (I : Nat → Nat → Int32) (J : Nat → Nat → Int64)
  (k : AW m_X6_raiseTrees (z_pv P) 2 [some (.ref 0), some (.ref 17), some (.int x2), some (.int 0)] [] (F, I, J)) :
  AMv m_X6_raiseTrees [.ref 0, .ref 17, .int x2] (F, I, J) P := by
  refine z_entry (pad := 1) [some (.ref 0), some (.ref 17), some (.int x2), none] (by decide) rfl rfl (fun _ => Nat.le_of_ble_eq_true rfl) ?_
  refine z_iconst (v := 0) dX6_raiseTrees_0 (by decide) ?_
  refine z_istore_n dX6_raiseTrees_1 rfl (by decide) rfl ?_
  exact k

set_option maxRecDepth 100000 in
set_option maxHeartbeats 4000000 in
theorem r_X6_raiseTrees_b_2 {P : zM → Prop} (x2 : Int32) (x3 : Int32) (F : Nat → Int32) (I : Nat → Nat → Int32) (J : Nat → Nat → Int64)
  (k : (((F 4) ≤ x3 → P (F, I, J)) ∧ (¬ (F 4) ≤ x3 → AMi m_X0_isAt [.ref 3, .int x3, .int 1, .int x2] (F, I, J) (fun r20 M20 => ((r20 = 0 → AW m_X6_raiseTrees (z_pv P) 2 [some (.ref 0), some (.ref 17), some (.int x2), some (.int (x3 + 1))] [] M20) ∧ (¬ r20 = 0 → AMi m_X1_endsOf [.ref 17, .ref 3, .int x3] M20 (fun r32 M32 => ((¬ r32 = 2 → AW m_X6_raiseTrees (z_pv P) 2 [some (.ref 0), some (.ref 17), some (.int x2), some (.int (x3 + 1))] [] M32) ∧ (r32 = 2 → AMv m_X0_raise [.ref 3, .int x3] M32 (fun M44 => AW m_X6_raiseTrees (z_pv P) 2 [some (.ref 0), some (.ref 17), some (.int x2), some (.int (x3 + 1))] [] M44)))))))))) :
  AW m_X6_raiseTrees (z_pv P) 2 [some (.ref 0), some (.ref 17), some (.int x2), some (.int x3)] [] (F, I, J) := by
  refine z_iload_n dX6_raiseTrees_2 rfl rfl ?_
  refine z_aload_n dX6_raiseTrees_3 rfl rfl ?_
  refine z_getr dX6_raiseTrees_4 fl_X6_20 lo0_0 rfl ?_
  refine z_geti dX6_raiseTrees_7 fl_X6_75 lo0_3 rfl ?_
  refine z_icmp_ge 53 dX6_raiseTrees_10 (by decide) ⟨fun h1 => ?_, fun h1 => ?_⟩
  · replace k := k.1 h1
    exact z_return (st := []) rfl dX6_raiseTrees_53 ⟨rfl, k⟩
  · replace k := k.2 h1
    refine z_aload_n dX6_raiseTrees_13 rfl rfl ?_
    refine z_getr dX6_raiseTrees_14 fl_X6_20 lo0_0 rfl ?_
    refine z_iload_n dX6_raiseTrees_17 rfl rfl ?_
    refine z_iconst (v := 1) dX6_raiseTrees_18 (by decide) ?_
    refine z_iload_n dX6_raiseTrees_19 rfl rfl ?_
    refine z_calli (I := m_X6_raiseTrees) (I2 := m_X0_isAt) (st := []) [.int x3, .int 1, .int x2] dX6_raiseTrees_20 ml_X6_299 rfl (by decide) lo0_3 rfl (Nat.le_of_ble_eq_true rfl) rfl (AMi.mono k (fun r20 M20 k => ?_))
    refine z_if_eq 47 dX6_raiseTrees_23 (by decide) ⟨fun h2 => ?_, fun h2 => ?_⟩
    · replace k := k.1 h2
      refine z_iinc (v := (x3 + 1)) dX6_raiseTrees_47 rfl rfl (by decide) rfl ?_
      refine z_goto 2 dX6_raiseTrees_50 (by decide) ?_
      exact k
    · replace k := k.2 h2
      refine z_aload_n dX6_raiseTrees_26 rfl rfl ?_
      refine z_aload_n dX6_raiseTrees_27 rfl rfl ?_
      refine z_getr dX6_raiseTrees_28 fl_X6_20 lo0_0 rfl ?_
      refine z_iload_n dX6_raiseTrees_31 rfl rfl ?_
      refine z_calli (I := m_X6_raiseTrees) (I2 := m_X1_endsOf) (st := []) [.ref 3, .int x3] dX6_raiseTrees_32 ml_X6_302 rfl (by decide) lo0_17 rfl (Nat.le_of_ble_eq_true rfl) rfl (AMi.mono k (fun r32 M32 k => ?_))
      refine z_iconst (v := 2) dX6_raiseTrees_35 (by decide) ?_
      refine z_icmp_ne 47 dX6_raiseTrees_36 (by decide) ⟨fun h3 => ?_, fun h3 => ?_⟩
      · replace k := k.1 h3
        refine z_iinc (v := (x3 + 1)) dX6_raiseTrees_47 rfl rfl (by decide) rfl ?_
        refine z_goto 2 dX6_raiseTrees_50 (by decide) ?_
        exact k
      · replace k := k.2 h3
        refine z_aload_n dX6_raiseTrees_39 rfl rfl ?_
        refine z_getr dX6_raiseTrees_40 fl_X6_20 lo0_0 rfl ?_
        refine z_iload_n dX6_raiseTrees_43 rfl rfl ?_
        refine z_callv (I := m_X6_raiseTrees) (I2 := m_X0_raise) (st := []) [.int x3] dX6_raiseTrees_44 ml_X6_305 rfl (by decide) lo0_3 rfl (Nat.le_of_ble_eq_true rfl) rfl (AMv.mono k (fun M44 k => ?_))
        refine z_iinc (v := (x3 + 1)) dX6_raiseTrees_47 rfl rfl (by decide) rfl ?_
        refine z_goto 2 dX6_raiseTrees_50 (by decide) ?_
        exact k

set_option maxRecDepth 100000 in
set_option maxHeartbeats 4000000 in
theorem r_X6_findHeirAt_a_0 {P : Int32 → zM → Prop} (x2 : Int32) (x3 : Int32) (F : Nat → Int32) (I : Nat → Nat → Int32) (J : Nat → Nat → Int64)
  (k : AW m_X6_findHeirAt (z_pi P) 3 [some (.ref 0), some (.ref 12), some (.int x2), some (.int x3), some (.int 0), none] [] (F, I, J)) :
  AMi m_X6_findHeirAt [.ref 0, .ref 12, .int x2, .int x3] (F, I, J) P := by
  refine z_entry (pad := 2) [some (.ref 0), some (.ref 12), some (.int x2), some (.int x3), none, none] (by decide) rfl rfl (fun _ => Nat.le_of_ble_eq_true rfl) ?_
  refine z_iconst (v := 0) dX6_findHeirAt_0 (by decide) ?_
  refine z_istore dX6_findHeirAt_1 (by decide) rfl ?_
  exact k

set_option maxRecDepth 100000 in
set_option maxHeartbeats 4000000 in
theorem r_X6_findHeirAt_a_3 {P : Int32 → zM → Prop} (x2 : Int32) (x3 : Int32) (x4 : Int32) (F : Nat → Int32) (I : Nat → Nat → Int32) (J : Nat → Nat → Int64)
  (k : (((F 4) ≤ x4 → P (-1) (F, I, J)) ∧ (¬ (F 4) ≤ x4 → AMi m_X0_isAt [.ref 3, .int x4, .int 2, .int x2] (F, I, J) (fun r23 M23 => ((¬ r23 = 0 → AMi m_X1_endsOf [.ref 12, .ref 3, .int x4] M23 (fun r39 M39 => ((¬ r39 = 1 → ((¬ r39 = 2 → AW m_X6_findHeirAt (z_pi P) 3 [some (.ref 0), some (.ref 12), some (.int x2), some (.int x3), some (.int (x4 + 1)), none] [] M39) ∧ (r39 = 2 → ((x3 = 0 → AW m_X6_findHeirAt (z_pi P) 3 [some (.ref 0), some (.ref 12), some (.int x2), some (.int x3), some (.int (x4 + 1)), none] [] M39) ∧ (¬ x3 = 0 → AMv m_X0_raise [.ref 3, .int x4] M39 (fun M69 => AW m_X6_findHeirAt (z_pi P) 3 [some (.ref 0), some (.ref 12), some (.int x2), some (.int x3), some (.int (x4 + 1)), none] [] M69)))))) ∧ (r39 = 1 → P x4 M39)))) ∧ (r23 = 0 → AW m_X6_findHeirAt (z_pi P) 3 [some (.ref 0), some (.ref 12), some (.int x2), some (.int x3), some (.int (x4 + 1)), none] [] M23)))))) :
  AW m_X6_findHeirAt (z_pi P) 3 [some (.ref 0), some (.ref 12), some (.int x2), some (.int x3), some (.int x4), none] [] (F, I, J) := by
  refine z_iload dX6_findHeirAt_3 rfl ?_
  refine z_aload_n dX6_findHeirAt_5 rfl rfl ?_
  refine z_getr dX6_findHeirAt_6 fl_X6_20 lo0_0 rfl ?_
  refine z_geti dX6_findHeirAt_9 fl_X6_75 lo0_3 rfl ?_
  refine z_icmp_ge 78 dX6_findHeirAt_12 (by decide) ⟨fun h1 => ?_, fun h1 => ?_⟩
  · replace k := k.1 h1
    refine z_iconst (v := (-1)) dX6_findHeirAt_78 (by decide) ?_
    exact z_ireturn (st := []) rfl dX6_findHeirAt_79 ⟨_, rfl, k⟩
  · replace k := k.2 h1
    refine z_aload_n dX6_findHeirAt_15 rfl rfl ?_
    refine z_getr dX6_findHeirAt_16 fl_X6_20 lo0_0 rfl ?_
    refine z_iload dX6_findHeirAt_19 rfl ?_
    refine z_iconst (v := 2) dX6_findHeirAt_21 (by decide) ?_
    refine z_iload_n dX6_findHeirAt_22 rfl rfl ?_
    refine z_calli (I := m_X6_findHeirAt) (I2 := m_X0_isAt) (st := []) [.int x4, .int 2, .int x2] dX6_findHeirAt_23 ml_X6_299 rfl (by decide) lo0_3 rfl (Nat.le_of_ble_eq_true rfl) rfl (AMi.mono k (fun r23 M23 k => ?_))
    refine z_if_ne 32 dX6_findHeirAt_26 (by decide) ⟨fun h2 => ?_, fun h2 => ?_⟩
    · replace k := k.1 h2
      refine z_aload_n dX6_findHeirAt_32 rfl rfl ?_
      refine z_aload_n dX6_findHeirAt_33 rfl rfl ?_
      refine z_getr dX6_findHeirAt_34 fl_X6_20 lo0_0 rfl ?_
      refine z_iload dX6_findHeirAt_37 rfl ?_
      refine z_calli (I := m_X6_findHeirAt) (I2 := m_X1_endsOf) (st := []) [.ref 3, .int x4] dX6_findHeirAt_39 ml_X6_302 rfl (by decide) lo0_12 rfl (Nat.le_of_ble_eq_true rfl) rfl (AMi.mono k (fun r39 M39 k => ?_))
      refine z_istore dX6_findHeirAt_42 (by decide) rfl ?_
      refine z_iload dX6_findHeirAt_44 rfl ?_
      refine z_iconst (v := 1) dX6_findHeirAt_46 (by decide) ?_
      refine z_icmp_ne 53 dX6_findHeirAt_47 (by decide) ⟨fun h3 => ?_, fun h3 => ?_⟩
      · replace k := k.1 h3
        refine z_iload dX6_findHeirAt_53 rfl ?_
        refine z_iconst (v := 2) dX6_findHeirAt_55 (by decide) ?_
        refine z_icmp_ne 72 dX6_findHeirAt_56 (by decide) ⟨fun h4 => ?_, fun h4 => ?_⟩
        · replace k := k.1 h4
          refine z_iinc (v := (x4 + 1)) dX6_findHeirAt_72 rfl rfl (by decide) rfl ?_
          refine z_goto 3 dX6_findHeirAt_75 (by decide) ?_
          refine z_wk [some (.ref 0), some (.ref 12), some (.int x2), some (.int x3), some (.int (x4 + 1)), none] (z_le_some (z_le_some (z_le_some (z_le_some (z_le_some (z_le_none z_le_nil)))))) ?_
          exact k
        · replace k := k.2 h4
          refine z_iload_n dX6_findHeirAt_59 rfl rfl ?_
          refine z_if_eq 72 dX6_findHeirAt_60 (by decide) ⟨fun h5 => ?_, fun h5 => ?_⟩
          · replace k := k.1 h5
            refine z_iinc (v := (x4 + 1)) dX6_findHeirAt_72 rfl rfl (by decide) rfl ?_
            refine z_goto 3 dX6_findHeirAt_75 (by decide) ?_
            refine z_wk [some (.ref 0), some (.ref 12), some (.int x2), some (.int x3), some (.int (x4 + 1)), none] (z_le_some (z_le_some (z_le_some (z_le_some (z_le_some (z_le_none z_le_nil)))))) ?_
            exact k
          · replace k := k.2 h5
            refine z_aload_n dX6_findHeirAt_63 rfl rfl ?_
            refine z_getr dX6_findHeirAt_64 fl_X6_20 lo0_0 rfl ?_
            refine z_iload dX6_findHeirAt_67 rfl ?_
            refine z_callv (I := m_X6_findHeirAt) (I2 := m_X0_raise) (st := []) [.int x4] dX6_findHeirAt_69 ml_X6_305 rfl (by decide) lo0_3 rfl (Nat.le_of_ble_eq_true rfl) rfl (AMv.mono k (fun M69 k => ?_))
            refine z_iinc (v := (x4 + 1)) dX6_findHeirAt_72 rfl rfl (by decide) rfl ?_
            refine z_goto 3 dX6_findHeirAt_75 (by decide) ?_
            refine z_wk [some (.ref 0), some (.ref 12), some (.int x2), some (.int x3), some (.int (x4 + 1)), none] (z_le_some (z_le_some (z_le_some (z_le_some (z_le_some (z_le_none z_le_nil)))))) ?_
            exact k
      · replace k := k.2 h3
        refine z_iload dX6_findHeirAt_50 rfl ?_
        exact z_ireturn (st := []) rfl dX6_findHeirAt_52 ⟨_, rfl, k⟩
    · replace k := k.2 h2
      refine z_goto 72 dX6_findHeirAt_29 (by decide) ?_
      refine z_iinc (v := (x4 + 1)) dX6_findHeirAt_72 rfl rfl (by decide) rfl ?_
      refine z_goto 3 dX6_findHeirAt_75 (by decide) ?_
      exact k

set_option maxRecDepth 100000 in
set_option maxHeartbeats 4000000 in
theorem r_X6_findHeirAt_b_0 {P : Int32 → zM → Prop} (x2 : Int32) (x3 : Int32) (F : Nat → Int32) (I : Nat → Nat → Int32) (J : Nat → Nat → Int64)
  (k : AW m_X6_findHeirAt (z_pi P) 3 [some (.ref 0), some (.ref 17), some (.int x2), some (.int x3), some (.int 0), none] [] (F, I, J)) :
  AMi m_X6_findHeirAt [.ref 0, .ref 17, .int x2, .int x3] (F, I, J) P := by
  refine z_entry (pad := 2) [some (.ref 0), some (.ref 17), some (.int x2), some (.int x3), none, none] (by decide) rfl rfl (fun _ => Nat.le_of_ble_eq_true rfl) ?_
  refine z_iconst (v := 0) dX6_findHeirAt_0 (by decide) ?_
  refine z_istore dX6_findHeirAt_1 (by decide) rfl ?_
  exact k

set_option maxRecDepth 100000 in
set_option maxHeartbeats 4000000 in
theorem r_X6_findHeirAt_b_3 {P : Int32 → zM → Prop} (x2 : Int32) (x3 : Int32) (x4 : Int32) (F : Nat → Int32) (I : Nat → Nat → Int32) (J : Nat → Nat → Int64)
  (k : (((F 4) ≤ x4 → P (-1) (F, I, J)) ∧ (¬ (F 4) ≤ x4 → AMi m_X0_isAt [.ref 3, .int x4, .int 2, .int x2] (F, I, J) (fun r23 M23 => ((¬ r23 = 0 → AMi m_X1_endsOf [.ref 17, .ref 3, .int x4] M23 (fun r39 M39 => ((¬ r39 = 1 → ((¬ r39 = 2 → AW m_X6_findHeirAt (z_pi P) 3 [some (.ref 0), some (.ref 17), some (.int x2), some (.int x3), some (.int (x4 + 1)), none] [] M39) ∧ (r39 = 2 → ((x3 = 0 → AW m_X6_findHeirAt (z_pi P) 3 [some (.ref 0), some (.ref 17), some (.int x2), some (.int x3), some (.int (x4 + 1)), none] [] M39) ∧ (¬ x3 = 0 → AMv m_X0_raise [.ref 3, .int x4] M39 (fun M69 => AW m_X6_findHeirAt (z_pi P) 3 [some (.ref 0), some (.ref 17), some (.int x2), some (.int x3), some (.int (x4 + 1)), none] [] M69)))))) ∧ (r39 = 1 → P x4 M39)))) ∧ (r23 = 0 → AW m_X6_findHeirAt (z_pi P) 3 [some (.ref 0), some (.ref 17), some (.int x2), some (.int x3), some (.int (x4 + 1)), none] [] M23)))))) :
  AW m_X6_findHeirAt (z_pi P) 3 [some (.ref 0), some (.ref 17), some (.int x2), some (.int x3), some (.int x4), none] [] (F, I, J) := by
  refine z_iload dX6_findHeirAt_3 rfl ?_
  refine z_aload_n dX6_findHeirAt_5 rfl rfl ?_
  refine z_getr dX6_findHeirAt_6 fl_X6_20 lo0_0 rfl ?_
  refine z_geti dX6_findHeirAt_9 fl_X6_75 lo0_3 rfl ?_
  refine z_icmp_ge 78 dX6_findHeirAt_12 (by decide) ⟨fun h1 => ?_, fun h1 => ?_⟩
  · replace k := k.1 h1
    refine z_iconst (v := (-1)) dX6_findHeirAt_78 (by decide) ?_
    exact z_ireturn (st := []) rfl dX6_findHeirAt_79 ⟨_, rfl, k⟩
  · replace k := k.2 h1
    refine z_aload_n dX6_findHeirAt_15 rfl rfl ?_
    refine z_getr dX6_findHeirAt_16 fl_X6_20 lo0_0 rfl ?_
    refine z_iload dX6_findHeirAt_19 rfl ?_
    refine z_iconst (v := 2) dX6_findHeirAt_21 (by decide) ?_
    refine z_iload_n dX6_findHeirAt_22 rfl rfl ?_
    refine z_calli (I := m_X6_findHeirAt) (I2 := m_X0_isAt) (st := []) [.int x4, .int 2, .int x2] dX6_findHeirAt_23 ml_X6_299 rfl (by decide) lo0_3 rfl (Nat.le_of_ble_eq_true rfl) rfl (AMi.mono k (fun r23 M23 k => ?_))
    refine z_if_ne 32 dX6_findHeirAt_26 (by decide) ⟨fun h2 => ?_, fun h2 => ?_⟩
    · replace k := k.1 h2
      refine z_aload_n dX6_findHeirAt_32 rfl rfl ?_
      refine z_aload_n dX6_findHeirAt_33 rfl rfl ?_
      refine z_getr dX6_findHeirAt_34 fl_X6_20 lo0_0 rfl ?_
      refine z_iload dX6_findHeirAt_37 rfl ?_
      refine z_calli (I := m_X6_findHeirAt) (I2 := m_X1_endsOf) (st := []) [.ref 3, .int x4] dX6_findHeirAt_39 ml_X6_302 rfl (by decide) lo0_17 rfl (Nat.le_of_ble_eq_true rfl) rfl (AMi.mono k (fun r39 M39 k => ?_))
      refine z_istore dX6_findHeirAt_42 (by decide) rfl ?_
      refine z_iload dX6_findHeirAt_44 rfl ?_
      refine z_iconst (v := 1) dX6_findHeirAt_46 (by decide) ?_
      refine z_icmp_ne 53 dX6_findHeirAt_47 (by decide) ⟨fun h3 => ?_, fun h3 => ?_⟩
      · replace k := k.1 h3
        refine z_iload dX6_findHeirAt_53 rfl ?_
        refine z_iconst (v := 2) dX6_findHeirAt_55 (by decide) ?_
        refine z_icmp_ne 72 dX6_findHeirAt_56 (by decide) ⟨fun h4 => ?_, fun h4 => ?_⟩
        · replace k := k.1 h4
          refine z_iinc (v := (x4 + 1)) dX6_findHeirAt_72 rfl rfl (by decide) rfl ?_
          refine z_goto 3 dX6_findHeirAt_75 (by decide) ?_
          refine z_wk [some (.ref 0), some (.ref 17), some (.int x2), some (.int x3), some (.int (x4 + 1)), none] (z_le_some (z_le_some (z_le_some (z_le_some (z_le_some (z_le_none z_le_nil)))))) ?_
          exact k
        · replace k := k.2 h4
          refine z_iload_n dX6_findHeirAt_59 rfl rfl ?_
          refine z_if_eq 72 dX6_findHeirAt_60 (by decide) ⟨fun h5 => ?_, fun h5 => ?_⟩
          · replace k := k.1 h5
            refine z_iinc (v := (x4 + 1)) dX6_findHeirAt_72 rfl rfl (by decide) rfl ?_
            refine z_goto 3 dX6_findHeirAt_75 (by decide) ?_
            refine z_wk [some (.ref 0), some (.ref 17), some (.int x2), some (.int x3), some (.int (x4 + 1)), none] (z_le_some (z_le_some (z_le_some (z_le_some (z_le_some (z_le_none z_le_nil)))))) ?_
            exact k
          · replace k := k.2 h5
            refine z_aload_n dX6_findHeirAt_63 rfl rfl ?_
            refine z_getr dX6_findHeirAt_64 fl_X6_20 lo0_0 rfl ?_
            refine z_iload dX6_findHeirAt_67 rfl ?_
            refine z_callv (I := m_X6_findHeirAt) (I2 := m_X0_raise) (st := []) [.int x4] dX6_findHeirAt_69 ml_X6_305 rfl (by decide) lo0_3 rfl (Nat.le_of_ble_eq_true rfl) rfl (AMv.mono k (fun M69 k => ?_))
            refine z_iinc (v := (x4 + 1)) dX6_findHeirAt_72 rfl rfl (by decide) rfl ?_
            refine z_goto 3 dX6_findHeirAt_75 (by decide) ?_
            refine z_wk [some (.ref 0), some (.ref 17), some (.int x2), some (.int x3), some (.int (x4 + 1)), none] (z_le_some (z_le_some (z_le_some (z_le_some (z_le_some (z_le_none z_le_nil)))))) ?_
            exact k
      · replace k := k.2 h3
        refine z_iload dX6_findHeirAt_50 rfl ?_
        exact z_ireturn (st := []) rfl dX6_findHeirAt_52 ⟨_, rfl, k⟩
    · replace k := k.2 h2
      refine z_goto 72 dX6_findHeirAt_29 (by decide) ?_
      refine z_iinc (v := (x4 + 1)) dX6_findHeirAt_72 rfl rfl (by decide) rfl ?_
      refine z_goto 3 dX6_findHeirAt_75 (by decide) ?_
      exact k

set_option maxRecDepth 100000 in
set_option maxHeartbeats 4000000 in
theorem r_X6_findLightestAcross_0 {P : Int32 → zM → Prop} (x1 : Int32) (F : Nat → Int32) (I : Nat → Nat → Int32) (J : Nat → Nat → Int64)
  (k : vp_in x1 300 ∧ AMv m_X1_spread [.ref 12, .ref 3, .int (I 1 (zn x1)), .int x1, .int 0] (F, I, J) (fun M19 => AW m_X6_findLightestAcross (z_pi P) 26 [some (.ref 0), none, some (.int (-1)), some (.int 0)] [] M19)) :
  AMi m_X6_findLightestAcross [.ref 0, .int x1] (F, I, J) P := by
  refine z_entry (pad := 2) [some (.ref 0), some (.int x1), none, none] (by decide) rfl rfl (fun _ => Nat.le_of_ble_eq_true rfl) ?_
  refine z_aload_n dX6_findLightestAcross_0 rfl rfl ?_
  refine z_getr dX6_findLightestAcross_1 fl_X6_27 lo0_0 rfl ?_
  refine z_aload_n dX6_findLightestAcross_4 rfl rfl ?_
  refine z_getr dX6_findLightestAcross_5 fl_X6_20 lo0_0 rfl ?_
  refine z_aload_n dX6_findLightestAcross_8 rfl rfl ?_
  refine z_getr dX6_findLightestAcross_9 fl_X6_20 lo0_0 rfl ?_
  refine z_getr dX6_findLightestAcross_12 fl_X6_114 lo0_3 rfl ?_
  refine z_iload_n dX6_findLightestAcross_15 rfl rfl ?_
  refine z_iald dX6_findLightestAcross_16 lo0_4 ⟨k.1, ?_⟩
  replace k := k.2
  refine z_iload_n dX6_findLightestAcross_17 rfl rfl ?_
  refine z_iconst (v := 0) dX6_findLightestAcross_18 (by decide) ?_
  refine z_callv (I := m_X6_findLightestAcross) (I2 := m_X1_spread) (st := []) [.ref 3, .int (I 1 (zn x1)), .int x1, .int 0] dX6_findLightestAcross_19 ml_X6_270 rfl (by decide) lo0_12 rfl (Nat.le_of_ble_eq_true rfl) rfl (AMv.mono k (fun M19 k => ?_))
  refine z_iconst (v := (-1)) dX6_findLightestAcross_22 (by decide) ?_
  refine z_istore_n dX6_findLightestAcross_23 rfl (by decide) rfl ?_
  refine z_iconst (v := 0) dX6_findLightestAcross_24 (by decide) ?_
  refine z_istore_n dX6_findLightestAcross_25 rfl (by decide) rfl ?_
  refine z_wk [some (.ref 0), none, some (.int (-1)), some (.int 0)] (z_le_some (z_le_none (z_le_some (z_le_some z_le_nil)))) ?_
  exact k

set_option maxRecDepth 100000 in
set_option maxHeartbeats 4000000 in
theorem r_X6_findLightestAcross_26 {P : Int32 → zM → Prop} (x2 : Int32) (x3 : Int32) (F : Nat → Int32) (I : Nat → Nat → Int32) (J : Nat → Nat → Int64)
  (k : (((F 4) ≤ x3 → P x2 (F, I, J)) ∧ (¬ (F 4) ≤ x3 → vp_in x3 300 ∧ ((¬ (I 3 (zn x3)) = 2 → AW m_X6_findLightestAcross (z_pi P) 26 [some (.ref 0), none, some (.int x2), some (.int (x3 + 1))] [] (F, I, J)) ∧ ((I 3 (zn x3)) = 2 → AMi m_X1_endsOf [.ref 12, .ref 3, .int x3] (F, I, J) (fun r59 M59 => ((¬ r59 = 1 → AW m_X6_findLightestAcross (z_pi P) 26 [some (.ref 0), none, some (.int x2), some (.int (x3 + 1))] [] M59) ∧ (r59 = 1 → ((x2 = (-1) → AW m_X6_findLightestAcross (z_pi P) 26 [some (.ref 0), none, some (.int x3), some (.int (x3 + 1))] [] M59) ∧ (¬ x2 = (-1) → AMi m_X0_isHeavier [.ref 3, .int x2, .int x3] M59 (fun r77 M77 => ((r77 = 0 → AW m_X6_findLightestAcross (z_pi P) 26 [some (.ref 0), none, some (.int x2), some (.int (x3 + 1))] [] M77) ∧ (¬ r77 = 0 → AW m_X6_findLightestAcross (z_pi P) 26 [some (.ref 0), none, some (.int x3), some (.int (x3 + 1))] [] M77))))))))))))) :
  AW m_X6_findLightestAcross (z_pi P) 26 [some (.ref 0), none, some (.int x2), some (.int x3)] [] (F, I, J) := by
  refine z_iload_n dX6_findLightestAcross_26 rfl rfl ?_
  refine z_aload_n dX6_findLightestAcross_27 rfl rfl ?_
  refine z_getr dX6_findLightestAcross_28 fl_X6_20 lo0_0 rfl ?_
  refine z_geti dX6_findLightestAcross_31 fl_X6_75 lo0_3 rfl ?_
  refine z_icmp_ge 91 dX6_findLightestAcross_34 (by decide) ⟨fun h1 => ?_, fun h1 => ?_⟩
  · replace k := k.1 h1
    refine z_iload_n dX6_findLightestAcross_91 rfl rfl ?_
    exact z_ireturn (st := []) rfl dX6_findLightestAcross_92 ⟨_, rfl, k⟩
  · replace k := k.2 h1
    refine z_aload_n dX6_findLightestAcross_37 rfl rfl ?_
    refine z_getr dX6_findLightestAcross_38 fl_X6_20 lo0_0 rfl ?_
    refine z_getr dX6_findLightestAcross_41 fl_X6_101 lo0_3 rfl ?_
    refine z_iload_n dX6_findLightestAcross_44 rfl rfl ?_
    refine z_iald dX6_findLightestAcross_45 lo0_7 ⟨k.1, ?_⟩
    replace k := k.2
    refine z_iconst (v := 2) dX6_findLightestAcross_46 (by decide) ?_
    refine z_icmp_ne 85 dX6_findLightestAcross_47 (by decide) ⟨fun h2 => ?_, fun h2 => ?_⟩
    · replace k := k.1 h2
      refine z_iinc (v := (x3 + 1)) dX6_findLightestAcross_85 rfl rfl (by decide) rfl ?_
      refine z_goto 26 dX6_findLightestAcross_88 (by decide) ?_
      exact k
    · replace k := k.2 h2
      refine z_aload_n dX6_findLightestAcross_50 rfl rfl ?_
      refine z_getr dX6_findLightestAcross_51 fl_X6_27 lo0_0 rfl ?_
      refine z_aload_n dX6_findLightestAcross_54 rfl rfl ?_
      refine z_getr dX6_findLightestAcross_55 fl_X6_20 lo0_0 rfl ?_
      refine z_iload_n dX6_findLightestAcross_58 rfl rfl ?_
      refine z_calli (I := m_X6_findLightestAcross) (I2 := m_X1_endsOf) (st := []) [.ref 3, .int x3] dX6_findLightestAcross_59 ml_X6_302 rfl (by decide) lo0_12 rfl (Nat.le_of_ble_eq_true rfl) rfl (AMi.mono k (fun r59 M59 k => ?_))
      refine z_iconst (v := 1) dX6_findLightestAcross_62 (by decide) ?_
      refine z_icmp_ne 85 dX6_findLightestAcross_63 (by decide) ⟨fun h3 => ?_, fun h3 => ?_⟩
      · replace k := k.1 h3
        refine z_iinc (v := (x3 + 1)) dX6_findLightestAcross_85 rfl rfl (by decide) rfl ?_
        refine z_goto 26 dX6_findLightestAcross_88 (by decide) ?_
        exact k
      · replace k := k.2 h3
        refine z_iload_n dX6_findLightestAcross_66 rfl rfl ?_
        refine z_iconst (v := (-1)) dX6_findLightestAcross_67 (by decide) ?_
        refine z_icmp_eq 83 dX6_findLightestAcross_68 (by decide) ⟨fun h4 => ?_, fun h4 => ?_⟩
        · replace k := k.1 h4
          refine z_iload_n dX6_findLightestAcross_83 rfl rfl ?_
          refine z_istore_n dX6_findLightestAcross_84 rfl (by decide) rfl ?_
          refine z_iinc (v := (x3 + 1)) dX6_findLightestAcross_85 rfl rfl (by decide) rfl ?_
          refine z_goto 26 dX6_findLightestAcross_88 (by decide) ?_
          exact k
        · replace k := k.2 h4
          refine z_aload_n dX6_findLightestAcross_71 rfl rfl ?_
          refine z_getr dX6_findLightestAcross_72 fl_X6_20 lo0_0 rfl ?_
          refine z_iload_n dX6_findLightestAcross_75 rfl rfl ?_
          refine z_iload_n dX6_findLightestAcross_76 rfl rfl ?_
          refine z_calli (I := m_X6_findLightestAcross) (I2 := m_X0_isHeavier) (st := []) [.int x2, .int x3] dX6_findLightestAcross_77 ml_X6_277 rfl (by decide) lo0_3 rfl (Nat.le_of_ble_eq_true rfl) rfl (AMi.mono k (fun r77 M77 k => ?_))
          refine z_if_eq 85 dX6_findLightestAcross_80 (by decide) ⟨fun h5 => ?_, fun h5 => ?_⟩
          · replace k := k.1 h5
            refine z_iinc (v := (x3 + 1)) dX6_findLightestAcross_85 rfl rfl (by decide) rfl ?_
            refine z_goto 26 dX6_findLightestAcross_88 (by decide) ?_
            exact k
          · replace k := k.2 h5
            refine z_iload_n dX6_findLightestAcross_83 rfl rfl ?_
            refine z_istore_n dX6_findLightestAcross_84 rfl (by decide) rfl ?_
            refine z_iinc (v := (x3 + 1)) dX6_findLightestAcross_85 rfl rfl (by decide) rfl ?_
            refine z_goto 26 dX6_findLightestAcross_88 (by decide) ?_
            exact k

set_option maxRecDepth 100000 in
set_option maxHeartbeats 4000000 in
theorem r_X6_takeBack_0 {P : zM → Prop} (x1 : Int32) (x2 : Int32) (x3 : Int32) (l4 : Int64) (F : Nat → Int32) (I : Nat → Nat → Int32) (J : Nat → Nat → Int64)
  (k : ((x1 = 0 → vp_in x2 100 ∧ P (F, I, z_ul J 0 (zn x2) l4)) ∧ (¬ x1 = 0 → ((x1 = 1 → AMi m_X6_layTrack [.ref 0, .int x2, .int x3] (F, I, J) (fun r50 M50 => AMi m_X6_addOnTrack [.ref 0, .long (-l4)] M50 (fun r58 M58 => P M58))) ∧ (¬ x1 = 1 → ((x1 = 2 → AMv m_X6_floodBelow [.ref 0, .int x2] (F, I, J) (fun M67 => AMi m_X6_addOnFlood [.ref 0, .long (-l4)] M67 (fun r74 M74 => P M74))) ∧ (¬ x1 = 2 → ((x1 = 3 → vp_in x2 100 ∧ P (F, z_ui I 0 (zn x2) x3, J)) ∧ (¬ x1 = 3 → ((x1 = 4 → AMv m_X0_dropLatest [.ref 3] (F, I, J) (fun M95 => ((x2 = (-1) → P M95) ∧ (¬ x2 = (-1) → vp_in x2 300 ∧ P (M95.1, z_ui M95.2.1 3 (zn x2) 1, M95.2.2))))) ∧ (¬ x1 = 4 → ((¬ x1 = 5 → AMv m_X6_takeBackCut [.ref 0, .int x2, .int x3, .int 2, .int ((l4).toInt32)] (F, I, J) (fun M132 => P M132)) ∧ (x1 = 5 → AMv m_X6_takeBackCut [.ref 0, .int x2, .int x3, .int 1, .int ((l4).toInt32)] (F, I, J) (fun M132 => P M132)))))))))))))) :
  AMv m_X6_takeBack [.ref 0, .int x1, .int x2, .int x3, .long l4] (F, I, J) P := by
  refine z_entry (pad := 0) [some (.ref 0), some (.int x1), some (.int x2), some (.int x3), some (.long l4), none] (by decide) rfl rfl (fun _ => Nat.le_of_ble_eq_true rfl) ?_
  refine z_iload_n dX6_takeBack_0 rfl rfl ?_
  refine z_case 0 x1 ⟨fun h1 => ?_, fun h1 => ?_⟩
  · replace k := k.1 h1
    refine z_tin (off := 35) 36 dX6_takeBack_1 (by (try dsimp only); rw [h1]; decide) (by (try dsimp only); rw [h1]; decide) (by (try dsimp only); rw [h1]; decide) (by decide) ?_
    refine z_aload_n dX6_takeBack_36 rfl rfl ?_
    refine z_getr dX6_takeBack_37 fl_X6_9 lo0_0 rfl ?_
    refine z_iload_n dX6_takeBack_40 rfl rfl ?_
    refine z_lload dX6_takeBack_41 rfl ?_
    refine z_last dX6_takeBack_43 lo0_1 ⟨k.1, ?_⟩
    replace k := k.2
    refine z_goto 135 dX6_takeBack_44 (by decide) ?_
    exact z_return (st := []) rfl dX6_takeBack_135 ⟨rfl, k⟩
  replace k := k.2 h1
  refine z_case 1 x1 ⟨fun h2 => ?_, fun h2 => ?_⟩
  · replace k := k.1 h2
    refine z_tin (off := 46) 47 dX6_takeBack_1 (by (try dsimp only); rw [h2]; decide) (by (try dsimp only); rw [h2]; decide) (by (try dsimp only); rw [h2]; decide) (by decide) ?_
    refine z_aload_n dX6_takeBack_47 rfl rfl ?_
    refine z_iload_n dX6_takeBack_48 rfl rfl ?_
    refine z_iload_n dX6_takeBack_49 rfl rfl ?_
    refine z_calli (I := m_X6_takeBack) (I2 := m_X6_layTrack) (st := []) [.int x2, .int x3] dX6_takeBack_50 ml_X6_82 rfl (by decide) lo0_0 rfl (Nat.le_of_ble_eq_true rfl) rfl (AMi.mono k (fun r50 M50 k => ?_))
    refine z_pop dX6_takeBack_53 rfl ?_
    refine z_aload_n dX6_takeBack_54 rfl rfl ?_
    refine z_lload dX6_takeBack_55 rfl ?_
    refine z_lneg dX6_takeBack_57 ?_
    refine z_calli (I := m_X6_takeBack) (I2 := m_X6_addOnTrack) (st := []) [.long (-l4)] dX6_takeBack_58 ml_X6_169 rfl (by decide) lo0_0 rfl (Nat.le_of_ble_eq_true rfl) rfl (AMi.mono k (fun r58 M58 k => ?_))
    refine z_pop dX6_takeBack_61 rfl ?_
    refine z_goto 135 dX6_takeBack_62 (by decide) ?_
    exact z_return (st := []) rfl dX6_takeBack_135 ⟨rfl, k⟩
  replace k := k.2 h2
  refine z_case 2 x1 ⟨fun h3 => ?_, fun h3 => ?_⟩
  · replace k := k.1 h3
    refine z_tin (off := 64) 65 dX6_takeBack_1 (by (try dsimp only); rw [h3]; decide) (by (try dsimp only); rw [h3]; decide) (by (try dsimp only); rw [h3]; decide) (by decide) ?_
    refine z_aload_n dX6_takeBack_65 rfl rfl ?_
    refine z_iload_n dX6_takeBack_66 rfl rfl ?_
    refine z_callv (I := m_X6_takeBack) (I2 := m_X6_floodBelow) (st := []) [.int x2] dX6_takeBack_67 ml_X6_189 rfl (by decide) lo0_0 rfl (Nat.le_of_ble_eq_true rfl) rfl (AMv.mono k (fun M67 k => ?_))
    refine z_aload_n dX6_takeBack_70 rfl rfl ?_
    refine z_lload dX6_takeBack_71 rfl ?_
    refine z_lneg dX6_takeBack_73 ?_
    refine z_calli (I := m_X6_takeBack) (I2 := m_X6_addOnFlood) (st := []) [.long (-l4)] dX6_takeBack_74 ml_X6_198 rfl (by decide) lo0_0 rfl (Nat.le_of_ble_eq_true rfl) rfl (AMi.mono k (fun r74 M74 k => ?_))
    refine z_pop dX6_takeBack_77 rfl ?_
    refine z_goto 135 dX6_takeBack_78 (by decide) ?_
    exact z_return (st := []) rfl dX6_takeBack_135 ⟨rfl, k⟩
  replace k := k.2 h3
  refine z_case 3 x1 ⟨fun h4 => ?_, fun h4 => ?_⟩
  · replace k := k.1 h4
    refine z_tin (off := 80) 81 dX6_takeBack_1 (by (try dsimp only); rw [h4]; decide) (by (try dsimp only); rw [h4]; decide) (by (try dsimp only); rw [h4]; decide) (by decide) ?_
    refine z_aload_n dX6_takeBack_81 rfl rfl ?_
    refine z_getr dX6_takeBack_82 fl_X6_13 lo0_0 rfl ?_
    refine z_iload_n dX6_takeBack_85 rfl rfl ?_
    refine z_iload_n dX6_takeBack_86 rfl rfl ?_
    refine z_iast dX6_takeBack_87 lo0_2 ⟨k.1, ?_⟩
    replace k := k.2
    refine z_goto 135 dX6_takeBack_88 (by decide) ?_
    exact z_return (st := []) rfl dX6_takeBack_135 ⟨rfl, k⟩
  replace k := k.2 h4
  refine z_case 4 x1 ⟨fun h5 => ?_, fun h5 => ?_⟩
  · replace k := k.1 h5
    refine z_tin (off := 90) 91 dX6_takeBack_1 (by (try dsimp only); rw [h5]; decide) (by (try dsimp only); rw [h5]; decide) (by (try dsimp only); rw [h5]; decide) (by decide) ?_
    refine z_aload_n dX6_takeBack_91 rfl rfl ?_
    refine z_getr dX6_takeBack_92 fl_X6_20 lo0_0 rfl ?_
    refine z_callv (I := m_X6_takeBack) (I2 := m_X0_dropLatest) (st := []) [] dX6_takeBack_95 ml_X6_308 rfl (by decide) lo0_3 rfl (Nat.le_of_ble_eq_true rfl) rfl (AMv.mono k (fun M95 k => ?_))
    refine z_iload_n dX6_takeBack_98 rfl rfl ?_
    refine z_iconst (v := (-1)) dX6_takeBack_99 (by decide) ?_
    refine z_icmp_eq 135 dX6_takeBack_100 (by decide) ⟨fun h6 => ?_, fun h6 => ?_⟩
    · replace k := k.1 h6
      exact z_return (st := []) rfl dX6_takeBack_135 ⟨rfl, k⟩
    · replace k := k.2 h6
      refine z_aload_n dX6_takeBack_103 rfl rfl ?_
      refine z_getr dX6_takeBack_104 fl_X6_20 lo0_0 rfl ?_
      refine z_getr dX6_takeBack_107 fl_X6_101 lo0_3 rfl ?_
      refine z_iload_n dX6_takeBack_110 rfl rfl ?_
      refine z_iconst (v := 1) dX6_takeBack_111 (by decide) ?_
      refine z_iast dX6_takeBack_112 lo0_7 ⟨k.1, ?_⟩
      replace k := k.2
      refine z_goto 135 dX6_takeBack_113 (by decide) ?_
      exact z_return (st := []) rfl dX6_takeBack_135 ⟨rfl, k⟩
  replace k := k.2 h5
  have eh1 := lv_neT h1 (a := 0) (by decide)
  have eh2 := lv_neT h2 (a := 1) (by decide)
  have eh3 := lv_neT h3 (a := 2) (by decide)
  have eh4 := lv_neT h4 (a := 3) (by decide)
  have eh5 := lv_neT h5 (a := 4) (by decide)
  refine z_tout 116 dX6_takeBack_1 (by omega) (by decide) ?_
  refine z_aload_n dX6_takeBack_116 rfl rfl ?_
  refine z_iload_n dX6_takeBack_117 rfl rfl ?_
  refine z_iload_n dX6_takeBack_118 rfl rfl ?_
  refine z_iload_n dX6_takeBack_119 rfl rfl ?_
  refine z_iconst (v := 5) dX6_takeBack_120 (by decide) ?_
  refine z_icmp_ne 128 dX6_takeBack_121 (by decide) ⟨fun h7 => ?_, fun h7 => ?_⟩
  · replace k := k.1 h7
    refine z_iconst (v := 2) dX6_takeBack_128 (by decide) ?_
    refine z_lload dX6_takeBack_129 rfl ?_
    refine z_l2i dX6_takeBack_131 ?_
    refine z_callv (I := m_X6_takeBack) (I2 := m_X6_takeBackCut) (st := []) [.int x2, .int x3, .int 2, .int ((l4).toInt32)] dX6_takeBack_132 ml_X6_311 rfl (by decide) lo0_0 rfl (Nat.le_of_ble_eq_true rfl) rfl (AMv.mono k (fun M132 k => ?_))
    exact z_return (st := []) rfl dX6_takeBack_135 ⟨rfl, k⟩
  · replace k := k.2 h7
    refine z_iconst (v := 1) dX6_takeBack_124 (by decide) ?_
    refine z_goto 129 dX6_takeBack_125 (by decide) ?_
    refine z_lload dX6_takeBack_129 rfl ?_
    refine z_l2i dX6_takeBack_131 ?_
    refine z_callv (I := m_X6_takeBack) (I2 := m_X6_takeBackCut) (st := []) [.int x2, .int x3, .int 1, .int ((l4).toInt32)] dX6_takeBack_132 ml_X6_311 rfl (by decide) lo0_0 rfl (Nat.le_of_ble_eq_true rfl) rfl (AMv.mono k (fun M132 k => ?_))
    exact z_return (st := []) rfl dX6_takeBack_135 ⟨rfl, k⟩

set_option maxRecDepth 100000 in
set_option maxHeartbeats 4000000 in
theorem r_X6_takeBackCut_0 {P : zM → Prop} (x1 : Int32) (x2 : Int32) (x3 : Int32) (x4 : Int32) (F : Nat → Int32) (I : Nat → Nat → Int32) (J : Nat → Nat → Int64)
  (k : ((x2 = (-1) → vp_in x1 300 ∧ AMv m_X0_lowerTo [.ref 3, .int x4] (F, z_ui I 3 (zn x1) x3, J) (fun M31 => P M31)) ∧ (¬ x2 = (-1) → vp_in x2 300 ∧ vp_in x1 300 ∧ AMv m_X0_lowerTo [.ref 3, .int x4] (F, z_ui (z_ui I 3 (zn x2) 2) 3 (zn x1) x3, J) (fun M31 => P M31)))) :
  AMv m_X6_takeBackCut [.ref 0, .int x1, .int x2, .int x3, .int x4] (F, I, J) P := by
  refine z_entry (pad := 0) [some (.ref 0), some (.int x1), some (.int x2), some (.int x3), some (.int x4)] (by decide) rfl rfl (fun _ => Nat.le_of_ble_eq_true rfl) ?_
  refine z_iload_n dX6_takeBackCut_0 rfl rfl ?_
  refine z_iconst (v := (-1)) dX6_takeBackCut_1 (by decide) ?_
  refine z_icmp_eq 15 dX6_takeBackCut_2 (by decide) ⟨fun h1 => ?_, fun h1 => ?_⟩
  · replace k := k.1 h1
    refine z_aload_n dX6_takeBackCut_15 rfl rfl ?_
    refine z_getr dX6_takeBackCut_16 fl_X6_20 lo0_0 rfl ?_
    refine z_getr dX6_takeBackCut_19 fl_X6_101 lo0_3 rfl ?_
    refine z_iload_n dX6_takeBackCut_22 rfl rfl ?_
    refine z_iload_n dX6_takeBackCut_23 rfl rfl ?_
    refine z_iast dX6_takeBackCut_24 lo0_7 ⟨k.1, ?_⟩
    replace k := k.2
    refine z_aload_n dX6_takeBackCut_25 rfl rfl ?_
    refine z_getr dX6_takeBackCut_26 fl_X6_20 lo0_0 rfl ?_
    refine z_iload dX6_takeBackCut_29 rfl ?_
    refine z_callv (I := m_X6_takeBackCut) (I2 := m_X0_lowerTo) (st := []) [.int x4] dX6_takeBackCut_31 ml_X6_315 rfl (by decide) lo0_3 rfl (Nat.le_of_ble_eq_true rfl) rfl (AMv.mono k (fun M31 k => ?_))
    exact z_return (st := []) rfl dX6_takeBackCut_34 ⟨rfl, k⟩
  · replace k := k.2 h1
    refine z_aload_n dX6_takeBackCut_5 rfl rfl ?_
    refine z_getr dX6_takeBackCut_6 fl_X6_20 lo0_0 rfl ?_
    refine z_getr dX6_takeBackCut_9 fl_X6_101 lo0_3 rfl ?_
    refine z_iload_n dX6_takeBackCut_12 rfl rfl ?_
    refine z_iconst (v := 2) dX6_takeBackCut_13 (by decide) ?_
    refine z_iast dX6_takeBackCut_14 lo0_7 ⟨k.1, ?_⟩
    replace k := k.2
    refine z_aload_n dX6_takeBackCut_15 rfl rfl ?_
    refine z_getr dX6_takeBackCut_16 fl_X6_20 lo0_0 rfl ?_
    refine z_getr dX6_takeBackCut_19 fl_X6_101 lo0_3 rfl ?_
    refine z_iload_n dX6_takeBackCut_22 rfl rfl ?_
    refine z_iload_n dX6_takeBackCut_23 rfl rfl ?_
    refine z_iast dX6_takeBackCut_24 lo0_7 ⟨k.1, ?_⟩
    replace k := k.2
    refine z_aload_n dX6_takeBackCut_25 rfl rfl ?_
    refine z_getr dX6_takeBackCut_26 fl_X6_20 lo0_0 rfl ?_
    refine z_iload dX6_takeBackCut_29 rfl ?_
    refine z_callv (I := m_X6_takeBackCut) (I2 := m_X0_lowerTo) (st := []) [.int x4] dX6_takeBackCut_31 ml_X6_315 rfl (by decide) lo0_3 rfl (Nat.le_of_ble_eq_true rfl) rfl (AMv.mono k (fun M31 k => ?_))
    exact z_return (st := []) rfl dX6_takeBackCut_34 ⟨rfl, k⟩

set_option maxRecDepth 100000 in
set_option maxHeartbeats 4000000 in
theorem r_X6_refuse_0 {P : Int32 → zM → Prop} (x1 : Int32) (F : Nat → Int32) (I : Nat → Nat → Int32) (J : Nat → Nat → Int64)
  (k : P (-1) (upd F 3 x1, I, J)) :
  AMi m_X6_refuse [.ref 0, .int x1] (F, I, J) P := by
  refine z_entry (pad := 0) [some (.ref 0), some (.int x1)] (by decide) rfl rfl (fun _ => Nat.le_of_ble_eq_true rfl) ?_
  refine z_aload_n dX6_refuse_0 rfl rfl ?_
  refine z_iload_n dX6_refuse_1 rfl rfl ?_
  refine z_puti dX6_refuse_2 fw_X6_65 lo0_0 rfl ?_
  refine z_iconst (v := (-1)) dX6_refuse_5 (by decide) ?_
  exact z_ireturn (st := []) rfl dX6_refuse_6 ⟨_, rfl, k⟩

set_option maxRecDepth 100000 in
set_option maxHeartbeats 4000000 in
theorem r_X6_grant_0 {P : Int32 → zM → Prop} (x1 : Int32) (F : Nat → Int32) (I : Nat → Nat → Int32) (J : Nat → Nat → Int64)
  (k : P x1 (upd F 3 0, I, J)) :
  AMi m_X6_grant [.ref 0, .int x1] (F, I, J) P := by
  refine z_entry (pad := 0) [some (.ref 0), some (.int x1)] (by decide) rfl rfl (fun _ => Nat.le_of_ble_eq_true rfl) ?_
  refine z_aload_n dX6_grant_0 rfl rfl ?_
  refine z_iconst (v := 0) dX6_grant_1 (by decide) ?_
  refine z_puti dX6_grant_2 fw_X6_65 lo0_0 rfl ?_
  refine z_iload_n dX6_grant_5 rfl rfl ?_
  exact z_ireturn (st := []) rfl dX6_grant_6 ⟨_, rfl, k⟩

set_option maxRecDepth 100000 in
set_option maxHeartbeats 4000000 in
theorem r_X6_canPut_0 {P : Int32 → zM → Prop} (x1 : Int32) (x2 : Int32) (x3 : Int32) (F : Nat → Int32) (I : Nat → Nat → Int32) (J : Nat → Nat → Int64)
  (k : ((x1 = 0 → P 1 (F, I, J)) ∧ (¬ x1 = 0 → ((x1 = 1 → AMi m_X0_isThere [.ref 3, .int x2] (F, I, J) (fun r43 M43 => narrow .boolean (.int r43) = .int r43 ∧ P r43 M43)) ∧ (¬ x1 = 1 → ((x1 = 2 → AMi m_X6_isKnot [.ref 0, .int x2] (F, I, J) (fun r49 M49 => narrow .boolean (.int r49) = .int r49 ∧ P r49 M49)) ∧ (¬ x1 = 2 → ((x1 = 3 → AMi m_X6_layTrack [.ref 0, .int x2, .int x3] (F, I, J) (fun r56 M56 => ((r56 < 0 → P 0 M56) ∧ (¬ r56 < 0 → P 1 M56)))) ∧ (¬ x1 = 3 → ((x1 = 4 → AMi m_X6_isKnot [.ref 0, .int x2] (F, I, J) (fun r49 M49 => narrow .boolean (.int r49) = .int r49 ∧ P r49 M49)) ∧ (¬ x1 = 4 → P 0 (F, I, J)))))))))))) :
  AMi m_X6_canPut [.ref 0, .int x1, .int x2, .int x3] (F, I, J) P := by
  refine z_entry (pad := 0) [some (.ref 0), some (.int x1), some (.int x2), some (.int x3)] (by decide) rfl rfl (fun _ => Nat.le_of_ble_eq_true rfl) ?_
  refine z_iload_n dX6_canPut_0 rfl rfl ?_
  refine z_case 0 x1 ⟨fun h1 => ?_, fun h1 => ?_⟩
  · replace k := k.1 h1
    refine z_tin (off := 35) 36 dX6_canPut_1 (by (try dsimp only); rw [h1]; decide) (by (try dsimp only); rw [h1]; decide) (by (try dsimp only); rw [h1]; decide) (by decide) ?_
    refine z_iconst (v := 1) dX6_canPut_36 (by decide) ?_
    exact z_zreturn (st := []) rfl rfl dX6_canPut_37 ⟨_, rfl, k⟩
  replace k := k.2 h1
  refine z_case 1 x1 ⟨fun h2 => ?_, fun h2 => ?_⟩
  · replace k := k.1 h2
    refine z_tin (off := 37) 38 dX6_canPut_1 (by (try dsimp only); rw [h2]; decide) (by (try dsimp only); rw [h2]; decide) (by (try dsimp only); rw [h2]; decide) (by decide) ?_
    refine z_aload_n dX6_canPut_38 rfl rfl ?_
    refine z_getr dX6_canPut_39 fl_X6_20 lo0_0 rfl ?_
    refine z_iload_n dX6_canPut_42 rfl rfl ?_
    refine z_calli (I := m_X6_canPut) (I2 := m_X0_isThere) (st := []) [.int x2] dX6_canPut_43 ml_X6_98 rfl (by decide) lo0_3 rfl (Nat.le_of_ble_eq_true rfl) rfl (AMi.mono k (fun r43 M43 k => ?_))
    exact z_zreturn (st := []) rfl k.1 dX6_canPut_46 ⟨_, rfl, k.2⟩
  replace k := k.2 h2
  refine z_case 2 x1 ⟨fun h3 => ?_, fun h3 => ?_⟩
  · replace k := k.1 h3
    refine z_tin (off := 46) 47 dX6_canPut_1 (by (try dsimp only); rw [h3]; decide) (by (try dsimp only); rw [h3]; decide) (by (try dsimp only); rw [h3]; decide) (by decide) ?_
    refine z_aload_n dX6_canPut_47 rfl rfl ?_
    refine z_iload_n dX6_canPut_48 rfl rfl ?_
    refine z_calli (I := m_X6_canPut) (I2 := m_X6_isKnot) (st := []) [.int x2] dX6_canPut_49 ml_X6_78 rfl (by decide) lo0_0 rfl (Nat.le_of_ble_eq_true rfl) rfl (AMi.mono k (fun r49 M49 k => ?_))
    exact z_zreturn (st := []) rfl k.1 dX6_canPut_52 ⟨_, rfl, k.2⟩
  replace k := k.2 h3
  refine z_case 3 x1 ⟨fun h4 => ?_, fun h4 => ?_⟩
  · replace k := k.1 h4
    refine z_tin (off := 52) 53 dX6_canPut_1 (by (try dsimp only); rw [h4]; decide) (by (try dsimp only); rw [h4]; decide) (by (try dsimp only); rw [h4]; decide) (by decide) ?_
    refine z_aload_n dX6_canPut_53 rfl rfl ?_
    refine z_iload_n dX6_canPut_54 rfl rfl ?_
    refine z_iload_n dX6_canPut_55 rfl rfl ?_
    refine z_calli (I := m_X6_canPut) (I2 := m_X6_layTrack) (st := []) [.int x2, .int x3] dX6_canPut_56 ml_X6_82 rfl (by decide) lo0_0 rfl (Nat.le_of_ble_eq_true rfl) rfl (AMi.mono k (fun r56 M56 k => ?_))
    refine z_if_lt 66 dX6_canPut_59 (by decide) ⟨fun h5 => ?_, fun h5 => ?_⟩
    · replace k := k.1 h5
      refine z_iconst (v := 0) dX6_canPut_66 (by decide) ?_
      exact z_zreturn (st := []) rfl rfl dX6_canPut_67 ⟨_, rfl, k⟩
    · replace k := k.2 h5
      refine z_iconst (v := 1) dX6_canPut_62 (by decide) ?_
      refine z_goto 67 dX6_canPut_63 (by decide) ?_
      exact z_zreturn (st := []) rfl rfl dX6_canPut_67 ⟨_, rfl, k⟩
  replace k := k.2 h4
  refine z_case 4 x1 ⟨fun h6 => ?_, fun h6 => ?_⟩
  · replace k := k.1 h6
    refine z_tin (off := 46) 47 dX6_canPut_1 (by (try dsimp only); rw [h6]; decide) (by (try dsimp only); rw [h6]; decide) (by (try dsimp only); rw [h6]; decide) (by decide) ?_
    refine z_aload_n dX6_canPut_47 rfl rfl ?_
    refine z_iload_n dX6_canPut_48 rfl rfl ?_
    refine z_calli (I := m_X6_canPut) (I2 := m_X6_isKnot) (st := []) [.int x2] dX6_canPut_49 ml_X6_78 rfl (by decide) lo0_0 rfl (Nat.le_of_ble_eq_true rfl) rfl (AMi.mono k (fun r49 M49 k => ?_))
    exact z_zreturn (st := []) rfl k.1 dX6_canPut_52 ⟨_, rfl, k.2⟩
  replace k := k.2 h6
  have eh1 := lv_neT h1 (a := 0) (by decide)
  have eh2 := lv_neT h2 (a := 1) (by decide)
  have eh3 := lv_neT h3 (a := 2) (by decide)
  have eh4 := lv_neT h4 (a := 3) (by decide)
  have eh6 := lv_neT h6 (a := 4) (by decide)
  refine z_tout 68 dX6_canPut_1 (by omega) (by decide) ?_
  refine z_iconst (v := 0) dX6_canPut_68 (by decide) ?_
  exact z_zreturn (st := []) rfl rfl dX6_canPut_69 ⟨_, rfl, k⟩

set_option maxRecDepth 100000 in
set_option maxHeartbeats 4000000 in
theorem r_X6_putKnots_0 {P : zM → Prop} (t : Nat) (ht : t < 6) (x2 : Int32) (F : Nat → Int32) (I : Nat → Nat → Int32) (J : Nat → Nat → Int64)
  (k : AMv m_X6_floodPart [.ref 0, .int x2] (F, I, J) (fun M2 => AMv m_X4_begin [.ref (37 + 2 * t), .int 2] M2 (fun M7 => AW m_X6_putKnots (z_pv P) 12 [some (.ref 0), some (.ref (37 + 2 * t)), none, some (.int 0)] [] M7))) :
  AMv m_X6_putKnots [.ref 0, .ref (37 + 2 * t), .int x2] (F, I, J) P := by
  refine z_entry (pad := 1) [some (.ref 0), some (.ref (37 + 2 * t)), some (.int x2), none] (by decide) rfl rfl (fun _ => Nat.le_of_ble_eq_true rfl) ?_
  refine z_aload_n dX6_putKnots_0 rfl rfl ?_
  refine z_iload_n dX6_putKnots_1 rfl rfl ?_
  refine z_callv (I := m_X6_putKnots) (I2 := m_X6_floodPart) (st := []) [.int x2] dX6_putKnots_2 ml_X6_148 rfl (by decide) lo0_0 rfl (Nat.le_of_ble_eq_true rfl) rfl (AMv.mono k (fun M2 k => ?_))
  refine z_aload_n dX6_putKnots_5 rfl rfl ?_
  refine z_iconst (v := 2) dX6_putKnots_6 (by decide) ?_
  refine z_callv (I := m_X6_putKnots) (I2 := m_X4_begin) (st := []) [.int 2] dX6_putKnots_7 ml_X6_230 rfl (by decide) (z_trayC ht) rfl (Nat.le_of_ble_eq_true rfl) rfl (AMv.mono k (fun M7 k => ?_))
  refine z_iconst (v := 0) dX6_putKnots_10 (by decide) ?_
  refine z_istore_n dX6_putKnots_11 rfl (by decide) rfl ?_
  refine z_wk [some (.ref 0), some (.ref (37 + 2 * t)), none, some (.int 0)] (z_le_some (z_le_some (z_le_none (z_le_some z_le_nil)))) ?_
  exact k

set_option maxRecDepth 100000 in
set_option maxHeartbeats 4000000 in
theorem r_X6_putKnots_12 {P : zM → Prop} (t : Nat) (ht : t < 6) (x3 : Int32) (F : Nat → Int32) (I : Nat → Nat → Int32) (J : Nat → Nat → Int64)
  (k : (((F 0) ≤ x3 → P (F, I, J)) ∧ (¬ (F 0) ≤ x3 → vp_in x3 100 ∧ (((I 11 (zn x3)) = 0 → AW m_X6_putKnots (z_pv P) 12 [some (.ref 0), some (.ref (37 + 2 * t)), none, some (.int (x3 + 1))] [] (F, I, J)) ∧ (¬ (I 11 (zn x3)) = 0 → AMv m_X4_lay [.ref (37 + 2 * t), .long ((x3).toInt64)] (F, I, J) (fun M35 => AW m_X6_putKnots (z_pv P) 12 [some (.ref 0), some (.ref (37 + 2 * t)), none, some (.int (x3 + 1))] [] M35)))))) :
  AW m_X6_putKnots (z_pv P) 12 [some (.ref 0), some (.ref (37 + 2 * t)), none, some (.int x3)] [] (F, I, J) := by
  refine z_iload_n dX6_putKnots_12 rfl rfl ?_
  refine z_aload_n dX6_putKnots_13 rfl rfl ?_
  refine z_geti dX6_putKnots_14 fl_X6_69 lo0_0 rfl ?_
  refine z_icmp_ge 44 dX6_putKnots_17 (by decide) ⟨fun h1 => ?_, fun h1 => ?_⟩
  · replace k := k.1 h1
    exact z_return (st := []) rfl dX6_putKnots_44 ⟨rfl, k⟩
  · replace k := k.2 h1
    refine z_aload_n dX6_putKnots_20 rfl rfl ?_
    refine z_getr dX6_putKnots_21 fl_X6_27 lo0_0 rfl ?_
    refine z_getr dX6_putKnots_24 fl_X6_153 lo0_12 rfl ?_
    refine z_iload_n dX6_putKnots_27 rfl rfl ?_
    refine z_zald dX6_putKnots_28 lo0_16 ⟨k.1, ?_⟩
    replace k := k.2
    refine z_if_eq 38 dX6_putKnots_29 (by decide) ⟨fun h2 => ?_, fun h2 => ?_⟩
    · replace k := k.1 h2
      refine z_iinc (v := (x3 + 1)) dX6_putKnots_38 rfl rfl (by decide) rfl ?_
      refine z_goto 12 dX6_putKnots_41 (by decide) ?_
      exact k
    · replace k := k.2 h2
      refine z_aload_n dX6_putKnots_32 rfl rfl ?_
      refine z_iload_n dX6_putKnots_33 rfl rfl ?_
      refine z_i2l dX6_putKnots_34 ?_
      refine z_callv (I := m_X6_putKnots) (I2 := m_X4_lay) (st := []) [.long ((x3).toInt64)] dX6_putKnots_35 ml_X6_233 rfl (by decide) (z_trayC ht) rfl (Nat.le_of_ble_eq_true rfl) rfl (AMv.mono k (fun M35 k => ?_))
      refine z_iinc (v := (x3 + 1)) dX6_putKnots_38 rfl rfl (by decide) rfl ?_
      refine z_goto 12 dX6_putKnots_41 (by decide) ?_
      exact k

set_option maxRecDepth 100000 in
set_option maxHeartbeats 4000000 in
theorem r_X6_putWeights_0 {P : zM → Prop} (t : Nat) (ht : t < 6) (x2 : Int32) (x3 : Int32) (F : Nat → Int32) (I : Nat → Nat → Int32) (J : Nat → Nat → Int64)
  (k : AMi m_X6_layTrack [.ref 0, .int x2, .int x3] (F, I, J) (fun r3 M3 => AMv m_X4_begin [.ref (37 + 2 * t), .int 3] M3 (fun M10 => AW m_X6_putWeights (z_pv P) 16 [some (.ref 0), some (.ref (37 + 2 * t)), none, none, some (.int r3), some (.int 0)] [] M10))) :
  AMv m_X6_putWeights [.ref 0, .ref (37 + 2 * t), .int x2, .int x3] (F, I, J) P := by
  refine z_entry (pad := 2) [some (.ref 0), some (.ref (37 + 2 * t)), some (.int x2), some (.int x3), none, none] (by decide) rfl rfl (fun _ => Nat.le_of_ble_eq_true rfl) ?_
  refine z_aload_n dX6_putWeights_0 rfl rfl ?_
  refine z_iload_n dX6_putWeights_1 rfl rfl ?_
  refine z_iload_n dX6_putWeights_2 rfl rfl ?_
  refine z_calli (I := m_X6_putWeights) (I2 := m_X6_layTrack) (st := []) [.int x2, .int x3] dX6_putWeights_3 ml_X6_82 rfl (by decide) lo0_0 rfl (Nat.le_of_ble_eq_true rfl) rfl (AMi.mono k (fun r3 M3 k => ?_))
  refine z_istore dX6_putWeights_6 (by decide) rfl ?_
  refine z_aload_n dX6_putWeights_8 rfl rfl ?_
  refine z_iconst (v := 3) dX6_putWeights_9 (by decide) ?_
  refine z_callv (I := m_X6_putWeights) (I2 := m_X4_begin) (st := []) [.int 3] dX6_putWeights_10 ml_X6_230 rfl (by decide) (z_trayC ht) rfl (Nat.le_of_ble_eq_true rfl) rfl (AMv.mono k (fun M10 k => ?_))
  refine z_iconst (v := 0) dX6_putWeights_13 (by decide) ?_
  refine z_istore dX6_putWeights_14 (by decide) rfl ?_
  refine z_wk [some (.ref 0), some (.ref (37 + 2 * t)), none, none, some (.int r3), some (.int 0)] (z_le_some (z_le_some (z_le_none (z_le_none (z_le_some (z_le_some z_le_nil)))))) ?_
  exact k

set_option maxRecDepth 100000 in
set_option maxHeartbeats 4000000 in
theorem r_X6_putWeights_16 {P : zM → Prop} (t : Nat) (ht : t < 6) (x4 : Int32) (x5 : Int32) (F : Nat → Int32) (I : Nat → Nat → Int32) (J : Nat → Nat → Int64)
  (k : ((x4 ≤ x5 → P (F, I, J)) ∧ (¬ x4 ≤ x5 → vp_in x5 100 ∧ vp_in (I 17 (zn x5)) 300 ∧ AMv m_X4_lay [.ref (37 + 2 * t), .long (J 1 (zn (I 17 (zn x5))))] (F, I, J) (fun M42 => AW m_X6_putWeights (z_pv P) 16 [some (.ref 0), some (.ref (37 + 2 * t)), none, none, some (.int x4), some (.int (x5 + 1))] [] M42)))) :
  AW m_X6_putWeights (z_pv P) 16 [some (.ref 0), some (.ref (37 + 2 * t)), none, none, some (.int x4), some (.int x5)] [] (F, I, J) := by
  refine z_iload dX6_putWeights_16 rfl ?_
  refine z_iload dX6_putWeights_18 rfl ?_
  refine z_icmp_ge 51 dX6_putWeights_20 (by decide) ⟨fun h1 => ?_, fun h1 => ?_⟩
  · replace k := k.1 h1
    exact z_return (st := []) rfl dX6_putWeights_51 ⟨rfl, k⟩
  · replace k := k.2 h1
    refine z_aload_n dX6_putWeights_23 rfl rfl ?_
    refine z_aload_n dX6_putWeights_24 rfl rfl ?_
    refine z_getr dX6_putWeights_25 fl_X6_20 lo0_0 rfl ?_
    refine z_getr dX6_putWeights_28 fl_X6_131 lo0_3 rfl ?_
    refine z_aload_n dX6_putWeights_31 rfl rfl ?_
    refine z_getr dX6_putWeights_32 fl_X6_37 lo0_0 rfl ?_
    refine z_getr dX6_putWeights_35 fl_X6_318 lo0_22 rfl ?_
    refine z_iload dX6_putWeights_38 rfl ?_
    refine z_iald dX6_putWeights_40 lo0_24 ⟨k.1, ?_⟩
    replace k := k.2
    refine z_lald dX6_putWeights_41 lo0_6 ⟨k.1, ?_⟩
    replace k := k.2
    refine z_callv (I := m_X6_putWeights) (I2 := m_X4_lay) (st := []) [.long (J 1 (zn (I 17 (zn x5))))] dX6_putWeights_42 ml_X6_233 rfl (by decide) (z_trayC ht) rfl (Nat.le_of_ble_eq_true rfl) rfl (AMv.mono k (fun M42 k => ?_))
    refine z_iinc (v := (x5 + 1)) dX6_putWeights_45 rfl rfl (by decide) rfl ?_
    refine z_goto 16 dX6_putWeights_48 (by decide) ?_
    exact k

set_option maxRecDepth 100000 in
set_option maxHeartbeats 4000000 in
theorem r_X6_putTruths_0 {P : zM → Prop} (t : Nat) (ht : t < 6) (x2 : Int32) (F : Nat → Int32) (I : Nat → Nat → Int32) (J : Nat → Nat → Int64)
  (k : AMv m_X6_floodPart [.ref 0, .int x2] (F, I, J) (fun M2 => AMv m_X4_begin [.ref (37 + 2 * t), .int 4] M2 (fun M7 => AW m_X6_putTruths (z_pv P) 12 [some (.ref 0), some (.ref (37 + 2 * t)), none, some (.int 0)] [] M7))) :
  AMv m_X6_putTruths [.ref 0, .ref (37 + 2 * t), .int x2] (F, I, J) P := by
  refine z_entry (pad := 1) [some (.ref 0), some (.ref (37 + 2 * t)), some (.int x2), none] (by decide) rfl rfl (fun _ => Nat.le_of_ble_eq_true rfl) ?_
  refine z_aload_n dX6_putTruths_0 rfl rfl ?_
  refine z_iload_n dX6_putTruths_1 rfl rfl ?_
  refine z_callv (I := m_X6_putTruths) (I2 := m_X6_floodPart) (st := []) [.int x2] dX6_putTruths_2 ml_X6_148 rfl (by decide) lo0_0 rfl (Nat.le_of_ble_eq_true rfl) rfl (AMv.mono k (fun M2 k => ?_))
  refine z_aload_n dX6_putTruths_5 rfl rfl ?_
  refine z_iconst (v := 4) dX6_putTruths_6 (by decide) ?_
  refine z_callv (I := m_X6_putTruths) (I2 := m_X4_begin) (st := []) [.int 4] dX6_putTruths_7 ml_X6_230 rfl (by decide) (z_trayC ht) rfl (Nat.le_of_ble_eq_true rfl) rfl (AMv.mono k (fun M7 k => ?_))
  refine z_iconst (v := 0) dX6_putTruths_10 (by decide) ?_
  refine z_istore_n dX6_putTruths_11 rfl (by decide) rfl ?_
  refine z_wk [some (.ref 0), some (.ref (37 + 2 * t)), none, some (.int 0)] (z_le_some (z_le_some (z_le_none (z_le_some z_le_nil)))) ?_
  exact k

set_option maxRecDepth 100000 in
set_option maxHeartbeats 4000000 in
theorem r_X6_putTruths_12 {P : zM → Prop} (t : Nat) (ht : t < 6) (x3 : Int32) (F : Nat → Int32) (I : Nat → Nat → Int32) (J : Nat → Nat → Int64)
  (k : (((F 0) ≤ x3 → P (F, I, J)) ∧ (¬ (F 0) ≤ x3 → vp_in x3 100 ∧ (((I 11 (zn x3)) = 0 → AMv m_X4_lay [.ref (37 + 2 * t), .long 0] (F, I, J) (fun M38 => AW m_X6_putTruths (z_pv P) 12 [some (.ref 0), some (.ref (37 + 2 * t)), none, some (.int (x3 + 1))] [] M38)) ∧ (¬ (I 11 (zn x3)) = 0 → AMv m_X4_lay [.ref (37 + 2 * t), .long 1] (F, I, J) (fun M38 => AW m_X6_putTruths (z_pv P) 12 [some (.ref 0), some (.ref (37 + 2 * t)), none, some (.int (x3 + 1))] [] M38)))))) :
  AW m_X6_putTruths (z_pv P) 12 [some (.ref 0), some (.ref (37 + 2 * t)), none, some (.int x3)] [] (F, I, J) := by
  refine z_iload_n dX6_putTruths_12 rfl rfl ?_
  refine z_aload_n dX6_putTruths_13 rfl rfl ?_
  refine z_geti dX6_putTruths_14 fl_X6_69 lo0_0 rfl ?_
  refine z_icmp_ge 47 dX6_putTruths_17 (by decide) ⟨fun h1 => ?_, fun h1 => ?_⟩
  · replace k := k.1 h1
    exact z_return (st := []) rfl dX6_putTruths_47 ⟨rfl, k⟩
  · replace k := k.2 h1
    refine z_aload_n dX6_putTruths_20 rfl rfl ?_
    refine z_aload_n dX6_putTruths_21 rfl rfl ?_
    refine z_getr dX6_putTruths_22 fl_X6_27 lo0_0 rfl ?_
    refine z_getr dX6_putTruths_25 fl_X6_153 lo0_12 rfl ?_
    refine z_iload_n dX6_putTruths_28 rfl rfl ?_
    refine z_zald dX6_putTruths_29 lo0_16 ⟨k.1, ?_⟩
    replace k := k.2
    refine z_if_eq 37 dX6_putTruths_30 (by decide) ⟨fun h2 => ?_, fun h2 => ?_⟩
    · replace k := k.1 h2
      refine z_lconst (v := 0) dX6_putTruths_37 (by decide) ?_
      refine z_callv (I := m_X6_putTruths) (I2 := m_X4_lay) (st := []) [.long 0] dX6_putTruths_38 ml_X6_233 rfl (by decide) (z_trayC ht) rfl (Nat.le_of_ble_eq_true rfl) rfl (AMv.mono k (fun M38 k => ?_))
      refine z_iinc (v := (x3 + 1)) dX6_putTruths_41 rfl rfl (by decide) rfl ?_
      refine z_goto 12 dX6_putTruths_44 (by decide) ?_
      exact k
    · replace k := k.2 h2
      refine z_lconst (v := 1) dX6_putTruths_33 (by decide) ?_
      refine z_goto 38 dX6_putTruths_34 (by decide) ?_
      refine z_callv (I := m_X6_putTruths) (I2 := m_X4_lay) (st := []) [.long 1] dX6_putTruths_38 ml_X6_233 rfl (by decide) (z_trayC ht) rfl (Nat.le_of_ble_eq_true rfl) rfl (AMv.mono k (fun M38 k => ?_))
      refine z_iinc (v := (x3 + 1)) dX6_putTruths_41 rfl rfl (by decide) rfl ?_
      refine z_goto 12 dX6_putTruths_44 (by decide) ?_
      exact k

set_option maxRecDepth 100000 in
set_option maxHeartbeats 4000000 in
theorem r_X6_whyNot_0 {P : Int32 → zM → Prop} (t : Nat) (ht : t < 6) (x2 : Int32) (F : Nat → Int32) (I : Nat → Nat → Int32) (J : Nat → Nat → Int64)
  (k : ((¬ (F (15 + t)) = 0 → ((¬ (F (15 + t)) = x2 → P 11 (F, I, J)) ∧ ((F (15 + t)) = x2 → P 0 (F, I, J)))) ∧ ((F (15 + t)) = 0 → P 10 (F, I, J)))) :
  AMi m_X6_whyNot [.ref 0, .ref (37 + 2 * t), .int x2] (F, I, J) P := by
  refine z_entry (pad := 0) [some (.ref 0), some (.ref (37 + 2 * t)), some (.int x2)] (by decide) rfl rfl (fun _ => Nat.le_of_ble_eq_true rfl) ?_
  refine z_aload_n dX6_whyNot_0 rfl rfl ?_
  refine z_geti dX6_whyNot_1 fl_X6_321 (z_trayC ht) rfl ?_
  refine z_if_ne 10 dX6_whyNot_4 (by decide) ⟨fun h1 => ?_, fun h1 => ?_⟩
  · replace k := k.1 h1
    refine z_aload_n dX6_whyNot_10 rfl rfl ?_
    refine z_geti dX6_whyNot_11 fl_X6_321 (z_trayC ht) rfl ?_
    refine z_iload_n dX6_whyNot_14 rfl rfl ?_
    refine z_icmp_ne 22 dX6_whyNot_15 (by decide) ⟨fun h2 => ?_, fun h2 => ?_⟩
    · replace k := k.1 h2
      refine z_bipush (v := 11) dX6_whyNot_22 (by decide) ?_
      exact z_ireturn (st := []) rfl dX6_whyNot_24 ⟨_, rfl, k⟩
    · replace k := k.2 h2
      refine z_iconst (v := 0) dX6_whyNot_18 (by decide) ?_
      refine z_goto 24 dX6_whyNot_19 (by decide) ?_
      exact z_ireturn (st := []) rfl dX6_whyNot_24 ⟨_, rfl, k⟩
  · replace k := k.2 h1
    refine z_bipush (v := 10) dX6_whyNot_7 (by decide) ?_
    exact z_ireturn (st := []) rfl dX6_whyNot_9 ⟨_, rfl, k⟩

set_option maxRecDepth 100000 in
set_option maxHeartbeats 4000000 in
theorem r_X6_pick_0 {P : Int32 → zM → Prop} (t : Nat) (ht : t < 6) (x2 : Int32) (x3 : Int32) (F : Nat → Int32) (I : Nat → Nat → Int32) (J : Nat → Nat → Int64)
  (k : AMi m_X6_whyNot [.ref 0, .ref (37 + 2 * t), .int x2] (F, I, J) (fun r3 M3 => ((r3 = 0 → ((x3 < 0 → AMi m_X6_refuse [.ref 0, .int 12] M3 (fun r35 M35 => P r35 M35)) ∧ (¬ x3 < 0 → ((x3 < (M3.1 (21 + t)) → vp_in x3 100 ∧ AMi m_X6_grant [.ref 0, .int ((M3.2.2 (3 + t) (zn x3)).toInt32)] M3 (fun r47 M47 => P r47 M47)) ∧ (¬ x3 < (M3.1 (21 + t)) → AMi m_X6_refuse [.ref 0, .int 12] M3 (fun r35 M35 => P r35 M35)))))) ∧ (¬ r3 = 0 → AMi m_X6_refuse [.ref 0, .int r3] M3 (fun r16 M16 => P r16 M16))))) :
  AMi m_X6_pick [.ref 0, .ref (37 + 2 * t), .int x2, .int x3] (F, I, J) P := by
  refine z_entry (pad := 1) [some (.ref 0), some (.ref (37 + 2 * t)), some (.int x2), some (.int x3), none] (by decide) rfl rfl (fun _ => Nat.le_of_ble_eq_true rfl) ?_
  refine z_aload_n dX6_pick_0 rfl rfl ?_
  refine z_aload_n dX6_pick_1 rfl rfl ?_
  refine z_iload_n dX6_pick_2 rfl rfl ?_
  refine z_calli (I := m_X6_pick) (I2 := m_X6_whyNot) (st := []) [.ref (37 + 2 * t), .int x2] dX6_pick_3 ml_X6_324 rfl (by decide) lo0_0 rfl (Nat.le_of_ble_eq_true rfl) rfl (AMi.mono k (fun r3 M3 k => ?_))
  refine z_istore dX6_pick_6 (by decide) rfl ?_
  refine z_iload dX6_pick_8 rfl ?_
  refine z_if_eq 20 dX6_pick_10 (by decide) ⟨fun h1 => ?_, fun h1 => ?_⟩
  · replace k := k.1 h1
    refine z_iload_n dX6_pick_20 rfl rfl ?_
    refine z_if_lt 32 dX6_pick_21 (by decide) ⟨fun h2 => ?_, fun h2 => ?_⟩
    · replace k := k.1 h2
      refine z_aload_n dX6_pick_32 rfl rfl ?_
      refine z_bipush (v := 12) dX6_pick_33 (by decide) ?_
      refine z_calli (I := m_X6_pick) (I2 := m_X6_refuse) (st := []) [.int 12] dX6_pick_35 ml_X6_227 rfl (by decide) lo0_0 rfl (Nat.le_of_ble_eq_true rfl) rfl (AMi.mono k (fun r35 M35 k => ?_))
      exact z_ireturn (st := []) rfl dX6_pick_38 ⟨_, rfl, k⟩
    · replace k := k.2 h2
      refine z_iload_n dX6_pick_24 rfl rfl ?_
      refine z_aload_n dX6_pick_25 rfl rfl ?_
      refine z_geti dX6_pick_26 fl_X6_327 (z_trayC ht) rfl ?_
      refine z_icmp_lt 39 dX6_pick_29 (by decide) ⟨fun h3 => ?_, fun h3 => ?_⟩
      · replace k := k.1 h3
        refine z_aload_n dX6_pick_39 rfl rfl ?_
        refine z_aload_n dX6_pick_40 rfl rfl ?_
        refine z_getr dX6_pick_41 fl_X6_328 (z_trayC ht) rfl ?_
        refine z_iload_n dX6_pick_44 rfl rfl ?_
        refine z_lald dX6_pick_45 (z_rowC ht) ⟨k.1, ?_⟩
        replace k := k.2
        refine z_l2i dX6_pick_46 ?_
        refine z_calli (I := m_X6_pick) (I2 := m_X6_grant) (st := []) [.int ((M3.2.2 (3 + t) (zn x3)).toInt32)] dX6_pick_47 ml_X6_256 rfl (by decide) lo0_0 rfl (Nat.le_of_ble_eq_true rfl) rfl (AMi.mono k (fun r47 M47 k => ?_))
        exact z_ireturn (st := []) rfl dX6_pick_50 ⟨_, rfl, k⟩
      · replace k := k.2 h3
        refine z_aload_n dX6_pick_32 rfl rfl ?_
        refine z_bipush (v := 12) dX6_pick_33 (by decide) ?_
        refine z_calli (I := m_X6_pick) (I2 := m_X6_refuse) (st := []) [.int 12] dX6_pick_35 ml_X6_227 rfl (by decide) lo0_0 rfl (Nat.le_of_ble_eq_true rfl) rfl (AMi.mono k (fun r35 M35 k => ?_))
        exact z_ireturn (st := []) rfl dX6_pick_38 ⟨_, rfl, k⟩
  · replace k := k.2 h1
    refine z_aload_n dX6_pick_13 rfl rfl ?_
    refine z_iload dX6_pick_14 rfl ?_
    refine z_calli (I := m_X6_pick) (I2 := m_X6_refuse) (st := []) [.int r3] dX6_pick_16 ml_X6_227 rfl (by decide) lo0_0 rfl (Nat.le_of_ble_eq_true rfl) rfl (AMi.mono k (fun r16 M16 k => ?_))
    exact z_ireturn (st := []) rfl dX6_pick_19 ⟨_, rfl, k⟩

set_option maxRecDepth 100000 in
set_option maxHeartbeats 4000000 in
theorem r_X6_countLike_0 {P : Int32 → zM → Prop} (t : Nat) (ht : t < 6) (x2 : Int32) (F : Nat → Int32) (I : Nat → Nat → Int32) (J : Nat → Nat → Int64)
  (k : AMi m_X6_whyNot [.ref 0, .ref (37 + 2 * t), .int 3] (F, I, J) (fun r3 M3 => ((r3 = 0 → AW m_X6_countLike (z_pi P) 23 [some (.ref 0), some (.ref (37 + 2 * t)), some (.int x2), none, some (.int 0), some (.int 0)] [] M3) ∧ (¬ r3 = 0 → AMi m_X6_refuse [.ref 0, .int r3] M3 (fun r13 M13 => P r13 M13))))) :
  AMi m_X6_countLike [.ref 0, .ref (37 + 2 * t), .int x2] (F, I, J) P := by
  refine z_entry (pad := 3) [some (.ref 0), some (.ref (37 + 2 * t)), some (.int x2), none, none, none] (by decide) rfl rfl (fun _ => Nat.le_of_ble_eq_true rfl) ?_
  refine z_aload_n dX6_countLike_0 rfl rfl ?_
  refine z_aload_n dX6_countLike_1 rfl rfl ?_
  refine z_iconst (v := 3) dX6_countLike_2 (by decide) ?_
  refine z_calli (I := m_X6_countLike) (I2 := m_X6_whyNot) (st := []) [.ref (37 + 2 * t), .int 3] dX6_countLike_3 ml_X6_324 rfl (by decide) lo0_0 rfl (Nat.le_of_ble_eq_true rfl) rfl (AMi.mono k (fun r3 M3 k => ?_))
  refine z_istore_n dX6_countLike_6 rfl (by decide) rfl ?_
  refine z_iload_n dX6_countLike_7 rfl rfl ?_
  refine z_if_eq 17 dX6_countLike_8 (by decide) ⟨fun h1 => ?_, fun h1 => ?_⟩
  · replace k := k.1 h1
    refine z_iconst (v := 0) dX6_countLike_17 (by decide) ?_
    refine z_istore dX6_countLike_18 (by decide) rfl ?_
    refine z_iconst (v := 0) dX6_countLike_20 (by decide) ?_
    refine z_istore dX6_countLike_21 (by decide) rfl ?_
    refine z_wk [some (.ref 0), some (.ref (37 + 2 * t)), some (.int x2), none, some (.int 0), some (.int 0)] (z_le_some (z_le_some (z_le_some (z_le_none (z_le_some (z_le_some z_le_nil)))))) ?_
    exact k
  · replace k := k.2 h1
    refine z_aload_n dX6_countLike_11 rfl rfl ?_
    refine z_iload_n dX6_countLike_12 rfl rfl ?_
    refine z_calli (I := m_X6_countLike) (I2 := m_X6_refuse) (st := []) [.int r3] dX6_countLike_13 ml_X6_227 rfl (by decide) lo0_0 rfl (Nat.le_of_ble_eq_true rfl) rfl (AMi.mono k (fun r13 M13 k => ?_))
    exact z_ireturn (st := []) rfl dX6_countLike_16 ⟨_, rfl, k⟩

set_option maxRecDepth 100000 in
set_option maxHeartbeats 4000000 in
theorem r_X6_countLike_23 {P : Int32 → zM → Prop} (t : Nat) (ht : t < 6) (x2 : Int32) (x4 : Int32) (x5 : Int32) (F : Nat → Int32) (I : Nat → Nat → Int32) (J : Nat → Nat → Int64)
  (k : (((F (21 + t)) ≤ x5 → AMi m_X6_grant [.ref 0, .int x4] (F, I, J) (fun r57 M57 => P r57 M57)) ∧ (¬ (F (21 + t)) ≤ x5 → vp_in x5 100 ∧ ((¬ (lg_cmp (J (3 + t) (zn x5)) ((x2).toInt64)) = 0 → AW m_X6_countLike (z_pi P) 23 [some (.ref 0), some (.ref (37 + 2 * t)), some (.int x2), none, some (.int x4), some (.int (x5 + 1))] [] (F, I, J)) ∧ ((lg_cmp (J (3 + t) (zn x5)) ((x2).toInt64)) = 0 → AW m_X6_countLike (z_pi P) 23 [some (.ref 0), some (.ref (37 + 2 * t)), some (.int x2), none, some (.int (x4 + 1)), some (.int (x5 + 1))] [] (F, I, J)))))) :
  AW m_X6_countLike (z_pi P) 23 [some (.ref 0), some (.ref (37 + 2 * t)), some (.int x2), none, some (.int x4), some (.int x5)] [] (F, I, J) := by
  refine z_iload dX6_countLike_23 rfl ?_
  refine z_aload_n dX6_countLike_25 rfl rfl ?_
  refine z_geti dX6_countLike_26 fl_X6_327 (z_trayC ht) rfl ?_
  refine z_icmp_ge 54 dX6_countLike_29 (by decide) ⟨fun h1 => ?_, fun h1 => ?_⟩
  · replace k := k.1 h1
    refine z_aload_n dX6_countLike_54 rfl rfl ?_
    refine z_iload dX6_countLike_55 rfl ?_
    refine z_calli (I := m_X6_countLike) (I2 := m_X6_grant) (st := []) [.int x4] dX6_countLike_57 ml_X6_256 rfl (by decide) lo0_0 rfl (Nat.le_of_ble_eq_true rfl) rfl (AMi.mono k (fun r57 M57 k => ?_))
    exact z_ireturn (st := []) rfl dX6_countLike_60 ⟨_, rfl, k⟩
  · replace k := k.2 h1
    refine z_aload_n dX6_countLike_32 rfl rfl ?_
    refine z_getr dX6_countLike_33 fl_X6_328 (z_trayC ht) rfl ?_
    refine z_iload dX6_countLike_36 rfl ?_
    refine z_lald dX6_countLike_38 (z_rowC ht) ⟨k.1, ?_⟩
    replace k := k.2
    refine z_iload_n dX6_countLike_39 rfl rfl ?_
    refine z_i2l dX6_countLike_40 ?_
    refine z_lcmp dX6_countLike_41 ?_
    refine z_if_ne 48 dX6_countLike_42 (by decide) ⟨fun h2 => ?_, fun h2 => ?_⟩
    · replace k := k.1 h2
      refine z_iinc (v := (x5 + 1)) dX6_countLike_48 rfl rfl (by decide) rfl ?_
      refine z_goto 23 dX6_countLike_51 (by decide) ?_
      exact k
    · replace k := k.2 h2
      refine z_iinc (v := (x4 + 1)) dX6_countLike_45 rfl rfl (by decide) rfl ?_
      refine z_iinc (v := (x5 + 1)) dX6_countLike_48 rfl rfl (by decide) rfl ?_
      refine z_goto 23 dX6_countLike_51 (by decide) ?_
      exact k

set_option maxRecDepth 100000 in
set_option maxHeartbeats 4000000 in
theorem r_X6_sumOfCopy_0 {P : Int32 → zM → Prop} (t : Nat) (ht : t < 6) (x2 : Int32) (F : Nat → Int32) (I : Nat → Nat → Int32) (J : Nat → Nat → Int64)
  (k : AMi m_X6_whyNot [.ref 0, .ref (37 + 2 * t), .int 2] (F, I, J) (fun r3 M3 => ((r3 = 0 → ((x2 < 0 → AMi m_X6_refuse [.ref 0, .int 12] M3 (fun r40 M40 => P r40 M40)) ∧ (¬ x2 < 0 → (((M3.1 (21 + t)) < x2 → AMi m_X6_refuse [.ref 0, .int 12] M3 (fun r40 M40 => P r40 M40)) ∧ (¬ (M3.1 (21 + t)) < x2 → (((x2 + x2) ≤ 8 → AW m_X6_sumOfCopy (z_pi P) 50 [some (.ref 0), some (.ref (37 + 2 * t)), some (.int x2), none, some (.int 0), some (.int 0)] [] M3) ∧ (¬ (x2 + x2) ≤ 8 → AMi m_X6_refuse [.ref 0, .int 12] M3 (fun r40 M40 => P r40 M40)))))))) ∧ (¬ r3 = 0 → AMi m_X6_refuse [.ref 0, .int r3] M3 (fun r13 M13 => P r13 M13))))) :
  AMi m_X6_sumOfCopy [.ref 0, .ref (37 + 2 * t), .int x2] (F, I, J) P := by
  refine z_entry (pad := 3) [some (.ref 0), some (.ref (37 + 2 * t)), some (.int x2), none, none, none] (by decide) rfl rfl (fun _ => Nat.le_of_ble_eq_true rfl) ?_
  refine z_aload_n dX6_sumOfCopy_0 rfl rfl ?_
  refine z_aload_n dX6_sumOfCopy_1 rfl rfl ?_
  refine z_iconst (v := 2) dX6_sumOfCopy_2 (by decide) ?_
  refine z_calli (I := m_X6_sumOfCopy) (I2 := m_X6_whyNot) (st := []) [.ref (37 + 2 * t), .int 2] dX6_sumOfCopy_3 ml_X6_324 rfl (by decide) lo0_0 rfl (Nat.le_of_ble_eq_true rfl) rfl (AMi.mono k (fun r3 M3 k => ?_))
  refine z_istore_n dX6_sumOfCopy_6 rfl (by decide) rfl ?_
  refine z_iload_n dX6_sumOfCopy_7 rfl rfl ?_
  refine z_if_eq 17 dX6_sumOfCopy_8 (by decide) ⟨fun h1 => ?_, fun h1 => ?_⟩
  · replace k := k.1 h1
    refine z_iload_n dX6_sumOfCopy_17 rfl rfl ?_
    refine z_if_lt 37 dX6_sumOfCopy_18 (by decide) ⟨fun h2 => ?_, fun h2 => ?_⟩
    · replace k := k.1 h2
      refine z_aload_n dX6_sumOfCopy_37 rfl rfl ?_
      refine z_bipush (v := 12) dX6_sumOfCopy_38 (by decide) ?_
      refine z_calli (I := m_X6_sumOfCopy) (I2 := m_X6_refuse) (st := []) [.int 12] dX6_sumOfCopy_40 ml_X6_227 rfl (by decide) lo0_0 rfl (Nat.le_of_ble_eq_true rfl) rfl (AMi.mono k (fun r40 M40 k => ?_))
      exact z_ireturn (st := []) rfl dX6_sumOfCopy_43 ⟨_, rfl, k⟩
    · replace k := k.2 h2
      refine z_iload_n dX6_sumOfCopy_21 rfl rfl ?_
      refine z_aload_n dX6_sumOfCopy_22 rfl rfl ?_
      refine z_geti dX6_sumOfCopy_23 fl_X6_327 (z_trayC ht) rfl ?_
      refine z_icmp_gt 37 dX6_sumOfCopy_26 (by decide) ⟨fun h3 => ?_, fun h3 => ?_⟩
      · replace k := k.1 h3
        refine z_aload_n dX6_sumOfCopy_37 rfl rfl ?_
        refine z_bipush (v := 12) dX6_sumOfCopy_38 (by decide) ?_
        refine z_calli (I := m_X6_sumOfCopy) (I2 := m_X6_refuse) (st := []) [.int 12] dX6_sumOfCopy_40 ml_X6_227 rfl (by decide) lo0_0 rfl (Nat.le_of_ble_eq_true rfl) rfl (AMi.mono k (fun r40 M40 k => ?_))
        exact z_ireturn (st := []) rfl dX6_sumOfCopy_43 ⟨_, rfl, k⟩
      · replace k := k.2 h3
        refine z_iload_n dX6_sumOfCopy_29 rfl rfl ?_
        refine z_iload_n dX6_sumOfCopy_30 rfl rfl ?_
        refine z_iadd dX6_sumOfCopy_31 ?_
        refine z_bipush (v := 8) dX6_sumOfCopy_32 (by decide) ?_
        refine z_icmp_le 44 dX6_sumOfCopy_34 (by decide) ⟨fun h4 => ?_, fun h4 => ?_⟩
        · replace k := k.1 h4
          refine z_iconst (v := 0) dX6_sumOfCopy_44 (by decide) ?_
          refine z_istore dX6_sumOfCopy_45 (by decide) rfl ?_
          refine z_iconst (v := 0) dX6_sumOfCopy_47 (by decide) ?_
          refine z_istore dX6_sumOfCopy_48 (by decide) rfl ?_
          refine z_wk [some (.ref 0), some (.ref (37 + 2 * t)), some (.int x2), none, some (.int 0), some (.int 0)] (z_le_some (z_le_some (z_le_some (z_le_none (z_le_some (z_le_some z_le_nil)))))) ?_
          exact k
        · replace k := k.2 h4
          refine z_aload_n dX6_sumOfCopy_37 rfl rfl ?_
          refine z_bipush (v := 12) dX6_sumOfCopy_38 (by decide) ?_
          refine z_calli (I := m_X6_sumOfCopy) (I2 := m_X6_refuse) (st := []) [.int 12] dX6_sumOfCopy_40 ml_X6_227 rfl (by decide) lo0_0 rfl (Nat.le_of_ble_eq_true rfl) rfl (AMi.mono k (fun r40 M40 k => ?_))
          exact z_ireturn (st := []) rfl dX6_sumOfCopy_43 ⟨_, rfl, k⟩
  · replace k := k.2 h1
    refine z_aload_n dX6_sumOfCopy_11 rfl rfl ?_
    refine z_iload_n dX6_sumOfCopy_12 rfl rfl ?_
    refine z_calli (I := m_X6_sumOfCopy) (I2 := m_X6_refuse) (st := []) [.int r3] dX6_sumOfCopy_13 ml_X6_227 rfl (by decide) lo0_0 rfl (Nat.le_of_ble_eq_true rfl) rfl (AMi.mono k (fun r13 M13 k => ?_))
    exact z_ireturn (st := []) rfl dX6_sumOfCopy_16 ⟨_, rfl, k⟩

set_option maxRecDepth 100000 in
set_option maxHeartbeats 4000000 in
theorem r_X6_sumOfCopy_50 {P : Int32 → zM → Prop} (t : Nat) (ht : t < 6) (x2 : Int32) (x4 : Int32) (x5 : Int32) (F : Nat → Int32) (I : Nat → Nat → Int32) (J : Nat → Nat → Int64)
  (k : ((x2 ≤ x5 → AMi m_X6_grant [.ref 0, .int x4] (F, I, J) (fun r78 M78 => P r78 M78)) ∧ (¬ x2 ≤ x5 → vp_in x5 100 ∧ AW m_X6_sumOfCopy (z_pi P) 50 [some (.ref 0), some (.ref (37 + 2 * t)), some (.int x2), none, some (.int (x4 + ((J (3 + t) (zn x5)).toInt32))), some (.int (x5 + 1))] [] (F, I, J)))) :
  AW m_X6_sumOfCopy (z_pi P) 50 [some (.ref 0), some (.ref (37 + 2 * t)), some (.int x2), none, some (.int x4), some (.int x5)] [] (F, I, J) := by
  refine z_iload dX6_sumOfCopy_50 rfl ?_
  refine z_iload_n dX6_sumOfCopy_52 rfl rfl ?_
  refine z_icmp_ge 75 dX6_sumOfCopy_53 (by decide) ⟨fun h1 => ?_, fun h1 => ?_⟩
  · replace k := k.1 h1
    refine z_aload_n dX6_sumOfCopy_75 rfl rfl ?_
    refine z_iload dX6_sumOfCopy_76 rfl ?_
    refine z_calli (I := m_X6_sumOfCopy) (I2 := m_X6_grant) (st := []) [.int x4] dX6_sumOfCopy_78 ml_X6_256 rfl (by decide) lo0_0 rfl (Nat.le_of_ble_eq_true rfl) rfl (AMi.mono k (fun r78 M78 k => ?_))
    exact z_ireturn (st := []) rfl dX6_sumOfCopy_81 ⟨_, rfl, k⟩
  · replace k := k.2 h1
    refine z_iload dX6_sumOfCopy_56 rfl ?_
    refine z_aload_n dX6_sumOfCopy_58 rfl rfl ?_
    refine z_getr dX6_sumOfCopy_59 fl_X6_328 (z_trayC ht) rfl ?_
    refine z_iload dX6_sumOfCopy_62 rfl ?_
    refine z_lald dX6_sumOfCopy_64 (z_rowC ht) ⟨k.1, ?_⟩
    replace k := k.2
    refine z_l2i dX6_sumOfCopy_65 ?_
    refine z_iadd dX6_sumOfCopy_66 ?_
    refine z_istore dX6_sumOfCopy_67 (by decide) rfl ?_
    refine z_iinc (v := (x5 + 1)) dX6_sumOfCopy_69 rfl rfl (by decide) rfl ?_
    refine z_goto 50 dX6_sumOfCopy_72 (by decide) ?_
    exact k

set_option maxRecDepth 100000 in
set_option maxHeartbeats 4000000 in
theorem r_X6_layIntoRows_0 {P : Int32 → zM → Prop} (t : Nat) (ht : t < 6) (F : Nat → Int32) (I : Nat → Nat → Int32) (J : Nat → Nat → Int64)
  (k : ((¬ (F (15 + t)) = 0 → ((¬ (F (15 + t)) = 3 → AMi m_X6_refuse [.ref 0, .int 14] (F, I, J) (fun r35 M35 => P r35 M35)) ∧ ((F (15 + t)) = 3 → AMi m_X6_grant [.ref 0, .int (F (21 + t))] (F, I, J) (fun r26 M26 => P r26 M26)))) ∧ ((F (15 + t)) = 0 → AMi m_X6_grant [.ref 0, .int 0] (F, I, J) (fun r9 M9 => P r9 M9)))) :
  AMi m_X6_layIntoRows [.ref 0, .ref (37 + 2 * t)] (F, I, J) P := by
  refine z_entry (pad := 0) [some (.ref 0), some (.ref (37 + 2 * t))] (by decide) rfl rfl (fun _ => Nat.le_of_ble_eq_true rfl) ?_
  refine z_aload_n dX6_layIntoRows_0 rfl rfl ?_
  refine z_geti dX6_layIntoRows_1 fl_X6_321 (z_trayC ht) rfl ?_
  refine z_if_ne 13 dX6_layIntoRows_4 (by decide) ⟨fun h1 => ?_, fun h1 => ?_⟩
  · replace k := k.1 h1
    refine z_aload_n dX6_layIntoRows_13 rfl rfl ?_
    refine z_geti dX6_layIntoRows_14 fl_X6_321 (z_trayC ht) rfl ?_
    refine z_iconst (v := 3) dX6_layIntoRows_17 (by decide) ?_
    refine z_icmp_ne 32 dX6_layIntoRows_18 (by decide) ⟨fun h2 => ?_, fun h2 => ?_⟩
    · replace k := k.1 h2
      refine z_aload_n dX6_layIntoRows_32 rfl rfl ?_
      refine z_bipush (v := 14) dX6_layIntoRows_33 (by decide) ?_
      refine z_calli (I := m_X6_layIntoRows) (I2 := m_X6_refuse) (st := []) [.int 14] dX6_layIntoRows_35 ml_X6_227 rfl (by decide) lo0_0 rfl (Nat.le_of_ble_eq_true rfl) rfl (AMi.mono k (fun r35 M35 k => ?_))
      exact z_ireturn (st := []) rfl dX6_layIntoRows_38 ⟨_, rfl, k⟩
    · replace k := k.2 h2
      refine z_aload_n dX6_layIntoRows_21 rfl rfl ?_
      refine z_aload_n dX6_layIntoRows_22 rfl rfl ?_
      refine z_geti dX6_layIntoRows_23 fl_X6_327 (z_trayC ht) rfl ?_
      refine z_calli (I := m_X6_layIntoRows) (I2 := m_X6_grant) (st := []) [.int (F (21 + t))] dX6_layIntoRows_26 ml_X6_256 rfl (by decide) lo0_0 rfl (Nat.le_of_ble_eq_true rfl) rfl (AMi.mono k (fun r26 M26 k => ?_))
      refine z_goto 38 dX6_layIntoRows_29 (by decide) ?_
      exact z_ireturn (st := []) rfl dX6_layIntoRows_38 ⟨_, rfl, k⟩
  · replace k := k.2 h1
    refine z_aload_n dX6_layIntoRows_7 rfl rfl ?_
    refine z_iconst (v := 0) dX6_layIntoRows_8 (by decide) ?_
    refine z_calli (I := m_X6_layIntoRows) (I2 := m_X6_grant) (st := []) [.int 0] dX6_layIntoRows_9 ml_X6_256 rfl (by decide) lo0_0 rfl (Nat.le_of_ble_eq_true rfl) rfl (AMi.mono k (fun r9 M9 k => ?_))
    exact z_ireturn (st := []) rfl dX6_layIntoRows_12 ⟨_, rfl, k⟩
