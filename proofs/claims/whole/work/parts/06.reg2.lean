set_option maxRecDepth 100000 in
set_option maxHeartbeats 4000000 in
theorem r_X7_isKnot_0 {P : Int32 → zM → Prop} (x1 : Int32) (F : Nat → Int32) (I : Nat → Nat → Int32) (J : Nat → Nat → Int64)
  (k : ((x1 < 0 → P 0 (F, I, J)) ∧ (¬ x1 < 0 → (((F 0) ≤ x1 → P 0 (F, I, J)) ∧ (¬ (F 0) ≤ x1 → P 1 (F, I, J)))))) :
  AMi m_X7_isKnot [.ref 0, .int x1] (F, I, J) P := by
  refine z_entry (pad := 0) [some (.ref 0), some (.int x1)] (by decide) rfl rfl (fun _ => Nat.le_of_ble_eq_true rfl) ?_
  refine z_iload_n dX7_isKnot_0 rfl rfl ?_
  refine z_if_lt 16 dX7_isKnot_1 (by decide) ⟨fun h1 => ?_, fun h1 => ?_⟩
  · replace k := k.1 h1
    refine z_iconst (v := 0) dX7_isKnot_16 (by decide) ?_
    exact z_zreturn (st := []) rfl rfl dX7_isKnot_17 ⟨_, rfl, k⟩
  · replace k := k.2 h1
    refine z_iload_n dX7_isKnot_4 rfl rfl ?_
    refine z_aload_n dX7_isKnot_5 rfl rfl ?_
    refine z_geti dX7_isKnot_6 fl_X7_84 lo1_0 rfl ?_
    refine z_icmp_ge 16 dX7_isKnot_9 (by decide) ⟨fun h2 => ?_, fun h2 => ?_⟩
    · replace k := k.1 h2
      refine z_iconst (v := 0) dX7_isKnot_16 (by decide) ?_
      exact z_zreturn (st := []) rfl rfl dX7_isKnot_17 ⟨_, rfl, k⟩
    · replace k := k.2 h2
      refine z_iconst (v := 1) dX7_isKnot_12 (by decide) ?_
      refine z_goto 17 dX7_isKnot_13 (by decide) ?_
      exact z_zreturn (st := []) rfl rfl dX7_isKnot_17 ⟨_, rfl, k⟩

set_option maxRecDepth 100000 in
set_option maxHeartbeats 4000000 in
theorem r_X7_isThere_0 {P : Int32 → zM → Prop} (x1 : Int32) (F : Nat → Int32) (I : Nat → Nat → Int32) (J : Nat → Nat → Int64)
  (k : ((x1 < 0 → P 0 (F, I, J)) ∧ (¬ x1 < 0 → (((F 1) ≤ x1 → P 0 (F, I, J)) ∧ (¬ (F 1) ≤ x1 → vp_in x1 300 ∧ (((I 3 (zn x1)) = 0 → P 0 (F, I, J)) ∧ (¬ (I 3 (zn x1)) = 0 → P 1 (F, I, J)))))))) :
  AMi m_X7_isThere [.ref 0, .int x1] (F, I, J) P := by
  refine z_entry (pad := 0) [some (.ref 0), some (.int x1)] (by decide) rfl rfl (fun _ => Nat.le_of_ble_eq_true rfl) ?_
  refine z_iload_n dX7_isThere_0 rfl rfl ?_
  refine z_if_lt 25 dX7_isThere_1 (by decide) ⟨fun h1 => ?_, fun h1 => ?_⟩
  · replace k := k.1 h1
    refine z_iconst (v := 0) dX7_isThere_25 (by decide) ?_
    exact z_zreturn (st := []) rfl rfl dX7_isThere_26 ⟨_, rfl, k⟩
  · replace k := k.2 h1
    refine z_iload_n dX7_isThere_4 rfl rfl ?_
    refine z_aload_n dX7_isThere_5 rfl rfl ?_
    refine z_geti dX7_isThere_6 fl_X7_88 lo1_0 rfl ?_
    refine z_icmp_ge 25 dX7_isThere_9 (by decide) ⟨fun h2 => ?_, fun h2 => ?_⟩
    · replace k := k.1 h2
      refine z_iconst (v := 0) dX7_isThere_25 (by decide) ?_
      exact z_zreturn (st := []) rfl rfl dX7_isThere_26 ⟨_, rfl, k⟩
    · replace k := k.2 h2
      refine z_aload_n dX7_isThere_12 rfl rfl ?_
      refine z_getr dX7_isThere_13 fl_X7_23 lo1_0 rfl ?_
      refine z_iload_n dX7_isThere_16 rfl rfl ?_
      refine z_iald dX7_isThere_17 lo1_5 ⟨k.1, ?_⟩
      replace k := k.2
      refine z_if_eq 25 dX7_isThere_18 (by decide) ⟨fun h3 => ?_, fun h3 => ?_⟩
      · replace k := k.1 h3
        refine z_iconst (v := 0) dX7_isThere_25 (by decide) ?_
        exact z_zreturn (st := []) rfl rfl dX7_isThere_26 ⟨_, rfl, k⟩
      · replace k := k.2 h3
        refine z_iconst (v := 1) dX7_isThere_21 (by decide) ?_
        refine z_goto 26 dX7_isThere_22 (by decide) ?_
        exact z_zreturn (st := []) rfl rfl dX7_isThere_26 ⟨_, rfl, k⟩

set_option maxRecDepth 100000 in
set_option maxHeartbeats 4000000 in
theorem r_X7_keep_0 {P : zM → Prop} (x1 : Int32) (F : Nat → Int32) (I : Nat → Nat → Int32) (J : Nat → Nat → Int64)
  (k : AW m_X7_keep (z_pv P) 2 [some (.ref 0), some (.int x1), some (.int 0)] [] (F, I, J)) :
  AMv m_X7_keep [.ref 0, .int x1] (F, I, J) P := by
  refine z_entry (pad := 1) [some (.ref 0), some (.int x1), none] (by decide) rfl rfl (fun _ => Nat.le_of_ble_eq_true rfl) ?_
  refine z_iconst (v := 0) dX7_keep_0 (by decide) ?_
  refine z_istore_n dX7_keep_1 rfl (by decide) rfl ?_
  exact k

set_option maxRecDepth 100000 in
set_option maxHeartbeats 4000000 in
theorem r_X7_keep_2 {P : zM → Prop} (x1 : Int32) (x2 : Int32) (F : Nat → Int32) (I : Nat → Nat → Int32) (J : Nat → Nat → Int64)
  (k : (((F 0) ≤ x2 → AW m_X7_keep (z_pv P) 52 [some (.ref 0), some (.int x1), some (.int 0)] [] (F, I, J)) ∧ (¬ (F 0) ≤ x2 → vp_in x2 100 ∧ vp_in ((100 * x1) + x2) 2100 ∧ vp_in x2 100 ∧ vp_in ((100 * x1) + x2) 2100 ∧ AW m_X7_keep (z_pv P) 2 [some (.ref 0), some (.int x1), some (.int (x2 + 1))] [] (F, z_ui I 5 (zn ((100 * x1) + x2)) (I 0 (zn x2)), z_ul J 2 (zn ((100 * x1) + x2)) (J 0 (zn x2)))))) :
  AW m_X7_keep (z_pv P) 2 [some (.ref 0), some (.int x1), some (.int x2)] [] (F, I, J) := by
  refine z_iload_n dX7_keep_2 rfl rfl ?_
  refine z_aload_n dX7_keep_3 rfl rfl ?_
  refine z_geti dX7_keep_4 fl_X7_84 lo1_0 rfl ?_
  refine z_icmp_ge 50 dX7_keep_7 (by decide) ⟨fun h1 => ?_, fun h1 => ?_⟩
  · replace k := k.1 h1
    refine z_iconst (v := 0) dX7_keep_50 (by decide) ?_
    refine z_istore_n dX7_keep_51 rfl (by decide) rfl ?_
    exact k
  · replace k := k.2 h1
    refine z_aload_n dX7_keep_10 rfl rfl ?_
    refine z_getr dX7_keep_11 fl_X7_32 lo1_0 rfl ?_
    refine z_bipush (v := 100) dX7_keep_14 (by decide) ?_
    refine z_iload_n dX7_keep_16 rfl rfl ?_
    refine z_imul dX7_keep_17 ?_
    refine z_iload_n dX7_keep_18 rfl rfl ?_
    refine z_iadd dX7_keep_19 ?_
    refine z_aload_n dX7_keep_20 rfl rfl ?_
    refine z_getr dX7_keep_21 fl_X7_7 lo1_0 rfl ?_
    refine z_iload_n dX7_keep_24 rfl rfl ?_
    refine z_lald dX7_keep_25 lo1_1 ⟨k.1, ?_⟩
    replace k := k.2
    refine z_last dX7_keep_26 lo1_8 ⟨k.1, ?_⟩
    replace k := k.2
    refine z_aload_n dX7_keep_27 rfl rfl ?_
    refine z_getr dX7_keep_28 fl_X7_35 lo1_0 rfl ?_
    refine z_bipush (v := 100) dX7_keep_31 (by decide) ?_
    refine z_iload_n dX7_keep_33 rfl rfl ?_
    refine z_imul dX7_keep_34 ?_
    refine z_iload_n dX7_keep_35 rfl rfl ?_
    refine z_iadd dX7_keep_36 ?_
    refine z_aload_n dX7_keep_37 rfl rfl ?_
    refine z_getr dX7_keep_38 fl_X7_13 lo1_0 rfl ?_
    refine z_iload_n dX7_keep_41 rfl rfl ?_
    refine z_iald dX7_keep_42 lo1_2 ⟨k.1, ?_⟩
    replace k := k.2
    refine z_iast dX7_keep_43 lo1_9 ⟨k.1, ?_⟩
    replace k := k.2
    refine z_iinc (v := (x2 + 1)) dX7_keep_44 rfl rfl (by decide) rfl ?_
    refine z_goto 2 dX7_keep_47 (by decide) ?_
    exact k

set_option maxRecDepth 100000 in
set_option maxHeartbeats 4000000 in
theorem r_X7_keep_52 {P : zM → Prop} (x1 : Int32) (x2 : Int32) (F : Nat → Int32) (I : Nat → Nat → Int32) (J : Nat → Nat → Int64)
  (k : (((F 1) ≤ x2 → vp_in x1 21 ∧ vp_in x1 21 ∧ vp_in x1 21 ∧ P (F, z_ui (z_ui (z_ui I 8 (zn x1) (F 1)) 9 (zn x1) (F 3)) 10 (zn x1) (F 4), J)) ∧ (¬ (F 1) ≤ x2 → vp_in x2 300 ∧ vp_in ((300 * x1) + x2) 6300 ∧ vp_in x2 300 ∧ vp_in ((300 * x1) + x2) 6300 ∧ AW m_X7_keep (z_pv P) 52 [some (.ref 0), some (.int x1), some (.int (x2 + 1))] [] (F, z_ui (z_ui I 6 (zn ((300 * x1) + x2)) (I 3 (zn x2))) 7 (zn ((300 * x1) + x2)) (I 4 (zn x2)), J)))) :
  AW m_X7_keep (z_pv P) 52 [some (.ref 0), some (.int x1), some (.int x2)] [] (F, I, J) := by
  refine z_iload_n dX7_keep_52 rfl rfl ?_
  refine z_aload_n dX7_keep_53 rfl rfl ?_
  refine z_geti dX7_keep_54 fl_X7_88 lo1_0 rfl ?_
  refine z_icmp_ge 102 dX7_keep_57 (by decide) ⟨fun h1 => ?_, fun h1 => ?_⟩
  · replace k := k.1 h1
    refine z_aload_n dX7_keep_102 rfl rfl ?_
    refine z_getr dX7_keep_103 fl_X7_44 lo1_0 rfl ?_
    refine z_iload_n dX7_keep_106 rfl rfl ?_
    refine z_aload_n dX7_keep_107 rfl rfl ?_
    refine z_geti dX7_keep_108 fl_X7_88 lo1_0 rfl ?_
    refine z_iast dX7_keep_111 lo1_12 ⟨k.1, ?_⟩
    replace k := k.2
    refine z_aload_n dX7_keep_112 rfl rfl ?_
    refine z_getr dX7_keep_113 fl_X7_47 lo1_0 rfl ?_
    refine z_iload_n dX7_keep_116 rfl rfl ?_
    refine z_aload_n dX7_keep_117 rfl rfl ?_
    refine z_geti dX7_keep_118 fl_X7_91 lo1_0 rfl ?_
    refine z_iast dX7_keep_121 lo1_13 ⟨k.1, ?_⟩
    replace k := k.2
    refine z_aload_n dX7_keep_122 rfl rfl ?_
    refine z_getr dX7_keep_123 fl_X7_50 lo1_0 rfl ?_
    refine z_iload_n dX7_keep_126 rfl rfl ?_
    refine z_aload_n dX7_keep_127 rfl rfl ?_
    refine z_geti dX7_keep_128 fl_X7_94 lo1_0 rfl ?_
    refine z_iast dX7_keep_131 lo1_14 ⟨k.1, ?_⟩
    replace k := k.2
    exact z_return (st := []) rfl dX7_keep_132 ⟨rfl, k⟩
  · replace k := k.2 h1
    refine z_aload_n dX7_keep_60 rfl rfl ?_
    refine z_getr dX7_keep_61 fl_X7_38 lo1_0 rfl ?_
    refine z_sipush (v := 300) dX7_keep_64 (by decide) ?_
    refine z_iload_n dX7_keep_67 rfl rfl ?_
    refine z_imul dX7_keep_68 ?_
    refine z_iload_n dX7_keep_69 rfl rfl ?_
    refine z_iadd dX7_keep_70 ?_
    refine z_aload_n dX7_keep_71 rfl rfl ?_
    refine z_getr dX7_keep_72 fl_X7_23 lo1_0 rfl ?_
    refine z_iload_n dX7_keep_75 rfl rfl ?_
    refine z_iald dX7_keep_76 lo1_5 ⟨k.1, ?_⟩
    replace k := k.2
    refine z_iast dX7_keep_77 lo1_10 ⟨k.1, ?_⟩
    replace k := k.2
    refine z_aload_n dX7_keep_78 rfl rfl ?_
    refine z_getr dX7_keep_79 fl_X7_41 lo1_0 rfl ?_
    refine z_sipush (v := 300) dX7_keep_82 (by decide) ?_
    refine z_iload_n dX7_keep_85 rfl rfl ?_
    refine z_imul dX7_keep_86 ?_
    refine z_iload_n dX7_keep_87 rfl rfl ?_
    refine z_iadd dX7_keep_88 ?_
    refine z_aload_n dX7_keep_89 rfl rfl ?_
    refine z_getr dX7_keep_90 fl_X7_26 lo1_0 rfl ?_
    refine z_iload_n dX7_keep_93 rfl rfl ?_
    refine z_iald dX7_keep_94 lo1_6 ⟨k.1, ?_⟩
    replace k := k.2
    refine z_iast dX7_keep_95 lo1_11 ⟨k.1, ?_⟩
    replace k := k.2
    refine z_iinc (v := (x2 + 1)) dX7_keep_96 rfl rfl (by decide) rfl ?_
    refine z_goto 52 dX7_keep_99 (by decide) ?_
    exact k

set_option maxRecDepth 100000 in
set_option maxHeartbeats 4000000 in
theorem r_X7_back_0 {P : zM → Prop} (x1 : Int32) (F : Nat → Int32) (I : Nat → Nat → Int32) (J : Nat → Nat → Int64)
  (k : AW m_X7_back (z_pv P) 2 [some (.ref 0), some (.int x1), some (.int 0)] [] (F, I, J)) :
  AMv m_X7_back [.ref 0, .int x1] (F, I, J) P := by
  refine z_entry (pad := 1) [some (.ref 0), some (.int x1), none] (by decide) rfl rfl (fun _ => Nat.le_of_ble_eq_true rfl) ?_
  refine z_iconst (v := 0) dX7_back_0 (by decide) ?_
  refine z_istore_n dX7_back_1 rfl (by decide) rfl ?_
  exact k

set_option maxRecDepth 100000 in
set_option maxHeartbeats 4000000 in
theorem r_X7_back_2 {P : zM → Prop} (x1 : Int32) (x2 : Int32) (F : Nat → Int32) (I : Nat → Nat → Int32) (J : Nat → Nat → Int64)
  (k : (((F 0) ≤ x2 → vp_in x1 21 ∧ AW m_X7_back (z_pv P) 62 [some (.ref 0), some (.int x1), some (.int 0)] [] (upd F 1 (I 8 (zn x1)), I, J)) ∧ (¬ (F 0) ≤ x2 → vp_in ((100 * x1) + x2) 2100 ∧ vp_in x2 100 ∧ vp_in ((100 * x1) + x2) 2100 ∧ vp_in x2 100 ∧ AW m_X7_back (z_pv P) 2 [some (.ref 0), some (.int x1), some (.int (x2 + 1))] [] (F, z_ui I 0 (zn x2) (I 5 (zn ((100 * x1) + x2))), z_ul J 0 (zn x2) (J 2 (zn ((100 * x1) + x2))))))) :
  AW m_X7_back (z_pv P) 2 [some (.ref 0), some (.int x1), some (.int x2)] [] (F, I, J) := by
  refine z_iload_n dX7_back_2 rfl rfl ?_
  refine z_aload_n dX7_back_3 rfl rfl ?_
  refine z_geti dX7_back_4 fl_X7_84 lo1_0 rfl ?_
  refine z_icmp_ge 50 dX7_back_7 (by decide) ⟨fun h1 => ?_, fun h1 => ?_⟩
  · replace k := k.1 h1
    refine z_aload_n dX7_back_50 rfl rfl ?_
    refine z_aload_n dX7_back_51 rfl rfl ?_
    refine z_getr dX7_back_52 fl_X7_44 lo1_0 rfl ?_
    refine z_iload_n dX7_back_55 rfl rfl ?_
    refine z_iald dX7_back_56 lo1_12 ⟨k.1, ?_⟩
    replace k := k.2
    refine z_puti dX7_back_57 fw_X7_88 lo1_0 rfl ?_
    refine z_iconst (v := 0) dX7_back_60 (by decide) ?_
    refine z_istore_n dX7_back_61 rfl (by decide) rfl ?_
    exact k
  · replace k := k.2 h1
    refine z_aload_n dX7_back_10 rfl rfl ?_
    refine z_getr dX7_back_11 fl_X7_7 lo1_0 rfl ?_
    refine z_iload_n dX7_back_14 rfl rfl ?_
    refine z_aload_n dX7_back_15 rfl rfl ?_
    refine z_getr dX7_back_16 fl_X7_32 lo1_0 rfl ?_
    refine z_bipush (v := 100) dX7_back_19 (by decide) ?_
    refine z_iload_n dX7_back_21 rfl rfl ?_
    refine z_imul dX7_back_22 ?_
    refine z_iload_n dX7_back_23 rfl rfl ?_
    refine z_iadd dX7_back_24 ?_
    refine z_lald dX7_back_25 lo1_8 ⟨k.1, ?_⟩
    replace k := k.2
    refine z_last dX7_back_26 lo1_1 ⟨k.1, ?_⟩
    replace k := k.2
    refine z_aload_n dX7_back_27 rfl rfl ?_
    refine z_getr dX7_back_28 fl_X7_13 lo1_0 rfl ?_
    refine z_iload_n dX7_back_31 rfl rfl ?_
    refine z_aload_n dX7_back_32 rfl rfl ?_
    refine z_getr dX7_back_33 fl_X7_35 lo1_0 rfl ?_
    refine z_bipush (v := 100) dX7_back_36 (by decide) ?_
    refine z_iload_n dX7_back_38 rfl rfl ?_
    refine z_imul dX7_back_39 ?_
    refine z_iload_n dX7_back_40 rfl rfl ?_
    refine z_iadd dX7_back_41 ?_
    refine z_iald dX7_back_42 lo1_9 ⟨k.1, ?_⟩
    replace k := k.2
    refine z_iast dX7_back_43 lo1_2 ⟨k.1, ?_⟩
    replace k := k.2
    refine z_iinc (v := (x2 + 1)) dX7_back_44 rfl rfl (by decide) rfl ?_
    refine z_goto 2 dX7_back_47 (by decide) ?_
    exact k

set_option maxRecDepth 100000 in
set_option maxHeartbeats 4000000 in
theorem r_X7_back_62 {P : zM → Prop} (x1 : Int32) (x2 : Int32) (F : Nat → Int32) (I : Nat → Nat → Int32) (J : Nat → Nat → Int64)
  (k : (((F 1) ≤ x2 → vp_in x1 21 ∧ vp_in x1 21 ∧ P (upd (upd F 3 (I 9 (zn x1))) 4 (I 10 (zn x1)), I, J)) ∧ (¬ (F 1) ≤ x2 → vp_in ((300 * x1) + x2) 6300 ∧ vp_in x2 300 ∧ vp_in ((300 * x1) + x2) 6300 ∧ vp_in x2 300 ∧ AW m_X7_back (z_pv P) 62 [some (.ref 0), some (.int x1), some (.int (x2 + 1))] [] (F, z_ui (z_ui I 3 (zn x2) (I 6 (zn ((300 * x1) + x2)))) 4 (zn x2) (I 7 (zn ((300 * x1) + x2))), J)))) :
  AW m_X7_back (z_pv P) 62 [some (.ref 0), some (.int x1), some (.int x2)] [] (F, I, J) := by
  refine z_iload_n dX7_back_62 rfl rfl ?_
  refine z_aload_n dX7_back_63 rfl rfl ?_
  refine z_geti dX7_back_64 fl_X7_88 lo1_0 rfl ?_
  refine z_icmp_ge 112 dX7_back_67 (by decide) ⟨fun h1 => ?_, fun h1 => ?_⟩
  · replace k := k.1 h1
    refine z_aload_n dX7_back_112 rfl rfl ?_
    refine z_aload_n dX7_back_113 rfl rfl ?_
    refine z_getr dX7_back_114 fl_X7_47 lo1_0 rfl ?_
    refine z_iload_n dX7_back_117 rfl rfl ?_
    refine z_iald dX7_back_118 lo1_13 ⟨k.1, ?_⟩
    replace k := k.2
    refine z_puti dX7_back_119 fw_X7_91 lo1_0 rfl ?_
    refine z_aload_n dX7_back_122 rfl rfl ?_
    refine z_aload_n dX7_back_123 rfl rfl ?_
    refine z_getr dX7_back_124 fl_X7_50 lo1_0 rfl ?_
    refine z_iload_n dX7_back_127 rfl rfl ?_
    refine z_iald dX7_back_128 lo1_14 ⟨k.1, ?_⟩
    replace k := k.2
    refine z_puti dX7_back_129 fw_X7_94 lo1_0 rfl ?_
    exact z_return (st := []) rfl dX7_back_132 ⟨rfl, k⟩
  · replace k := k.2 h1
    refine z_aload_n dX7_back_70 rfl rfl ?_
    refine z_getr dX7_back_71 fl_X7_23 lo1_0 rfl ?_
    refine z_iload_n dX7_back_74 rfl rfl ?_
    refine z_aload_n dX7_back_75 rfl rfl ?_
    refine z_getr dX7_back_76 fl_X7_38 lo1_0 rfl ?_
    refine z_sipush (v := 300) dX7_back_79 (by decide) ?_
    refine z_iload_n dX7_back_82 rfl rfl ?_
    refine z_imul dX7_back_83 ?_
    refine z_iload_n dX7_back_84 rfl rfl ?_
    refine z_iadd dX7_back_85 ?_
    refine z_iald dX7_back_86 lo1_10 ⟨k.1, ?_⟩
    replace k := k.2
    refine z_iast dX7_back_87 lo1_5 ⟨k.1, ?_⟩
    replace k := k.2
    refine z_aload_n dX7_back_88 rfl rfl ?_
    refine z_getr dX7_back_89 fl_X7_26 lo1_0 rfl ?_
    refine z_iload_n dX7_back_92 rfl rfl ?_
    refine z_aload_n dX7_back_93 rfl rfl ?_
    refine z_getr dX7_back_94 fl_X7_41 lo1_0 rfl ?_
    refine z_sipush (v := 300) dX7_back_97 (by decide) ?_
    refine z_iload_n dX7_back_100 rfl rfl ?_
    refine z_imul dX7_back_101 ?_
    refine z_iload_n dX7_back_102 rfl rfl ?_
    refine z_iadd dX7_back_103 ?_
    refine z_iald dX7_back_104 lo1_11 ⟨k.1, ?_⟩
    replace k := k.2
    refine z_iast dX7_back_105 lo1_6 ⟨k.1, ?_⟩
    replace k := k.2
    refine z_iinc (v := (x2 + 1)) dX7_back_106 rfl rfl (by decide) rfl ?_
    refine z_goto 62 dX7_back_109 (by decide) ?_
    exact k

set_option maxRecDepth 100000 in
set_option maxHeartbeats 4000000 in
theorem r_X7_move_0 {P : zM → Prop} (x1 : Int32) (x2 : Int32) (F : Nat → Int32) (I : Nat → Nat → Int32) (J : Nat → Nat → Int64)
  (k : AW m_X7_move (z_pv P) 2 [some (.ref 0), some (.int x1), some (.int x2), some (.int 0)] [] (F, I, J)) :
  AMv m_X7_move [.ref 0, .int x1, .int x2] (F, I, J) P := by
  refine z_entry (pad := 1) [some (.ref 0), some (.int x1), some (.int x2), none] (by decide) rfl rfl (fun _ => Nat.le_of_ble_eq_true rfl) ?_
  refine z_iconst (v := 0) dX7_move_0 (by decide) ?_
  refine z_istore_n dX7_move_1 rfl (by decide) rfl ?_
  exact k

set_option maxRecDepth 100000 in
set_option maxHeartbeats 4000000 in
theorem r_X7_move_2 {P : zM → Prop} (x1 : Int32) (x2 : Int32) (x3 : Int32) (F : Nat → Int32) (I : Nat → Nat → Int32) (J : Nat → Nat → Int64)
  (k : ((100 ≤ x3 → AW m_X7_move (z_pv P) 60 [some (.ref 0), some (.int x1), some (.int x2), some (.int 0)] [] (F, I, J)) ∧ (¬ 100 ≤ x3 → vp_in ((100 * x1) + x3) 2100 ∧ vp_in ((100 * x2) + x3) 2100 ∧ vp_in ((100 * x1) + x3) 2100 ∧ vp_in ((100 * x2) + x3) 2100 ∧ AW m_X7_move (z_pv P) 2 [some (.ref 0), some (.int x1), some (.int x2), some (.int (x3 + 1))] [] (F, z_ui I 5 (zn ((100 * x2) + x3)) (I 5 (zn ((100 * x1) + x3))), z_ul J 2 (zn ((100 * x2) + x3)) (J 2 (zn ((100 * x1) + x3))))))) :
  AW m_X7_move (z_pv P) 2 [some (.ref 0), some (.int x1), some (.int x2), some (.int x3)] [] (F, I, J) := by
  refine z_iload_n dX7_move_2 rfl rfl ?_
  refine z_bipush (v := 100) dX7_move_3 (by decide) ?_
  refine z_icmp_ge 58 dX7_move_5 (by decide) ⟨fun h1 => ?_, fun h1 => ?_⟩
  · replace k := k.1 h1
    refine z_iconst (v := 0) dX7_move_58 (by decide) ?_
    refine z_istore_n dX7_move_59 rfl (by decide) rfl ?_
    exact k
  · replace k := k.2 h1
    refine z_aload_n dX7_move_8 rfl rfl ?_
    refine z_getr dX7_move_9 fl_X7_32 lo1_0 rfl ?_
    refine z_bipush (v := 100) dX7_move_12 (by decide) ?_
    refine z_iload_n dX7_move_14 rfl rfl ?_
    refine z_imul dX7_move_15 ?_
    refine z_iload_n dX7_move_16 rfl rfl ?_
    refine z_iadd dX7_move_17 ?_
    refine z_aload_n dX7_move_18 rfl rfl ?_
    refine z_getr dX7_move_19 fl_X7_32 lo1_0 rfl ?_
    refine z_bipush (v := 100) dX7_move_22 (by decide) ?_
    refine z_iload_n dX7_move_24 rfl rfl ?_
    refine z_imul dX7_move_25 ?_
    refine z_iload_n dX7_move_26 rfl rfl ?_
    refine z_iadd dX7_move_27 ?_
    refine z_lald dX7_move_28 lo1_8 ⟨k.1, ?_⟩
    replace k := k.2
    refine z_last dX7_move_29 lo1_8 ⟨k.1, ?_⟩
    replace k := k.2
    refine z_aload_n dX7_move_30 rfl rfl ?_
    refine z_getr dX7_move_31 fl_X7_35 lo1_0 rfl ?_
    refine z_bipush (v := 100) dX7_move_34 (by decide) ?_
    refine z_iload_n dX7_move_36 rfl rfl ?_
    refine z_imul dX7_move_37 ?_
    refine z_iload_n dX7_move_38 rfl rfl ?_
    refine z_iadd dX7_move_39 ?_
    refine z_aload_n dX7_move_40 rfl rfl ?_
    refine z_getr dX7_move_41 fl_X7_35 lo1_0 rfl ?_
    refine z_bipush (v := 100) dX7_move_44 (by decide) ?_
    refine z_iload_n dX7_move_46 rfl rfl ?_
    refine z_imul dX7_move_47 ?_
    refine z_iload_n dX7_move_48 rfl rfl ?_
    refine z_iadd dX7_move_49 ?_
    refine z_iald dX7_move_50 lo1_9 ⟨k.1, ?_⟩
    replace k := k.2
    refine z_iast dX7_move_51 lo1_9 ⟨k.1, ?_⟩
    replace k := k.2
    refine z_iinc (v := (x3 + 1)) dX7_move_52 rfl rfl (by decide) rfl ?_
    refine z_goto 2 dX7_move_55 (by decide) ?_
    exact k

set_option maxRecDepth 100000 in
set_option maxHeartbeats 4000000 in
theorem r_X7_move_60 {P : zM → Prop} (x1 : Int32) (x2 : Int32) (x3 : Int32) (F : Nat → Int32) (I : Nat → Nat → Int32) (J : Nat → Nat → Int64)
  (k : ((300 ≤ x3 → vp_in x1 21 ∧ vp_in x2 21 ∧ vp_in x1 21 ∧ vp_in x2 21 ∧ vp_in x1 21 ∧ vp_in x2 21 ∧ P (F, z_ui (z_ui (z_ui I 8 (zn x2) (I 8 (zn x1))) 9 (zn x2) (I 9 (zn x1))) 10 (zn x2) (I 10 (zn x1)), J)) ∧ (¬ 300 ≤ x3 → vp_in ((300 * x1) + x3) 6300 ∧ vp_in ((300 * x2) + x3) 6300 ∧ vp_in ((300 * x1) + x3) 6300 ∧ vp_in ((300 * x2) + x3) 6300 ∧ AW m_X7_move (z_pv P) 60 [some (.ref 0), some (.int x1), some (.int x2), some (.int (x3 + 1))] [] (F, z_ui (z_ui I 6 (zn ((300 * x2) + x3)) (I 6 (zn ((300 * x1) + x3)))) 7 (zn ((300 * x2) + x3)) (I 7 (zn ((300 * x1) + x3))), J)))) :
  AW m_X7_move (z_pv P) 60 [some (.ref 0), some (.int x1), some (.int x2), some (.int x3)] [] (F, I, J) := by
  refine z_iload_n dX7_move_60 rfl rfl ?_
  refine z_sipush (v := 300) dX7_move_61 (by decide) ?_
  refine z_icmp_ge 121 dX7_move_64 (by decide) ⟨fun h1 => ?_, fun h1 => ?_⟩
  · replace k := k.1 h1
    refine z_aload_n dX7_move_121 rfl rfl ?_
    refine z_getr dX7_move_122 fl_X7_44 lo1_0 rfl ?_
    refine z_iload_n dX7_move_125 rfl rfl ?_
    refine z_aload_n dX7_move_126 rfl rfl ?_
    refine z_getr dX7_move_127 fl_X7_44 lo1_0 rfl ?_
    refine z_iload_n dX7_move_130 rfl rfl ?_
    refine z_iald dX7_move_131 lo1_12 ⟨k.1, ?_⟩
    replace k := k.2
    refine z_iast dX7_move_132 lo1_12 ⟨k.1, ?_⟩
    replace k := k.2
    refine z_aload_n dX7_move_133 rfl rfl ?_
    refine z_getr dX7_move_134 fl_X7_47 lo1_0 rfl ?_
    refine z_iload_n dX7_move_137 rfl rfl ?_
    refine z_aload_n dX7_move_138 rfl rfl ?_
    refine z_getr dX7_move_139 fl_X7_47 lo1_0 rfl ?_
    refine z_iload_n dX7_move_142 rfl rfl ?_
    refine z_iald dX7_move_143 lo1_13 ⟨k.1, ?_⟩
    replace k := k.2
    refine z_iast dX7_move_144 lo1_13 ⟨k.1, ?_⟩
    replace k := k.2
    refine z_aload_n dX7_move_145 rfl rfl ?_
    refine z_getr dX7_move_146 fl_X7_50 lo1_0 rfl ?_
    refine z_iload_n dX7_move_149 rfl rfl ?_
    refine z_aload_n dX7_move_150 rfl rfl ?_
    refine z_getr dX7_move_151 fl_X7_50 lo1_0 rfl ?_
    refine z_iload_n dX7_move_154 rfl rfl ?_
    refine z_iald dX7_move_155 lo1_14 ⟨k.1, ?_⟩
    replace k := k.2
    refine z_iast dX7_move_156 lo1_14 ⟨k.1, ?_⟩
    replace k := k.2
    exact z_return (st := []) rfl dX7_move_157 ⟨rfl, k⟩
  · replace k := k.2 h1
    refine z_aload_n dX7_move_67 rfl rfl ?_
    refine z_getr dX7_move_68 fl_X7_38 lo1_0 rfl ?_
    refine z_sipush (v := 300) dX7_move_71 (by decide) ?_
    refine z_iload_n dX7_move_74 rfl rfl ?_
    refine z_imul dX7_move_75 ?_
    refine z_iload_n dX7_move_76 rfl rfl ?_
    refine z_iadd dX7_move_77 ?_
    refine z_aload_n dX7_move_78 rfl rfl ?_
    refine z_getr dX7_move_79 fl_X7_38 lo1_0 rfl ?_
    refine z_sipush (v := 300) dX7_move_82 (by decide) ?_
    refine z_iload_n dX7_move_85 rfl rfl ?_
    refine z_imul dX7_move_86 ?_
    refine z_iload_n dX7_move_87 rfl rfl ?_
    refine z_iadd dX7_move_88 ?_
    refine z_iald dX7_move_89 lo1_10 ⟨k.1, ?_⟩
    replace k := k.2
    refine z_iast dX7_move_90 lo1_10 ⟨k.1, ?_⟩
    replace k := k.2
    refine z_aload_n dX7_move_91 rfl rfl ?_
    refine z_getr dX7_move_92 fl_X7_41 lo1_0 rfl ?_
    refine z_sipush (v := 300) dX7_move_95 (by decide) ?_
    refine z_iload_n dX7_move_98 rfl rfl ?_
    refine z_imul dX7_move_99 ?_
    refine z_iload_n dX7_move_100 rfl rfl ?_
    refine z_iadd dX7_move_101 ?_
    refine z_aload_n dX7_move_102 rfl rfl ?_
    refine z_getr dX7_move_103 fl_X7_41 lo1_0 rfl ?_
    refine z_sipush (v := 300) dX7_move_106 (by decide) ?_
    refine z_iload_n dX7_move_109 rfl rfl ?_
    refine z_imul dX7_move_110 ?_
    refine z_iload_n dX7_move_111 rfl rfl ?_
    refine z_iadd dX7_move_112 ?_
    refine z_iald dX7_move_113 lo1_11 ⟨k.1, ?_⟩
    replace k := k.2
    refine z_iast dX7_move_114 lo1_11 ⟨k.1, ?_⟩
    replace k := k.2
    refine z_iinc (v := (x3 + 1)) dX7_move_115 rfl rfl (by decide) rfl ?_
    refine z_goto 60 dX7_move_118 (by decide) ?_
    exact k

set_option maxRecDepth 100000 in
set_option maxHeartbeats 4000000 in
theorem r_X7_changes_0 {P : zM → Prop}  (F : Nat → Int32) (I : Nat → Nat → Int32) (J : Nat → Nat → Int64)
  (k : ((¬ (F 5) = 20 → AMv m_X7_keep [.ref 0, .int (F 5)] (upd F 5 ((F 5) + 1), I, J) (fun M53 => P M53)) ∧ ((F 5) = 20 → AW m_X7_changes (z_pv P) 11 [some (.ref 0), some (.int 1)] [] (F, I, J)))) :
  AMv m_X7_changes [.ref 0] (F, I, J) P := by
  refine z_entry (pad := 1) [some (.ref 0), none] (by decide) rfl rfl (fun _ => Nat.le_of_ble_eq_true rfl) ?_
  refine z_aload_n dX7_changes_0 rfl rfl ?_
  refine z_geti dX7_changes_1 fl_X7_97 lo1_0 rfl ?_
  refine z_bipush (v := 20) dX7_changes_4 (by decide) ?_
  refine z_icmp_ne 41 dX7_changes_6 (by decide) ⟨fun h1 => ?_, fun h1 => ?_⟩
  · replace k := k.1 h1
    refine z_aload_n dX7_changes_41 rfl rfl ?_
    refine z_aload_n dX7_changes_42 rfl rfl ?_
    refine z_dup dX7_changes_43 rfl ?_
    refine z_geti dX7_changes_44 fl_X7_97 lo1_0 rfl ?_
    refine z_dup_x1 dX7_changes_47 rfl rfl ?_
    refine z_iconst (v := 1) dX7_changes_48 (by decide) ?_
    refine z_iadd dX7_changes_49 ?_
    refine z_puti dX7_changes_50 fw_X7_97 lo1_0 rfl ?_
    refine z_callv (I := m_X7_changes) (I2 := m_X7_keep) (st := []) [.int (F 5)] dX7_changes_53 ml_X7_104 rfl (by decide) lo1_0 rfl (Nat.le_of_ble_eq_true rfl) rfl (AMv.mono k (fun M53 k => ?_))
    exact z_return (st := []) rfl dX7_changes_56 ⟨rfl, k⟩
  · replace k := k.2 h1
    refine z_iconst (v := 1) dX7_changes_9 (by decide) ?_
    refine z_istore_n dX7_changes_10 rfl (by decide) rfl ?_
    exact k

set_option maxRecDepth 100000 in
set_option maxHeartbeats 4000000 in
theorem r_X7_changes_11 {P : zM → Prop} (x1 : Int32) (F : Nat → Int32) (I : Nat → Nat → Int32) (J : Nat → Nat → Int64)
  (k : ((20 ≤ x1 → AMv m_X7_keep [.ref 0, .int ((F 5) - 1)] (upd (upd F 5 ((F 5) - 1)) 5 (((F 5) - 1) + 1), I, J) (fun M53 => P M53)) ∧ (¬ 20 ≤ x1 → AMv m_X7_move [.ref 0, .int x1, .int (x1 - 1)] (F, I, J) (fun M22 => AW m_X7_changes (z_pv P) 11 [some (.ref 0), some (.int (x1 + 1))] [] M22)))) :
  AW m_X7_changes (z_pv P) 11 [some (.ref 0), some (.int x1)] [] (F, I, J) := by
  refine z_iload_n dX7_changes_11 rfl rfl ?_
  refine z_bipush (v := 20) dX7_changes_12 (by decide) ?_
  refine z_icmp_ge 31 dX7_changes_14 (by decide) ⟨fun h1 => ?_, fun h1 => ?_⟩
  · replace k := k.1 h1
    refine z_aload_n dX7_changes_31 rfl rfl ?_
    refine z_dup dX7_changes_32 rfl ?_
    refine z_geti dX7_changes_33 fl_X7_97 lo1_0 rfl ?_
    refine z_iconst (v := 1) dX7_changes_36 (by decide) ?_
    refine z_isub dX7_changes_37 ?_
    refine z_puti dX7_changes_38 fw_X7_97 lo1_0 rfl ?_
    refine z_aload_n dX7_changes_41 rfl rfl ?_
    refine z_aload_n dX7_changes_42 rfl rfl ?_
    refine z_dup dX7_changes_43 rfl ?_
    refine z_geti dX7_changes_44 fl_X7_97 lo1_0 rfl ?_
    refine z_dup_x1 dX7_changes_47 rfl rfl ?_
    refine z_iconst (v := 1) dX7_changes_48 (by decide) ?_
    refine z_iadd dX7_changes_49 ?_
    refine z_puti dX7_changes_50 fw_X7_97 lo1_0 rfl ?_
    refine z_callv (I := m_X7_changes) (I2 := m_X7_keep) (st := []) [.int ((F 5) - 1)] dX7_changes_53 ml_X7_104 rfl (by decide) lo1_0 rfl (Nat.le_of_ble_eq_true rfl) rfl (AMv.mono k (fun M53 k => ?_))
    exact z_return (st := []) rfl dX7_changes_56 ⟨rfl, k⟩
  · replace k := k.2 h1
    refine z_aload_n dX7_changes_17 rfl rfl ?_
    refine z_iload_n dX7_changes_18 rfl rfl ?_
    refine z_iload_n dX7_changes_19 rfl rfl ?_
    refine z_iconst (v := 1) dX7_changes_20 (by decide) ?_
    refine z_isub dX7_changes_21 ?_
    refine z_callv (I := m_X7_changes) (I2 := m_X7_move) (st := []) [.int x1, .int (x1 - 1)] dX7_changes_22 ml_X7_100 rfl (by decide) lo1_0 rfl (Nat.le_of_ble_eq_true rfl) rfl (AMv.mono k (fun M22 k => ?_))
    refine z_iinc (v := (x1 + 1)) dX7_changes_25 rfl rfl (by decide) rfl ?_
    refine z_goto 11 dX7_changes_28 (by decide) ?_
    exact k

set_option maxRecDepth 100000 in
set_option maxHeartbeats 4000000 in
theorem r_X7_undo_0 {P : Int32 → zM → Prop}  (F : Nat → Int32) (I : Nat → Nat → Int32) (J : Nat → Nat → Int64)
  (k : ((¬ (F 5) = 0 → AMv m_X7_back [.ref 0, .int ((F 5) - 1)] (upd F 5 ((F 5) - 1), I, J) (fun M21 => P 1 M21)) ∧ ((F 5) = 0 → P (-1) (F, I, J)))) :
  AMi m_X7_undo [.ref 0] (F, I, J) P := by
  refine z_entry (pad := 0) [some (.ref 0)] (by decide) rfl rfl (fun _ => Nat.le_of_ble_eq_true rfl) ?_
  refine z_aload_n dX7_undo_0 rfl rfl ?_
  refine z_geti dX7_undo_1 fl_X7_97 lo1_0 rfl ?_
  refine z_if_ne 9 dX7_undo_4 (by decide) ⟨fun h1 => ?_, fun h1 => ?_⟩
  · replace k := k.1 h1
    refine z_aload_n dX7_undo_9 rfl rfl ?_
    refine z_aload_n dX7_undo_10 rfl rfl ?_
    refine z_dup dX7_undo_11 rfl ?_
    refine z_geti dX7_undo_12 fl_X7_97 lo1_0 rfl ?_
    refine z_iconst (v := 1) dX7_undo_15 (by decide) ?_
    refine z_isub dX7_undo_16 ?_
    refine z_dup_x1 dX7_undo_17 rfl rfl ?_
    refine z_puti dX7_undo_18 fw_X7_97 lo1_0 rfl ?_
    refine z_callv (I := m_X7_undo) (I2 := m_X7_back) (st := []) [.int ((F 5) - 1)] dX7_undo_21 ml_X7_108 rfl (by decide) lo1_0 rfl (Nat.le_of_ble_eq_true rfl) rfl (AMv.mono k (fun M21 k => ?_))
    refine z_iconst (v := 1) dX7_undo_24 (by decide) ?_
    exact z_ireturn (st := []) rfl dX7_undo_25 ⟨_, rfl, k⟩
  · replace k := k.2 h1
    refine z_iconst (v := (-1)) dX7_undo_7 (by decide) ?_
    exact z_ireturn (st := []) rfl dX7_undo_8 ⟨_, rfl, k⟩

set_option maxRecDepth 100000 in
set_option maxHeartbeats 4000000 in
theorem r_X7_reach_a_0 {P : Int32 → zM → Prop} (x1 : Int32) (x2 : Int32) (x4 : Int32) (x5 : Int32) (x6 : Int32) (F : Nat → Int32) (I : Nat → Nat → Int32) (J : Nat → Nat → Int64)
  (k : AW m_X7_reach (z_pi P) 3 [some (.ref 0), some (.int x1), some (.int x2), some (.ref 15), some (.int x4), some (.int x5), some (.int x6), some (.int 0), none, none, none, none] [] (F, I, J)) :
  AMi m_X7_reach [.ref 0, .int x1, .int x2, .ref 15, .int x4, .int x5, .int x6] (F, I, J) P := by
  refine z_entry (pad := 5) [some (.ref 0), some (.int x1), some (.int x2), some (.ref 15), some (.int x4), some (.int x5), some (.int x6), none, none, none, none, none] (by decide) rfl rfl (fun _ => Nat.le_of_ble_eq_true rfl) ?_
  refine z_iconst (v := 0) dX7_reach_0 (by decide) ?_
  refine z_istore dX7_reach_1 (by decide) rfl ?_
  exact k

set_option maxRecDepth 100000 in
set_option maxHeartbeats 4000000 in
theorem r_X7_reach_a_3 {P : Int32 → zM → Prop} (x1 : Int32) (x2 : Int32) (x4 : Int32) (x5 : Int32) (x6 : Int32) (x7 : Int32) (F : Nat → Int32) (I : Nat → Nat → Int32) (J : Nat → Nat → Int64)
  (k : (((F 0) ≤ x7 → vp_in x1 100 ∧ vp_in x1 100 ∧ vp_in 0 100 ∧ AW m_X7_reach (z_pi P) 51 [some (.ref 0), none, some (.int x2), some (.ref 15), some (.int x4), some (.int x5), some (.int x6), some (.int 0), some (.int (0 + 1)), none, none, none] [] (F, z_ui (z_ui (z_ui I 11 (zn x1) 1) 14 (zn x1) (-1)) 13 (zn 0) x1, J)) ∧ (¬ (F 0) ≤ x7 → vp_in x7 100 ∧ AW m_X7_reach (z_pi P) 3 [some (.ref 0), some (.int x1), some (.int x2), some (.ref 15), some (.int x4), some (.int x5), some (.int x6), some (.int (x7 + 1)), none, none, none, none] [] (F, z_ui I 11 (zn x7) 0, J)))) :
  AW m_X7_reach (z_pi P) 3 [some (.ref 0), some (.int x1), some (.int x2), some (.ref 15), some (.int x4), some (.int x5), some (.int x6), some (.int x7), none, none, none, none] [] (F, I, J) := by
  refine z_iload dX7_reach_3 rfl ?_
  refine z_aload_n dX7_reach_5 rfl rfl ?_
  refine z_geti dX7_reach_6 fl_X7_84 lo1_0 rfl ?_
  refine z_icmp_ge 23 dX7_reach_9 (by decide) ⟨fun h1 => ?_, fun h1 => ?_⟩
  · replace k := k.1 h1
    refine z_aload_n dX7_reach_23 rfl rfl ?_
    refine z_iload_n dX7_reach_24 rfl rfl ?_
    refine z_iconst (v := 1) dX7_reach_25 (by decide) ?_
    refine z_zast (x2 := 1) rfl dX7_reach_26 lo1_15 ⟨k.1, ?_⟩
    replace k := k.2
    refine z_aload_n dX7_reach_27 rfl rfl ?_
    refine z_getr dX7_reach_28 fl_X7_63 lo1_0 rfl ?_
    refine z_iload_n dX7_reach_31 rfl rfl ?_
    refine z_iconst (v := (-1)) dX7_reach_32 (by decide) ?_
    refine z_iast dX7_reach_33 lo1_18 ⟨k.1, ?_⟩
    replace k := k.2
    refine z_iconst (v := 0) dX7_reach_34 (by decide) ?_
    refine z_istore dX7_reach_35 (by decide) rfl ?_
    refine z_iconst (v := 0) dX7_reach_37 (by decide) ?_
    refine z_istore dX7_reach_38 (by decide) rfl ?_
    refine z_aload_n dX7_reach_40 rfl rfl ?_
    refine z_getr dX7_reach_41 fl_X7_60 lo1_0 rfl ?_
    refine z_iload dX7_reach_44 rfl ?_
    refine z_iinc (v := (0 + 1)) dX7_reach_46 rfl rfl (by decide) rfl ?_
    refine z_iload_n dX7_reach_49 rfl rfl ?_
    refine z_iast dX7_reach_50 lo1_17 ⟨k.1, ?_⟩
    replace k := k.2
    refine z_wk [some (.ref 0), none, some (.int x2), some (.ref 15), some (.int x4), some (.int x5), some (.int x6), some (.int 0), some (.int (0 + 1)), none, none, none] (z_le_some (z_le_none (z_le_some (z_le_some (z_le_some (z_le_some (z_le_some (z_le_some (z_le_some (z_le_none (z_le_none (z_le_none z_le_nil)))))))))))) ?_
    exact k
  · replace k := k.2 h1
    refine z_aload_n dX7_reach_12 rfl rfl ?_
    refine z_iload dX7_reach_13 rfl ?_
    refine z_iconst (v := 0) dX7_reach_15 (by decide) ?_
    refine z_zast (x2 := 0) rfl dX7_reach_16 lo1_15 ⟨k.1, ?_⟩
    replace k := k.2
    refine z_iinc (v := (x7 + 1)) dX7_reach_17 rfl rfl (by decide) rfl ?_
    refine z_goto 3 dX7_reach_20 (by decide) ?_
    exact k

set_option maxRecDepth 100000 in
set_option maxHeartbeats 4000000 in
theorem r_X7_reach_a_51 {P : Int32 → zM → Prop} (x2 : Int32) (x4 : Int32) (x5 : Int32) (x6 : Int32) (x7 : Int32) (x8 : Int32) (F : Nat → Int32) (I : Nat → Nat → Int32) (J : Nat → Nat → Int64)
  (k : ((x8 ≤ x7 → P x8 (F, I, J)) ∧ (¬ x8 ≤ x7 → vp_in x7 100 ∧ AW m_X7_reach (z_pi P) 73 [some (.ref 0), none, some (.int x2), some (.ref 15), some (.int x4), some (.int x5), some (.int x6), some (.int (x7 + 1)), some (.int x8), some (.int (I 13 (zn x7))), some (.int 0), none] [] (F, I, J)))) :
  AW m_X7_reach (z_pi P) 51 [some (.ref 0), none, some (.int x2), some (.ref 15), some (.int x4), some (.int x5), some (.int x6), some (.int x7), some (.int x8), none, none, none] [] (F, I, J) := by
  refine z_iload dX7_reach_51 rfl ?_
  refine z_iload dX7_reach_53 rfl ?_
  refine z_icmp_ge 244 dX7_reach_55 (by decide) ⟨fun h1 => ?_, fun h1 => ?_⟩
  · replace k := k.1 h1
    refine z_iload dX7_reach_244 rfl ?_
    exact z_ireturn (st := []) rfl dX7_reach_246 ⟨_, rfl, k⟩
  · replace k := k.2 h1
    refine z_aload_n dX7_reach_58 rfl rfl ?_
    refine z_getr dX7_reach_59 fl_X7_60 lo1_0 rfl ?_
    refine z_iload dX7_reach_62 rfl ?_
    refine z_iinc (v := (x7 + 1)) dX7_reach_64 rfl rfl (by decide) rfl ?_
    refine z_iald dX7_reach_67 lo1_17 ⟨k.1, ?_⟩
    replace k := k.2
    refine z_istore dX7_reach_68 (by decide) rfl ?_
    refine z_iconst (v := 0) dX7_reach_70 (by decide) ?_
    refine z_istore dX7_reach_71 (by decide) rfl ?_
    exact k

set_option maxRecDepth 100000 in
set_option maxHeartbeats 4000000 in
theorem r_X7_reach_a_73 {P : Int32 → zM → Prop} (x2 : Int32) (x4 : Int32) (x5 : Int32) (x6 : Int32) (x7 : Int32) (x8 : Int32) (x9 : Int32) (x10 : Int32) (F : Nat → Int32) (I : Nat → Nat → Int32) (J : Nat → Nat → Int64)
  (k : (((F 1) ≤ x10 → AW m_X7_reach (z_pi P) 51 [some (.ref 0), none, some (.int x2), some (.ref 15), some (.int x4), some (.int x5), some (.int x6), some (.int x7), some (.int x8), none, none, none] [] (F, I, J)) ∧ (¬ (F 1) ≤ x10 → ((x10 = x5 → AW m_X7_reach (z_pi P) 73 [some (.ref 0), none, some (.int x2), some (.ref 15), some (.int x4), some (.int x5), some (.int x6), some (.int x7), some (.int x8), some (.int x9), some (.int (x10 + 1)), none] [] (F, I, J)) ∧ (¬ x10 = x5 → vp_in x10 300 ∧ (((I 3 (zn x10)) = 0 → AW m_X7_reach (z_pi P) 73 [some (.ref 0), none, some (.int x2), some (.ref 15), some (.int x4), some (.int x5), some (.int x6), some (.int x7), some (.int x8), some (.int x9), some (.int (x10 + 1)), none] [] (F, I, J)) ∧ (¬ (I 3 (zn x10)) = 0 → vp_in x10 300 ∧ ((¬ (I 3 (zn x10)) = 2 → vp_in x10 300 ∧ ((x2 ≤ (I 4 (zn x10)) → AW m_X7_reach (z_pi P) 134 [some (.ref 0), none, some (.int x2), some (.ref 15), some (.int x4), some (.int x5), some (.int x6), some (.int x7), some (.int x8), some (.int x9), some (.int x10), none] [] (F, I, J)) ∧ (¬ x2 ≤ (I 4 (zn x10)) → ((¬ x4 = 0 → AW m_X7_reach (z_pi P) 134 [some (.ref 0), none, some (.int x2), some (.ref 15), some (.int x4), some (.int x5), some (.int x6), some (.int x7), some (.int x8), some (.int x9), some (.int x10), none] [] (F, I, J)) ∧ (x4 = 0 → AW m_X7_reach (z_pi P) 73 [some (.ref 0), none, some (.int x2), some (.ref 15), some (.int x4), some (.int x5), some (.int x6), some (.int x7), some (.int x8), some (.int x9), some (.int (x10 + 1)), none] [] (F, I, J)))))) ∧ ((I 3 (zn x10)) = 2 → ((x4 = 0 → AW m_X7_reach (z_pi P) 73 [some (.ref 0), none, some (.int x2), some (.ref 15), some (.int x4), some (.int x5), some (.int x6), some (.int x7), some (.int x8), some (.int x9), some (.int (x10 + 1)), none] [] (F, I, J)) ∧ (¬ x4 = 0 → vp_in x10 300 ∧ ((x2 ≤ (I 4 (zn x10)) → AW m_X7_reach (z_pi P) 134 [some (.ref 0), none, some (.int x2), some (.ref 15), some (.int x4), some (.int x5), some (.int x6), some (.int x7), some (.int x8), some (.int x9), some (.int x10), none] [] (F, I, J)) ∧ (¬ x2 ≤ (I 4 (zn x10)) → ((¬ x4 = 0 → AW m_X7_reach (z_pi P) 134 [some (.ref 0), none, some (.int x2), some (.ref 15), some (.int x4), some (.int x5), some (.int x6), some (.int x7), some (.int x8), some (.int x9), some (.int x10), none] [] (F, I, J)) ∧ (x4 = 0 → AW m_X7_reach (z_pi P) 73 [some (.ref 0), none, some (.int x2), some (.ref 15), some (.int x4), some (.int x5), some (.int x6), some (.int x7), some (.int x8), some (.int x9), some (.int (x10 + 1)), none] [] (F, I, J)))))))))))))))) :
  AW m_X7_reach (z_pi P) 73 [some (.ref 0), none, some (.int x2), some (.ref 15), some (.int x4), some (.int x5), some (.int x6), some (.int x7), some (.int x8), some (.int x9), some (.int x10), none] [] (F, I, J) := by
  refine z_iload dX7_reach_73 rfl ?_
  refine z_aload_n dX7_reach_75 rfl rfl ?_
  refine z_geti dX7_reach_76 fl_X7_88 lo1_0 rfl ?_
  refine z_icmp_ge 241 dX7_reach_79 (by decide) ⟨fun h1 => ?_, fun h1 => ?_⟩
  · replace k := k.1 h1
    refine z_goto 51 dX7_reach_241 (by decide) ?_
    refine z_wk [some (.ref 0), none, some (.int x2), some (.ref 15), some (.int x4), some (.int x5), some (.int x6), some (.int x7), some (.int x8), none, none, none] (z_le_some (z_le_none (z_le_some (z_le_some (z_le_some (z_le_some (z_le_some (z_le_some (z_le_some (z_le_none (z_le_none (z_le_none z_le_nil)))))))))))) ?_
    exact k
  · replace k := k.2 h1
    refine z_iload dX7_reach_82 rfl ?_
    refine z_iload dX7_reach_84 rfl ?_
    refine z_icmp_eq 235 dX7_reach_86 (by decide) ⟨fun h2 => ?_, fun h2 => ?_⟩
    · replace k := k.1 h2
      refine z_iinc (v := (x10 + 1)) dX7_reach_235 rfl rfl (by decide) rfl ?_
      refine z_goto 73 dX7_reach_238 (by decide) ?_
      exact k
    · replace k := k.2 h2
      refine z_aload_n dX7_reach_89 rfl rfl ?_
      refine z_getr dX7_reach_90 fl_X7_23 lo1_0 rfl ?_
      refine z_iload dX7_reach_93 rfl ?_
      refine z_iald dX7_reach_95 lo1_5 ⟨k.1, ?_⟩
      replace k := k.2
      refine z_if_eq 235 dX7_reach_96 (by decide) ⟨fun h3 => ?_, fun h3 => ?_⟩
      · replace k := k.1 h3
        refine z_iinc (v := (x10 + 1)) dX7_reach_235 rfl rfl (by decide) rfl ?_
        refine z_goto 73 dX7_reach_238 (by decide) ?_
        exact k
      · replace k := k.2 h3
        refine z_aload_n dX7_reach_99 rfl rfl ?_
        refine z_getr dX7_reach_100 fl_X7_23 lo1_0 rfl ?_
        refine z_iload dX7_reach_103 rfl ?_
        refine z_iald dX7_reach_105 lo1_5 ⟨k.1, ?_⟩
        replace k := k.2
        refine z_iconst (v := 2) dX7_reach_106 (by decide) ?_
        refine z_icmp_ne 115 dX7_reach_107 (by decide) ⟨fun h4 => ?_, fun h4 => ?_⟩
        · replace k := k.1 h4
          refine z_aload_n dX7_reach_115 rfl rfl ?_
          refine z_getr dX7_reach_116 fl_X7_26 lo1_0 rfl ?_
          refine z_iload dX7_reach_119 rfl ?_
          refine z_iald dX7_reach_121 lo1_6 ⟨k.1, ?_⟩
          replace k := k.2
          refine z_iload_n dX7_reach_122 rfl rfl ?_
          refine z_icmp_ge 134 dX7_reach_123 (by decide) ⟨fun h5 => ?_, fun h5 => ?_⟩
          · replace k := k.1 h5
            exact k
          · replace k := k.2 h5
            refine z_iload dX7_reach_126 rfl ?_
            refine z_if_ne 134 dX7_reach_128 (by decide) ⟨fun h6 => ?_, fun h6 => ?_⟩
            · replace k := k.1 h6
              exact k
            · replace k := k.2 h6
              refine z_goto 235 dX7_reach_131 (by decide) ?_
              refine z_iinc (v := (x10 + 1)) dX7_reach_235 rfl rfl (by decide) rfl ?_
              refine z_goto 73 dX7_reach_238 (by decide) ?_
              exact k
        · replace k := k.2 h4
          refine z_iload dX7_reach_110 rfl ?_
          refine z_if_eq 235 dX7_reach_112 (by decide) ⟨fun h7 => ?_, fun h7 => ?_⟩
          · replace k := k.1 h7
            refine z_iinc (v := (x10 + 1)) dX7_reach_235 rfl rfl (by decide) rfl ?_
            refine z_goto 73 dX7_reach_238 (by decide) ?_
            exact k
          · replace k := k.2 h7
            refine z_aload_n dX7_reach_115 rfl rfl ?_
            refine z_getr dX7_reach_116 fl_X7_26 lo1_0 rfl ?_
            refine z_iload dX7_reach_119 rfl ?_
            refine z_iald dX7_reach_121 lo1_6 ⟨k.1, ?_⟩
            replace k := k.2
            refine z_iload_n dX7_reach_122 rfl rfl ?_
            refine z_icmp_ge 134 dX7_reach_123 (by decide) ⟨fun h8 => ?_, fun h8 => ?_⟩
            · replace k := k.1 h8
              exact k
            · replace k := k.2 h8
              refine z_iload dX7_reach_126 rfl ?_
              refine z_if_ne 134 dX7_reach_128 (by decide) ⟨fun h9 => ?_, fun h9 => ?_⟩
              · replace k := k.1 h9
                exact k
              · replace k := k.2 h9
                refine z_goto 235 dX7_reach_131 (by decide) ?_
                refine z_iinc (v := (x10 + 1)) dX7_reach_235 rfl rfl (by decide) rfl ?_
                refine z_goto 73 dX7_reach_238 (by decide) ?_
                exact k

set_option maxRecDepth 100000 in
set_option maxHeartbeats 4000000 in
theorem r_X7_reach_a_134 {P : Int32 → zM → Prop} (x2 : Int32) (x4 : Int32) (x5 : Int32) (x6 : Int32) (x7 : Int32) (x8 : Int32) (x9 : Int32) (x10 : Int32) (F : Nat → Int32) (I : Nat → Nat → Int32) (J : Nat → Nat → Int64)
  (k : vp_in x10 300 ∧ (((I 1 (zn x10)) = x9 → AW m_X7_reach (z_pi P) 161 [some (.ref 0), none, some (.int x2), some (.ref 15), some (.int x4), some (.int x5), some (.int x6), some (.int x7), some (.int x8), some (.int x9), some (.int x10), none] [] (F, I, J)) ∧ (¬ (I 1 (zn x10)) = x9 → vp_in x10 300 ∧ (((I 2 (zn x10)) = x9 → AW m_X7_reach (z_pi P) 161 [some (.ref 0), none, some (.int x2), some (.ref 15), some (.int x4), some (.int x5), some (.int x6), some (.int x7), some (.int x8), some (.int x9), some (.int x10), none] [] (F, I, J)) ∧ (¬ (I 2 (zn x10)) = x9 → AW m_X7_reach (z_pi P) 73 [some (.ref 0), none, some (.int x2), some (.ref 15), some (.int x4), some (.int x5), some (.int x6), some (.int x7), some (.int x8), some (.int x9), some (.int (x10 + 1)), none] [] (F, I, J)))))) :
  AW m_X7_reach (z_pi P) 134 [some (.ref 0), none, some (.int x2), some (.ref 15), some (.int x4), some (.int x5), some (.int x6), some (.int x7), some (.int x8), some (.int x9), some (.int x10), none] [] (F, I, J) := by
  refine z_aload_n dX7_reach_134 rfl rfl ?_
  refine z_getr dX7_reach_135 fl_X7_17 lo1_0 rfl ?_
  refine z_iload dX7_reach_138 rfl ?_
  refine z_iald dX7_reach_140 lo1_3 ⟨k.1, ?_⟩
  replace k := k.2
  refine z_iload dX7_reach_141 rfl ?_
  refine z_icmp_eq 161 dX7_reach_143 (by decide) ⟨fun h1 => ?_, fun h1 => ?_⟩
  · replace k := k.1 h1
    exact k
  · replace k := k.2 h1
    refine z_aload_n dX7_reach_146 rfl rfl ?_
    refine z_getr dX7_reach_147 fl_X7_20 lo1_0 rfl ?_
    refine z_iload dX7_reach_150 rfl ?_
    refine z_iald dX7_reach_152 lo1_4 ⟨k.1, ?_⟩
    replace k := k.2
    refine z_iload dX7_reach_153 rfl ?_
    refine z_icmp_eq 161 dX7_reach_155 (by decide) ⟨fun h2 => ?_, fun h2 => ?_⟩
    · replace k := k.1 h2
      exact k
    · replace k := k.2 h2
      refine z_goto 235 dX7_reach_158 (by decide) ?_
      refine z_iinc (v := (x10 + 1)) dX7_reach_235 rfl rfl (by decide) rfl ?_
      refine z_goto 73 dX7_reach_238 (by decide) ?_
      exact k

set_option maxRecDepth 100000 in
set_option maxHeartbeats 4000000 in
theorem r_X7_reach_a_161 {P : Int32 → zM → Prop} (x2 : Int32) (x4 : Int32) (x5 : Int32) (x6 : Int32) (x7 : Int32) (x8 : Int32) (x9 : Int32) (x10 : Int32) (F : Nat → Int32) (I : Nat → Nat → Int32) (J : Nat → Nat → Int64)
  (k : vp_in x10 300 ∧ ((¬ (I 1 (zn x10)) = x9 → vp_in x10 300 ∧ vp_in (I 1 (zn x10)) 100 ∧ ((¬ (I 11 (zn (I 1 (zn x10)))) = 0 → AW m_X7_reach (z_pi P) 73 [some (.ref 0), none, some (.int x2), some (.ref 15), some (.int x4), some (.int x5), some (.int x6), some (.int x7), some (.int x8), some (.int x9), some (.int (x10 + 1)), none] [] (F, I, J)) ∧ ((I 11 (zn (I 1 (zn x10)))) = 0 → ((¬ (I 1 (zn x10)) = x6 → vp_in (I 1 (zn x10)) 100 ∧ vp_in (I 1 (zn x10)) 100 ∧ vp_in x8 100 ∧ AW m_X7_reach (z_pi P) 73 [some (.ref 0), none, some (.int x2), some (.ref 15), some (.int x4), some (.int x5), some (.int x6), some (.int x7), some (.int (x8 + 1)), some (.int x9), some (.int (x10 + 1)), none] [] (F, z_ui (z_ui (z_ui I 11 (zn (I 1 (zn x10))) 1) 14 (zn (I 1 (zn x10))) x10) 13 (zn x8) (I 1 (zn x10)), J)) ∧ ((I 1 (zn x10)) = x6 → AW m_X7_reach (z_pi P) 73 [some (.ref 0), none, some (.int x2), some (.ref 15), some (.int x4), some (.int x5), some (.int x6), some (.int x7), some (.int x8), some (.int x9), some (.int (x10 + 1)), none] [] (F, I, J)))))) ∧ ((I 1 (zn x10)) = x9 → vp_in x10 300 ∧ vp_in (I 2 (zn x10)) 100 ∧ ((¬ (I 11 (zn (I 2 (zn x10)))) = 0 → AW m_X7_reach (z_pi P) 73 [some (.ref 0), none, some (.int x2), some (.ref 15), some (.int x4), some (.int x5), some (.int x6), some (.int x7), some (.int x8), some (.int x9), some (.int (x10 + 1)), none] [] (F, I, J)) ∧ ((I 11 (zn (I 2 (zn x10)))) = 0 → ((¬ (I 2 (zn x10)) = x6 → vp_in (I 2 (zn x10)) 100 ∧ vp_in (I 2 (zn x10)) 100 ∧ vp_in x8 100 ∧ AW m_X7_reach (z_pi P) 73 [some (.ref 0), none, some (.int x2), some (.ref 15), some (.int x4), some (.int x5), some (.int x6), some (.int x7), some (.int (x8 + 1)), some (.int x9), some (.int (x10 + 1)), none] [] (F, z_ui (z_ui (z_ui I 11 (zn (I 2 (zn x10))) 1) 14 (zn (I 2 (zn x10))) x10) 13 (zn x8) (I 2 (zn x10)), J)) ∧ ((I 2 (zn x10)) = x6 → AW m_X7_reach (z_pi P) 73 [some (.ref 0), none, some (.int x2), some (.ref 15), some (.int x4), some (.int x5), some (.int x6), some (.int x7), some (.int x8), some (.int x9), some (.int (x10 + 1)), none] [] (F, I, J)))))))) :
  AW m_X7_reach (z_pi P) 161 [some (.ref 0), none, some (.int x2), some (.ref 15), some (.int x4), some (.int x5), some (.int x6), some (.int x7), some (.int x8), some (.int x9), some (.int x10), none] [] (F, I, J) := by
  refine z_aload_n dX7_reach_161 rfl rfl ?_
  refine z_getr dX7_reach_162 fl_X7_17 lo1_0 rfl ?_
  refine z_iload dX7_reach_165 rfl ?_
  refine z_iald dX7_reach_167 lo1_3 ⟨k.1, ?_⟩
  replace k := k.2
  refine z_iload dX7_reach_168 rfl ?_
  refine z_icmp_ne 183 dX7_reach_170 (by decide) ⟨fun h1 => ?_, fun h1 => ?_⟩
  · replace k := k.1 h1
    refine z_aload_n dX7_reach_183 rfl rfl ?_
    refine z_getr dX7_reach_184 fl_X7_17 lo1_0 rfl ?_
    refine z_iload dX7_reach_187 rfl ?_
    refine z_iald dX7_reach_189 lo1_3 ⟨k.1, ?_⟩
    replace k := k.2
    refine z_istore dX7_reach_190 (by decide) rfl ?_
    refine z_aload_n dX7_reach_192 rfl rfl ?_
    refine z_iload dX7_reach_193 rfl ?_
    refine z_zald dX7_reach_195 lo1_15 ⟨k.1, ?_⟩
    replace k := k.2
    refine z_if_ne 235 dX7_reach_196 (by decide) ⟨fun h2 => ?_, fun h2 => ?_⟩
    · replace k := k.1 h2
      refine z_iinc (v := (x10 + 1)) dX7_reach_235 rfl rfl (by decide) rfl ?_
      refine z_goto 73 dX7_reach_238 (by decide) ?_
      refine z_wk [some (.ref 0), none, some (.int x2), some (.ref 15), some (.int x4), some (.int x5), some (.int x6), some (.int x7), some (.int x8), some (.int x9), some (.int (x10 + 1)), none] (z_le_some (z_le_none (z_le_some (z_le_some (z_le_some (z_le_some (z_le_some (z_le_some (z_le_some (z_le_some (z_le_some (z_le_none z_le_nil)))))))))))) ?_
      exact k
    · replace k := k.2 h2
      refine z_iload dX7_reach_199 rfl ?_
      refine z_iload dX7_reach_201 rfl ?_
      refine z_icmp_ne 209 dX7_reach_203 (by decide) ⟨fun h3 => ?_, fun h3 => ?_⟩
      · replace k := k.1 h3
        refine z_aload_n dX7_reach_209 rfl rfl ?_
        refine z_iload dX7_reach_210 rfl ?_
        refine z_iconst (v := 1) dX7_reach_212 (by decide) ?_
        refine z_zast (x2 := 1) rfl dX7_reach_213 lo1_15 ⟨k.1, ?_⟩
        replace k := k.2
        refine z_aload_n dX7_reach_214 rfl rfl ?_
        refine z_getr dX7_reach_215 fl_X7_63 lo1_0 rfl ?_
        refine z_iload dX7_reach_218 rfl ?_
        refine z_iload dX7_reach_220 rfl ?_
        refine z_iast dX7_reach_222 lo1_18 ⟨k.1, ?_⟩
        replace k := k.2
        refine z_aload_n dX7_reach_223 rfl rfl ?_
        refine z_getr dX7_reach_224 fl_X7_60 lo1_0 rfl ?_
        refine z_iload dX7_reach_227 rfl ?_
        refine z_iinc (v := (x8 + 1)) dX7_reach_229 rfl rfl (by decide) rfl ?_
        refine z_iload dX7_reach_232 rfl ?_
        refine z_iast dX7_reach_234 lo1_17 ⟨k.1, ?_⟩
        replace k := k.2
        refine z_iinc (v := (x10 + 1)) dX7_reach_235 rfl rfl (by decide) rfl ?_
        refine z_goto 73 dX7_reach_238 (by decide) ?_
        refine z_wk [some (.ref 0), none, some (.int x2), some (.ref 15), some (.int x4), some (.int x5), some (.int x6), some (.int x7), some (.int (x8 + 1)), some (.int x9), some (.int (x10 + 1)), none] (z_le_some (z_le_none (z_le_some (z_le_some (z_le_some (z_le_some (z_le_some (z_le_some (z_le_some (z_le_some (z_le_some (z_le_none z_le_nil)))))))))))) ?_
        exact k
      · replace k := k.2 h3
        refine z_goto 235 dX7_reach_206 (by decide) ?_
        refine z_iinc (v := (x10 + 1)) dX7_reach_235 rfl rfl (by decide) rfl ?_
        refine z_goto 73 dX7_reach_238 (by decide) ?_
        refine z_wk [some (.ref 0), none, some (.int x2), some (.ref 15), some (.int x4), some (.int x5), some (.int x6), some (.int x7), some (.int x8), some (.int x9), some (.int (x10 + 1)), none] (z_le_some (z_le_none (z_le_some (z_le_some (z_le_some (z_le_some (z_le_some (z_le_some (z_le_some (z_le_some (z_le_some (z_le_none z_le_nil)))))))))))) ?_
        exact k
  · replace k := k.2 h1
    refine z_aload_n dX7_reach_173 rfl rfl ?_
    refine z_getr dX7_reach_174 fl_X7_20 lo1_0 rfl ?_
    refine z_iload dX7_reach_177 rfl ?_
    refine z_iald dX7_reach_179 lo1_4 ⟨k.1, ?_⟩
    replace k := k.2
    refine z_goto 190 dX7_reach_180 (by decide) ?_
    refine z_istore dX7_reach_190 (by decide) rfl ?_
    refine z_aload_n dX7_reach_192 rfl rfl ?_
    refine z_iload dX7_reach_193 rfl ?_
    refine z_zald dX7_reach_195 lo1_15 ⟨k.1, ?_⟩
    replace k := k.2
    refine z_if_ne 235 dX7_reach_196 (by decide) ⟨fun h4 => ?_, fun h4 => ?_⟩
    · replace k := k.1 h4
      refine z_iinc (v := (x10 + 1)) dX7_reach_235 rfl rfl (by decide) rfl ?_
      refine z_goto 73 dX7_reach_238 (by decide) ?_
      refine z_wk [some (.ref 0), none, some (.int x2), some (.ref 15), some (.int x4), some (.int x5), some (.int x6), some (.int x7), some (.int x8), some (.int x9), some (.int (x10 + 1)), none] (z_le_some (z_le_none (z_le_some (z_le_some (z_le_some (z_le_some (z_le_some (z_le_some (z_le_some (z_le_some (z_le_some (z_le_none z_le_nil)))))))))))) ?_
      exact k
    · replace k := k.2 h4
      refine z_iload dX7_reach_199 rfl ?_
      refine z_iload dX7_reach_201 rfl ?_
      refine z_icmp_ne 209 dX7_reach_203 (by decide) ⟨fun h5 => ?_, fun h5 => ?_⟩
      · replace k := k.1 h5
        refine z_aload_n dX7_reach_209 rfl rfl ?_
        refine z_iload dX7_reach_210 rfl ?_
        refine z_iconst (v := 1) dX7_reach_212 (by decide) ?_
        refine z_zast (x2 := 1) rfl dX7_reach_213 lo1_15 ⟨k.1, ?_⟩
        replace k := k.2
        refine z_aload_n dX7_reach_214 rfl rfl ?_
        refine z_getr dX7_reach_215 fl_X7_63 lo1_0 rfl ?_
        refine z_iload dX7_reach_218 rfl ?_
        refine z_iload dX7_reach_220 rfl ?_
        refine z_iast dX7_reach_222 lo1_18 ⟨k.1, ?_⟩
        replace k := k.2
        refine z_aload_n dX7_reach_223 rfl rfl ?_
        refine z_getr dX7_reach_224 fl_X7_60 lo1_0 rfl ?_
        refine z_iload dX7_reach_227 rfl ?_
        refine z_iinc (v := (x8 + 1)) dX7_reach_229 rfl rfl (by decide) rfl ?_
        refine z_iload dX7_reach_232 rfl ?_
        refine z_iast dX7_reach_234 lo1_17 ⟨k.1, ?_⟩
        replace k := k.2
        refine z_iinc (v := (x10 + 1)) dX7_reach_235 rfl rfl (by decide) rfl ?_
        refine z_goto 73 dX7_reach_238 (by decide) ?_
        refine z_wk [some (.ref 0), none, some (.int x2), some (.ref 15), some (.int x4), some (.int x5), some (.int x6), some (.int x7), some (.int (x8 + 1)), some (.int x9), some (.int (x10 + 1)), none] (z_le_some (z_le_none (z_le_some (z_le_some (z_le_some (z_le_some (z_le_some (z_le_some (z_le_some (z_le_some (z_le_some (z_le_none z_le_nil)))))))))))) ?_
        exact k
      · replace k := k.2 h5
        refine z_goto 235 dX7_reach_206 (by decide) ?_
        refine z_iinc (v := (x10 + 1)) dX7_reach_235 rfl rfl (by decide) rfl ?_
        refine z_goto 73 dX7_reach_238 (by decide) ?_
        refine z_wk [some (.ref 0), none, some (.int x2), some (.ref 15), some (.int x4), some (.int x5), some (.int x6), some (.int x7), some (.int x8), some (.int x9), some (.int (x10 + 1)), none] (z_le_some (z_le_none (z_le_some (z_le_some (z_le_some (z_le_some (z_le_some (z_le_some (z_le_some (z_le_some (z_le_some (z_le_none z_le_nil)))))))))))) ?_
        exact k

set_option maxRecDepth 100000 in
set_option maxHeartbeats 4000000 in
theorem r_X7_reach_b_0 {P : Int32 → zM → Prop} (x1 : Int32) (x2 : Int32) (x4 : Int32) (x5 : Int32) (x6 : Int32) (F : Nat → Int32) (I : Nat → Nat → Int32) (J : Nat → Nat → Int64)
  (k : AW m_X7_reach (z_pi P) 3 [some (.ref 0), some (.int x1), some (.int x2), some (.ref 16), some (.int x4), some (.int x5), some (.int x6), some (.int 0), none, none, none, none] [] (F, I, J)) :
  AMi m_X7_reach [.ref 0, .int x1, .int x2, .ref 16, .int x4, .int x5, .int x6] (F, I, J) P := by
  refine z_entry (pad := 5) [some (.ref 0), some (.int x1), some (.int x2), some (.ref 16), some (.int x4), some (.int x5), some (.int x6), none, none, none, none, none] (by decide) rfl rfl (fun _ => Nat.le_of_ble_eq_true rfl) ?_
  refine z_iconst (v := 0) dX7_reach_0 (by decide) ?_
  refine z_istore dX7_reach_1 (by decide) rfl ?_
  exact k

set_option maxRecDepth 100000 in
set_option maxHeartbeats 4000000 in
theorem r_X7_reach_b_3 {P : Int32 → zM → Prop} (x1 : Int32) (x2 : Int32) (x4 : Int32) (x5 : Int32) (x6 : Int32) (x7 : Int32) (F : Nat → Int32) (I : Nat → Nat → Int32) (J : Nat → Nat → Int64)
  (k : (((F 0) ≤ x7 → vp_in x1 100 ∧ vp_in x1 100 ∧ vp_in 0 100 ∧ AW m_X7_reach (z_pi P) 51 [some (.ref 0), none, some (.int x2), some (.ref 16), some (.int x4), some (.int x5), some (.int x6), some (.int 0), some (.int (0 + 1)), none, none, none] [] (F, z_ui (z_ui (z_ui I 12 (zn x1) 1) 14 (zn x1) (-1)) 13 (zn 0) x1, J)) ∧ (¬ (F 0) ≤ x7 → vp_in x7 100 ∧ AW m_X7_reach (z_pi P) 3 [some (.ref 0), some (.int x1), some (.int x2), some (.ref 16), some (.int x4), some (.int x5), some (.int x6), some (.int (x7 + 1)), none, none, none, none] [] (F, z_ui I 12 (zn x7) 0, J)))) :
  AW m_X7_reach (z_pi P) 3 [some (.ref 0), some (.int x1), some (.int x2), some (.ref 16), some (.int x4), some (.int x5), some (.int x6), some (.int x7), none, none, none, none] [] (F, I, J) := by
  refine z_iload dX7_reach_3 rfl ?_
  refine z_aload_n dX7_reach_5 rfl rfl ?_
  refine z_geti dX7_reach_6 fl_X7_84 lo1_0 rfl ?_
  refine z_icmp_ge 23 dX7_reach_9 (by decide) ⟨fun h1 => ?_, fun h1 => ?_⟩
  · replace k := k.1 h1
    refine z_aload_n dX7_reach_23 rfl rfl ?_
    refine z_iload_n dX7_reach_24 rfl rfl ?_
    refine z_iconst (v := 1) dX7_reach_25 (by decide) ?_
    refine z_zast (x2 := 1) rfl dX7_reach_26 lo1_16 ⟨k.1, ?_⟩
    replace k := k.2
    refine z_aload_n dX7_reach_27 rfl rfl ?_
    refine z_getr dX7_reach_28 fl_X7_63 lo1_0 rfl ?_
    refine z_iload_n dX7_reach_31 rfl rfl ?_
    refine z_iconst (v := (-1)) dX7_reach_32 (by decide) ?_
    refine z_iast dX7_reach_33 lo1_18 ⟨k.1, ?_⟩
    replace k := k.2
    refine z_iconst (v := 0) dX7_reach_34 (by decide) ?_
    refine z_istore dX7_reach_35 (by decide) rfl ?_
    refine z_iconst (v := 0) dX7_reach_37 (by decide) ?_
    refine z_istore dX7_reach_38 (by decide) rfl ?_
    refine z_aload_n dX7_reach_40 rfl rfl ?_
    refine z_getr dX7_reach_41 fl_X7_60 lo1_0 rfl ?_
    refine z_iload dX7_reach_44 rfl ?_
    refine z_iinc (v := (0 + 1)) dX7_reach_46 rfl rfl (by decide) rfl ?_
    refine z_iload_n dX7_reach_49 rfl rfl ?_
    refine z_iast dX7_reach_50 lo1_17 ⟨k.1, ?_⟩
    replace k := k.2
    refine z_wk [some (.ref 0), none, some (.int x2), some (.ref 16), some (.int x4), some (.int x5), some (.int x6), some (.int 0), some (.int (0 + 1)), none, none, none] (z_le_some (z_le_none (z_le_some (z_le_some (z_le_some (z_le_some (z_le_some (z_le_some (z_le_some (z_le_none (z_le_none (z_le_none z_le_nil)))))))))))) ?_
    exact k
  · replace k := k.2 h1
    refine z_aload_n dX7_reach_12 rfl rfl ?_
    refine z_iload dX7_reach_13 rfl ?_
    refine z_iconst (v := 0) dX7_reach_15 (by decide) ?_
    refine z_zast (x2 := 0) rfl dX7_reach_16 lo1_16 ⟨k.1, ?_⟩
    replace k := k.2
    refine z_iinc (v := (x7 + 1)) dX7_reach_17 rfl rfl (by decide) rfl ?_
    refine z_goto 3 dX7_reach_20 (by decide) ?_
    exact k

set_option maxRecDepth 100000 in
set_option maxHeartbeats 4000000 in
theorem r_X7_reach_b_51 {P : Int32 → zM → Prop} (x2 : Int32) (x4 : Int32) (x5 : Int32) (x6 : Int32) (x7 : Int32) (x8 : Int32) (F : Nat → Int32) (I : Nat → Nat → Int32) (J : Nat → Nat → Int64)
  (k : ((x8 ≤ x7 → P x8 (F, I, J)) ∧ (¬ x8 ≤ x7 → vp_in x7 100 ∧ AW m_X7_reach (z_pi P) 73 [some (.ref 0), none, some (.int x2), some (.ref 16), some (.int x4), some (.int x5), some (.int x6), some (.int (x7 + 1)), some (.int x8), some (.int (I 13 (zn x7))), some (.int 0), none] [] (F, I, J)))) :
  AW m_X7_reach (z_pi P) 51 [some (.ref 0), none, some (.int x2), some (.ref 16), some (.int x4), some (.int x5), some (.int x6), some (.int x7), some (.int x8), none, none, none] [] (F, I, J) := by
  refine z_iload dX7_reach_51 rfl ?_
  refine z_iload dX7_reach_53 rfl ?_
  refine z_icmp_ge 244 dX7_reach_55 (by decide) ⟨fun h1 => ?_, fun h1 => ?_⟩
  · replace k := k.1 h1
    refine z_iload dX7_reach_244 rfl ?_
    exact z_ireturn (st := []) rfl dX7_reach_246 ⟨_, rfl, k⟩
  · replace k := k.2 h1
    refine z_aload_n dX7_reach_58 rfl rfl ?_
    refine z_getr dX7_reach_59 fl_X7_60 lo1_0 rfl ?_
    refine z_iload dX7_reach_62 rfl ?_
    refine z_iinc (v := (x7 + 1)) dX7_reach_64 rfl rfl (by decide) rfl ?_
    refine z_iald dX7_reach_67 lo1_17 ⟨k.1, ?_⟩
    replace k := k.2
    refine z_istore dX7_reach_68 (by decide) rfl ?_
    refine z_iconst (v := 0) dX7_reach_70 (by decide) ?_
    refine z_istore dX7_reach_71 (by decide) rfl ?_
    exact k

set_option maxRecDepth 100000 in
set_option maxHeartbeats 4000000 in
theorem r_X7_reach_b_73 {P : Int32 → zM → Prop} (x2 : Int32) (x4 : Int32) (x5 : Int32) (x6 : Int32) (x7 : Int32) (x8 : Int32) (x9 : Int32) (x10 : Int32) (F : Nat → Int32) (I : Nat → Nat → Int32) (J : Nat → Nat → Int64)
  (k : (((F 1) ≤ x10 → AW m_X7_reach (z_pi P) 51 [some (.ref 0), none, some (.int x2), some (.ref 16), some (.int x4), some (.int x5), some (.int x6), some (.int x7), some (.int x8), none, none, none] [] (F, I, J)) ∧ (¬ (F 1) ≤ x10 → ((x10 = x5 → AW m_X7_reach (z_pi P) 73 [some (.ref 0), none, some (.int x2), some (.ref 16), some (.int x4), some (.int x5), some (.int x6), some (.int x7), some (.int x8), some (.int x9), some (.int (x10 + 1)), none] [] (F, I, J)) ∧ (¬ x10 = x5 → vp_in x10 300 ∧ (((I 3 (zn x10)) = 0 → AW m_X7_reach (z_pi P) 73 [some (.ref 0), none, some (.int x2), some (.ref 16), some (.int x4), some (.int x5), some (.int x6), some (.int x7), some (.int x8), some (.int x9), some (.int (x10 + 1)), none] [] (F, I, J)) ∧ (¬ (I 3 (zn x10)) = 0 → vp_in x10 300 ∧ ((¬ (I 3 (zn x10)) = 2 → vp_in x10 300 ∧ ((x2 ≤ (I 4 (zn x10)) → AW m_X7_reach (z_pi P) 134 [some (.ref 0), none, some (.int x2), some (.ref 16), some (.int x4), some (.int x5), some (.int x6), some (.int x7), some (.int x8), some (.int x9), some (.int x10), none] [] (F, I, J)) ∧ (¬ x2 ≤ (I 4 (zn x10)) → ((¬ x4 = 0 → AW m_X7_reach (z_pi P) 134 [some (.ref 0), none, some (.int x2), some (.ref 16), some (.int x4), some (.int x5), some (.int x6), some (.int x7), some (.int x8), some (.int x9), some (.int x10), none] [] (F, I, J)) ∧ (x4 = 0 → AW m_X7_reach (z_pi P) 73 [some (.ref 0), none, some (.int x2), some (.ref 16), some (.int x4), some (.int x5), some (.int x6), some (.int x7), some (.int x8), some (.int x9), some (.int (x10 + 1)), none] [] (F, I, J)))))) ∧ ((I 3 (zn x10)) = 2 → ((x4 = 0 → AW m_X7_reach (z_pi P) 73 [some (.ref 0), none, some (.int x2), some (.ref 16), some (.int x4), some (.int x5), some (.int x6), some (.int x7), some (.int x8), some (.int x9), some (.int (x10 + 1)), none] [] (F, I, J)) ∧ (¬ x4 = 0 → vp_in x10 300 ∧ ((x2 ≤ (I 4 (zn x10)) → AW m_X7_reach (z_pi P) 134 [some (.ref 0), none, some (.int x2), some (.ref 16), some (.int x4), some (.int x5), some (.int x6), some (.int x7), some (.int x8), some (.int x9), some (.int x10), none] [] (F, I, J)) ∧ (¬ x2 ≤ (I 4 (zn x10)) → ((¬ x4 = 0 → AW m_X7_reach (z_pi P) 134 [some (.ref 0), none, some (.int x2), some (.ref 16), some (.int x4), some (.int x5), some (.int x6), some (.int x7), some (.int x8), some (.int x9), some (.int x10), none] [] (F, I, J)) ∧ (x4 = 0 → AW m_X7_reach (z_pi P) 73 [some (.ref 0), none, some (.int x2), some (.ref 16), some (.int x4), some (.int x5), some (.int x6), some (.int x7), some (.int x8), some (.int x9), some (.int (x10 + 1)), none] [] (F, I, J)))))))))))))))) :
  AW m_X7_reach (z_pi P) 73 [some (.ref 0), none, some (.int x2), some (.ref 16), some (.int x4), some (.int x5), some (.int x6), some (.int x7), some (.int x8), some (.int x9), some (.int x10), none] [] (F, I, J) := by
  refine z_iload dX7_reach_73 rfl ?_
  refine z_aload_n dX7_reach_75 rfl rfl ?_
  refine z_geti dX7_reach_76 fl_X7_88 lo1_0 rfl ?_
  refine z_icmp_ge 241 dX7_reach_79 (by decide) ⟨fun h1 => ?_, fun h1 => ?_⟩
  · replace k := k.1 h1
    refine z_goto 51 dX7_reach_241 (by decide) ?_
    refine z_wk [some (.ref 0), none, some (.int x2), some (.ref 16), some (.int x4), some (.int x5), some (.int x6), some (.int x7), some (.int x8), none, none, none] (z_le_some (z_le_none (z_le_some (z_le_some (z_le_some (z_le_some (z_le_some (z_le_some (z_le_some (z_le_none (z_le_none (z_le_none z_le_nil)))))))))))) ?_
    exact k
  · replace k := k.2 h1
    refine z_iload dX7_reach_82 rfl ?_
    refine z_iload dX7_reach_84 rfl ?_
    refine z_icmp_eq 235 dX7_reach_86 (by decide) ⟨fun h2 => ?_, fun h2 => ?_⟩
    · replace k := k.1 h2
      refine z_iinc (v := (x10 + 1)) dX7_reach_235 rfl rfl (by decide) rfl ?_
      refine z_goto 73 dX7_reach_238 (by decide) ?_
      exact k
    · replace k := k.2 h2
      refine z_aload_n dX7_reach_89 rfl rfl ?_
      refine z_getr dX7_reach_90 fl_X7_23 lo1_0 rfl ?_
      refine z_iload dX7_reach_93 rfl ?_
      refine z_iald dX7_reach_95 lo1_5 ⟨k.1, ?_⟩
      replace k := k.2
      refine z_if_eq 235 dX7_reach_96 (by decide) ⟨fun h3 => ?_, fun h3 => ?_⟩
      · replace k := k.1 h3
        refine z_iinc (v := (x10 + 1)) dX7_reach_235 rfl rfl (by decide) rfl ?_
        refine z_goto 73 dX7_reach_238 (by decide) ?_
        exact k
      · replace k := k.2 h3
        refine z_aload_n dX7_reach_99 rfl rfl ?_
        refine z_getr dX7_reach_100 fl_X7_23 lo1_0 rfl ?_
        refine z_iload dX7_reach_103 rfl ?_
        refine z_iald dX7_reach_105 lo1_5 ⟨k.1, ?_⟩
        replace k := k.2
        refine z_iconst (v := 2) dX7_reach_106 (by decide) ?_
        refine z_icmp_ne 115 dX7_reach_107 (by decide) ⟨fun h4 => ?_, fun h4 => ?_⟩
        · replace k := k.1 h4
          refine z_aload_n dX7_reach_115 rfl rfl ?_
          refine z_getr dX7_reach_116 fl_X7_26 lo1_0 rfl ?_
          refine z_iload dX7_reach_119 rfl ?_
          refine z_iald dX7_reach_121 lo1_6 ⟨k.1, ?_⟩
          replace k := k.2
          refine z_iload_n dX7_reach_122 rfl rfl ?_
          refine z_icmp_ge 134 dX7_reach_123 (by decide) ⟨fun h5 => ?_, fun h5 => ?_⟩
          · replace k := k.1 h5
            exact k
          · replace k := k.2 h5
            refine z_iload dX7_reach_126 rfl ?_
            refine z_if_ne 134 dX7_reach_128 (by decide) ⟨fun h6 => ?_, fun h6 => ?_⟩
            · replace k := k.1 h6
              exact k
            · replace k := k.2 h6
              refine z_goto 235 dX7_reach_131 (by decide) ?_
              refine z_iinc (v := (x10 + 1)) dX7_reach_235 rfl rfl (by decide) rfl ?_
              refine z_goto 73 dX7_reach_238 (by decide) ?_
              exact k
        · replace k := k.2 h4
          refine z_iload dX7_reach_110 rfl ?_
          refine z_if_eq 235 dX7_reach_112 (by decide) ⟨fun h7 => ?_, fun h7 => ?_⟩
          · replace k := k.1 h7
            refine z_iinc (v := (x10 + 1)) dX7_reach_235 rfl rfl (by decide) rfl ?_
            refine z_goto 73 dX7_reach_238 (by decide) ?_
            exact k
          · replace k := k.2 h7
            refine z_aload_n dX7_reach_115 rfl rfl ?_
            refine z_getr dX7_reach_116 fl_X7_26 lo1_0 rfl ?_
            refine z_iload dX7_reach_119 rfl ?_
            refine z_iald dX7_reach_121 lo1_6 ⟨k.1, ?_⟩
            replace k := k.2
            refine z_iload_n dX7_reach_122 rfl rfl ?_
            refine z_icmp_ge 134 dX7_reach_123 (by decide) ⟨fun h8 => ?_, fun h8 => ?_⟩
            · replace k := k.1 h8
              exact k
            · replace k := k.2 h8
              refine z_iload dX7_reach_126 rfl ?_
              refine z_if_ne 134 dX7_reach_128 (by decide) ⟨fun h9 => ?_, fun h9 => ?_⟩
              · replace k := k.1 h9
                exact k
              · replace k := k.2 h9
                refine z_goto 235 dX7_reach_131 (by decide) ?_
                refine z_iinc (v := (x10 + 1)) dX7_reach_235 rfl rfl (by decide) rfl ?_
                refine z_goto 73 dX7_reach_238 (by decide) ?_
                exact k

set_option maxRecDepth 100000 in
set_option maxHeartbeats 4000000 in
theorem r_X7_reach_b_134 {P : Int32 → zM → Prop} (x2 : Int32) (x4 : Int32) (x5 : Int32) (x6 : Int32) (x7 : Int32) (x8 : Int32) (x9 : Int32) (x10 : Int32) (F : Nat → Int32) (I : Nat → Nat → Int32) (J : Nat → Nat → Int64)
  (k : vp_in x10 300 ∧ (((I 1 (zn x10)) = x9 → AW m_X7_reach (z_pi P) 161 [some (.ref 0), none, some (.int x2), some (.ref 16), some (.int x4), some (.int x5), some (.int x6), some (.int x7), some (.int x8), some (.int x9), some (.int x10), none] [] (F, I, J)) ∧ (¬ (I 1 (zn x10)) = x9 → vp_in x10 300 ∧ (((I 2 (zn x10)) = x9 → AW m_X7_reach (z_pi P) 161 [some (.ref 0), none, some (.int x2), some (.ref 16), some (.int x4), some (.int x5), some (.int x6), some (.int x7), some (.int x8), some (.int x9), some (.int x10), none] [] (F, I, J)) ∧ (¬ (I 2 (zn x10)) = x9 → AW m_X7_reach (z_pi P) 73 [some (.ref 0), none, some (.int x2), some (.ref 16), some (.int x4), some (.int x5), some (.int x6), some (.int x7), some (.int x8), some (.int x9), some (.int (x10 + 1)), none] [] (F, I, J)))))) :
  AW m_X7_reach (z_pi P) 134 [some (.ref 0), none, some (.int x2), some (.ref 16), some (.int x4), some (.int x5), some (.int x6), some (.int x7), some (.int x8), some (.int x9), some (.int x10), none] [] (F, I, J) := by
  refine z_aload_n dX7_reach_134 rfl rfl ?_
  refine z_getr dX7_reach_135 fl_X7_17 lo1_0 rfl ?_
  refine z_iload dX7_reach_138 rfl ?_
  refine z_iald dX7_reach_140 lo1_3 ⟨k.1, ?_⟩
  replace k := k.2
  refine z_iload dX7_reach_141 rfl ?_
  refine z_icmp_eq 161 dX7_reach_143 (by decide) ⟨fun h1 => ?_, fun h1 => ?_⟩
  · replace k := k.1 h1
    exact k
  · replace k := k.2 h1
    refine z_aload_n dX7_reach_146 rfl rfl ?_
    refine z_getr dX7_reach_147 fl_X7_20 lo1_0 rfl ?_
    refine z_iload dX7_reach_150 rfl ?_
    refine z_iald dX7_reach_152 lo1_4 ⟨k.1, ?_⟩
    replace k := k.2
    refine z_iload dX7_reach_153 rfl ?_
    refine z_icmp_eq 161 dX7_reach_155 (by decide) ⟨fun h2 => ?_, fun h2 => ?_⟩
    · replace k := k.1 h2
      exact k
    · replace k := k.2 h2
      refine z_goto 235 dX7_reach_158 (by decide) ?_
      refine z_iinc (v := (x10 + 1)) dX7_reach_235 rfl rfl (by decide) rfl ?_
      refine z_goto 73 dX7_reach_238 (by decide) ?_
      exact k

set_option maxRecDepth 100000 in
set_option maxHeartbeats 4000000 in
theorem r_X7_reach_b_161 {P : Int32 → zM → Prop} (x2 : Int32) (x4 : Int32) (x5 : Int32) (x6 : Int32) (x7 : Int32) (x8 : Int32) (x9 : Int32) (x10 : Int32) (F : Nat → Int32) (I : Nat → Nat → Int32) (J : Nat → Nat → Int64)
  (k : vp_in x10 300 ∧ ((¬ (I 1 (zn x10)) = x9 → vp_in x10 300 ∧ vp_in (I 1 (zn x10)) 100 ∧ ((¬ (I 12 (zn (I 1 (zn x10)))) = 0 → AW m_X7_reach (z_pi P) 73 [some (.ref 0), none, some (.int x2), some (.ref 16), some (.int x4), some (.int x5), some (.int x6), some (.int x7), some (.int x8), some (.int x9), some (.int (x10 + 1)), none] [] (F, I, J)) ∧ ((I 12 (zn (I 1 (zn x10)))) = 0 → ((¬ (I 1 (zn x10)) = x6 → vp_in (I 1 (zn x10)) 100 ∧ vp_in (I 1 (zn x10)) 100 ∧ vp_in x8 100 ∧ AW m_X7_reach (z_pi P) 73 [some (.ref 0), none, some (.int x2), some (.ref 16), some (.int x4), some (.int x5), some (.int x6), some (.int x7), some (.int (x8 + 1)), some (.int x9), some (.int (x10 + 1)), none] [] (F, z_ui (z_ui (z_ui I 12 (zn (I 1 (zn x10))) 1) 14 (zn (I 1 (zn x10))) x10) 13 (zn x8) (I 1 (zn x10)), J)) ∧ ((I 1 (zn x10)) = x6 → AW m_X7_reach (z_pi P) 73 [some (.ref 0), none, some (.int x2), some (.ref 16), some (.int x4), some (.int x5), some (.int x6), some (.int x7), some (.int x8), some (.int x9), some (.int (x10 + 1)), none] [] (F, I, J)))))) ∧ ((I 1 (zn x10)) = x9 → vp_in x10 300 ∧ vp_in (I 2 (zn x10)) 100 ∧ ((¬ (I 12 (zn (I 2 (zn x10)))) = 0 → AW m_X7_reach (z_pi P) 73 [some (.ref 0), none, some (.int x2), some (.ref 16), some (.int x4), some (.int x5), some (.int x6), some (.int x7), some (.int x8), some (.int x9), some (.int (x10 + 1)), none] [] (F, I, J)) ∧ ((I 12 (zn (I 2 (zn x10)))) = 0 → ((¬ (I 2 (zn x10)) = x6 → vp_in (I 2 (zn x10)) 100 ∧ vp_in (I 2 (zn x10)) 100 ∧ vp_in x8 100 ∧ AW m_X7_reach (z_pi P) 73 [some (.ref 0), none, some (.int x2), some (.ref 16), some (.int x4), some (.int x5), some (.int x6), some (.int x7), some (.int (x8 + 1)), some (.int x9), some (.int (x10 + 1)), none] [] (F, z_ui (z_ui (z_ui I 12 (zn (I 2 (zn x10))) 1) 14 (zn (I 2 (zn x10))) x10) 13 (zn x8) (I 2 (zn x10)), J)) ∧ ((I 2 (zn x10)) = x6 → AW m_X7_reach (z_pi P) 73 [some (.ref 0), none, some (.int x2), some (.ref 16), some (.int x4), some (.int x5), some (.int x6), some (.int x7), some (.int x8), some (.int x9), some (.int (x10 + 1)), none] [] (F, I, J)))))))) :
  AW m_X7_reach (z_pi P) 161 [some (.ref 0), none, some (.int x2), some (.ref 16), some (.int x4), some (.int x5), some (.int x6), some (.int x7), some (.int x8), some (.int x9), some (.int x10), none] [] (F, I, J) := by
  refine z_aload_n dX7_reach_161 rfl rfl ?_
  refine z_getr dX7_reach_162 fl_X7_17 lo1_0 rfl ?_
  refine z_iload dX7_reach_165 rfl ?_
  refine z_iald dX7_reach_167 lo1_3 ⟨k.1, ?_⟩
  replace k := k.2
  refine z_iload dX7_reach_168 rfl ?_
  refine z_icmp_ne 183 dX7_reach_170 (by decide) ⟨fun h1 => ?_, fun h1 => ?_⟩
  · replace k := k.1 h1
    refine z_aload_n dX7_reach_183 rfl rfl ?_
    refine z_getr dX7_reach_184 fl_X7_17 lo1_0 rfl ?_
    refine z_iload dX7_reach_187 rfl ?_
    refine z_iald dX7_reach_189 lo1_3 ⟨k.1, ?_⟩
    replace k := k.2
    refine z_istore dX7_reach_190 (by decide) rfl ?_
    refine z_aload_n dX7_reach_192 rfl rfl ?_
    refine z_iload dX7_reach_193 rfl ?_
    refine z_zald dX7_reach_195 lo1_16 ⟨k.1, ?_⟩
    replace k := k.2
    refine z_if_ne 235 dX7_reach_196 (by decide) ⟨fun h2 => ?_, fun h2 => ?_⟩
    · replace k := k.1 h2
      refine z_iinc (v := (x10 + 1)) dX7_reach_235 rfl rfl (by decide) rfl ?_
      refine z_goto 73 dX7_reach_238 (by decide) ?_
      refine z_wk [some (.ref 0), none, some (.int x2), some (.ref 16), some (.int x4), some (.int x5), some (.int x6), some (.int x7), some (.int x8), some (.int x9), some (.int (x10 + 1)), none] (z_le_some (z_le_none (z_le_some (z_le_some (z_le_some (z_le_some (z_le_some (z_le_some (z_le_some (z_le_some (z_le_some (z_le_none z_le_nil)))))))))))) ?_
      exact k
    · replace k := k.2 h2
      refine z_iload dX7_reach_199 rfl ?_
      refine z_iload dX7_reach_201 rfl ?_
      refine z_icmp_ne 209 dX7_reach_203 (by decide) ⟨fun h3 => ?_, fun h3 => ?_⟩
      · replace k := k.1 h3
        refine z_aload_n dX7_reach_209 rfl rfl ?_
        refine z_iload dX7_reach_210 rfl ?_
        refine z_iconst (v := 1) dX7_reach_212 (by decide) ?_
        refine z_zast (x2 := 1) rfl dX7_reach_213 lo1_16 ⟨k.1, ?_⟩
        replace k := k.2
        refine z_aload_n dX7_reach_214 rfl rfl ?_
        refine z_getr dX7_reach_215 fl_X7_63 lo1_0 rfl ?_
        refine z_iload dX7_reach_218 rfl ?_
        refine z_iload dX7_reach_220 rfl ?_
        refine z_iast dX7_reach_222 lo1_18 ⟨k.1, ?_⟩
        replace k := k.2
        refine z_aload_n dX7_reach_223 rfl rfl ?_
        refine z_getr dX7_reach_224 fl_X7_60 lo1_0 rfl ?_
        refine z_iload dX7_reach_227 rfl ?_
        refine z_iinc (v := (x8 + 1)) dX7_reach_229 rfl rfl (by decide) rfl ?_
        refine z_iload dX7_reach_232 rfl ?_
        refine z_iast dX7_reach_234 lo1_17 ⟨k.1, ?_⟩
        replace k := k.2
        refine z_iinc (v := (x10 + 1)) dX7_reach_235 rfl rfl (by decide) rfl ?_
        refine z_goto 73 dX7_reach_238 (by decide) ?_
        refine z_wk [some (.ref 0), none, some (.int x2), some (.ref 16), some (.int x4), some (.int x5), some (.int x6), some (.int x7), some (.int (x8 + 1)), some (.int x9), some (.int (x10 + 1)), none] (z_le_some (z_le_none (z_le_some (z_le_some (z_le_some (z_le_some (z_le_some (z_le_some (z_le_some (z_le_some (z_le_some (z_le_none z_le_nil)))))))))))) ?_
        exact k
      · replace k := k.2 h3
        refine z_goto 235 dX7_reach_206 (by decide) ?_
        refine z_iinc (v := (x10 + 1)) dX7_reach_235 rfl rfl (by decide) rfl ?_
        refine z_goto 73 dX7_reach_238 (by decide) ?_
        refine z_wk [some (.ref 0), none, some (.int x2), some (.ref 16), some (.int x4), some (.int x5), some (.int x6), some (.int x7), some (.int x8), some (.int x9), some (.int (x10 + 1)), none] (z_le_some (z_le_none (z_le_some (z_le_some (z_le_some (z_le_some (z_le_some (z_le_some (z_le_some (z_le_some (z_le_some (z_le_none z_le_nil)))))))))))) ?_
        exact k
  · replace k := k.2 h1
    refine z_aload_n dX7_reach_173 rfl rfl ?_
    refine z_getr dX7_reach_174 fl_X7_20 lo1_0 rfl ?_
    refine z_iload dX7_reach_177 rfl ?_
    refine z_iald dX7_reach_179 lo1_4 ⟨k.1, ?_⟩
    replace k := k.2
    refine z_goto 190 dX7_reach_180 (by decide) ?_
    refine z_istore dX7_reach_190 (by decide) rfl ?_
    refine z_aload_n dX7_reach_192 rfl rfl ?_
    refine z_iload dX7_reach_193 rfl ?_
    refine z_zald dX7_reach_195 lo1_16 ⟨k.1, ?_⟩
    replace k := k.2
    refine z_if_ne 235 dX7_reach_196 (by decide) ⟨fun h4 => ?_, fun h4 => ?_⟩
    · replace k := k.1 h4
      refine z_iinc (v := (x10 + 1)) dX7_reach_235 rfl rfl (by decide) rfl ?_
      refine z_goto 73 dX7_reach_238 (by decide) ?_
      refine z_wk [some (.ref 0), none, some (.int x2), some (.ref 16), some (.int x4), some (.int x5), some (.int x6), some (.int x7), some (.int x8), some (.int x9), some (.int (x10 + 1)), none] (z_le_some (z_le_none (z_le_some (z_le_some (z_le_some (z_le_some (z_le_some (z_le_some (z_le_some (z_le_some (z_le_some (z_le_none z_le_nil)))))))))))) ?_
      exact k
    · replace k := k.2 h4
      refine z_iload dX7_reach_199 rfl ?_
      refine z_iload dX7_reach_201 rfl ?_
      refine z_icmp_ne 209 dX7_reach_203 (by decide) ⟨fun h5 => ?_, fun h5 => ?_⟩
      · replace k := k.1 h5
        refine z_aload_n dX7_reach_209 rfl rfl ?_
        refine z_iload dX7_reach_210 rfl ?_
        refine z_iconst (v := 1) dX7_reach_212 (by decide) ?_
        refine z_zast (x2 := 1) rfl dX7_reach_213 lo1_16 ⟨k.1, ?_⟩
        replace k := k.2
        refine z_aload_n dX7_reach_214 rfl rfl ?_
        refine z_getr dX7_reach_215 fl_X7_63 lo1_0 rfl ?_
        refine z_iload dX7_reach_218 rfl ?_
        refine z_iload dX7_reach_220 rfl ?_
        refine z_iast dX7_reach_222 lo1_18 ⟨k.1, ?_⟩
        replace k := k.2
        refine z_aload_n dX7_reach_223 rfl rfl ?_
        refine z_getr dX7_reach_224 fl_X7_60 lo1_0 rfl ?_
        refine z_iload dX7_reach_227 rfl ?_
        refine z_iinc (v := (x8 + 1)) dX7_reach_229 rfl rfl (by decide) rfl ?_
        refine z_iload dX7_reach_232 rfl ?_
        refine z_iast dX7_reach_234 lo1_17 ⟨k.1, ?_⟩
        replace k := k.2
        refine z_iinc (v := (x10 + 1)) dX7_reach_235 rfl rfl (by decide) rfl ?_
        refine z_goto 73 dX7_reach_238 (by decide) ?_
        refine z_wk [some (.ref 0), none, some (.int x2), some (.ref 16), some (.int x4), some (.int x5), some (.int x6), some (.int x7), some (.int (x8 + 1)), some (.int x9), some (.int (x10 + 1)), none] (z_le_some (z_le_none (z_le_some (z_le_some (z_le_some (z_le_some (z_le_some (z_le_some (z_le_some (z_le_some (z_le_some (z_le_none z_le_nil)))))))))))) ?_
        exact k
      · replace k := k.2 h5
        refine z_goto 235 dX7_reach_206 (by decide) ?_
        refine z_iinc (v := (x10 + 1)) dX7_reach_235 rfl rfl (by decide) rfl ?_
        refine z_goto 73 dX7_reach_238 (by decide) ?_
        refine z_wk [some (.ref 0), none, some (.int x2), some (.ref 16), some (.int x4), some (.int x5), some (.int x6), some (.int x7), some (.int x8), some (.int x9), some (.int (x10 + 1)), none] (z_le_some (z_le_none (z_le_some (z_le_some (z_le_some (z_le_some (z_le_some (z_le_some (z_le_some (z_le_some (z_le_some (z_le_none z_le_nil)))))))))))) ?_
        exact k

set_option maxRecDepth 100000 in
set_option maxHeartbeats 4000000 in
theorem r_X7_part_0 {P : Int32 → zM → Prop} (x1 : Int32) (F : Nat → Int32) (I : Nat → Nat → Int32) (J : Nat → Nat → Int64)
  (k : AMi m_X7_reach [.ref 0, .int x1, .int 0, .ref 15, .int 0, .int (-1), .int (-1)] (F, I, J) (fun r10 M10 => P r10 M10)) :
  AMi m_X7_part [.ref 0, .int x1] (F, I, J) P := by
  refine z_entry (pad := 0) [some (.ref 0), some (.int x1)] (by decide) rfl rfl (fun _ => Nat.le_of_ble_eq_true rfl) ?_
  refine z_aload_n dX7_part_0 rfl rfl ?_
  refine z_iload_n dX7_part_1 rfl rfl ?_
  refine z_iconst (v := 0) dX7_part_2 (by decide) ?_
  refine z_aload_n dX7_part_3 rfl rfl ?_
  refine z_getr dX7_part_4 fl_X7_53 lo1_0 rfl ?_
  refine z_iconst (v := 0) dX7_part_7 (by decide) ?_
  refine z_iconst (v := (-1)) dX7_part_8 (by decide) ?_
  refine z_iconst (v := (-1)) dX7_part_9 (by decide) ?_
  refine z_calli (I := m_X7_part) (I2 := m_X7_reach) (st := []) [.int x1, .int 0, .ref 15, .int 0, .int (-1), .int (-1)] dX7_part_10 ml_X7_111 rfl (by decide) lo1_0 rfl (Nat.le_of_ble_eq_true rfl) rfl (AMi.mono k (fun r10 M10 k => ?_))
  exact z_ireturn (st := []) rfl dX7_part_13 ⟨_, rfl, k⟩

set_option maxRecDepth 100000 in
set_option maxHeartbeats 4000000 in
theorem r_X7_isTogether_0 {P : Int32 → zM → Prop} (x1 : Int32) (x2 : Int32) (F : Nat → Int32) (I : Nat → Nat → Int32) (J : Nat → Nat → Int64)
  (k : AMi m_X7_part [.ref 0, .int x1] (F, I, J) (fun r2 M2 => vp_in x2 100 ∧ narrow .boolean (.int (M2.2.1 11 (zn x2))) = .int (M2.2.1 11 (zn x2)) ∧ P (M2.2.1 11 (zn x2)) M2)) :
  AMi m_X7_isTogether [.ref 0, .int x1, .int x2] (F, I, J) P := by
  refine z_entry (pad := 0) [some (.ref 0), some (.int x1), some (.int x2)] (by decide) rfl rfl (fun _ => Nat.le_of_ble_eq_true rfl) ?_
  refine z_aload_n dX7_isTogether_0 rfl rfl ?_
  refine z_iload_n dX7_isTogether_1 rfl rfl ?_
  refine z_calli (I := m_X7_isTogether) (I2 := m_X7_part) (st := []) [.int x1] dX7_isTogether_2 ml_X7_115 rfl (by decide) lo1_0 rfl (Nat.le_of_ble_eq_true rfl) rfl (AMi.mono k (fun r2 M2 k => ?_))
  refine z_pop dX7_isTogether_5 rfl ?_
  refine z_aload_n dX7_isTogether_6 rfl rfl ?_
  refine z_getr dX7_isTogether_7 fl_X7_53 lo1_0 rfl ?_
  refine z_iload_n dX7_isTogether_10 rfl rfl ?_
  refine z_zald dX7_isTogether_11 lo1_15 ⟨k.1, ?_⟩
  replace k := k.2
  exact z_zreturn (st := []) rfl k.1 dX7_isTogether_12 ⟨_, rfl, k.2⟩

set_option maxRecDepth 100000 in
set_option maxHeartbeats 4000000 in
theorem r_X7_finds_0 {P : Int32 → zM → Prop} (x1 : Int32) (x2 : Int32) (F : Nat → Int32) (I : Nat → Nat → Int32) (J : Nat → Nat → Int64)
  (k : AMi m_X7_part [.ref 0, .int x2] (F, I, J) (fun r2 M2 => vp_in x1 100 ∧ ((¬ (M2.2.1 11 (zn x1)) = 0 → vp_in 0 100 ∧ AW m_X7_finds (z_pi P) 41 [some (.ref 0), none, some (.int x2), some (.int x1), none] [] (upd (upd M2.1 6 0) 6 (0 + 1), z_ui M2.2.1 15 (zn 0) x1, M2.2.2)) ∧ ((M2.2.1 11 (zn x1)) = 0 → P 0 M2)))) :
  AMi m_X7_finds [.ref 0, .int x1, .int x2] (F, I, J) P := by
  refine z_entry (pad := 2) [some (.ref 0), some (.int x1), some (.int x2), none, none] (by decide) rfl rfl (fun _ => Nat.le_of_ble_eq_true rfl) ?_
  refine z_aload_n dX7_finds_0 rfl rfl ?_
  refine z_iload_n dX7_finds_1 rfl rfl ?_
  refine z_calli (I := m_X7_finds) (I2 := m_X7_part) (st := []) [.int x2] dX7_finds_2 ml_X7_115 rfl (by decide) lo1_0 rfl (Nat.le_of_ble_eq_true rfl) rfl (AMi.mono k (fun r2 M2 k => ?_))
  refine z_pop dX7_finds_5 rfl ?_
  refine z_aload_n dX7_finds_6 rfl rfl ?_
  refine z_getr dX7_finds_7 fl_X7_53 lo1_0 rfl ?_
  refine z_iload_n dX7_finds_10 rfl rfl ?_
  refine z_zald dX7_finds_11 lo1_15 ⟨k.1, ?_⟩
  replace k := k.2
  refine z_if_ne 17 dX7_finds_12 (by decide) ⟨fun h1 => ?_, fun h1 => ?_⟩
  · replace k := k.1 h1
    refine z_aload_n dX7_finds_17 rfl rfl ?_
    refine z_iconst (v := 0) dX7_finds_18 (by decide) ?_
    refine z_puti dX7_finds_19 fw_X7_119 lo1_0 rfl ?_
    refine z_iload_n dX7_finds_22 rfl rfl ?_
    refine z_istore_n dX7_finds_23 rfl (by decide) rfl ?_
    refine z_aload_n dX7_finds_24 rfl rfl ?_
    refine z_getr dX7_finds_25 fl_X7_66 lo1_0 rfl ?_
    refine z_aload_n dX7_finds_28 rfl rfl ?_
    refine z_dup dX7_finds_29 rfl ?_
    refine z_geti dX7_finds_30 fl_X7_119 lo1_0 rfl ?_
    refine z_dup_x1 dX7_finds_33 rfl rfl ?_
    refine z_iconst (v := 1) dX7_finds_34 (by decide) ?_
    refine z_iadd dX7_finds_35 ?_
    refine z_puti dX7_finds_36 fw_X7_119 lo1_0 rfl ?_
    refine z_iload_n dX7_finds_39 rfl rfl ?_
    refine z_iast dX7_finds_40 lo1_19 ⟨k.1, ?_⟩
    replace k := k.2
    refine z_wk [some (.ref 0), none, some (.int x2), some (.int x1), none] (z_le_some (z_le_none (z_le_some (z_le_some (z_le_none z_le_nil))))) ?_
    exact k
  · replace k := k.2 h1
    refine z_iconst (v := 0) dX7_finds_15 (by decide) ?_
    exact z_zreturn (st := []) rfl rfl dX7_finds_16 ⟨_, rfl, k⟩

set_option maxRecDepth 100000 in
set_option maxHeartbeats 4000000 in
theorem r_X7_finds_41 {P : Int32 → zM → Prop} (x2 : Int32) (x3 : Int32) (F : Nat → Int32) (I : Nat → Nat → Int32) (J : Nat → Nat → Int64)
  (k : ((x3 = x2 → P 1 (F, I, J)) ∧ (¬ x3 = x2 → vp_in x3 100 ∧ vp_in (I 14 (zn x3)) 300 ∧ ((¬ (I 1 (zn (I 14 (zn x3)))) = x3 → vp_in (I 14 (zn x3)) 300 ∧ vp_in (F 6) 100 ∧ vp_in (F 6) 100 ∧ AW m_X7_finds (z_pi P) 41 [some (.ref 0), none, some (.int x2), some (.int (I 1 (zn (I 14 (zn x3))))), none] [] (upd F 6 ((F 6) + 1), z_ui (z_ui I 16 (zn (F 6)) (I 14 (zn x3))) 15 (zn (F 6)) (I 1 (zn (I 14 (zn x3)))), J)) ∧ ((I 1 (zn (I 14 (zn x3)))) = x3 → vp_in (I 14 (zn x3)) 300 ∧ vp_in (F 6) 100 ∧ vp_in (F 6) 100 ∧ AW m_X7_finds (z_pi P) 41 [some (.ref 0), none, some (.int x2), some (.int (I 2 (zn (I 14 (zn x3))))), none] [] (upd F 6 ((F 6) + 1), z_ui (z_ui I 16 (zn (F 6)) (I 14 (zn x3))) 15 (zn (F 6)) (I 2 (zn (I 14 (zn x3)))), J)))))) :
  AW m_X7_finds (z_pi P) 41 [some (.ref 0), none, some (.int x2), some (.int x3), none] [] (F, I, J) := by
  refine z_iload_n dX7_finds_41 rfl rfl ?_
  refine z_iload_n dX7_finds_42 rfl rfl ?_
  refine z_icmp_eq 114 dX7_finds_43 (by decide) ⟨fun h1 => ?_, fun h1 => ?_⟩
  · replace k := k.1 h1
    refine z_iconst (v := 1) dX7_finds_114 (by decide) ?_
    exact z_zreturn (st := []) rfl rfl dX7_finds_115 ⟨_, rfl, k⟩
  · replace k := k.2 h1
    refine z_aload_n dX7_finds_46 rfl rfl ?_
    refine z_getr dX7_finds_47 fl_X7_63 lo1_0 rfl ?_
    refine z_iload_n dX7_finds_50 rfl rfl ?_
    refine z_iald dX7_finds_51 lo1_18 ⟨k.1, ?_⟩
    replace k := k.2
    refine z_istore dX7_finds_52 (by decide) rfl ?_
    refine z_aload_n dX7_finds_54 rfl rfl ?_
    refine z_getr dX7_finds_55 fl_X7_17 lo1_0 rfl ?_
    refine z_iload dX7_finds_58 rfl ?_
    refine z_iald dX7_finds_60 lo1_3 ⟨k.1, ?_⟩
    replace k := k.2
    refine z_iload_n dX7_finds_61 rfl rfl ?_
    refine z_icmp_ne 75 dX7_finds_62 (by decide) ⟨fun h2 => ?_, fun h2 => ?_⟩
    · replace k := k.1 h2
      refine z_aload_n dX7_finds_75 rfl rfl ?_
      refine z_getr dX7_finds_76 fl_X7_17 lo1_0 rfl ?_
      refine z_iload dX7_finds_79 rfl ?_
      refine z_iald dX7_finds_81 lo1_3 ⟨k.1, ?_⟩
      replace k := k.2
      refine z_istore_n dX7_finds_82 rfl (by decide) rfl ?_
      refine z_aload_n dX7_finds_83 rfl rfl ?_
      refine z_getr dX7_finds_84 fl_X7_69 lo1_0 rfl ?_
      refine z_aload_n dX7_finds_87 rfl rfl ?_
      refine z_geti dX7_finds_88 fl_X7_119 lo1_0 rfl ?_
      refine z_iload dX7_finds_91 rfl ?_
      refine z_iast dX7_finds_93 lo1_20 ⟨k.1, ?_⟩
      replace k := k.2
      refine z_aload_n dX7_finds_94 rfl rfl ?_
      refine z_getr dX7_finds_95 fl_X7_66 lo1_0 rfl ?_
      refine z_aload_n dX7_finds_98 rfl rfl ?_
      refine z_dup dX7_finds_99 rfl ?_
      refine z_geti dX7_finds_100 fl_X7_119 lo1_0 rfl ?_
      refine z_dup_x1 dX7_finds_103 rfl rfl ?_
      refine z_iconst (v := 1) dX7_finds_104 (by decide) ?_
      refine z_iadd dX7_finds_105 ?_
      refine z_puti dX7_finds_106 fw_X7_119 lo1_0 rfl ?_
      refine z_iload_n dX7_finds_109 rfl rfl ?_
      refine z_iast dX7_finds_110 lo1_19 ⟨k.1, ?_⟩
      replace k := k.2
      refine z_goto 41 dX7_finds_111 (by decide) ?_
      refine z_wk [some (.ref 0), none, some (.int x2), some (.int (I 1 (zn (I 14 (zn x3))))), none] (z_le_some (z_le_none (z_le_some (z_le_some (z_le_none z_le_nil))))) ?_
      exact k
    · replace k := k.2 h2
      refine z_aload_n dX7_finds_65 rfl rfl ?_
      refine z_getr dX7_finds_66 fl_X7_20 lo1_0 rfl ?_
      refine z_iload dX7_finds_69 rfl ?_
      refine z_iald dX7_finds_71 lo1_4 ⟨k.1, ?_⟩
      replace k := k.2
      refine z_goto 82 dX7_finds_72 (by decide) ?_
      refine z_istore_n dX7_finds_82 rfl (by decide) rfl ?_
      refine z_aload_n dX7_finds_83 rfl rfl ?_
      refine z_getr dX7_finds_84 fl_X7_69 lo1_0 rfl ?_
      refine z_aload_n dX7_finds_87 rfl rfl ?_
      refine z_geti dX7_finds_88 fl_X7_119 lo1_0 rfl ?_
      refine z_iload dX7_finds_91 rfl ?_
      refine z_iast dX7_finds_93 lo1_20 ⟨k.1, ?_⟩
      replace k := k.2
      refine z_aload_n dX7_finds_94 rfl rfl ?_
      refine z_getr dX7_finds_95 fl_X7_66 lo1_0 rfl ?_
      refine z_aload_n dX7_finds_98 rfl rfl ?_
      refine z_dup dX7_finds_99 rfl ?_
      refine z_geti dX7_finds_100 fl_X7_119 lo1_0 rfl ?_
      refine z_dup_x1 dX7_finds_103 rfl rfl ?_
      refine z_iconst (v := 1) dX7_finds_104 (by decide) ?_
      refine z_iadd dX7_finds_105 ?_
      refine z_puti dX7_finds_106 fw_X7_119 lo1_0 rfl ?_
      refine z_iload_n dX7_finds_109 rfl rfl ?_
      refine z_iast dX7_finds_110 lo1_19 ⟨k.1, ?_⟩
      replace k := k.2
      refine z_goto 41 dX7_finds_111 (by decide) ?_
      refine z_wk [some (.ref 0), none, some (.int x2), some (.int (I 2 (zn (I 14 (zn x3))))), none] (z_le_some (z_le_none (z_le_some (z_le_some (z_le_none z_le_nil))))) ?_
      exact k

set_option maxRecDepth 100000 in
set_option maxHeartbeats 4000000 in
theorem r_X7_isHeavier_0 {P : Int32 → zM → Prop} (x1 : Int32) (x2 : Int32) (F : Nat → Int32) (I : Nat → Nat → Int32) (J : Nat → Nat → Int64)
  (k : vp_in x1 300 ∧ vp_in x2 300 ∧ (((lg_cmp (J 1 (zn x1)) (J 1 (zn x2))) = 0 → ((x1 ≤ x2 → P 0 (F, I, J)) ∧ (¬ x1 ≤ x2 → P 1 (F, I, J)))) ∧ (¬ (lg_cmp (J 1 (zn x1)) (J 1 (zn x2))) = 0 → vp_in x1 300 ∧ vp_in x2 300 ∧ (((lg_cmp (J 1 (zn x1)) (J 1 (zn x2))) ≤ 0 → P 0 (F, I, J)) ∧ (¬ (lg_cmp (J 1 (zn x1)) (J 1 (zn x2))) ≤ 0 → P 1 (F, I, J)))))) :
  AMi m_X7_isHeavier [.ref 0, .int x1, .int x2] (F, I, J) P := by
  refine z_entry (pad := 0) [some (.ref 0), some (.int x1), some (.int x2)] (by decide) rfl rfl (fun _ => Nat.le_of_ble_eq_true rfl) ?_
  refine z_aload_n dX7_isHeavier_0 rfl rfl ?_
  refine z_getr dX7_isHeavier_1 fl_X7_29 lo1_0 rfl ?_
  refine z_iload_n dX7_isHeavier_4 rfl rfl ?_
  refine z_lald dX7_isHeavier_5 lo1_7 ⟨k.1, ?_⟩
  replace k := k.2
  refine z_aload_n dX7_isHeavier_6 rfl rfl ?_
  refine z_getr dX7_isHeavier_7 fl_X7_29 lo1_0 rfl ?_
  refine z_iload_n dX7_isHeavier_10 rfl rfl ?_
  refine z_lald dX7_isHeavier_11 lo1_7 ⟨k.1, ?_⟩
  replace k := k.2
  refine z_lcmp dX7_isHeavier_12 ?_
  refine z_if_eq 40 dX7_isHeavier_13 (by decide) ⟨fun h1 => ?_, fun h1 => ?_⟩
  · replace k := k.1 h1
    refine z_iload_n dX7_isHeavier_40 rfl rfl ?_
    refine z_iload_n dX7_isHeavier_41 rfl rfl ?_
    refine z_icmp_le 49 dX7_isHeavier_42 (by decide) ⟨fun h2 => ?_, fun h2 => ?_⟩
    · replace k := k.1 h2
      refine z_iconst (v := 0) dX7_isHeavier_49 (by decide) ?_
      exact z_zreturn (st := []) rfl rfl dX7_isHeavier_50 ⟨_, rfl, k⟩
    · replace k := k.2 h2
      refine z_iconst (v := 1) dX7_isHeavier_45 (by decide) ?_
      refine z_goto 50 dX7_isHeavier_46 (by decide) ?_
      exact z_zreturn (st := []) rfl rfl dX7_isHeavier_50 ⟨_, rfl, k⟩
  · replace k := k.2 h1
    refine z_aload_n dX7_isHeavier_16 rfl rfl ?_
    refine z_getr dX7_isHeavier_17 fl_X7_29 lo1_0 rfl ?_
    refine z_iload_n dX7_isHeavier_20 rfl rfl ?_
    refine z_lald dX7_isHeavier_21 lo1_7 ⟨k.1, ?_⟩
    replace k := k.2
    refine z_aload_n dX7_isHeavier_22 rfl rfl ?_
    refine z_getr dX7_isHeavier_23 fl_X7_29 lo1_0 rfl ?_
    refine z_iload_n dX7_isHeavier_26 rfl rfl ?_
    refine z_lald dX7_isHeavier_27 lo1_7 ⟨k.1, ?_⟩
    replace k := k.2
    refine z_lcmp dX7_isHeavier_28 ?_
    refine z_if_le 36 dX7_isHeavier_29 (by decide) ⟨fun h3 => ?_, fun h3 => ?_⟩
    · replace k := k.1 h3
      refine z_iconst (v := 0) dX7_isHeavier_36 (by decide) ?_
      refine z_goto 50 dX7_isHeavier_37 (by decide) ?_
      exact z_zreturn (st := []) rfl rfl dX7_isHeavier_50 ⟨_, rfl, k⟩
    · replace k := k.2 h3
      refine z_iconst (v := 1) dX7_isHeavier_32 (by decide) ?_
      refine z_goto 50 dX7_isHeavier_33 (by decide) ?_
      exact z_zreturn (st := []) rfl rfl dX7_isHeavier_50 ⟨_, rfl, k⟩

set_option maxRecDepth 100000 in
set_option maxHeartbeats 4000000 in
theorem r_X7_heaviestOfWay_0 {P : Int32 → zM → Prop}  (F : Nat → Int32) (I : Nat → Nat → Int32) (J : Nat → Nat → Int64)
  (k : AW m_X7_heaviestOfWay (z_pi P) 4 [some (.ref 0), some (.int (-1)), some (.int 1)] [] (F, I, J)) :
  AMi m_X7_heaviestOfWay [.ref 0] (F, I, J) P := by
  refine z_entry (pad := 2) [some (.ref 0), none, none] (by decide) rfl rfl (fun _ => Nat.le_of_ble_eq_true rfl) ?_
  refine z_iconst (v := (-1)) dX7_heaviestOfWay_0 (by decide) ?_
  refine z_istore_n dX7_heaviestOfWay_1 rfl (by decide) rfl ?_
  refine z_iconst (v := 1) dX7_heaviestOfWay_2 (by decide) ?_
  refine z_istore_n dX7_heaviestOfWay_3 rfl (by decide) rfl ?_
  exact k

set_option maxRecDepth 100000 in
set_option maxHeartbeats 4000000 in
theorem r_X7_heaviestOfWay_4 {P : Int32 → zM → Prop} (x1 : Int32) (x2 : Int32) (F : Nat → Int32) (I : Nat → Nat → Int32) (J : Nat → Nat → Int64)
  (k : (((F 6) ≤ x2 → P x1 (F, I, J)) ∧ (¬ (F 6) ≤ x2 → ((x1 = (-1) → vp_in x2 100 ∧ AW m_X7_heaviestOfWay (z_pi P) 4 [some (.ref 0), some (.int (I 16 (zn x2))), some (.int (x2 + 1))] [] (F, I, J)) ∧ (¬ x1 = (-1) → vp_in x2 100 ∧ AMi m_X7_isHeavier [.ref 0, .int (I 16 (zn x2)), .int x1] (F, I, J) (fun r25 M25 => ((r25 = 0 → AW m_X7_heaviestOfWay (z_pi P) 4 [some (.ref 0), some (.int x1), some (.int (x2 + 1))] [] M25) ∧ (¬ r25 = 0 → vp_in x2 100 ∧ AW m_X7_heaviestOfWay (z_pi P) 4 [some (.ref 0), some (.int (M25.2.1 16 (zn x2))), some (.int (x2 + 1))] [] M25)))))))) :
  AW m_X7_heaviestOfWay (z_pi P) 4 [some (.ref 0), some (.int x1), some (.int x2)] [] (F, I, J) := by
  refine z_iload_n dX7_heaviestOfWay_4 rfl rfl ?_
  refine z_aload_n dX7_heaviestOfWay_5 rfl rfl ?_
  refine z_geti dX7_heaviestOfWay_6 fl_X7_119 lo1_0 rfl ?_
  refine z_icmp_ge 44 dX7_heaviestOfWay_9 (by decide) ⟨fun h1 => ?_, fun h1 => ?_⟩
  · replace k := k.1 h1
    refine z_iload_n dX7_heaviestOfWay_44 rfl rfl ?_
    exact z_ireturn (st := []) rfl dX7_heaviestOfWay_45 ⟨_, rfl, k⟩
  · replace k := k.2 h1
    refine z_iload_n dX7_heaviestOfWay_12 rfl rfl ?_
    refine z_iconst (v := (-1)) dX7_heaviestOfWay_13 (by decide) ?_
    refine z_icmp_eq 31 dX7_heaviestOfWay_14 (by decide) ⟨fun h2 => ?_, fun h2 => ?_⟩
    · replace k := k.1 h2
      refine z_aload_n dX7_heaviestOfWay_31 rfl rfl ?_
      refine z_getr dX7_heaviestOfWay_32 fl_X7_69 lo1_0 rfl ?_
      refine z_iload_n dX7_heaviestOfWay_35 rfl rfl ?_
      refine z_iald dX7_heaviestOfWay_36 lo1_20 ⟨k.1, ?_⟩
      replace k := k.2
      refine z_istore_n dX7_heaviestOfWay_37 rfl (by decide) rfl ?_
      refine z_iinc (v := (x2 + 1)) dX7_heaviestOfWay_38 rfl rfl (by decide) rfl ?_
      refine z_goto 4 dX7_heaviestOfWay_41 (by decide) ?_
      exact k
    · replace k := k.2 h2
      refine z_aload_n dX7_heaviestOfWay_17 rfl rfl ?_
      refine z_aload_n dX7_heaviestOfWay_18 rfl rfl ?_
      refine z_getr dX7_heaviestOfWay_19 fl_X7_69 lo1_0 rfl ?_
      refine z_iload_n dX7_heaviestOfWay_22 rfl rfl ?_
      refine z_iald dX7_heaviestOfWay_23 lo1_20 ⟨k.1, ?_⟩
      replace k := k.2
      refine z_iload_n dX7_heaviestOfWay_24 rfl rfl ?_
      refine z_calli (I := m_X7_heaviestOfWay) (I2 := m_X7_isHeavier) (st := []) [.int (I 16 (zn x2)), .int x1] dX7_heaviestOfWay_25 ml_X7_122 rfl (by decide) lo1_0 rfl (Nat.le_of_ble_eq_true rfl) rfl (AMi.mono k (fun r25 M25 k => ?_))
      refine z_if_eq 38 dX7_heaviestOfWay_28 (by decide) ⟨fun h3 => ?_, fun h3 => ?_⟩
      · replace k := k.1 h3
        refine z_iinc (v := (x2 + 1)) dX7_heaviestOfWay_38 rfl rfl (by decide) rfl ?_
        refine z_goto 4 dX7_heaviestOfWay_41 (by decide) ?_
        exact k
      · replace k := k.2 h3
        refine z_aload_n dX7_heaviestOfWay_31 rfl rfl ?_
        refine z_getr dX7_heaviestOfWay_32 fl_X7_69 lo1_0 rfl ?_
        refine z_iload_n dX7_heaviestOfWay_35 rfl rfl ?_
        refine z_iald dX7_heaviestOfWay_36 lo1_20 ⟨k.1, ?_⟩
        replace k := k.2
        refine z_istore_n dX7_heaviestOfWay_37 rfl (by decide) rfl ?_
        refine z_iinc (v := (x2 + 1)) dX7_heaviestOfWay_38 rfl rfl (by decide) rfl ?_
        refine z_goto 4 dX7_heaviestOfWay_41 (by decide) ?_
        exact k

set_option maxRecDepth 100000 in
set_option maxHeartbeats 4000000 in
theorem r_X7_rootOf_0 {P : Int32 → zM → Prop} (x1 : Int32) (F : Nat → Int32) (I : Nat → Nat → Int32) (J : Nat → Nat → Int64)
  (k : AMi m_X7_part [.ref 0, .int x1] (F, I, J) (fun r2 M2 => AW m_X7_rootOf (z_pi P) 10 [some (.ref 0), none, some (.int (-1)), some (.int 0)] [] M2)) :
  AMi m_X7_rootOf [.ref 0, .int x1] (F, I, J) P := by
  refine z_entry (pad := 2) [some (.ref 0), some (.int x1), none, none] (by decide) rfl rfl (fun _ => Nat.le_of_ble_eq_true rfl) ?_
  refine z_aload_n dX7_rootOf_0 rfl rfl ?_
  refine z_iload_n dX7_rootOf_1 rfl rfl ?_
  refine z_calli (I := m_X7_rootOf) (I2 := m_X7_part) (st := []) [.int x1] dX7_rootOf_2 ml_X7_115 rfl (by decide) lo1_0 rfl (Nat.le_of_ble_eq_true rfl) rfl (AMi.mono k (fun r2 M2 k => ?_))
  refine z_pop dX7_rootOf_5 rfl ?_
  refine z_iconst (v := (-1)) dX7_rootOf_6 (by decide) ?_
  refine z_istore_n dX7_rootOf_7 rfl (by decide) rfl ?_
  refine z_iconst (v := 0) dX7_rootOf_8 (by decide) ?_
  refine z_istore_n dX7_rootOf_9 rfl (by decide) rfl ?_
  refine z_wk [some (.ref 0), none, some (.int (-1)), some (.int 0)] (z_le_some (z_le_none (z_le_some (z_le_some z_le_nil)))) ?_
  exact k

set_option maxRecDepth 100000 in
set_option maxHeartbeats 4000000 in
theorem r_X7_rootOf_10 {P : Int32 → zM → Prop} (x2 : Int32) (x3 : Int32) (F : Nat → Int32) (I : Nat → Nat → Int32) (J : Nat → Nat → Int64)
  (k : (((F 0) ≤ x3 → P x2 (F, I, J)) ∧ (¬ (F 0) ≤ x3 → vp_in x3 100 ∧ (((I 11 (zn x3)) = 0 → AW m_X7_rootOf (z_pi P) 10 [some (.ref 0), none, some (.int x2), some (.int (x3 + 1))] [] (F, I, J)) ∧ (¬ (I 11 (zn x3)) = 0 → ((x2 = (-1) → AW m_X7_rootOf (z_pi P) 10 [some (.ref 0), none, some (.int x3), some (.int (x3 + 1))] [] (F, I, J)) ∧ (¬ x2 = (-1) → vp_in x3 100 ∧ vp_in x2 100 ∧ (((I 0 (zn x3)) ≤ (I 0 (zn x2)) → AW m_X7_rootOf (z_pi P) 10 [some (.ref 0), none, some (.int x2), some (.int (x3 + 1))] [] (F, I, J)) ∧ (¬ (I 0 (zn x3)) ≤ (I 0 (zn x2)) → AW m_X7_rootOf (z_pi P) 10 [some (.ref 0), none, some (.int x3), some (.int (x3 + 1))] [] (F, I, J)))))))))) :
  AW m_X7_rootOf (z_pi P) 10 [some (.ref 0), none, some (.int x2), some (.int x3)] [] (F, I, J) := by
  refine z_iload_n dX7_rootOf_10 rfl rfl ?_
  refine z_aload_n dX7_rootOf_11 rfl rfl ?_
  refine z_geti dX7_rootOf_12 fl_X7_84 lo1_0 rfl ?_
  refine z_icmp_ge 55 dX7_rootOf_15 (by decide) ⟨fun h1 => ?_, fun h1 => ?_⟩
  · replace k := k.1 h1
    refine z_iload_n dX7_rootOf_55 rfl rfl ?_
    exact z_ireturn (st := []) rfl dX7_rootOf_56 ⟨_, rfl, k⟩
  · replace k := k.2 h1
    refine z_aload_n dX7_rootOf_18 rfl rfl ?_
    refine z_getr dX7_rootOf_19 fl_X7_53 lo1_0 rfl ?_
    refine z_iload_n dX7_rootOf_22 rfl rfl ?_
    refine z_zald dX7_rootOf_23 lo1_15 ⟨k.1, ?_⟩
    replace k := k.2
    refine z_if_eq 49 dX7_rootOf_24 (by decide) ⟨fun h2 => ?_, fun h2 => ?_⟩
    · replace k := k.1 h2
      refine z_iinc (v := (x3 + 1)) dX7_rootOf_49 rfl rfl (by decide) rfl ?_
      refine z_goto 10 dX7_rootOf_52 (by decide) ?_
      exact k
    · replace k := k.2 h2
      refine z_iload_n dX7_rootOf_27 rfl rfl ?_
      refine z_iconst (v := (-1)) dX7_rootOf_28 (by decide) ?_
      refine z_icmp_eq 47 dX7_rootOf_29 (by decide) ⟨fun h3 => ?_, fun h3 => ?_⟩
      · replace k := k.1 h3
        refine z_iload_n dX7_rootOf_47 rfl rfl ?_
        refine z_istore_n dX7_rootOf_48 rfl (by decide) rfl ?_
        refine z_iinc (v := (x3 + 1)) dX7_rootOf_49 rfl rfl (by decide) rfl ?_
        refine z_goto 10 dX7_rootOf_52 (by decide) ?_
        exact k
      · replace k := k.2 h3
        refine z_aload_n dX7_rootOf_32 rfl rfl ?_
        refine z_getr dX7_rootOf_33 fl_X7_13 lo1_0 rfl ?_
        refine z_iload_n dX7_rootOf_36 rfl rfl ?_
        refine z_iald dX7_rootOf_37 lo1_2 ⟨k.1, ?_⟩
        replace k := k.2
        refine z_aload_n dX7_rootOf_38 rfl rfl ?_
        refine z_getr dX7_rootOf_39 fl_X7_13 lo1_0 rfl ?_
        refine z_iload_n dX7_rootOf_42 rfl rfl ?_
        refine z_iald dX7_rootOf_43 lo1_2 ⟨k.1, ?_⟩
        replace k := k.2
        refine z_icmp_le 49 dX7_rootOf_44 (by decide) ⟨fun h4 => ?_, fun h4 => ?_⟩
        · replace k := k.1 h4
          refine z_iinc (v := (x3 + 1)) dX7_rootOf_49 rfl rfl (by decide) rfl ?_
          refine z_goto 10 dX7_rootOf_52 (by decide) ?_
          exact k
        · replace k := k.2 h4
          refine z_iload_n dX7_rootOf_47 rfl rfl ?_
          refine z_istore_n dX7_rootOf_48 rfl (by decide) rfl ?_
          refine z_iinc (v := (x3 + 1)) dX7_rootOf_49 rfl rfl (by decide) rfl ?_
          refine z_goto 10 dX7_rootOf_52 (by decide) ?_
          exact k

set_option maxRecDepth 100000 in
set_option maxHeartbeats 4000000 in
theorem r_X7_knot_0 {P : Int32 → zM → Prop} (l1 : Int64) (F : Nat → Int32) (I : Nat → Nat → Int32) (J : Nat → Nat → Int64)
  (k : ((¬ (F 0) = 100 → vp_in (F 0) 100 ∧ vp_in (F 0) 100 ∧ P (F 0) (upd (upd F 5 0) 0 ((F 0) + 1), z_ui I 0 (zn (F 0)) 0, z_ul J 0 (zn (F 0)) l1)) ∧ ((F 0) = 100 → P (-4) (F, I, J)))) :
  AMi m_X7_knot [.ref 0, .long l1] (F, I, J) P := by
  refine z_entry (pad := 0) [some (.ref 0), some (.long l1), none] (by decide) rfl rfl (fun _ => Nat.le_of_ble_eq_true rfl) ?_
  refine z_aload_n dX7_knot_0 rfl rfl ?_
  refine z_geti dX7_knot_1 fl_X7_84 lo1_0 rfl ?_
  refine z_bipush (v := 100) dX7_knot_4 (by decide) ?_
  refine z_icmp_ne 12 dX7_knot_6 (by decide) ⟨fun h1 => ?_, fun h1 => ?_⟩
  · replace k := k.1 h1
    refine z_aload_n dX7_knot_12 rfl rfl ?_
    refine z_getr dX7_knot_13 fl_X7_7 lo1_0 rfl ?_
    refine z_aload_n dX7_knot_16 rfl rfl ?_
    refine z_geti dX7_knot_17 fl_X7_84 lo1_0 rfl ?_
    refine z_lload_n dX7_knot_20 rfl rfl ?_
    refine z_last dX7_knot_21 lo1_1 ⟨k.1, ?_⟩
    replace k := k.2
    refine z_aload_n dX7_knot_22 rfl rfl ?_
    refine z_getr dX7_knot_23 fl_X7_13 lo1_0 rfl ?_
    refine z_aload_n dX7_knot_26 rfl rfl ?_
    refine z_geti dX7_knot_27 fl_X7_84 lo1_0 rfl ?_
    refine z_iconst (v := 0) dX7_knot_30 (by decide) ?_
    refine z_iast dX7_knot_31 lo1_2 ⟨k.1, ?_⟩
    replace k := k.2
    refine z_aload_n dX7_knot_32 rfl rfl ?_
    refine z_iconst (v := 0) dX7_knot_33 (by decide) ?_
    refine z_puti dX7_knot_34 fw_X7_97 lo1_0 rfl ?_
    refine z_aload_n dX7_knot_37 rfl rfl ?_
    refine z_dup dX7_knot_38 rfl ?_
    refine z_geti dX7_knot_39 fl_X7_84 lo1_0 rfl ?_
    refine z_dup_x1 dX7_knot_42 rfl rfl ?_
    refine z_iconst (v := 1) dX7_knot_43 (by decide) ?_
    refine z_iadd dX7_knot_44 ?_
    refine z_puti dX7_knot_45 fw_X7_84 lo1_0 rfl ?_
    exact z_ireturn (st := []) rfl dX7_knot_48 ⟨_, rfl, k⟩
  · replace k := k.2 h1
    refine z_bipush (v := (-4)) dX7_knot_9 (by decide) ?_
    exact z_ireturn (st := []) rfl dX7_knot_11 ⟨_, rfl, k⟩

set_option maxRecDepth 100000 in
set_option maxHeartbeats 4000000 in
theorem r_X7_kind_0 {P : Int32 → zM → Prop} (x1 : Int32) (F : Nat → Int32) (I : Nat → Nat → Int32) (J : Nat → Nat → Int64)
  (k : ((x1 < 0 → P (-2) (F, I, J)) ∧ (¬ x1 < 0 → ((x1 ≤ 2 → (((F 1) ≤ 0 → P (F 2) (upd F 2 x1, I, J)) ∧ (¬ (F 1) ≤ 0 → P (-3) (F, I, J)))) ∧ (¬ x1 ≤ 2 → P (-2) (F, I, J)))))) :
  AMi m_X7_kind [.ref 0, .int x1] (F, I, J) P := by
  refine z_entry (pad := 1) [some (.ref 0), some (.int x1), none] (by decide) rfl rfl (fun _ => Nat.le_of_ble_eq_true rfl) ?_
  refine z_iload_n dX7_kind_0 rfl rfl ?_
  refine z_if_lt 9 dX7_kind_1 (by decide) ⟨fun h1 => ?_, fun h1 => ?_⟩
  · replace k := k.1 h1
    refine z_bipush (v := (-2)) dX7_kind_9 (by decide) ?_
    exact z_ireturn (st := []) rfl dX7_kind_11 ⟨_, rfl, k⟩
  · replace k := k.2 h1
    refine z_iload_n dX7_kind_4 rfl rfl ?_
    refine z_iconst (v := 2) dX7_kind_5 (by decide) ?_
    refine z_icmp_le 12 dX7_kind_6 (by decide) ⟨fun h2 => ?_, fun h2 => ?_⟩
    · replace k := k.1 h2
      refine z_aload_n dX7_kind_12 rfl rfl ?_
      refine z_geti dX7_kind_13 fl_X7_88 lo1_0 rfl ?_
      refine z_if_le 22 dX7_kind_16 (by decide) ⟨fun h3 => ?_, fun h3 => ?_⟩
      · replace k := k.1 h3
        refine z_aload_n dX7_kind_22 rfl rfl ?_
        refine z_geti dX7_kind_23 fl_X7_126 lo1_0 rfl ?_
        refine z_istore_n dX7_kind_26 rfl (by decide) rfl ?_
        refine z_aload_n dX7_kind_27 rfl rfl ?_
        refine z_iload_n dX7_kind_28 rfl rfl ?_
        refine z_puti dX7_kind_29 fw_X7_126 lo1_0 rfl ?_
        refine z_iload_n dX7_kind_32 rfl rfl ?_
        exact z_ireturn (st := []) rfl dX7_kind_33 ⟨_, rfl, k⟩
      · replace k := k.2 h3
        refine z_bipush (v := (-3)) dX7_kind_19 (by decide) ?_
        exact z_ireturn (st := []) rfl dX7_kind_21 ⟨_, rfl, k⟩
    · replace k := k.2 h2
      refine z_bipush (v := (-2)) dX7_kind_9 (by decide) ?_
      exact z_ireturn (st := []) rfl dX7_kind_11 ⟨_, rfl, k⟩

set_option maxRecDepth 100000 in
set_option maxHeartbeats 4000000 in
theorem r_X7_edge_0 {P : Int32 → zM → Prop} (x1 : Int32) (x2 : Int32) (l3 : Int64) (F : Nat → Int32) (I : Nat → Nat → Int32) (J : Nat → Nat → Int64)
  (k : AMi m_X7_isKnot [.ref 0, .int x1] (F, I, J) (fun r2 M2 => ((r2 = 0 → P (-2) M2) ∧ (¬ r2 = 0 → AMi m_X7_isKnot [.ref 0, .int x2] M2 (fun r10 M10 => ((r10 = 0 → P (-2) M10) ∧ (¬ r10 = 0 → ((¬ x1 = x2 → ((¬ (M10.1 1) = 300 → AMi m_X7_isTogether [.ref 0, .int x1, .int x2] M10 (fun r40 M40 => ((¬ (M40.1 2) = 0 → AW m_X7_edge (z_pi P) 60 [some (.ref 0), some (.int x1), some (.int x2), some (.long l3), none, some (.int r40), none, none] [] M40) ∧ ((M40.1 2) = 0 → ((r40 = 0 → AW m_X7_edge (z_pi P) 60 [some (.ref 0), some (.int x1), some (.int x2), some (.long l3), none, some (.int r40), none, none] [] M40) ∧ (¬ r40 = 0 → P (-3) M40)))))) ∧ ((M10.1 1) = 300 → P (-4) M10))) ∧ (x1 = x2 → P (-2) M10))))))))) :
  AMi m_X7_edge [.ref 0, .int x1, .int x2, .long l3] (F, I, J) P := by
  refine z_entry (pad := 3) [some (.ref 0), some (.int x1), some (.int x2), some (.long l3), none, none, none, none] (by decide) rfl rfl (fun _ => Nat.le_of_ble_eq_true rfl) ?_
  refine z_aload_n dX7_edge_0 rfl rfl ?_
  refine z_iload_n dX7_edge_1 rfl rfl ?_
  refine z_calli (I := m_X7_edge) (I2 := m_X7_isKnot) (st := []) [.int x1] dX7_edge_2 ml_X7_129 rfl (by decide) lo1_0 rfl (Nat.le_of_ble_eq_true rfl) rfl (AMi.mono k (fun r2 M2 k => ?_))
  refine z_if_eq 21 dX7_edge_5 (by decide) ⟨fun h1 => ?_, fun h1 => ?_⟩
  · replace k := k.1 h1
    refine z_bipush (v := (-2)) dX7_edge_21 (by decide) ?_
    exact z_ireturn (st := []) rfl dX7_edge_23 ⟨_, rfl, k⟩
  · replace k := k.2 h1
    refine z_aload_n dX7_edge_8 rfl rfl ?_
    refine z_iload_n dX7_edge_9 rfl rfl ?_
    refine z_calli (I := m_X7_edge) (I2 := m_X7_isKnot) (st := []) [.int x2] dX7_edge_10 ml_X7_129 rfl (by decide) lo1_0 rfl (Nat.le_of_ble_eq_true rfl) rfl (AMi.mono k (fun r10 M10 k => ?_))
    refine z_if_eq 21 dX7_edge_13 (by decide) ⟨fun h2 => ?_, fun h2 => ?_⟩
    · replace k := k.1 h2
      refine z_bipush (v := (-2)) dX7_edge_21 (by decide) ?_
      exact z_ireturn (st := []) rfl dX7_edge_23 ⟨_, rfl, k⟩
    · replace k := k.2 h2
      refine z_iload_n dX7_edge_16 rfl rfl ?_
      refine z_iload_n dX7_edge_17 rfl rfl ?_
      refine z_icmp_ne 24 dX7_edge_18 (by decide) ⟨fun h3 => ?_, fun h3 => ?_⟩
      · replace k := k.1 h3
        refine z_aload_n dX7_edge_24 rfl rfl ?_
        refine z_geti dX7_edge_25 fl_X7_88 lo1_0 rfl ?_
        refine z_sipush (v := 300) dX7_edge_28 (by decide) ?_
        refine z_icmp_ne 37 dX7_edge_31 (by decide) ⟨fun h4 => ?_, fun h4 => ?_⟩
        · replace k := k.1 h4
          refine z_aload_n dX7_edge_37 rfl rfl ?_
          refine z_iload_n dX7_edge_38 rfl rfl ?_
          refine z_iload_n dX7_edge_39 rfl rfl ?_
          refine z_calli (I := m_X7_edge) (I2 := m_X7_isTogether) (st := []) [.int x1, .int x2] dX7_edge_40 ml_X7_133 rfl (by decide) lo1_0 rfl (Nat.le_of_ble_eq_true rfl) rfl (AMi.mono k (fun r40 M40 k => ?_))
          refine z_istore dX7_edge_43 (by decide) rfl ?_
          refine z_aload_n dX7_edge_45 rfl rfl ?_
          refine z_geti dX7_edge_46 fl_X7_126 lo1_0 rfl ?_
          refine z_if_ne 60 dX7_edge_49 (by decide) ⟨fun h5 => ?_, fun h5 => ?_⟩
          · replace k := k.1 h5
            exact k
          · replace k := k.2 h5
            refine z_iload dX7_edge_52 rfl ?_
            refine z_if_eq 60 dX7_edge_54 (by decide) ⟨fun h6 => ?_, fun h6 => ?_⟩
            · replace k := k.1 h6
              exact k
            · replace k := k.2 h6
              refine z_bipush (v := (-3)) dX7_edge_57 (by decide) ?_
              exact z_ireturn (st := []) rfl dX7_edge_59 ⟨_, rfl, k⟩
        · replace k := k.2 h4
          refine z_bipush (v := (-4)) dX7_edge_34 (by decide) ?_
          exact z_ireturn (st := []) rfl dX7_edge_36 ⟨_, rfl, k⟩
      · replace k := k.2 h3
        refine z_bipush (v := (-2)) dX7_edge_21 (by decide) ?_
        exact z_ireturn (st := []) rfl dX7_edge_23 ⟨_, rfl, k⟩

set_option maxRecDepth 100000 in
set_option maxHeartbeats 4000000 in
theorem r_X7_edge_60 {P : Int32 → zM → Prop} (x1 : Int32) (x2 : Int32) (l3 : Int64) (x5 : Int32) (F : Nat → Int32) (I : Nat → Nat → Int32) (J : Nat → Nat → Int64)
  (k : AMv m_X7_changes [.ref 0] (F, I, J) (fun M61 => vp_in (M61.1 1) 300 ∧ vp_in (M61.1 1) 300 ∧ vp_in (M61.1 1) 300 ∧ vp_in (M61.1 1) 300 ∧ vp_in (M61.1 1) 300 ∧ ((¬ x5 = 0 → ((¬ (M61.1 2) = 1 → AMi m_X7_finds [.ref 0, .int x1, .int x2] (upd M61.1 1 ((M61.1 1) + 1), z_ui (z_ui (z_ui (z_ui M61.2.1 1 (zn (M61.1 1)) x1) 2 (zn (M61.1 1)) x2) 4 (zn (M61.1 1)) 0) 3 (zn (M61.1 1)) 0, z_ul M61.2.2 1 (zn (M61.1 1)) l3) (fun r158 M158 => AMi m_X7_heaviestOfWay [.ref 0] M158 (fun r163 M163 => AMi m_X7_isHeavier [.ref 0, .int r163, .int (M61.1 1)] M163 (fun r173 M173 => ((r173 = 0 → vp_in (M61.1 1) 300 ∧ P (M61.1 1) (M173.1, z_ui M173.2.1 3 (zn (M61.1 1)) 2, M173.2.2)) ∧ (¬ r173 = 0 → vp_in r163 300 ∧ vp_in (M61.1 1) 300 ∧ P (M61.1 1) (M173.1, z_ui (z_ui M173.2.1 3 (zn r163) 2) 3 (zn (M61.1 1)) 1, M173.2.2))))))) ∧ ((M61.1 2) = 1 → vp_in (M61.1 1) 300 ∧ P (M61.1 1) (upd M61.1 1 ((M61.1 1) + 1), z_ui (z_ui (z_ui (z_ui (z_ui M61.2.1 1 (zn (M61.1 1)) x1) 2 (zn (M61.1 1)) x2) 4 (zn (M61.1 1)) 0) 3 (zn (M61.1 1)) 0) 3 (zn (M61.1 1)) 2, z_ul M61.2.2 1 (zn (M61.1 1)) l3)))) ∧ (x5 = 0 → vp_in (M61.1 1) 300 ∧ P (M61.1 1) (upd M61.1 1 ((M61.1 1) + 1), z_ui (z_ui (z_ui (z_ui (z_ui M61.2.1 1 (zn (M61.1 1)) x1) 2 (zn (M61.1 1)) x2) 4 (zn (M61.1 1)) 0) 3 (zn (M61.1 1)) 0) 3 (zn (M61.1 1)) 1, z_ul M61.2.2 1 (zn (M61.1 1)) l3))))) :
  AW m_X7_edge (z_pi P) 60 [some (.ref 0), some (.int x1), some (.int x2), some (.long l3), none, some (.int x5), none, none] [] (F, I, J) := by
  refine z_aload_n dX7_edge_60 rfl rfl ?_
  refine z_callv (I := m_X7_edge) (I2 := m_X7_changes) (st := []) [] dX7_edge_61 ml_X7_136 rfl (by decide) lo1_0 rfl (Nat.le_of_ble_eq_true rfl) rfl (AMv.mono k (fun M61 k => ?_))
  refine z_aload_n dX7_edge_64 rfl rfl ?_
  refine z_geti dX7_edge_65 fl_X7_88 lo1_0 rfl ?_
  refine z_istore dX7_edge_68 (by decide) rfl ?_
  refine z_aload_n dX7_edge_70 rfl rfl ?_
  refine z_getr dX7_edge_71 fl_X7_17 lo1_0 rfl ?_
  refine z_iload dX7_edge_74 rfl ?_
  refine z_iload_n dX7_edge_76 rfl rfl ?_
  refine z_iast dX7_edge_77 lo1_3 ⟨k.1, ?_⟩
  replace k := k.2
  refine z_aload_n dX7_edge_78 rfl rfl ?_
  refine z_getr dX7_edge_79 fl_X7_20 lo1_0 rfl ?_
  refine z_iload dX7_edge_82 rfl ?_
  refine z_iload_n dX7_edge_84 rfl rfl ?_
  refine z_iast dX7_edge_85 lo1_4 ⟨k.1, ?_⟩
  replace k := k.2
  refine z_aload_n dX7_edge_86 rfl rfl ?_
  refine z_getr dX7_edge_87 fl_X7_29 lo1_0 rfl ?_
  refine z_iload dX7_edge_90 rfl ?_
  refine z_lload_n dX7_edge_92 rfl rfl ?_
  refine z_last dX7_edge_93 lo1_7 ⟨k.1, ?_⟩
  replace k := k.2
  refine z_aload_n dX7_edge_94 rfl rfl ?_
  refine z_getr dX7_edge_95 fl_X7_26 lo1_0 rfl ?_
  refine z_iload dX7_edge_98 rfl ?_
  refine z_iconst (v := 0) dX7_edge_100 (by decide) ?_
  refine z_iast dX7_edge_101 lo1_6 ⟨k.1, ?_⟩
  replace k := k.2
  refine z_aload_n dX7_edge_102 rfl rfl ?_
  refine z_getr dX7_edge_103 fl_X7_23 lo1_0 rfl ?_
  refine z_iload dX7_edge_106 rfl ?_
  refine z_iconst (v := 0) dX7_edge_108 (by decide) ?_
  refine z_iast dX7_edge_109 lo1_5 ⟨k.1, ?_⟩
  replace k := k.2
  refine z_aload_n dX7_edge_110 rfl rfl ?_
  refine z_dup dX7_edge_111 rfl ?_
  refine z_geti dX7_edge_112 fl_X7_88 lo1_0 rfl ?_
  refine z_iconst (v := 1) dX7_edge_115 (by decide) ?_
  refine z_iadd dX7_edge_116 ?_
  refine z_puti dX7_edge_117 fw_X7_88 lo1_0 rfl ?_
  refine z_iload dX7_edge_120 rfl ?_
  refine z_if_ne 136 dX7_edge_122 (by decide) ⟨fun h1 => ?_, fun h1 => ?_⟩
  · replace k := k.1 h1
    refine z_aload_n dX7_edge_136 rfl rfl ?_
    refine z_geti dX7_edge_137 fl_X7_126 lo1_0 rfl ?_
    refine z_iconst (v := 1) dX7_edge_140 (by decide) ?_
    refine z_icmp_ne 155 dX7_edge_141 (by decide) ⟨fun h2 => ?_, fun h2 => ?_⟩
    · replace k := k.1 h2
      refine z_aload_n dX7_edge_155 rfl rfl ?_
      refine z_iload_n dX7_edge_156 rfl rfl ?_
      refine z_iload_n dX7_edge_157 rfl rfl ?_
      refine z_calli (I := m_X7_edge) (I2 := m_X7_finds) (st := []) [.int x1, .int x2] dX7_edge_158 ml_X7_139 rfl (by decide) lo1_0 rfl (Nat.le_of_ble_eq_true rfl) rfl (AMi.mono k (fun r158 M158 k => ?_))
      refine z_pop dX7_edge_161 rfl ?_
      refine z_aload_n dX7_edge_162 rfl rfl ?_
      refine z_calli (I := m_X7_edge) (I2 := m_X7_heaviestOfWay) (st := []) [] dX7_edge_163 ml_X7_142 rfl (by decide) lo1_0 rfl (Nat.le_of_ble_eq_true rfl) rfl (AMi.mono k (fun r163 M163 k => ?_))
      refine z_istore dX7_edge_166 (by decide) rfl ?_
      refine z_aload_n dX7_edge_168 rfl rfl ?_
      refine z_iload dX7_edge_169 rfl ?_
      refine z_iload dX7_edge_171 rfl ?_
      refine z_calli (I := m_X7_edge) (I2 := m_X7_isHeavier) (st := []) [.int r163, .int (M61.1 1)] dX7_edge_173 ml_X7_122 rfl (by decide) lo1_0 rfl (Nat.le_of_ble_eq_true rfl) rfl (AMi.mono k (fun r173 M173 k => ?_))
      refine z_if_eq 198 dX7_edge_176 (by decide) ⟨fun h3 => ?_, fun h3 => ?_⟩
      · replace k := k.1 h3
        refine z_aload_n dX7_edge_198 rfl rfl ?_
        refine z_getr dX7_edge_199 fl_X7_23 lo1_0 rfl ?_
        refine z_iload dX7_edge_202 rfl ?_
        refine z_iconst (v := 2) dX7_edge_204 (by decide) ?_
        refine z_iast dX7_edge_205 lo1_5 ⟨k.1, ?_⟩
        replace k := k.2
        refine z_iload dX7_edge_206 rfl ?_
        exact z_ireturn (st := []) rfl dX7_edge_208 ⟨_, rfl, k⟩
      · replace k := k.2 h3
        refine z_aload_n dX7_edge_179 rfl rfl ?_
        refine z_getr dX7_edge_180 fl_X7_23 lo1_0 rfl ?_
        refine z_iload dX7_edge_183 rfl ?_
        refine z_iconst (v := 2) dX7_edge_185 (by decide) ?_
        refine z_iast dX7_edge_186 lo1_5 ⟨k.1, ?_⟩
        replace k := k.2
        refine z_aload_n dX7_edge_187 rfl rfl ?_
        refine z_getr dX7_edge_188 fl_X7_23 lo1_0 rfl ?_
        refine z_iload dX7_edge_191 rfl ?_
        refine z_iconst (v := 1) dX7_edge_193 (by decide) ?_
        refine z_iast dX7_edge_194 lo1_5 ⟨k.1, ?_⟩
        replace k := k.2
        refine z_goto 206 dX7_edge_195 (by decide) ?_
        refine z_iload dX7_edge_206 rfl ?_
        exact z_ireturn (st := []) rfl dX7_edge_208 ⟨_, rfl, k⟩
    · replace k := k.2 h2
      refine z_aload_n dX7_edge_144 rfl rfl ?_
      refine z_getr dX7_edge_145 fl_X7_23 lo1_0 rfl ?_
      refine z_iload dX7_edge_148 rfl ?_
      refine z_iconst (v := 2) dX7_edge_150 (by decide) ?_
      refine z_iast dX7_edge_151 lo1_5 ⟨k.1, ?_⟩
      replace k := k.2
      refine z_goto 206 dX7_edge_152 (by decide) ?_
      refine z_iload dX7_edge_206 rfl ?_
      exact z_ireturn (st := []) rfl dX7_edge_208 ⟨_, rfl, k⟩
  · replace k := k.2 h1
    refine z_aload_n dX7_edge_125 rfl rfl ?_
    refine z_getr dX7_edge_126 fl_X7_23 lo1_0 rfl ?_
    refine z_iload dX7_edge_129 rfl ?_
    refine z_iconst (v := 1) dX7_edge_131 (by decide) ?_
    refine z_iast dX7_edge_132 lo1_5 ⟨k.1, ?_⟩
    replace k := k.2
    refine z_goto 206 dX7_edge_133 (by decide) ?_
    refine z_iload dX7_edge_206 rfl ?_
    exact z_ireturn (st := []) rfl dX7_edge_208 ⟨_, rfl, k⟩

set_option maxRecDepth 100000 in
set_option maxHeartbeats 4000000 in
theorem r_X7_goes_0 {P : Int32 → zM → Prop} (x1 : Int32) (F : Nat → Int32) (I : Nat → Nat → Int32) (J : Nat → Nat → Int64)
  (k : vp_in x1 300 ∧ ((¬ (I 3 (zn x1)) = 1 → vp_in x1 300 ∧ P (-1) (F, z_ui I 3 (zn x1) 0, J)) ∧ ((I 3 (zn x1)) = 1 → vp_in x1 300 ∧ ((¬ (F 2) = 0 → ((¬ (F 2) = 2 → AMi m_X7_byLevels [.ref 0, .int x1] (F, z_ui I 3 (zn x1) 0, J) (fun r54 M54 => P r54 M54)) ∧ ((F 2) = 2 → AMi m_X7_lightest [.ref 0, .int x1] (F, z_ui I 3 (zn x1) 0, J) (fun r46 M46 => P r46 M46)))) ∧ ((F 2) = 0 → P (-1) (F, z_ui I 3 (zn x1) 0, J)))))) :
  AMi m_X7_goes [.ref 0, .int x1] (F, I, J) P := by
  refine z_entry (pad := 1) [some (.ref 0), some (.int x1), none] (by decide) rfl rfl (fun _ => Nat.le_of_ble_eq_true rfl) ?_
  refine z_aload_n dX7_goes_0 rfl rfl ?_
  refine z_getr dX7_goes_1 fl_X7_23 lo1_0 rfl ?_
  refine z_iload_n dX7_goes_4 rfl rfl ?_
  refine z_iald dX7_goes_5 lo1_5 ⟨k.1, ?_⟩
  replace k := k.2
  refine z_iconst (v := 1) dX7_goes_6 (by decide) ?_
  refine z_icmp_ne 14 dX7_goes_7 (by decide) ⟨fun h1 => ?_, fun h1 => ?_⟩
  · replace k := k.1 h1
    refine z_iconst (v := 0) dX7_goes_14 (by decide) ?_
    refine z_istore_n dX7_goes_15 rfl (by decide) rfl ?_
    refine z_aload_n dX7_goes_16 rfl rfl ?_
    refine z_getr dX7_goes_17 fl_X7_23 lo1_0 rfl ?_
    refine z_iload_n dX7_goes_20 rfl rfl ?_
    refine z_iconst (v := 0) dX7_goes_21 (by decide) ?_
    refine z_iast dX7_goes_22 lo1_5 ⟨k.1, ?_⟩
    replace k := k.2
    refine z_iload_n dX7_goes_23 rfl rfl ?_
    refine z_if_eq 34 dX7_goes_24 (by decide) ⟨fun h2 => ?_, fun h2 => absurd h2 (by decide)⟩
    refine z_iconst (v := (-1)) dX7_goes_34 (by decide) ?_
    exact z_ireturn (st := []) rfl dX7_goes_35 ⟨_, rfl, k⟩
  · replace k := k.2 h1
    refine z_iconst (v := 1) dX7_goes_10 (by decide) ?_
    refine z_goto 15 dX7_goes_11 (by decide) ?_
    refine z_istore_n dX7_goes_15 rfl (by decide) rfl ?_
    refine z_aload_n dX7_goes_16 rfl rfl ?_
    refine z_getr dX7_goes_17 fl_X7_23 lo1_0 rfl ?_
    refine z_iload_n dX7_goes_20 rfl rfl ?_
    refine z_iconst (v := 0) dX7_goes_21 (by decide) ?_
    refine z_iast dX7_goes_22 lo1_5 ⟨k.1, ?_⟩
    replace k := k.2
    refine z_iload_n dX7_goes_23 rfl rfl ?_
    refine z_if_eq 34 dX7_goes_24 (by decide) ⟨fun h3 => absurd h3 (by decide), fun h3 => ?_⟩
    refine z_aload_n dX7_goes_27 rfl rfl ?_
    refine z_geti dX7_goes_28 fl_X7_126 lo1_0 rfl ?_
    refine z_if_ne 36 dX7_goes_31 (by decide) ⟨fun h4 => ?_, fun h4 => ?_⟩
    · replace k := k.1 h4
      refine z_aload_n dX7_goes_36 rfl rfl ?_
      refine z_geti dX7_goes_37 fl_X7_126 lo1_0 rfl ?_
      refine z_iconst (v := 2) dX7_goes_40 (by decide) ?_
      refine z_icmp_ne 52 dX7_goes_41 (by decide) ⟨fun h5 => ?_, fun h5 => ?_⟩
      · replace k := k.1 h5
        refine z_aload_n dX7_goes_52 rfl rfl ?_
        refine z_iload_n dX7_goes_53 rfl rfl ?_
        refine z_calli (I := m_X7_goes) (I2 := m_X7_byLevels) (st := []) [.int x1] dX7_goes_54 ml_X7_149 rfl (by decide) lo1_0 rfl (Nat.le_of_ble_eq_true rfl) rfl (AMi.mono k (fun r54 M54 k => ?_))
        exact z_ireturn (st := []) rfl dX7_goes_57 ⟨_, rfl, k⟩
      · replace k := k.2 h5
        refine z_aload_n dX7_goes_44 rfl rfl ?_
        refine z_iload_n dX7_goes_45 rfl rfl ?_
        refine z_calli (I := m_X7_goes) (I2 := m_X7_lightest) (st := []) [.int x1] dX7_goes_46 ml_X7_146 rfl (by decide) lo1_0 rfl (Nat.le_of_ble_eq_true rfl) rfl (AMi.mono k (fun r46 M46 k => ?_))
        refine z_goto 57 dX7_goes_49 (by decide) ?_
        exact z_ireturn (st := []) rfl dX7_goes_57 ⟨_, rfl, k⟩
    · replace k := k.2 h4
      refine z_iconst (v := (-1)) dX7_goes_34 (by decide) ?_
      exact z_ireturn (st := []) rfl dX7_goes_35 ⟨_, rfl, k⟩

set_option maxRecDepth 100000 in
set_option maxHeartbeats 4000000 in
theorem r_X7_lightest_0 {P : Int32 → zM → Prop} (x1 : Int32) (F : Nat → Int32) (I : Nat → Nat → Int32) (J : Nat → Nat → Int64)
  (k : vp_in x1 300 ∧ AMi m_X7_reach [.ref 0, .int (I 1 (zn x1)), .int 0, .ref 15, .int 0, .int (-1), .int (-1)] (F, I, J) (fun r15 M15 => vp_in x1 300 ∧ AMi m_X7_reach [.ref 0, .int (M15.2.1 2 (zn x1)), .int 0, .ref 16, .int 0, .int (-1), .int (-1)] M15 (fun r34 M34 => AW m_X7_lightest (z_pi P) 42 [some (.ref 0), none, some (.int (-1)), some (.int 0), none] [] M34))) :
  AMi m_X7_lightest [.ref 0, .int x1] (F, I, J) P := by
  refine z_entry (pad := 3) [some (.ref 0), some (.int x1), none, none, none] (by decide) rfl rfl (fun _ => Nat.le_of_ble_eq_true rfl) ?_
  refine z_aload_n dX7_lightest_0 rfl rfl ?_
  refine z_aload_n dX7_lightest_1 rfl rfl ?_
  refine z_getr dX7_lightest_2 fl_X7_17 lo1_0 rfl ?_
  refine z_iload_n dX7_lightest_5 rfl rfl ?_
  refine z_iald dX7_lightest_6 lo1_3 ⟨k.1, ?_⟩
  replace k := k.2
  refine z_iconst (v := 0) dX7_lightest_7 (by decide) ?_
  refine z_aload_n dX7_lightest_8 rfl rfl ?_
  refine z_getr dX7_lightest_9 fl_X7_53 lo1_0 rfl ?_
  refine z_iconst (v := 0) dX7_lightest_12 (by decide) ?_
  refine z_iconst (v := (-1)) dX7_lightest_13 (by decide) ?_
  refine z_iconst (v := (-1)) dX7_lightest_14 (by decide) ?_
  refine z_calli (I := m_X7_lightest) (I2 := m_X7_reach) (st := []) [.int (I 1 (zn x1)), .int 0, .ref 15, .int 0, .int (-1), .int (-1)] dX7_lightest_15 ml_X7_111 rfl (by decide) lo1_0 rfl (Nat.le_of_ble_eq_true rfl) rfl (AMi.mono k (fun r15 M15 k => ?_))
  refine z_pop dX7_lightest_18 rfl ?_
  refine z_aload_n dX7_lightest_19 rfl rfl ?_
  refine z_aload_n dX7_lightest_20 rfl rfl ?_
  refine z_getr dX7_lightest_21 fl_X7_20 lo1_0 rfl ?_
  refine z_iload_n dX7_lightest_24 rfl rfl ?_
  refine z_iald dX7_lightest_25 lo1_4 ⟨k.1, ?_⟩
  replace k := k.2
  refine z_iconst (v := 0) dX7_lightest_26 (by decide) ?_
  refine z_aload_n dX7_lightest_27 rfl rfl ?_
  refine z_getr dX7_lightest_28 fl_X7_57 lo1_0 rfl ?_
  refine z_iconst (v := 0) dX7_lightest_31 (by decide) ?_
  refine z_iconst (v := (-1)) dX7_lightest_32 (by decide) ?_
  refine z_iconst (v := (-1)) dX7_lightest_33 (by decide) ?_
  refine z_calli (I := m_X7_lightest) (I2 := m_X7_reach) (st := []) [.int (M15.2.1 2 (zn x1)), .int 0, .ref 16, .int 0, .int (-1), .int (-1)] dX7_lightest_34 ml_X7_111 rfl (by decide) lo1_0 rfl (Nat.le_of_ble_eq_true rfl) rfl (AMi.mono k (fun r34 M34 k => ?_))
  refine z_pop dX7_lightest_37 rfl ?_
  refine z_iconst (v := (-1)) dX7_lightest_38 (by decide) ?_
  refine z_istore_n dX7_lightest_39 rfl (by decide) rfl ?_
  refine z_iconst (v := 0) dX7_lightest_40 (by decide) ?_
  refine z_istore_n dX7_lightest_41 rfl (by decide) rfl ?_
  refine z_wk [some (.ref 0), none, some (.int (-1)), some (.int 0), none] (z_le_some (z_le_none (z_le_some (z_le_some (z_le_none z_le_nil))))) ?_
  exact k

set_option maxRecDepth 100000 in
set_option maxHeartbeats 4000000 in
theorem r_X7_lightest_42 {P : Int32 → zM → Prop} (x2 : Int32) (x3 : Int32) (F : Nat → Int32) (I : Nat → Nat → Int32) (J : Nat → Nat → Int64)
  (k : (((F 1) ≤ x3 → ((x2 = (-1) → P x2 (F, I, J)) ∧ (¬ x2 = (-1) → vp_in x2 300 ∧ P x2 (F, z_ui I 3 (zn x2) 1, J)))) ∧ (¬ (F 1) ≤ x3 → vp_in x3 300 ∧ (((I 3 (zn x3)) = 2 → vp_in x3 300 ∧ vp_in (I 1 (zn x3)) 100 ∧ (((I 11 (zn (I 1 (zn x3)))) = 0 → AW m_X7_lightest (z_pi P) 91 [some (.ref 0), none, some (.int x2), some (.int x3), none] [] (F, I, J)) ∧ (¬ (I 11 (zn (I 1 (zn x3)))) = 0 → vp_in x3 300 ∧ vp_in (I 2 (zn x3)) 100 ∧ ((¬ (I 12 (zn (I 2 (zn x3)))) = 0 → AW m_X7_lightest (z_pi P) 119 [some (.ref 0), none, some (.int x2), some (.int x3), none] [] (F, I, J)) ∧ ((I 12 (zn (I 2 (zn x3)))) = 0 → AW m_X7_lightest (z_pi P) 91 [some (.ref 0), none, some (.int x2), some (.int x3), none] [] (F, I, J)))))) ∧ (¬ (I 3 (zn x3)) = 2 → AW m_X7_lightest (z_pi P) 42 [some (.ref 0), none, some (.int x2), some (.int (x3 + 1)), none] [] (F, I, J)))))) :
  AW m_X7_lightest (z_pi P) 42 [some (.ref 0), none, some (.int x2), some (.int x3), none] [] (F, I, J) := by
  refine z_iload_n dX7_lightest_42 rfl rfl ?_
  refine z_aload_n dX7_lightest_43 rfl rfl ?_
  refine z_geti dX7_lightest_44 fl_X7_88 lo1_0 rfl ?_
  refine z_icmp_ge 153 dX7_lightest_47 (by decide) ⟨fun h1 => ?_, fun h1 => ?_⟩
  · replace k := k.1 h1
    refine z_iload_n dX7_lightest_153 rfl rfl ?_
    refine z_iconst (v := (-1)) dX7_lightest_154 (by decide) ?_
    refine z_icmp_eq 165 dX7_lightest_155 (by decide) ⟨fun h2 => ?_, fun h2 => ?_⟩
    · replace k := k.1 h2
      refine z_iload_n dX7_lightest_165 rfl rfl ?_
      exact z_ireturn (st := []) rfl dX7_lightest_166 ⟨_, rfl, k⟩
    · replace k := k.2 h2
      refine z_aload_n dX7_lightest_158 rfl rfl ?_
      refine z_getr dX7_lightest_159 fl_X7_23 lo1_0 rfl ?_
      refine z_iload_n dX7_lightest_162 rfl rfl ?_
      refine z_iconst (v := 1) dX7_lightest_163 (by decide) ?_
      refine z_iast dX7_lightest_164 lo1_5 ⟨k.1, ?_⟩
      replace k := k.2
      refine z_iload_n dX7_lightest_165 rfl rfl ?_
      exact z_ireturn (st := []) rfl dX7_lightest_166 ⟨_, rfl, k⟩
  · replace k := k.2 h1
    refine z_aload_n dX7_lightest_50 rfl rfl ?_
    refine z_getr dX7_lightest_51 fl_X7_23 lo1_0 rfl ?_
    refine z_iload_n dX7_lightest_54 rfl rfl ?_
    refine z_iald dX7_lightest_55 lo1_5 ⟨k.1, ?_⟩
    replace k := k.2
    refine z_iconst (v := 2) dX7_lightest_56 (by decide) ?_
    refine z_icmp_eq 63 dX7_lightest_57 (by decide) ⟨fun h3 => ?_, fun h3 => ?_⟩
    · replace k := k.1 h3
      refine z_aload_n dX7_lightest_63 rfl rfl ?_
      refine z_getr dX7_lightest_64 fl_X7_53 lo1_0 rfl ?_
      refine z_aload_n dX7_lightest_67 rfl rfl ?_
      refine z_getr dX7_lightest_68 fl_X7_17 lo1_0 rfl ?_
      refine z_iload_n dX7_lightest_71 rfl rfl ?_
      refine z_iald dX7_lightest_72 lo1_3 ⟨k.1, ?_⟩
      replace k := k.2
      refine z_zald dX7_lightest_73 lo1_15 ⟨k.1, ?_⟩
      replace k := k.2
      refine z_if_eq 91 dX7_lightest_74 (by decide) ⟨fun h4 => ?_, fun h4 => ?_⟩
      · replace k := k.1 h4
        exact k
      · replace k := k.2 h4
        refine z_aload_n dX7_lightest_77 rfl rfl ?_
        refine z_getr dX7_lightest_78 fl_X7_57 lo1_0 rfl ?_
        refine z_aload_n dX7_lightest_81 rfl rfl ?_
        refine z_getr dX7_lightest_82 fl_X7_20 lo1_0 rfl ?_
        refine z_iload_n dX7_lightest_85 rfl rfl ?_
        refine z_iald dX7_lightest_86 lo1_4 ⟨k.1, ?_⟩
        replace k := k.2
        refine z_zald dX7_lightest_87 lo1_16 ⟨k.1, ?_⟩
        replace k := k.2
        refine z_if_ne 119 dX7_lightest_88 (by decide) ⟨fun h5 => ?_, fun h5 => ?_⟩
        · replace k := k.1 h5
          exact k
        · replace k := k.2 h5
          exact k
    · replace k := k.2 h3
      refine z_goto 147 dX7_lightest_60 (by decide) ?_
      refine z_iinc (v := (x3 + 1)) dX7_lightest_147 rfl rfl (by decide) rfl ?_
      refine z_goto 42 dX7_lightest_150 (by decide) ?_
      exact k

set_option maxRecDepth 100000 in
set_option maxHeartbeats 4000000 in
theorem r_X7_lightest_91 {P : Int32 → zM → Prop} (x2 : Int32) (x3 : Int32) (F : Nat → Int32) (I : Nat → Nat → Int32) (J : Nat → Nat → Int64)
  (k : vp_in x3 300 ∧ vp_in (I 2 (zn x3)) 100 ∧ (((I 11 (zn (I 2 (zn x3)))) = 0 → AW m_X7_lightest (z_pi P) 123 [some (.ref 0), none, some (.int x2), some (.int x3), none] [] (F, I, J)) ∧ (¬ (I 11 (zn (I 2 (zn x3)))) = 0 → vp_in x3 300 ∧ vp_in (I 1 (zn x3)) 100 ∧ (((I 12 (zn (I 1 (zn x3)))) = 0 → AW m_X7_lightest (z_pi P) 123 [some (.ref 0), none, some (.int x2), some (.int x3), none] [] (F, I, J)) ∧ (¬ (I 12 (zn (I 1 (zn x3)))) = 0 → AW m_X7_lightest (z_pi P) 119 [some (.ref 0), none, some (.int x2), some (.int x3), none] [] (F, I, J)))))) :
  AW m_X7_lightest (z_pi P) 91 [some (.ref 0), none, some (.int x2), some (.int x3), none] [] (F, I, J) := by
  refine z_aload_n dX7_lightest_91 rfl rfl ?_
  refine z_getr dX7_lightest_92 fl_X7_53 lo1_0 rfl ?_
  refine z_aload_n dX7_lightest_95 rfl rfl ?_
  refine z_getr dX7_lightest_96 fl_X7_20 lo1_0 rfl ?_
  refine z_iload_n dX7_lightest_99 rfl rfl ?_
  refine z_iald dX7_lightest_100 lo1_4 ⟨k.1, ?_⟩
  replace k := k.2
  refine z_zald dX7_lightest_101 lo1_15 ⟨k.1, ?_⟩
  replace k := k.2
  refine z_if_eq 123 dX7_lightest_102 (by decide) ⟨fun h1 => ?_, fun h1 => ?_⟩
  · replace k := k.1 h1
    exact k
  · replace k := k.2 h1
    refine z_aload_n dX7_lightest_105 rfl rfl ?_
    refine z_getr dX7_lightest_106 fl_X7_57 lo1_0 rfl ?_
    refine z_aload_n dX7_lightest_109 rfl rfl ?_
    refine z_getr dX7_lightest_110 fl_X7_17 lo1_0 rfl ?_
    refine z_iload_n dX7_lightest_113 rfl rfl ?_
    refine z_iald dX7_lightest_114 lo1_3 ⟨k.1, ?_⟩
    replace k := k.2
    refine z_zald dX7_lightest_115 lo1_16 ⟨k.1, ?_⟩
    replace k := k.2
    refine z_if_eq 123 dX7_lightest_116 (by decide) ⟨fun h2 => ?_, fun h2 => ?_⟩
    · replace k := k.1 h2
      exact k
    · replace k := k.2 h2
      exact k

set_option maxRecDepth 100000 in
set_option maxHeartbeats 4000000 in
theorem r_X7_lightest_119 {P : Int32 → zM → Prop} (x2 : Int32) (x3 : Int32) (F : Nat → Int32) (I : Nat → Nat → Int32) (J : Nat → Nat → Int64)
  (k : ((x2 = (-1) → AW m_X7_lightest (z_pi P) 42 [some (.ref 0), none, some (.int x3), some (.int (x3 + 1)), none] [] (F, I, J)) ∧ (¬ x2 = (-1) → AMi m_X7_isHeavier [.ref 0, .int x2, .int x3] (F, I, J) (fun r139 M139 => ((r139 = 0 → AW m_X7_lightest (z_pi P) 42 [some (.ref 0), none, some (.int x2), some (.int (x3 + 1)), none] [] M139) ∧ (¬ r139 = 0 → AW m_X7_lightest (z_pi P) 42 [some (.ref 0), none, some (.int x3), some (.int (x3 + 1)), none] [] M139)))))) :
  AW m_X7_lightest (z_pi P) 119 [some (.ref 0), none, some (.int x2), some (.int x3), none] [] (F, I, J) := by
  refine z_iconst (v := 1) dX7_lightest_119 (by decide) ?_
  refine z_goto 124 dX7_lightest_120 (by decide) ?_
  refine z_istore dX7_lightest_124 (by decide) rfl ?_
  refine z_iload dX7_lightest_126 rfl ?_
  refine z_if_eq 147 dX7_lightest_128 (by decide) ⟨fun h1 => absurd h1 (by decide), fun h1 => ?_⟩
  refine z_iload_n dX7_lightest_131 rfl rfl ?_
  refine z_iconst (v := (-1)) dX7_lightest_132 (by decide) ?_
  refine z_icmp_eq 145 dX7_lightest_133 (by decide) ⟨fun h2 => ?_, fun h2 => ?_⟩
  · replace k := k.1 h2
    refine z_iload_n dX7_lightest_145 rfl rfl ?_
    refine z_istore_n dX7_lightest_146 rfl (by decide) rfl ?_
    refine z_iinc (v := (x3 + 1)) dX7_lightest_147 rfl rfl (by decide) rfl ?_
    refine z_goto 42 dX7_lightest_150 (by decide) ?_
    refine z_wk [some (.ref 0), none, some (.int x3), some (.int (x3 + 1)), none] (z_le_some (z_le_none (z_le_some (z_le_some (z_le_none z_le_nil))))) ?_
    exact k
  · replace k := k.2 h2
    refine z_aload_n dX7_lightest_136 rfl rfl ?_
    refine z_iload_n dX7_lightest_137 rfl rfl ?_
    refine z_iload_n dX7_lightest_138 rfl rfl ?_
    refine z_calli (I := m_X7_lightest) (I2 := m_X7_isHeavier) (st := []) [.int x2, .int x3] dX7_lightest_139 ml_X7_122 rfl (by decide) lo1_0 rfl (Nat.le_of_ble_eq_true rfl) rfl (AMi.mono k (fun r139 M139 k => ?_))
    refine z_if_eq 147 dX7_lightest_142 (by decide) ⟨fun h3 => ?_, fun h3 => ?_⟩
    · replace k := k.1 h3
      refine z_iinc (v := (x3 + 1)) dX7_lightest_147 rfl rfl (by decide) rfl ?_
      refine z_goto 42 dX7_lightest_150 (by decide) ?_
      refine z_wk [some (.ref 0), none, some (.int x2), some (.int (x3 + 1)), none] (z_le_some (z_le_none (z_le_some (z_le_some (z_le_none z_le_nil))))) ?_
      exact k
    · replace k := k.2 h3
      refine z_iload_n dX7_lightest_145 rfl rfl ?_
      refine z_istore_n dX7_lightest_146 rfl (by decide) rfl ?_
      refine z_iinc (v := (x3 + 1)) dX7_lightest_147 rfl rfl (by decide) rfl ?_
      refine z_goto 42 dX7_lightest_150 (by decide) ?_
      refine z_wk [some (.ref 0), none, some (.int x3), some (.int (x3 + 1)), none] (z_le_some (z_le_none (z_le_some (z_le_some (z_le_none z_le_nil))))) ?_
      exact k

set_option maxRecDepth 100000 in
set_option maxHeartbeats 4000000 in
theorem r_X7_lightest_123 {P : Int32 → zM → Prop} (x2 : Int32) (x3 : Int32) (F : Nat → Int32) (I : Nat → Nat → Int32) (J : Nat → Nat → Int64)
  (k : AW m_X7_lightest (z_pi P) 42 [some (.ref 0), none, some (.int x2), some (.int (x3 + 1)), none] [] (F, I, J)) :
  AW m_X7_lightest (z_pi P) 123 [some (.ref 0), none, some (.int x2), some (.int x3), none] [] (F, I, J) := by
  refine z_iconst (v := 0) dX7_lightest_123 (by decide) ?_
  refine z_istore dX7_lightest_124 (by decide) rfl ?_
  refine z_iload dX7_lightest_126 rfl ?_
  refine z_if_eq 147 dX7_lightest_128 (by decide) ⟨fun h1 => ?_, fun h1 => absurd h1 (by decide)⟩
  refine z_iinc (v := (x3 + 1)) dX7_lightest_147 rfl rfl (by decide) rfl ?_
  refine z_goto 42 dX7_lightest_150 (by decide) ?_
  refine z_wk [some (.ref 0), none, some (.int x2), some (.int (x3 + 1)), none] (z_le_some (z_le_none (z_le_some (z_le_some (z_le_none z_le_nil))))) ?_
  exact k

set_option maxRecDepth 100000 in
set_option maxHeartbeats 4000000 in
theorem r_X7_byLevels_0 {P : Int32 → zM → Prop} (x1 : Int32) (F : Nat → Int32) (I : Nat → Nat → Int32) (J : Nat → Nat → Int64)
  (k : vp_in x1 300 ∧ AW m_X7_byLevels (z_pi P) 7 [some (.ref 0), some (.int x1), some (.int (I 4 (zn x1))), none, none, none, none, none, none] [] (F, I, J)) :
  AMi m_X7_byLevels [.ref 0, .int x1] (F, I, J) P := by
  refine z_entry (pad := 7) [some (.ref 0), some (.int x1), none, none, none, none, none, none, none] (by decide) rfl rfl (fun _ => Nat.le_of_ble_eq_true rfl) ?_
  refine z_aload_n dX7_byLevels_0 rfl rfl ?_
  refine z_getr dX7_byLevels_1 fl_X7_26 lo1_0 rfl ?_
  refine z_iload_n dX7_byLevels_4 rfl rfl ?_
  refine z_iald dX7_byLevels_5 lo1_6 ⟨k.1, ?_⟩
  replace k := k.2
  refine z_istore_n dX7_byLevels_6 rfl (by decide) rfl ?_
  exact k

set_option maxRecDepth 100000 in
set_option maxHeartbeats 4000000 in
theorem r_X7_byLevels_7 {P : Int32 → zM → Prop} (x1 : Int32) (x2 : Int32) (F : Nat → Int32) (I : Nat → Nat → Int32) (J : Nat → Nat → Int64)
  (k : ((x2 < 0 → P (-1) (F, I, J)) ∧ (¬ x2 < 0 → vp_in x1 300 ∧ AMi m_X7_reach [.ref 0, .int (I 1 (zn x1)), .int x2, .ref 15, .int 0, .int (-1), .int (-1)] (F, I, J) (fun r26 M26 => vp_in x1 300 ∧ AMi m_X7_reach [.ref 0, .int (M26.2.1 2 (zn x1)), .int x2, .ref 16, .int 0, .int (-1), .int (-1)] M26 (fun r45 M45 => ((r45 < r26 → AW m_X7_byLevels (z_pi P) 66 [some (.ref 0), some (.int x1), some (.int x2), none, none, some (.int 0), some (.int 0), none, none] [] M45) ∧ (¬ r45 < r26 → AW m_X7_byLevels (z_pi P) 66 [some (.ref 0), some (.int x1), some (.int x2), none, none, some (.int 1), some (.int 0), none, none] [] M45))))))) :
  AW m_X7_byLevels (z_pi P) 7 [some (.ref 0), some (.int x1), some (.int x2), none, none, none, none, none, none] [] (F, I, J) := by
  refine z_iload_n dX7_byLevels_7 rfl rfl ?_
  refine z_if_lt 443 dX7_byLevels_8 (by decide) ⟨fun h1 => ?_, fun h1 => ?_⟩
  · replace k := k.1 h1
    refine z_iconst (v := (-1)) dX7_byLevels_443 (by decide) ?_
    exact z_ireturn (st := []) rfl dX7_byLevels_444 ⟨_, rfl, k⟩
  · replace k := k.2 h1
    refine z_aload_n dX7_byLevels_11 rfl rfl ?_
    refine z_aload_n dX7_byLevels_12 rfl rfl ?_
    refine z_getr dX7_byLevels_13 fl_X7_17 lo1_0 rfl ?_
    refine z_iload_n dX7_byLevels_16 rfl rfl ?_
    refine z_iald dX7_byLevels_17 lo1_3 ⟨k.1, ?_⟩
    replace k := k.2
    refine z_iload_n dX7_byLevels_18 rfl rfl ?_
    refine z_aload_n dX7_byLevels_19 rfl rfl ?_
    refine z_getr dX7_byLevels_20 fl_X7_53 lo1_0 rfl ?_
    refine z_iconst (v := 0) dX7_byLevels_23 (by decide) ?_
    refine z_iconst (v := (-1)) dX7_byLevels_24 (by decide) ?_
    refine z_iconst (v := (-1)) dX7_byLevels_25 (by decide) ?_
    refine z_calli (I := m_X7_byLevels) (I2 := m_X7_reach) (st := []) [.int (I 1 (zn x1)), .int x2, .ref 15, .int 0, .int (-1), .int (-1)] dX7_byLevels_26 ml_X7_111 rfl (by decide) lo1_0 rfl (Nat.le_of_ble_eq_true rfl) rfl (AMi.mono k (fun r26 M26 k => ?_))
    refine z_istore_n dX7_byLevels_29 rfl (by decide) rfl ?_
    refine z_aload_n dX7_byLevels_30 rfl rfl ?_
    refine z_aload_n dX7_byLevels_31 rfl rfl ?_
    refine z_getr dX7_byLevels_32 fl_X7_20 lo1_0 rfl ?_
    refine z_iload_n dX7_byLevels_35 rfl rfl ?_
    refine z_iald dX7_byLevels_36 lo1_4 ⟨k.1, ?_⟩
    replace k := k.2
    refine z_iload_n dX7_byLevels_37 rfl rfl ?_
    refine z_aload_n dX7_byLevels_38 rfl rfl ?_
    refine z_getr dX7_byLevels_39 fl_X7_57 lo1_0 rfl ?_
    refine z_iconst (v := 0) dX7_byLevels_42 (by decide) ?_
    refine z_iconst (v := (-1)) dX7_byLevels_43 (by decide) ?_
    refine z_iconst (v := (-1)) dX7_byLevels_44 (by decide) ?_
    refine z_calli (I := m_X7_byLevels) (I2 := m_X7_reach) (st := []) [.int (M26.2.1 2 (zn x1)), .int x2, .ref 16, .int 0, .int (-1), .int (-1)] dX7_byLevels_45 ml_X7_111 rfl (by decide) lo1_0 rfl (Nat.le_of_ble_eq_true rfl) rfl (AMi.mono k (fun r45 M45 k => ?_))
    refine z_istore dX7_byLevels_48 (by decide) rfl ?_
    refine z_iload_n dX7_byLevels_50 rfl rfl ?_
    refine z_iload dX7_byLevels_51 rfl ?_
    refine z_icmp_gt 60 dX7_byLevels_53 (by decide) ⟨fun h2 => ?_, fun h2 => ?_⟩
    · replace k := k.1 h2
      refine z_iconst (v := 0) dX7_byLevels_60 (by decide) ?_
      refine z_istore dX7_byLevels_61 (by decide) rfl ?_
      refine z_iconst (v := 0) dX7_byLevels_63 (by decide) ?_
      refine z_istore dX7_byLevels_64 (by decide) rfl ?_
      refine z_wk [some (.ref 0), some (.int x1), some (.int x2), none, none, some (.int 0), some (.int 0), none, none] (z_le_some (z_le_some (z_le_some (z_le_none (z_le_none (z_le_some (z_le_some (z_le_none (z_le_none z_le_nil))))))))) ?_
      exact k
    · replace k := k.2 h2
      refine z_iconst (v := 1) dX7_byLevels_56 (by decide) ?_
      refine z_goto 61 dX7_byLevels_57 (by decide) ?_
      refine z_istore dX7_byLevels_61 (by decide) rfl ?_
      refine z_iconst (v := 0) dX7_byLevels_63 (by decide) ?_
      refine z_istore dX7_byLevels_64 (by decide) rfl ?_
      refine z_wk [some (.ref 0), some (.int x1), some (.int x2), none, none, some (.int 1), some (.int 0), none, none] (z_le_some (z_le_some (z_le_some (z_le_none (z_le_none (z_le_some (z_le_some (z_le_none (z_le_none z_le_nil))))))))) ?_
      exact k

set_option maxRecDepth 100000 in
set_option maxHeartbeats 4000000 in
theorem r_X7_byLevels_66 {P : Int32 → zM → Prop} (x1 : Int32) (x2 : Int32) (x5 : Int32) (x6 : Int32) (F : Nat → Int32) (I : Nat → Nat → Int32) (J : Nat → Nat → Int64)
  (k : (((F 1) ≤ x6 → AW m_X7_byLevels (z_pi P) 198 [some (.ref 0), some (.int x1), some (.int x2), none, none, some (.int x5), some (.int 0), none, none] [] (F, I, J)) ∧ (¬ (F 1) ≤ x6 → vp_in x6 300 ∧ ((¬ (I 3 (zn x6)) = 1 → AW m_X7_byLevels (z_pi P) 66 [some (.ref 0), some (.int x1), some (.int x2), none, none, some (.int x5), some (.int (x6 + 1)), none, none] [] (F, I, J)) ∧ ((I 3 (zn x6)) = 1 → vp_in x6 300 ∧ (((I 4 (zn x6)) = x2 → ((x5 = 0 → vp_in x6 300 ∧ vp_in (I 1 (zn x6)) 100 ∧ (((I 12 (zn (I 1 (zn x6)))) = 0 → AW m_X7_byLevels (z_pi P) 66 [some (.ref 0), some (.int x1), some (.int x2), none, none, some (.int x5), some (.int (x6 + 1)), none, none] [] (F, I, J)) ∧ (¬ (I 12 (zn (I 1 (zn x6)))) = 0 → vp_in x6 300 ∧ vp_in (I 2 (zn x6)) 100 ∧ (((I 12 (zn (I 2 (zn x6)))) = 0 → AW m_X7_byLevels (z_pi P) 66 [some (.ref 0), some (.int x1), some (.int x2), none, none, some (.int x5), some (.int (x6 + 1)), none, none] [] (F, I, J)) ∧ (¬ (I 12 (zn (I 2 (zn x6)))) = 0 → AW m_X7_byLevels (z_pi P) 168 [some (.ref 0), some (.int x1), some (.int x2), none, none, some (.int x5), some (.int x6), none, none] [] (F, I, J)))))) ∧ (¬ x5 = 0 → vp_in x6 300 ∧ vp_in (I 1 (zn x6)) 100 ∧ (((I 11 (zn (I 1 (zn x6)))) = 0 → AW m_X7_byLevels (z_pi P) 66 [some (.ref 0), some (.int x1), some (.int x2), none, none, some (.int x5), some (.int (x6 + 1)), none, none] [] (F, I, J)) ∧ (¬ (I 11 (zn (I 1 (zn x6)))) = 0 → vp_in x6 300 ∧ vp_in (I 2 (zn x6)) 100 ∧ (((I 11 (zn (I 2 (zn x6)))) = 0 → AW m_X7_byLevels (z_pi P) 66 [some (.ref 0), some (.int x1), some (.int x2), none, none, some (.int x5), some (.int (x6 + 1)), none, none] [] (F, I, J)) ∧ (¬ (I 11 (zn (I 2 (zn x6)))) = 0 → AW m_X7_byLevels (z_pi P) 168 [some (.ref 0), some (.int x1), some (.int x2), none, none, some (.int x5), some (.int x6), none, none] [] (F, I, J)))))))) ∧ (¬ (I 4 (zn x6)) = x2 → AW m_X7_byLevels (z_pi P) 66 [some (.ref 0), some (.int x1), some (.int x2), none, none, some (.int x5), some (.int (x6 + 1)), none, none] [] (F, I, J)))))))) :
  AW m_X7_byLevels (z_pi P) 66 [some (.ref 0), some (.int x1), some (.int x2), none, none, some (.int x5), some (.int x6), none, none] [] (F, I, J) := by
  refine z_iload dX7_byLevels_66 rfl ?_
  refine z_aload_n dX7_byLevels_68 rfl rfl ?_
  refine z_geti dX7_byLevels_69 fl_X7_88 lo1_0 rfl ?_
  refine z_icmp_ge 195 dX7_byLevels_72 (by decide) ⟨fun h1 => ?_, fun h1 => ?_⟩
  · replace k := k.1 h1
    refine z_iconst (v := 0) dX7_byLevels_195 (by decide) ?_
    refine z_istore dX7_byLevels_196 (by decide) rfl ?_
    exact k
  · replace k := k.2 h1
    refine z_aload_n dX7_byLevels_75 rfl rfl ?_
    refine z_getr dX7_byLevels_76 fl_X7_23 lo1_0 rfl ?_
    refine z_iload dX7_byLevels_79 rfl ?_
    refine z_iald dX7_byLevels_81 lo1_5 ⟨k.1, ?_⟩
    replace k := k.2
    refine z_iconst (v := 1) dX7_byLevels_82 (by decide) ?_
    refine z_icmp_ne 189 dX7_byLevels_83 (by decide) ⟨fun h2 => ?_, fun h2 => ?_⟩
    · replace k := k.1 h2
      refine z_iinc (v := (x6 + 1)) dX7_byLevels_189 rfl rfl (by decide) rfl ?_
      refine z_goto 66 dX7_byLevels_192 (by decide) ?_
      exact k
    · replace k := k.2 h2
      refine z_aload_n dX7_byLevels_86 rfl rfl ?_
      refine z_getr dX7_byLevels_87 fl_X7_26 lo1_0 rfl ?_
      refine z_iload dX7_byLevels_90 rfl ?_
      refine z_iald dX7_byLevels_92 lo1_6 ⟨k.1, ?_⟩
      replace k := k.2
      refine z_iload_n dX7_byLevels_93 rfl rfl ?_
      refine z_icmp_eq 100 dX7_byLevels_94 (by decide) ⟨fun h3 => ?_, fun h3 => ?_⟩
      · replace k := k.1 h3
        refine z_iload dX7_byLevels_100 rfl ?_
        refine z_if_eq 138 dX7_byLevels_102 (by decide) ⟨fun h4 => ?_, fun h4 => ?_⟩
        · replace k := k.1 h4
          refine z_aload_n dX7_byLevels_138 rfl rfl ?_
          refine z_getr dX7_byLevels_139 fl_X7_57 lo1_0 rfl ?_
          refine z_aload_n dX7_byLevels_142 rfl rfl ?_
          refine z_getr dX7_byLevels_143 fl_X7_17 lo1_0 rfl ?_
          refine z_iload dX7_byLevels_146 rfl ?_
          refine z_iald dX7_byLevels_148 lo1_3 ⟨k.1, ?_⟩
          replace k := k.2
          refine z_zald dX7_byLevels_149 lo1_16 ⟨k.1, ?_⟩
          replace k := k.2
          refine z_if_eq 189 dX7_byLevels_150 (by decide) ⟨fun h5 => ?_, fun h5 => ?_⟩
          · replace k := k.1 h5
            refine z_iinc (v := (x6 + 1)) dX7_byLevels_189 rfl rfl (by decide) rfl ?_
            refine z_goto 66 dX7_byLevels_192 (by decide) ?_
            exact k
          · replace k := k.2 h5
            refine z_aload_n dX7_byLevels_153 rfl rfl ?_
            refine z_getr dX7_byLevels_154 fl_X7_57 lo1_0 rfl ?_
            refine z_aload_n dX7_byLevels_157 rfl rfl ?_
            refine z_getr dX7_byLevels_158 fl_X7_20 lo1_0 rfl ?_
            refine z_iload dX7_byLevels_161 rfl ?_
            refine z_iald dX7_byLevels_163 lo1_4 ⟨k.1, ?_⟩
            replace k := k.2
            refine z_zald dX7_byLevels_164 lo1_16 ⟨k.1, ?_⟩
            replace k := k.2
            refine z_if_eq 189 dX7_byLevels_165 (by decide) ⟨fun h6 => ?_, fun h6 => ?_⟩
            · replace k := k.1 h6
              refine z_iinc (v := (x6 + 1)) dX7_byLevels_189 rfl rfl (by decide) rfl ?_
              refine z_goto 66 dX7_byLevels_192 (by decide) ?_
              exact k
            · replace k := k.2 h6
              exact k
        · replace k := k.2 h4
          refine z_aload_n dX7_byLevels_105 rfl rfl ?_
          refine z_getr dX7_byLevels_106 fl_X7_53 lo1_0 rfl ?_
          refine z_aload_n dX7_byLevels_109 rfl rfl ?_
          refine z_getr dX7_byLevels_110 fl_X7_17 lo1_0 rfl ?_
          refine z_iload dX7_byLevels_113 rfl ?_
          refine z_iald dX7_byLevels_115 lo1_3 ⟨k.1, ?_⟩
          replace k := k.2
          refine z_zald dX7_byLevels_116 lo1_15 ⟨k.1, ?_⟩
          replace k := k.2
          refine z_if_eq 189 dX7_byLevels_117 (by decide) ⟨fun h7 => ?_, fun h7 => ?_⟩
          · replace k := k.1 h7
            refine z_iinc (v := (x6 + 1)) dX7_byLevels_189 rfl rfl (by decide) rfl ?_
            refine z_goto 66 dX7_byLevels_192 (by decide) ?_
            exact k
          · replace k := k.2 h7
            refine z_aload_n dX7_byLevels_120 rfl rfl ?_
            refine z_getr dX7_byLevels_121 fl_X7_53 lo1_0 rfl ?_
            refine z_aload_n dX7_byLevels_124 rfl rfl ?_
            refine z_getr dX7_byLevels_125 fl_X7_20 lo1_0 rfl ?_
            refine z_iload dX7_byLevels_128 rfl ?_
            refine z_iald dX7_byLevels_130 lo1_4 ⟨k.1, ?_⟩
            replace k := k.2
            refine z_zald dX7_byLevels_131 lo1_15 ⟨k.1, ?_⟩
            replace k := k.2
            refine z_if_eq 189 dX7_byLevels_132 (by decide) ⟨fun h8 => ?_, fun h8 => ?_⟩
            · replace k := k.1 h8
              refine z_iinc (v := (x6 + 1)) dX7_byLevels_189 rfl rfl (by decide) rfl ?_
              refine z_goto 66 dX7_byLevels_192 (by decide) ?_
              exact k
            · replace k := k.2 h8
              refine z_goto 168 dX7_byLevels_135 (by decide) ?_
              exact k
      · replace k := k.2 h3
        refine z_goto 189 dX7_byLevels_97 (by decide) ?_
        refine z_iinc (v := (x6 + 1)) dX7_byLevels_189 rfl rfl (by decide) rfl ?_
        refine z_goto 66 dX7_byLevels_192 (by decide) ?_
        exact k

set_option maxRecDepth 100000 in
set_option maxHeartbeats 4000000 in
theorem r_X7_byLevels_168 {P : Int32 → zM → Prop} (x1 : Int32) (x2 : Int32) (x5 : Int32) (x6 : Int32) (F : Nat → Int32) (I : Nat → Nat → Int32) (J : Nat → Nat → Int64)
  (k : vp_in x6 300 ∧ vp_in x6 300 ∧ AW m_X7_byLevels (z_pi P) 66 [some (.ref 0), some (.int x1), some (.int x2), none, none, some (.int x5), some (.int (x6 + 1)), none, none] [] (upd F 4 ((F 4) + 1), z_ui I 4 (zn x6) ((I 4 (zn x6)) + 1), J)) :
  AW m_X7_byLevels (z_pi P) 168 [some (.ref 0), some (.int x1), some (.int x2), none, none, some (.int x5), some (.int x6), none, none] [] (F, I, J) := by
  refine z_aload_n dX7_byLevels_168 rfl rfl ?_
  refine z_getr dX7_byLevels_169 fl_X7_26 lo1_0 rfl ?_
  refine z_iload dX7_byLevels_172 rfl ?_
  refine z_dup2 dX7_byLevels_174 rfl rfl ?_
  refine z_iald dX7_byLevels_175 lo1_6 ⟨k.1, ?_⟩
  replace k := k.2
  refine z_iconst (v := 1) dX7_byLevels_176 (by decide) ?_
  refine z_iadd dX7_byLevels_177 ?_
  refine z_iast dX7_byLevels_178 lo1_6 ⟨k.1, ?_⟩
  replace k := k.2
  refine z_aload_n dX7_byLevels_179 rfl rfl ?_
  refine z_dup dX7_byLevels_180 rfl ?_
  refine z_geti dX7_byLevels_181 fl_X7_94 lo1_0 rfl ?_
  refine z_iconst (v := 1) dX7_byLevels_184 (by decide) ?_
  refine z_iadd dX7_byLevels_185 ?_
  refine z_puti dX7_byLevels_186 fw_X7_94 lo1_0 rfl ?_
  refine z_iinc (v := (x6 + 1)) dX7_byLevels_189 rfl rfl (by decide) rfl ?_
  refine z_goto 66 dX7_byLevels_192 (by decide) ?_
  exact k

set_option maxRecDepth 100000 in
set_option maxHeartbeats 4000000 in
theorem r_X7_byLevels_198 {P : Int32 → zM → Prop} (x1 : Int32) (x2 : Int32) (x5 : Int32) (x6 : Int32) (F : Nat → Int32) (I : Nat → Nat → Int32) (J : Nat → Nat → Int64)
  (k : (((F 1) ≤ x6 → AW m_X7_byLevels (z_pi P) 7 [some (.ref 0), some (.int x1), some (.int (x2 + (-1))), none, none, none, none, none, none] [] (F, I, J)) ∧ (¬ (F 1) ≤ x6 → vp_in x6 300 ∧ ((¬ (I 3 (zn x6)) = 2 → AW m_X7_byLevels (z_pi P) 198 [some (.ref 0), some (.int x1), some (.int x2), none, none, some (.int x5), some (.int (x6 + 1)), none, none] [] (F, I, J)) ∧ ((I 3 (zn x6)) = 2 → vp_in x6 300 ∧ (((I 4 (zn x6)) = x2 → ((x5 = 0 → vp_in x6 300 ∧ vp_in (I 1 (zn x6)) 100 ∧ ((x5 = 0 → vp_in x6 300 ∧ vp_in (I 2 (zn x6)) 100 ∧ (((I 12 (zn (I 1 (zn x6)))) = 0 → AW m_X7_byLevels (z_pi P) 334 [some (.ref 0), some (.int x1), some (.int x2), none, none, some (.int x5), some (.int x6), some (.int (I 12 (zn (I 1 (zn x6))))), some (.int (I 12 (zn (I 2 (zn x6)))))] [] (F, I, J)) ∧ (¬ (I 12 (zn (I 1 (zn x6)))) = 0 → (((I 12 (zn (I 2 (zn x6)))) = 0 → AW m_X7_byLevels (z_pi P) 334 [some (.ref 0), some (.int x1), some (.int x2), none, none, some (.int x5), some (.int x6), some (.int (I 12 (zn (I 1 (zn x6))))), some (.int (I 12 (zn (I 2 (zn x6)))))] [] (F, I, J)) ∧ (¬ (I 12 (zn (I 2 (zn x6)))) = 0 → vp_in x6 300 ∧ vp_in x6 300 ∧ AW m_X7_byLevels (z_pi P) 198 [some (.ref 0), some (.int x1), some (.int x2), none, none, some (.int x5), some (.int (x6 + 1)), none, none] [] (upd F 4 ((F 4) + 1), z_ui I 4 (zn x6) ((I 4 (zn x6)) + 1), J)))))) ∧ (¬ x5 = 0 → vp_in x6 300 ∧ vp_in (I 2 (zn x6)) 100 ∧ (((I 12 (zn (I 1 (zn x6)))) = 0 → AW m_X7_byLevels (z_pi P) 334 [some (.ref 0), some (.int x1), some (.int x2), none, none, some (.int x5), some (.int x6), some (.int (I 12 (zn (I 1 (zn x6))))), some (.int (I 11 (zn (I 2 (zn x6)))))] [] (F, I, J)) ∧ (¬ (I 12 (zn (I 1 (zn x6)))) = 0 → (((I 11 (zn (I 2 (zn x6)))) = 0 → AW m_X7_byLevels (z_pi P) 334 [some (.ref 0), some (.int x1), some (.int x2), none, none, some (.int x5), some (.int x6), some (.int (I 12 (zn (I 1 (zn x6))))), some (.int (I 11 (zn (I 2 (zn x6)))))] [] (F, I, J)) ∧ (¬ (I 11 (zn (I 2 (zn x6)))) = 0 → vp_in x6 300 ∧ vp_in x6 300 ∧ AW m_X7_byLevels (z_pi P) 198 [some (.ref 0), some (.int x1), some (.int x2), none, none, some (.int x5), some (.int (x6 + 1)), none, none] [] (upd F 4 ((F 4) + 1), z_ui I 4 (zn x6) ((I 4 (zn x6)) + 1), J)))))))) ∧ (¬ x5 = 0 → vp_in x6 300 ∧ vp_in (I 1 (zn x6)) 100 ∧ ((x5 = 0 → vp_in x6 300 ∧ vp_in (I 2 (zn x6)) 100 ∧ (((I 11 (zn (I 1 (zn x6)))) = 0 → AW m_X7_byLevels (z_pi P) 334 [some (.ref 0), some (.int x1), some (.int x2), none, none, some (.int x5), some (.int x6), some (.int (I 11 (zn (I 1 (zn x6))))), some (.int (I 12 (zn (I 2 (zn x6)))))] [] (F, I, J)) ∧ (¬ (I 11 (zn (I 1 (zn x6)))) = 0 → (((I 12 (zn (I 2 (zn x6)))) = 0 → AW m_X7_byLevels (z_pi P) 334 [some (.ref 0), some (.int x1), some (.int x2), none, none, some (.int x5), some (.int x6), some (.int (I 11 (zn (I 1 (zn x6))))), some (.int (I 12 (zn (I 2 (zn x6)))))] [] (F, I, J)) ∧ (¬ (I 12 (zn (I 2 (zn x6)))) = 0 → vp_in x6 300 ∧ vp_in x6 300 ∧ AW m_X7_byLevels (z_pi P) 198 [some (.ref 0), some (.int x1), some (.int x2), none, none, some (.int x5), some (.int (x6 + 1)), none, none] [] (upd F 4 ((F 4) + 1), z_ui I 4 (zn x6) ((I 4 (zn x6)) + 1), J)))))) ∧ (¬ x5 = 0 → vp_in x6 300 ∧ vp_in (I 2 (zn x6)) 100 ∧ (((I 11 (zn (I 1 (zn x6)))) = 0 → AW m_X7_byLevels (z_pi P) 334 [some (.ref 0), some (.int x1), some (.int x2), none, none, some (.int x5), some (.int x6), some (.int (I 11 (zn (I 1 (zn x6))))), some (.int (I 11 (zn (I 2 (zn x6)))))] [] (F, I, J)) ∧ (¬ (I 11 (zn (I 1 (zn x6)))) = 0 → (((I 11 (zn (I 2 (zn x6)))) = 0 → AW m_X7_byLevels (z_pi P) 334 [some (.ref 0), some (.int x1), some (.int x2), none, none, some (.int x5), some (.int x6), some (.int (I 11 (zn (I 1 (zn x6))))), some (.int (I 11 (zn (I 2 (zn x6)))))] [] (F, I, J)) ∧ (¬ (I 11 (zn (I 2 (zn x6)))) = 0 → vp_in x6 300 ∧ vp_in x6 300 ∧ AW m_X7_byLevels (z_pi P) 198 [some (.ref 0), some (.int x1), some (.int x2), none, none, some (.int x5), some (.int (x6 + 1)), none, none] [] (upd F 4 ((F 4) + 1), z_ui I 4 (zn x6) ((I 4 (zn x6)) + 1), J)))))))))) ∧ (¬ (I 4 (zn x6)) = x2 → AW m_X7_byLevels (z_pi P) 198 [some (.ref 0), some (.int x1), some (.int x2), none, none, some (.int x5), some (.int (x6 + 1)), none, none] [] (F, I, J)))))))) :
  AW m_X7_byLevels (z_pi P) 198 [some (.ref 0), some (.int x1), some (.int x2), none, none, some (.int x5), some (.int x6), none, none] [] (F, I, J) := by
  refine z_iload dX7_byLevels_198 rfl ?_
  refine z_aload_n dX7_byLevels_200 rfl rfl ?_
  refine z_geti dX7_byLevels_201 fl_X7_88 lo1_0 rfl ?_
  refine z_icmp_ge 437 dX7_byLevels_204 (by decide) ⟨fun h1 => ?_, fun h1 => ?_⟩
  · replace k := k.1 h1
    refine z_iinc (v := (x2 + (-1))) dX7_byLevels_437 rfl rfl (by decide) rfl ?_
    refine z_goto 7 dX7_byLevels_440 (by decide) ?_
    refine z_wk [some (.ref 0), some (.int x1), some (.int (x2 + (-1))), none, none, none, none, none, none] (z_le_some (z_le_some (z_le_some (z_le_none (z_le_none (z_le_none (z_le_none (z_le_none (z_le_none z_le_nil))))))))) ?_
    exact k
  · replace k := k.2 h1
    refine z_aload_n dX7_byLevels_207 rfl rfl ?_
    refine z_getr dX7_byLevels_208 fl_X7_23 lo1_0 rfl ?_
    refine z_iload dX7_byLevels_211 rfl ?_
    refine z_iald dX7_byLevels_213 lo1_5 ⟨k.1, ?_⟩
    replace k := k.2
    refine z_iconst (v := 2) dX7_byLevels_214 (by decide) ?_
    refine z_icmp_ne 431 dX7_byLevels_215 (by decide) ⟨fun h2 => ?_, fun h2 => ?_⟩
    · replace k := k.1 h2
      refine z_iinc (v := (x6 + 1)) dX7_byLevels_431 rfl rfl (by decide) rfl ?_
      refine z_goto 198 dX7_byLevels_434 (by decide) ?_
      exact k
    · replace k := k.2 h2
      refine z_aload_n dX7_byLevels_218 rfl rfl ?_
      refine z_getr dX7_byLevels_219 fl_X7_26 lo1_0 rfl ?_
      refine z_iload dX7_byLevels_222 rfl ?_
      refine z_iald dX7_byLevels_224 lo1_6 ⟨k.1, ?_⟩
      replace k := k.2
      refine z_iload_n dX7_byLevels_225 rfl rfl ?_
      refine z_icmp_eq 232 dX7_byLevels_226 (by decide) ⟨fun h3 => ?_, fun h3 => ?_⟩
      · replace k := k.1 h3
        refine z_iload dX7_byLevels_232 rfl ?_
        refine z_if_eq 252 dX7_byLevels_234 (by decide) ⟨fun h4 => ?_, fun h4 => ?_⟩
        · replace k := k.1 h4
          refine z_aload_n dX7_byLevels_252 rfl rfl ?_
          refine z_getr dX7_byLevels_253 fl_X7_57 lo1_0 rfl ?_
          refine z_aload_n dX7_byLevels_256 rfl rfl ?_
          refine z_getr dX7_byLevels_257 fl_X7_17 lo1_0 rfl ?_
          refine z_iload dX7_byLevels_260 rfl ?_
          refine z_iald dX7_byLevels_262 lo1_3 ⟨k.1, ?_⟩
          replace k := k.2
          refine z_zald dX7_byLevels_263 lo1_16 ⟨k.1, ?_⟩
          replace k := k.2
          refine z_istore dX7_byLevels_264 (by decide) rfl ?_
          refine z_iload dX7_byLevels_266 rfl ?_
          refine z_if_eq 286 dX7_byLevels_268 (by decide) ⟨fun h5 => ?_, fun h5 => ?_⟩
          · replace k := k.1 h5
            refine z_aload_n dX7_byLevels_286 rfl rfl ?_
            refine z_getr dX7_byLevels_287 fl_X7_57 lo1_0 rfl ?_
            refine z_aload_n dX7_byLevels_290 rfl rfl ?_
            refine z_getr dX7_byLevels_291 fl_X7_20 lo1_0 rfl ?_
            refine z_iload dX7_byLevels_294 rfl ?_
            refine z_iald dX7_byLevels_296 lo1_4 ⟨k.1, ?_⟩
            replace k := k.2
            refine z_zald dX7_byLevels_297 lo1_16 ⟨k.1, ?_⟩
            replace k := k.2
            refine z_istore dX7_byLevels_298 (by decide) rfl ?_
            refine z_iload dX7_byLevels_300 rfl ?_
            refine z_if_eq 334 dX7_byLevels_302 (by decide) ⟨fun h6 => ?_, fun h6 => ?_⟩
            · replace k := k.1 h6
              exact k
            · replace k := k.2 h6
              refine z_iload dX7_byLevels_305 rfl ?_
              refine z_if_eq 334 dX7_byLevels_307 (by decide) ⟨fun h7 => ?_, fun h7 => ?_⟩
              · replace k := k.1 h7
                exact k
              · replace k := k.2 h7
                refine z_aload_n dX7_byLevels_310 rfl rfl ?_
                refine z_getr dX7_byLevels_311 fl_X7_26 lo1_0 rfl ?_
                refine z_iload dX7_byLevels_314 rfl ?_
                refine z_dup2 dX7_byLevels_316 rfl rfl ?_
                refine z_iald dX7_byLevels_317 lo1_6 ⟨k.1, ?_⟩
                replace k := k.2
                refine z_iconst (v := 1) dX7_byLevels_318 (by decide) ?_
                refine z_iadd dX7_byLevels_319 ?_
                refine z_iast dX7_byLevels_320 lo1_6 ⟨k.1, ?_⟩
                replace k := k.2
                refine z_aload_n dX7_byLevels_321 rfl rfl ?_
                refine z_dup dX7_byLevels_322 rfl ?_
                refine z_geti dX7_byLevels_323 fl_X7_94 lo1_0 rfl ?_
                refine z_iconst (v := 1) dX7_byLevels_326 (by decide) ?_
                refine z_iadd dX7_byLevels_327 ?_
                refine z_puti dX7_byLevels_328 fw_X7_94 lo1_0 rfl ?_
                refine z_goto 431 dX7_byLevels_331 (by decide) ?_
                refine z_iinc (v := (x6 + 1)) dX7_byLevels_431 rfl rfl (by decide) rfl ?_
                refine z_goto 198 dX7_byLevels_434 (by decide) ?_
                refine z_wk [some (.ref 0), some (.int x1), some (.int x2), none, none, some (.int x5), some (.int (x6 + 1)), none, none] (z_le_some (z_le_some (z_le_some (z_le_none (z_le_none (z_le_some (z_le_some (z_le_none (z_le_none z_le_nil))))))))) ?_
                exact k
          · replace k := k.2 h5
            refine z_aload_n dX7_byLevels_271 rfl rfl ?_
            refine z_getr dX7_byLevels_272 fl_X7_53 lo1_0 rfl ?_
            refine z_aload_n dX7_byLevels_275 rfl rfl ?_
            refine z_getr dX7_byLevels_276 fl_X7_20 lo1_0 rfl ?_
            refine z_iload dX7_byLevels_279 rfl ?_
            refine z_iald dX7_byLevels_281 lo1_4 ⟨k.1, ?_⟩
            replace k := k.2
            refine z_zald dX7_byLevels_282 lo1_15 ⟨k.1, ?_⟩
            replace k := k.2
            refine z_goto 298 dX7_byLevels_283 (by decide) ?_
            refine z_istore dX7_byLevels_298 (by decide) rfl ?_
            refine z_iload dX7_byLevels_300 rfl ?_
            refine z_if_eq 334 dX7_byLevels_302 (by decide) ⟨fun h8 => ?_, fun h8 => ?_⟩
            · replace k := k.1 h8
              exact k
            · replace k := k.2 h8
              refine z_iload dX7_byLevels_305 rfl ?_
              refine z_if_eq 334 dX7_byLevels_307 (by decide) ⟨fun h9 => ?_, fun h9 => ?_⟩
              · replace k := k.1 h9
                exact k
              · replace k := k.2 h9
                refine z_aload_n dX7_byLevels_310 rfl rfl ?_
                refine z_getr dX7_byLevels_311 fl_X7_26 lo1_0 rfl ?_
                refine z_iload dX7_byLevels_314 rfl ?_
                refine z_dup2 dX7_byLevels_316 rfl rfl ?_
                refine z_iald dX7_byLevels_317 lo1_6 ⟨k.1, ?_⟩
                replace k := k.2
                refine z_iconst (v := 1) dX7_byLevels_318 (by decide) ?_
                refine z_iadd dX7_byLevels_319 ?_
                refine z_iast dX7_byLevels_320 lo1_6 ⟨k.1, ?_⟩
                replace k := k.2
                refine z_aload_n dX7_byLevels_321 rfl rfl ?_
                refine z_dup dX7_byLevels_322 rfl ?_
                refine z_geti dX7_byLevels_323 fl_X7_94 lo1_0 rfl ?_
                refine z_iconst (v := 1) dX7_byLevels_326 (by decide) ?_
                refine z_iadd dX7_byLevels_327 ?_
                refine z_puti dX7_byLevels_328 fw_X7_94 lo1_0 rfl ?_
                refine z_goto 431 dX7_byLevels_331 (by decide) ?_
                refine z_iinc (v := (x6 + 1)) dX7_byLevels_431 rfl rfl (by decide) rfl ?_
                refine z_goto 198 dX7_byLevels_434 (by decide) ?_
                refine z_wk [some (.ref 0), some (.int x1), some (.int x2), none, none, some (.int x5), some (.int (x6 + 1)), none, none] (z_le_some (z_le_some (z_le_some (z_le_none (z_le_none (z_le_some (z_le_some (z_le_none (z_le_none z_le_nil))))))))) ?_
                exact k
        · replace k := k.2 h4
          refine z_aload_n dX7_byLevels_237 rfl rfl ?_
          refine z_getr dX7_byLevels_238 fl_X7_53 lo1_0 rfl ?_
          refine z_aload_n dX7_byLevels_241 rfl rfl ?_
          refine z_getr dX7_byLevels_242 fl_X7_17 lo1_0 rfl ?_
          refine z_iload dX7_byLevels_245 rfl ?_
          refine z_iald dX7_byLevels_247 lo1_3 ⟨k.1, ?_⟩
          replace k := k.2
          refine z_zald dX7_byLevels_248 lo1_15 ⟨k.1, ?_⟩
          replace k := k.2
          refine z_goto 264 dX7_byLevels_249 (by decide) ?_
          refine z_istore dX7_byLevels_264 (by decide) rfl ?_
          refine z_iload dX7_byLevels_266 rfl ?_
          refine z_if_eq 286 dX7_byLevels_268 (by decide) ⟨fun h10 => ?_, fun h10 => ?_⟩
          · replace k := k.1 h10
            refine z_aload_n dX7_byLevels_286 rfl rfl ?_
            refine z_getr dX7_byLevels_287 fl_X7_57 lo1_0 rfl ?_
            refine z_aload_n dX7_byLevels_290 rfl rfl ?_
            refine z_getr dX7_byLevels_291 fl_X7_20 lo1_0 rfl ?_
            refine z_iload dX7_byLevels_294 rfl ?_
            refine z_iald dX7_byLevels_296 lo1_4 ⟨k.1, ?_⟩
            replace k := k.2
            refine z_zald dX7_byLevels_297 lo1_16 ⟨k.1, ?_⟩
            replace k := k.2
            refine z_istore dX7_byLevels_298 (by decide) rfl ?_
            refine z_iload dX7_byLevels_300 rfl ?_
            refine z_if_eq 334 dX7_byLevels_302 (by decide) ⟨fun h11 => ?_, fun h11 => ?_⟩
            · replace k := k.1 h11
              exact k
            · replace k := k.2 h11
              refine z_iload dX7_byLevels_305 rfl ?_
              refine z_if_eq 334 dX7_byLevels_307 (by decide) ⟨fun h12 => ?_, fun h12 => ?_⟩
              · replace k := k.1 h12
                exact k
              · replace k := k.2 h12
                refine z_aload_n dX7_byLevels_310 rfl rfl ?_
                refine z_getr dX7_byLevels_311 fl_X7_26 lo1_0 rfl ?_
                refine z_iload dX7_byLevels_314 rfl ?_
                refine z_dup2 dX7_byLevels_316 rfl rfl ?_
                refine z_iald dX7_byLevels_317 lo1_6 ⟨k.1, ?_⟩
                replace k := k.2
                refine z_iconst (v := 1) dX7_byLevels_318 (by decide) ?_
                refine z_iadd dX7_byLevels_319 ?_
                refine z_iast dX7_byLevels_320 lo1_6 ⟨k.1, ?_⟩
                replace k := k.2
                refine z_aload_n dX7_byLevels_321 rfl rfl ?_
                refine z_dup dX7_byLevels_322 rfl ?_
                refine z_geti dX7_byLevels_323 fl_X7_94 lo1_0 rfl ?_
                refine z_iconst (v := 1) dX7_byLevels_326 (by decide) ?_
                refine z_iadd dX7_byLevels_327 ?_
                refine z_puti dX7_byLevels_328 fw_X7_94 lo1_0 rfl ?_
                refine z_goto 431 dX7_byLevels_331 (by decide) ?_
                refine z_iinc (v := (x6 + 1)) dX7_byLevels_431 rfl rfl (by decide) rfl ?_
                refine z_goto 198 dX7_byLevels_434 (by decide) ?_
                refine z_wk [some (.ref 0), some (.int x1), some (.int x2), none, none, some (.int x5), some (.int (x6 + 1)), none, none] (z_le_some (z_le_some (z_le_some (z_le_none (z_le_none (z_le_some (z_le_some (z_le_none (z_le_none z_le_nil))))))))) ?_
                exact k
          · replace k := k.2 h10
            refine z_aload_n dX7_byLevels_271 rfl rfl ?_
            refine z_getr dX7_byLevels_272 fl_X7_53 lo1_0 rfl ?_
            refine z_aload_n dX7_byLevels_275 rfl rfl ?_
            refine z_getr dX7_byLevels_276 fl_X7_20 lo1_0 rfl ?_
            refine z_iload dX7_byLevels_279 rfl ?_
            refine z_iald dX7_byLevels_281 lo1_4 ⟨k.1, ?_⟩
            replace k := k.2
            refine z_zald dX7_byLevels_282 lo1_15 ⟨k.1, ?_⟩
            replace k := k.2
            refine z_goto 298 dX7_byLevels_283 (by decide) ?_
            refine z_istore dX7_byLevels_298 (by decide) rfl ?_
            refine z_iload dX7_byLevels_300 rfl ?_
            refine z_if_eq 334 dX7_byLevels_302 (by decide) ⟨fun h13 => ?_, fun h13 => ?_⟩
            · replace k := k.1 h13
              exact k
            · replace k := k.2 h13
              refine z_iload dX7_byLevels_305 rfl ?_
              refine z_if_eq 334 dX7_byLevels_307 (by decide) ⟨fun h14 => ?_, fun h14 => ?_⟩
              · replace k := k.1 h14
                exact k
              · replace k := k.2 h14
                refine z_aload_n dX7_byLevels_310 rfl rfl ?_
                refine z_getr dX7_byLevels_311 fl_X7_26 lo1_0 rfl ?_
                refine z_iload dX7_byLevels_314 rfl ?_
                refine z_dup2 dX7_byLevels_316 rfl rfl ?_
                refine z_iald dX7_byLevels_317 lo1_6 ⟨k.1, ?_⟩
                replace k := k.2
                refine z_iconst (v := 1) dX7_byLevels_318 (by decide) ?_
                refine z_iadd dX7_byLevels_319 ?_
                refine z_iast dX7_byLevels_320 lo1_6 ⟨k.1, ?_⟩
                replace k := k.2
                refine z_aload_n dX7_byLevels_321 rfl rfl ?_
                refine z_dup dX7_byLevels_322 rfl ?_
                refine z_geti dX7_byLevels_323 fl_X7_94 lo1_0 rfl ?_
                refine z_iconst (v := 1) dX7_byLevels_326 (by decide) ?_
                refine z_iadd dX7_byLevels_327 ?_
                refine z_puti dX7_byLevels_328 fw_X7_94 lo1_0 rfl ?_
                refine z_goto 431 dX7_byLevels_331 (by decide) ?_
                refine z_iinc (v := (x6 + 1)) dX7_byLevels_431 rfl rfl (by decide) rfl ?_
                refine z_goto 198 dX7_byLevels_434 (by decide) ?_
                refine z_wk [some (.ref 0), some (.int x1), some (.int x2), none, none, some (.int x5), some (.int (x6 + 1)), none, none] (z_le_some (z_le_some (z_le_some (z_le_none (z_le_none (z_le_some (z_le_some (z_le_none (z_le_none z_le_nil))))))))) ?_
                exact k
      · replace k := k.2 h3
        refine z_goto 431 dX7_byLevels_229 (by decide) ?_
        refine z_iinc (v := (x6 + 1)) dX7_byLevels_431 rfl rfl (by decide) rfl ?_
        refine z_goto 198 dX7_byLevels_434 (by decide) ?_
        exact k

set_option maxRecDepth 100000 in
set_option maxHeartbeats 4000000 in
theorem r_X7_byLevels_334 {P : Int32 → zM → Prop} (x1 : Int32) (x2 : Int32) (x5 : Int32) (x6 : Int32) (x7 : Int32) (x8 : Int32) (F : Nat → Int32) (I : Nat → Nat → Int32) (J : Nat → Nat → Int64)
  (k : ((x7 = 0 → AW m_X7_byLevels (z_pi P) 377 [some (.ref 0), some (.int x1), some (.int x2), none, none, some (.int x5), some (.int x6), none, some (.int x8)] [] (F, I, J)) ∧ (¬ x7 = 0 → ((x5 = 0 → vp_in x6 300 ∧ vp_in (I 2 (zn x6)) 100 ∧ ((¬ (I 11 (zn (I 2 (zn x6)))) = 0 → vp_in x6 300 ∧ P x6 (F, z_ui I 3 (zn x6) 1, J)) ∧ ((I 11 (zn (I 2 (zn x6)))) = 0 → AW m_X7_byLevels (z_pi P) 377 [some (.ref 0), some (.int x1), some (.int x2), none, none, some (.int x5), some (.int x6), none, some (.int x8)] [] (F, I, J)))) ∧ (¬ x5 = 0 → vp_in x6 300 ∧ vp_in (I 2 (zn x6)) 100 ∧ (((I 12 (zn (I 2 (zn x6)))) = 0 → AW m_X7_byLevels (z_pi P) 377 [some (.ref 0), some (.int x1), some (.int x2), none, none, some (.int x5), some (.int x6), none, some (.int x8)] [] (F, I, J)) ∧ (¬ (I 12 (zn (I 2 (zn x6)))) = 0 → vp_in x6 300 ∧ P x6 (F, z_ui I 3 (zn x6) 1, J)))))))) :
  AW m_X7_byLevels (z_pi P) 334 [some (.ref 0), some (.int x1), some (.int x2), none, none, some (.int x5), some (.int x6), some (.int x7), some (.int x8)] [] (F, I, J) := by
  refine z_iload dX7_byLevels_334 rfl ?_
  refine z_if_eq 377 dX7_byLevels_336 (by decide) ⟨fun h1 => ?_, fun h1 => ?_⟩
  · replace k := k.1 h1
    refine z_wk [some (.ref 0), some (.int x1), some (.int x2), none, none, some (.int x5), some (.int x6), none, some (.int x8)] (z_le_some (z_le_some (z_le_some (z_le_none (z_le_none (z_le_some (z_le_some (z_le_none (z_le_some z_le_nil))))))))) ?_
    exact k
  · replace k := k.2 h1
    refine z_iload dX7_byLevels_339 rfl ?_
    refine z_if_eq 362 dX7_byLevels_341 (by decide) ⟨fun h2 => ?_, fun h2 => ?_⟩
    · replace k := k.1 h2
      refine z_aload_n dX7_byLevels_362 rfl rfl ?_
      refine z_getr dX7_byLevels_363 fl_X7_53 lo1_0 rfl ?_
      refine z_aload_n dX7_byLevels_366 rfl rfl ?_
      refine z_getr dX7_byLevels_367 fl_X7_20 lo1_0 rfl ?_
      refine z_iload dX7_byLevels_370 rfl ?_
      refine z_iald dX7_byLevels_372 lo1_4 ⟨k.1, ?_⟩
      replace k := k.2
      refine z_zald dX7_byLevels_373 lo1_15 ⟨k.1, ?_⟩
      replace k := k.2
      refine z_if_ne 420 dX7_byLevels_374 (by decide) ⟨fun h3 => ?_, fun h3 => ?_⟩
      · replace k := k.1 h3
        refine z_aload_n dX7_byLevels_420 rfl rfl ?_
        refine z_getr dX7_byLevels_421 fl_X7_23 lo1_0 rfl ?_
        refine z_iload dX7_byLevels_424 rfl ?_
        refine z_iconst (v := 1) dX7_byLevels_426 (by decide) ?_
        refine z_iast dX7_byLevels_427 lo1_5 ⟨k.1, ?_⟩
        replace k := k.2
        refine z_iload dX7_byLevels_428 rfl ?_
        exact z_ireturn (st := []) rfl dX7_byLevels_430 ⟨_, rfl, k⟩
      · replace k := k.2 h3
        refine z_wk [some (.ref 0), some (.int x1), some (.int x2), none, none, some (.int x5), some (.int x6), none, some (.int x8)] (z_le_some (z_le_some (z_le_some (z_le_none (z_le_none (z_le_some (z_le_some (z_le_none (z_le_some z_le_nil))))))))) ?_
        exact k
    · replace k := k.2 h2
      refine z_aload_n dX7_byLevels_344 rfl rfl ?_
      refine z_getr dX7_byLevels_345 fl_X7_57 lo1_0 rfl ?_
      refine z_aload_n dX7_byLevels_348 rfl rfl ?_
      refine z_getr dX7_byLevels_349 fl_X7_20 lo1_0 rfl ?_
      refine z_iload dX7_byLevels_352 rfl ?_
      refine z_iald dX7_byLevels_354 lo1_4 ⟨k.1, ?_⟩
      replace k := k.2
      refine z_zald dX7_byLevels_355 lo1_16 ⟨k.1, ?_⟩
      replace k := k.2
      refine z_if_eq 377 dX7_byLevels_356 (by decide) ⟨fun h4 => ?_, fun h4 => ?_⟩
      · replace k := k.1 h4
        refine z_wk [some (.ref 0), some (.int x1), some (.int x2), none, none, some (.int x5), some (.int x6), none, some (.int x8)] (z_le_some (z_le_some (z_le_some (z_le_none (z_le_none (z_le_some (z_le_some (z_le_none (z_le_some z_le_nil))))))))) ?_
        exact k
      · replace k := k.2 h4
        refine z_goto 420 dX7_byLevels_359 (by decide) ?_
        refine z_aload_n dX7_byLevels_420 rfl rfl ?_
        refine z_getr dX7_byLevels_421 fl_X7_23 lo1_0 rfl ?_
        refine z_iload dX7_byLevels_424 rfl ?_
        refine z_iconst (v := 1) dX7_byLevels_426 (by decide) ?_
        refine z_iast dX7_byLevels_427 lo1_5 ⟨k.1, ?_⟩
        replace k := k.2
        refine z_iload dX7_byLevels_428 rfl ?_
        exact z_ireturn (st := []) rfl dX7_byLevels_430 ⟨_, rfl, k⟩

set_option maxRecDepth 100000 in
set_option maxHeartbeats 4000000 in
theorem r_X7_byLevels_377 {P : Int32 → zM → Prop} (x1 : Int32) (x2 : Int32) (x5 : Int32) (x6 : Int32) (x8 : Int32) (F : Nat → Int32) (I : Nat → Nat → Int32) (J : Nat → Nat → Int64)
  (k : ((x8 = 0 → AW m_X7_byLevels (z_pi P) 198 [some (.ref 0), some (.int x1), some (.int x2), none, none, some (.int x5), some (.int (x6 + 1)), none, none] [] (F, I, J)) ∧ (¬ x8 = 0 → ((x5 = 0 → vp_in x6 300 ∧ vp_in (I 1 (zn x6)) 100 ∧ (((I 11 (zn (I 1 (zn x6)))) = 0 → AW m_X7_byLevels (z_pi P) 198 [some (.ref 0), some (.int x1), some (.int x2), none, none, some (.int x5), some (.int (x6 + 1)), none, none] [] (F, I, J)) ∧ (¬ (I 11 (zn (I 1 (zn x6)))) = 0 → vp_in x6 300 ∧ P x6 (F, z_ui I 3 (zn x6) 1, J)))) ∧ (¬ x5 = 0 → vp_in x6 300 ∧ vp_in (I 1 (zn x6)) 100 ∧ (((I 12 (zn (I 1 (zn x6)))) = 0 → AW m_X7_byLevels (z_pi P) 198 [some (.ref 0), some (.int x1), some (.int x2), none, none, some (.int x5), some (.int (x6 + 1)), none, none] [] (F, I, J)) ∧ (¬ (I 12 (zn (I 1 (zn x6)))) = 0 → vp_in x6 300 ∧ P x6 (F, z_ui I 3 (zn x6) 1, J)))))))) :
  AW m_X7_byLevels (z_pi P) 377 [some (.ref 0), some (.int x1), some (.int x2), none, none, some (.int x5), some (.int x6), none, some (.int x8)] [] (F, I, J) := by
  refine z_iload dX7_byLevels_377 rfl ?_
  refine z_if_eq 431 dX7_byLevels_379 (by decide) ⟨fun h1 => ?_, fun h1 => ?_⟩
  · replace k := k.1 h1
    refine z_iinc (v := (x6 + 1)) dX7_byLevels_431 rfl rfl (by decide) rfl ?_
    refine z_goto 198 dX7_byLevels_434 (by decide) ?_
    refine z_wk [some (.ref 0), some (.int x1), some (.int x2), none, none, some (.int x5), some (.int (x6 + 1)), none, none] (z_le_some (z_le_some (z_le_some (z_le_none (z_le_none (z_le_some (z_le_some (z_le_none (z_le_none z_le_nil))))))))) ?_
    exact k
  · replace k := k.2 h1
    refine z_iload dX7_byLevels_382 rfl ?_
    refine z_if_eq 405 dX7_byLevels_384 (by decide) ⟨fun h2 => ?_, fun h2 => ?_⟩
    · replace k := k.1 h2
      refine z_aload_n dX7_byLevels_405 rfl rfl ?_
      refine z_getr dX7_byLevels_406 fl_X7_53 lo1_0 rfl ?_
      refine z_aload_n dX7_byLevels_409 rfl rfl ?_
      refine z_getr dX7_byLevels_410 fl_X7_17 lo1_0 rfl ?_
      refine z_iload dX7_byLevels_413 rfl ?_
      refine z_iald dX7_byLevels_415 lo1_3 ⟨k.1, ?_⟩
      replace k := k.2
      refine z_zald dX7_byLevels_416 lo1_15 ⟨k.1, ?_⟩
      replace k := k.2
      refine z_if_eq 431 dX7_byLevels_417 (by decide) ⟨fun h3 => ?_, fun h3 => ?_⟩
      · replace k := k.1 h3
        refine z_iinc (v := (x6 + 1)) dX7_byLevels_431 rfl rfl (by decide) rfl ?_
        refine z_goto 198 dX7_byLevels_434 (by decide) ?_
        refine z_wk [some (.ref 0), some (.int x1), some (.int x2), none, none, some (.int x5), some (.int (x6 + 1)), none, none] (z_le_some (z_le_some (z_le_some (z_le_none (z_le_none (z_le_some (z_le_some (z_le_none (z_le_none z_le_nil))))))))) ?_
        exact k
      · replace k := k.2 h3
        refine z_aload_n dX7_byLevels_420 rfl rfl ?_
        refine z_getr dX7_byLevels_421 fl_X7_23 lo1_0 rfl ?_
        refine z_iload dX7_byLevels_424 rfl ?_
        refine z_iconst (v := 1) dX7_byLevels_426 (by decide) ?_
        refine z_iast dX7_byLevels_427 lo1_5 ⟨k.1, ?_⟩
        replace k := k.2
        refine z_iload dX7_byLevels_428 rfl ?_
        exact z_ireturn (st := []) rfl dX7_byLevels_430 ⟨_, rfl, k⟩
    · replace k := k.2 h2
      refine z_aload_n dX7_byLevels_387 rfl rfl ?_
      refine z_getr dX7_byLevels_388 fl_X7_57 lo1_0 rfl ?_
      refine z_aload_n dX7_byLevels_391 rfl rfl ?_
      refine z_getr dX7_byLevels_392 fl_X7_17 lo1_0 rfl ?_
      refine z_iload dX7_byLevels_395 rfl ?_
      refine z_iald dX7_byLevels_397 lo1_3 ⟨k.1, ?_⟩
      replace k := k.2
      refine z_zald dX7_byLevels_398 lo1_16 ⟨k.1, ?_⟩
      replace k := k.2
      refine z_if_eq 431 dX7_byLevels_399 (by decide) ⟨fun h4 => ?_, fun h4 => ?_⟩
      · replace k := k.1 h4
        refine z_iinc (v := (x6 + 1)) dX7_byLevels_431 rfl rfl (by decide) rfl ?_
        refine z_goto 198 dX7_byLevels_434 (by decide) ?_
        refine z_wk [some (.ref 0), some (.int x1), some (.int x2), none, none, some (.int x5), some (.int (x6 + 1)), none, none] (z_le_some (z_le_some (z_le_some (z_le_none (z_le_none (z_le_some (z_le_some (z_le_none (z_le_none z_le_nil))))))))) ?_
        exact k
      · replace k := k.2 h4
        refine z_goto 420 dX7_byLevels_402 (by decide) ?_
        refine z_aload_n dX7_byLevels_420 rfl rfl ?_
        refine z_getr dX7_byLevels_421 fl_X7_23 lo1_0 rfl ?_
        refine z_iload dX7_byLevels_424 rfl ?_
        refine z_iconst (v := 1) dX7_byLevels_426 (by decide) ?_
        refine z_iast dX7_byLevels_427 lo1_5 ⟨k.1, ?_⟩
        replace k := k.2
        refine z_iload dX7_byLevels_428 rfl ?_
        exact z_ireturn (st := []) rfl dX7_byLevels_430 ⟨_, rfl, k⟩

set_option maxRecDepth 100000 in
set_option maxHeartbeats 4000000 in
theorem r_X7_cut_0 {P : Int32 → zM → Prop} (x1 : Int32) (F : Nat → Int32) (I : Nat → Nat → Int32) (J : Nat → Nat → Int64)
  (k : AMi m_X7_isThere [.ref 0, .int x1] (F, I, J) (fun r2 M2 => ((¬ r2 = 0 → AMv m_X7_changes [.ref 0] M2 (fun M12 => AMi m_X7_goes [.ref 0, .int x1] M12 (fun r17 M17 => P r17 M17))) ∧ (r2 = 0 → P (-2) M2)))) :
  AMi m_X7_cut [.ref 0, .int x1] (F, I, J) P := by
  refine z_entry (pad := 0) [some (.ref 0), some (.int x1)] (by decide) rfl rfl (fun _ => Nat.le_of_ble_eq_true rfl) ?_
  refine z_aload_n dX7_cut_0 rfl rfl ?_
  refine z_iload_n dX7_cut_1 rfl rfl ?_
  refine z_calli (I := m_X7_cut) (I2 := m_X7_isThere) (st := []) [.int x1] dX7_cut_2 ml_X7_152 rfl (by decide) lo1_0 rfl (Nat.le_of_ble_eq_true rfl) rfl (AMi.mono k (fun r2 M2 k => ?_))
  refine z_if_ne 11 dX7_cut_5 (by decide) ⟨fun h1 => ?_, fun h1 => ?_⟩
  · replace k := k.1 h1
    refine z_aload_n dX7_cut_11 rfl rfl ?_
    refine z_callv (I := m_X7_cut) (I2 := m_X7_changes) (st := []) [] dX7_cut_12 ml_X7_136 rfl (by decide) lo1_0 rfl (Nat.le_of_ble_eq_true rfl) rfl (AMv.mono k (fun M12 k => ?_))
    refine z_aload_n dX7_cut_15 rfl rfl ?_
    refine z_iload_n dX7_cut_16 rfl rfl ?_
    refine z_calli (I := m_X7_cut) (I2 := m_X7_goes) (st := []) [.int x1] dX7_cut_17 ml_X7_155 rfl (by decide) lo1_0 rfl (Nat.le_of_ble_eq_true rfl) rfl (AMi.mono k (fun r17 M17 k => ?_))
    exact z_ireturn (st := []) rfl dX7_cut_20 ⟨_, rfl, k⟩
  · replace k := k.2 h1
    refine z_bipush (v := (-2)) dX7_cut_8 (by decide) ?_
    exact z_ireturn (st := []) rfl dX7_cut_10 ⟨_, rfl, k⟩

set_option maxRecDepth 100000 in
set_option maxHeartbeats 4000000 in
theorem r_X7_instead_0 {P : Int32 → zM → Prop} (x1 : Int32) (F : Nat → Int32) (I : Nat → Nat → Int32) (J : Nat → Nat → Int64)
  (k : AMi m_X7_isThere [.ref 0, .int x1] (F, I, J) (fun r2 M2 => ((¬ r2 = 0 → vp_in x1 300 ∧ ((¬ (M2.2.1 3 (zn x1)) = 2 → AMv m_X7_keep [.ref 0, .int 20] M2 (fun M26 => AMi m_X7_goes [.ref 0, .int x1] M26 (fun r31 M31 => AMv m_X7_back [.ref 0, .int 20] M31 (fun M38 => P r31 M38)))) ∧ ((M2.2.1 3 (zn x1)) = 2 → P (-1) M2))) ∧ (r2 = 0 → P (-2) M2)))) :
  AMi m_X7_instead [.ref 0, .int x1] (F, I, J) P := by
  refine z_entry (pad := 1) [some (.ref 0), some (.int x1), none] (by decide) rfl rfl (fun _ => Nat.le_of_ble_eq_true rfl) ?_
  refine z_aload_n dX7_instead_0 rfl rfl ?_
  refine z_iload_n dX7_instead_1 rfl rfl ?_
  refine z_calli (I := m_X7_instead) (I2 := m_X7_isThere) (st := []) [.int x1] dX7_instead_2 ml_X7_152 rfl (by decide) lo1_0 rfl (Nat.le_of_ble_eq_true rfl) rfl (AMi.mono k (fun r2 M2 k => ?_))
  refine z_if_ne 11 dX7_instead_5 (by decide) ⟨fun h1 => ?_, fun h1 => ?_⟩
  · replace k := k.1 h1
    refine z_aload_n dX7_instead_11 rfl rfl ?_
    refine z_getr dX7_instead_12 fl_X7_23 lo1_0 rfl ?_
    refine z_iload_n dX7_instead_15 rfl rfl ?_
    refine z_iald dX7_instead_16 lo1_5 ⟨k.1, ?_⟩
    replace k := k.2
    refine z_iconst (v := 2) dX7_instead_17 (by decide) ?_
    refine z_icmp_ne 23 dX7_instead_18 (by decide) ⟨fun h2 => ?_, fun h2 => ?_⟩
    · replace k := k.1 h2
      refine z_aload_n dX7_instead_23 rfl rfl ?_
      refine z_bipush (v := 20) dX7_instead_24 (by decide) ?_
      refine z_callv (I := m_X7_instead) (I2 := m_X7_keep) (st := []) [.int 20] dX7_instead_26 ml_X7_104 rfl (by decide) lo1_0 rfl (Nat.le_of_ble_eq_true rfl) rfl (AMv.mono k (fun M26 k => ?_))
      refine z_aload_n dX7_instead_29 rfl rfl ?_
      refine z_iload_n dX7_instead_30 rfl rfl ?_
      refine z_calli (I := m_X7_instead) (I2 := m_X7_goes) (st := []) [.int x1] dX7_instead_31 ml_X7_155 rfl (by decide) lo1_0 rfl (Nat.le_of_ble_eq_true rfl) rfl (AMi.mono k (fun r31 M31 k => ?_))
      refine z_istore_n dX7_instead_34 rfl (by decide) rfl ?_
      refine z_aload_n dX7_instead_35 rfl rfl ?_
      refine z_bipush (v := 20) dX7_instead_36 (by decide) ?_
      refine z_callv (I := m_X7_instead) (I2 := m_X7_back) (st := []) [.int 20] dX7_instead_38 ml_X7_108 rfl (by decide) lo1_0 rfl (Nat.le_of_ble_eq_true rfl) rfl (AMv.mono k (fun M38 k => ?_))
      refine z_iload_n dX7_instead_41 rfl rfl ?_
      exact z_ireturn (st := []) rfl dX7_instead_42 ⟨_, rfl, k⟩
    · replace k := k.2 h2
      refine z_iconst (v := (-1)) dX7_instead_21 (by decide) ?_
      exact z_ireturn (st := []) rfl dX7_instead_22 ⟨_, rfl, k⟩
  · replace k := k.2 h1
    refine z_bipush (v := (-2)) dX7_instead_8 (by decide) ?_
    exact z_ireturn (st := []) rfl dX7_instead_10 ⟨_, rfl, k⟩

set_option maxRecDepth 100000 in
set_option maxHeartbeats 4000000 in
theorem r_X7_isBridge_0 {P : Int32 → zM → Prop} (x1 : Int32) (F : Nat → Int32) (I : Nat → Nat → Int32) (J : Nat → Nat → Int64)
  (k : vp_in x1 300 ∧ AMi m_X7_reach [.ref 0, .int (I 1 (zn x1)), .int 0, .ref 15, .int 1, .int x1, .int (-1)] (F, I, J) (fun r15 M15 => vp_in x1 300 ∧ vp_in (M15.2.1 2 (zn x1)) 100 ∧ ((¬ (M15.2.1 11 (zn (M15.2.1 2 (zn x1)))) = 0 → P 0 M15) ∧ ((M15.2.1 11 (zn (M15.2.1 2 (zn x1)))) = 0 → P 1 M15)))) :
  AMi m_X7_isBridge [.ref 0, .int x1] (F, I, J) P := by
  refine z_entry (pad := 0) [some (.ref 0), some (.int x1)] (by decide) rfl rfl (fun _ => Nat.le_of_ble_eq_true rfl) ?_
  refine z_aload_n dX7_isBridge_0 rfl rfl ?_
  refine z_aload_n dX7_isBridge_1 rfl rfl ?_
  refine z_getr dX7_isBridge_2 fl_X7_17 lo1_0 rfl ?_
  refine z_iload_n dX7_isBridge_5 rfl rfl ?_
  refine z_iald dX7_isBridge_6 lo1_3 ⟨k.1, ?_⟩
  replace k := k.2
  refine z_iconst (v := 0) dX7_isBridge_7 (by decide) ?_
  refine z_aload_n dX7_isBridge_8 rfl rfl ?_
  refine z_getr dX7_isBridge_9 fl_X7_53 lo1_0 rfl ?_
  refine z_iconst (v := 1) dX7_isBridge_12 (by decide) ?_
  refine z_iload_n dX7_isBridge_13 rfl rfl ?_
  refine z_iconst (v := (-1)) dX7_isBridge_14 (by decide) ?_
  refine z_calli (I := m_X7_isBridge) (I2 := m_X7_reach) (st := []) [.int (I 1 (zn x1)), .int 0, .ref 15, .int 1, .int x1, .int (-1)] dX7_isBridge_15 ml_X7_111 rfl (by decide) lo1_0 rfl (Nat.le_of_ble_eq_true rfl) rfl (AMi.mono k (fun r15 M15 k => ?_))
  refine z_pop dX7_isBridge_18 rfl ?_
  refine z_aload_n dX7_isBridge_19 rfl rfl ?_
  refine z_getr dX7_isBridge_20 fl_X7_53 lo1_0 rfl ?_
  refine z_aload_n dX7_isBridge_23 rfl rfl ?_
  refine z_getr dX7_isBridge_24 fl_X7_20 lo1_0 rfl ?_
  refine z_iload_n dX7_isBridge_27 rfl rfl ?_
  refine z_iald dX7_isBridge_28 lo1_4 ⟨k.1, ?_⟩
  replace k := k.2
  refine z_zald dX7_isBridge_29 lo1_15 ⟨k.1, ?_⟩
  replace k := k.2
  refine z_if_ne 37 dX7_isBridge_30 (by decide) ⟨fun h1 => ?_, fun h1 => ?_⟩
  · replace k := k.1 h1
    refine z_iconst (v := 0) dX7_isBridge_37 (by decide) ?_
    exact z_zreturn (st := []) rfl rfl dX7_isBridge_38 ⟨_, rfl, k⟩
  · replace k := k.2 h1
    refine z_iconst (v := 1) dX7_isBridge_33 (by decide) ?_
    refine z_goto 38 dX7_isBridge_34 (by decide) ?_
    exact z_zreturn (st := []) rfl rfl dX7_isBridge_38 ⟨_, rfl, k⟩

set_option maxRecDepth 100000 in
set_option maxHeartbeats 4000000 in
theorem r_X7_told_0 {P : Int32 → zM → Prop} (x1 : Int32) (x2 : Int32) (F : Nat → Int32) (I : Nat → Nat → Int32) (J : Nat → Nat → Int64)
  (k : ((x1 < 0 → P (-2) (F, I, J)) ∧ (¬ x1 < 0 → ((x1 < (F 1) → ((x2 = 0 → vp_in x1 300 ∧ P (I 3 (zn x1)) (F, I, J)) ∧ (¬ x2 = 0 → ((x2 = 1 → vp_in x1 300 ∧ P (I 1 (zn x1)) (F, I, J)) ∧ (¬ x2 = 1 → ((x2 = 2 → vp_in x1 300 ∧ P (I 2 (zn x1)) (F, I, J)) ∧ (¬ x2 = 2 → ((x2 = 3 → vp_in x1 300 ∧ P (I 4 (zn x1)) (F, I, J)) ∧ (¬ x2 = 3 → ((x2 = 4 → vp_in x1 300 ∧ (((I 3 (zn x1)) = 0 → P 0 (F, I, J)) ∧ (¬ (I 3 (zn x1)) = 0 → AMi m_X7_isBridge [.ref 0, .int x1] (F, I, J) (fun r91 M91 => ((r91 = 0 → P 0 M91) ∧ (¬ r91 = 0 → P 1 M91)))))) ∧ (¬ x2 = 4 → P (-2) (F, I, J)))))))))))) ∧ (¬ x1 < (F 1) → P (-2) (F, I, J)))))) :
  AMi m_X7_told [.ref 0, .int x1, .int x2] (F, I, J) P := by
  refine z_entry (pad := 0) [some (.ref 0), some (.int x1), some (.int x2)] (by decide) rfl rfl (fun _ => Nat.le_of_ble_eq_true rfl) ?_
  refine z_iload_n dX7_told_0 rfl rfl ?_
  refine z_if_lt 12 dX7_told_1 (by decide) ⟨fun h1 => ?_, fun h1 => ?_⟩
  · replace k := k.1 h1
    refine z_bipush (v := (-2)) dX7_told_12 (by decide) ?_
    exact z_ireturn (st := []) rfl dX7_told_14 ⟨_, rfl, k⟩
  · replace k := k.2 h1
    refine z_iload_n dX7_told_4 rfl rfl ?_
    refine z_aload_n dX7_told_5 rfl rfl ?_
    refine z_geti dX7_told_6 fl_X7_88 lo1_0 rfl ?_
    refine z_icmp_lt 15 dX7_told_9 (by decide) ⟨fun h2 => ?_, fun h2 => ?_⟩
    · replace k := k.1 h2
      refine z_iload_n dX7_told_15 rfl rfl ?_
      refine z_case 0 x2 ⟨fun h3 => ?_, fun h3 => ?_⟩
      · replace k := k.1 h3
        refine z_tin (off := 36) 52 dX7_told_16 (by (try dsimp only); rw [h3]; decide) (by (try dsimp only); rw [h3]; decide) (by (try dsimp only); rw [h3]; decide) (by decide) ?_
        refine z_aload_n dX7_told_52 rfl rfl ?_
        refine z_getr dX7_told_53 fl_X7_23 lo1_0 rfl ?_
        refine z_iload_n dX7_told_56 rfl rfl ?_
        refine z_iald dX7_told_57 lo1_5 ⟨k.1, ?_⟩
        replace k := k.2
        exact z_ireturn (st := []) rfl dX7_told_58 ⟨_, rfl, k⟩
      replace k := k.2 h3
      refine z_case 1 x2 ⟨fun h4 => ?_, fun h4 => ?_⟩
      · replace k := k.1 h4
        refine z_tin (off := 43) 59 dX7_told_16 (by (try dsimp only); rw [h4]; decide) (by (try dsimp only); rw [h4]; decide) (by (try dsimp only); rw [h4]; decide) (by decide) ?_
        refine z_aload_n dX7_told_59 rfl rfl ?_
        refine z_getr dX7_told_60 fl_X7_17 lo1_0 rfl ?_
        refine z_iload_n dX7_told_63 rfl rfl ?_
        refine z_iald dX7_told_64 lo1_3 ⟨k.1, ?_⟩
        replace k := k.2
        exact z_ireturn (st := []) rfl dX7_told_65 ⟨_, rfl, k⟩
      replace k := k.2 h4
      refine z_case 2 x2 ⟨fun h5 => ?_, fun h5 => ?_⟩
      · replace k := k.1 h5
        refine z_tin (off := 50) 66 dX7_told_16 (by (try dsimp only); rw [h5]; decide) (by (try dsimp only); rw [h5]; decide) (by (try dsimp only); rw [h5]; decide) (by decide) ?_
        refine z_aload_n dX7_told_66 rfl rfl ?_
        refine z_getr dX7_told_67 fl_X7_20 lo1_0 rfl ?_
        refine z_iload_n dX7_told_70 rfl rfl ?_
        refine z_iald dX7_told_71 lo1_4 ⟨k.1, ?_⟩
        replace k := k.2
        exact z_ireturn (st := []) rfl dX7_told_72 ⟨_, rfl, k⟩
      replace k := k.2 h5
      refine z_case 3 x2 ⟨fun h6 => ?_, fun h6 => ?_⟩
      · replace k := k.1 h6
        refine z_tin (off := 57) 73 dX7_told_16 (by (try dsimp only); rw [h6]; decide) (by (try dsimp only); rw [h6]; decide) (by (try dsimp only); rw [h6]; decide) (by decide) ?_
        refine z_aload_n dX7_told_73 rfl rfl ?_
        refine z_getr dX7_told_74 fl_X7_26 lo1_0 rfl ?_
        refine z_iload_n dX7_told_77 rfl rfl ?_
        refine z_iald dX7_told_78 lo1_6 ⟨k.1, ?_⟩
        replace k := k.2
        exact z_ireturn (st := []) rfl dX7_told_79 ⟨_, rfl, k⟩
      replace k := k.2 h6
      refine z_case 4 x2 ⟨fun h7 => ?_, fun h7 => ?_⟩
      · replace k := k.1 h7
        refine z_tin (off := 64) 80 dX7_told_16 (by (try dsimp only); rw [h7]; decide) (by (try dsimp only); rw [h7]; decide) (by (try dsimp only); rw [h7]; decide) (by decide) ?_
        refine z_aload_n dX7_told_80 rfl rfl ?_
        refine z_getr dX7_told_81 fl_X7_23 lo1_0 rfl ?_
        refine z_iload_n dX7_told_84 rfl rfl ?_
        refine z_iald dX7_told_85 lo1_5 ⟨k.1, ?_⟩
        replace k := k.2
        refine z_if_eq 101 dX7_told_86 (by decide) ⟨fun h8 => ?_, fun h8 => ?_⟩
        · replace k := k.1 h8
          refine z_iconst (v := 0) dX7_told_101 (by decide) ?_
          exact z_ireturn (st := []) rfl dX7_told_102 ⟨_, rfl, k⟩
        · replace k := k.2 h8
          refine z_aload_n dX7_told_89 rfl rfl ?_
          refine z_iload_n dX7_told_90 rfl rfl ?_
          refine z_calli (I := m_X7_told) (I2 := m_X7_isBridge) (st := []) [.int x1] dX7_told_91 ml_X7_158 rfl (by decide) lo1_0 rfl (Nat.le_of_ble_eq_true rfl) rfl (AMi.mono k (fun r91 M91 k => ?_))
          refine z_if_eq 101 dX7_told_94 (by decide) ⟨fun h9 => ?_, fun h9 => ?_⟩
          · replace k := k.1 h9
            refine z_iconst (v := 0) dX7_told_101 (by decide) ?_
            exact z_ireturn (st := []) rfl dX7_told_102 ⟨_, rfl, k⟩
          · replace k := k.2 h9
            refine z_iconst (v := 1) dX7_told_97 (by decide) ?_
            refine z_goto 102 dX7_told_98 (by decide) ?_
            exact z_ireturn (st := []) rfl dX7_told_102 ⟨_, rfl, k⟩
      replace k := k.2 h7
      have eh3 := lv_neT h3 (a := 0) (by decide)
      have eh4 := lv_neT h4 (a := 1) (by decide)
      have eh5 := lv_neT h5 (a := 2) (by decide)
      have eh6 := lv_neT h6 (a := 3) (by decide)
      have eh7 := lv_neT h7 (a := 4) (by decide)
      refine z_tout 103 dX7_told_16 (by omega) (by decide) ?_
      refine z_bipush (v := (-2)) dX7_told_103 (by decide) ?_
      exact z_ireturn (st := []) rfl dX7_told_105 ⟨_, rfl, k⟩
    · replace k := k.2 h2
      refine z_bipush (v := (-2)) dX7_told_12 (by decide) ?_
      exact z_ireturn (st := []) rfl dX7_told_14 ⟨_, rfl, k⟩

set_option maxRecDepth 100000 in
set_option maxHeartbeats 4000000 in
theorem r_X7_weight_0 {P : Int64 → zM → Prop} (x1 : Int32) (F : Nat → Int32) (I : Nat → Nat → Int32) (J : Nat → Nat → Int64)
  (k : ((x1 < 0 → P (-4611686018427387904) (F, I, J)) ∧ (¬ x1 < 0 → ((x1 < (F 1) → vp_in x1 300 ∧ P (J 1 (zn x1)) (F, I, J)) ∧ (¬ x1 < (F 1) → P (-4611686018427387904) (F, I, J)))))) :
  AMl m_X7_weight [.ref 0, .int x1] (F, I, J) P := by
  refine z_entry (pad := 0) [some (.ref 0), some (.int x1)] (by decide) rfl rfl (fun _ => Nat.le_of_ble_eq_true rfl) ?_
  refine z_iload_n dX7_weight_0 rfl rfl ?_
  refine z_if_lt 12 dX7_weight_1 (by decide) ⟨fun h1 => ?_, fun h1 => ?_⟩
  · replace k := k.1 h1
    refine z_ldc2 dX7_weight_12 lc_X7_161 ?_
    refine z_goto 24 dX7_weight_15 (by decide) ?_
    exact z_lreturn (st := []) rfl dX7_weight_24 ⟨_, rfl, k⟩
  · replace k := k.2 h1
    refine z_iload_n dX7_weight_4 rfl rfl ?_
    refine z_aload_n dX7_weight_5 rfl rfl ?_
    refine z_geti dX7_weight_6 fl_X7_88 lo1_0 rfl ?_
    refine z_icmp_lt 18 dX7_weight_9 (by decide) ⟨fun h2 => ?_, fun h2 => ?_⟩
    · replace k := k.1 h2
      refine z_aload_n dX7_weight_18 rfl rfl ?_
      refine z_getr dX7_weight_19 fl_X7_29 lo1_0 rfl ?_
      refine z_iload_n dX7_weight_22 rfl rfl ?_
      refine z_lald dX7_weight_23 lo1_7 ⟨k.1, ?_⟩
      replace k := k.2
      exact z_lreturn (st := []) rfl dX7_weight_24 ⟨_, rfl, k⟩
    · replace k := k.2 h2
      refine z_ldc2 dX7_weight_12 lc_X7_161 ?_
      refine z_goto 24 dX7_weight_15 (by decide) ?_
      exact z_lreturn (st := []) rfl dX7_weight_24 ⟨_, rfl, k⟩

set_option maxRecDepth 100000 in
set_option maxHeartbeats 4000000 in
theorem r_X7_isCut_0 {P : Int32 → zM → Prop} (x1 : Int32) (F : Nat → Int32) (I : Nat → Nat → Int32) (J : Nat → Nat → Int64)
  (k : AMi m_X7_reach [.ref 0, .int x1, .int 0, .ref 16, .int 1, .int (-1), .int (-1)] (F, I, J) (fun r10 M10 => AW m_X7_isCut (z_pi P) 21 [some (.ref 0), some (.int x1), some (.int (-1)), some (.int 0), some (.int 0)] [] M10)) :
  AMi m_X7_isCut [.ref 0, .int x1] (F, I, J) P := by
  refine z_entry (pad := 3) [some (.ref 0), some (.int x1), none, none, none] (by decide) rfl rfl (fun _ => Nat.le_of_ble_eq_true rfl) ?_
  refine z_aload_n dX7_isCut_0 rfl rfl ?_
  refine z_iload_n dX7_isCut_1 rfl rfl ?_
  refine z_iconst (v := 0) dX7_isCut_2 (by decide) ?_
  refine z_aload_n dX7_isCut_3 rfl rfl ?_
  refine z_getr dX7_isCut_4 fl_X7_57 lo1_0 rfl ?_
  refine z_iconst (v := 1) dX7_isCut_7 (by decide) ?_
  refine z_iconst (v := (-1)) dX7_isCut_8 (by decide) ?_
  refine z_iconst (v := (-1)) dX7_isCut_9 (by decide) ?_
  refine z_calli (I := m_X7_isCut) (I2 := m_X7_reach) (st := []) [.int x1, .int 0, .ref 16, .int 1, .int (-1), .int (-1)] dX7_isCut_10 ml_X7_111 rfl (by decide) lo1_0 rfl (Nat.le_of_ble_eq_true rfl) rfl (AMi.mono k (fun r10 M10 k => ?_))
  refine z_pop dX7_isCut_13 rfl ?_
  refine z_iconst (v := (-1)) dX7_isCut_14 (by decide) ?_
  refine z_istore_n dX7_isCut_15 rfl (by decide) rfl ?_
  refine z_iconst (v := 0) dX7_isCut_16 (by decide) ?_
  refine z_istore_n dX7_isCut_17 rfl (by decide) rfl ?_
  refine z_iconst (v := 0) dX7_isCut_18 (by decide) ?_
  refine z_istore dX7_isCut_19 (by decide) rfl ?_
  exact k

set_option maxRecDepth 100000 in
set_option maxHeartbeats 4000000 in
theorem r_X7_isCut_21 {P : Int32 → zM → Prop} (x1 : Int32) (x2 : Int32) (x3 : Int32) (x4 : Int32) (F : Nat → Int32) (I : Nat → Nat → Int32) (J : Nat → Nat → Int64)
  (k : (((F 0) ≤ x4 → ((x3 ≤ 1 → P 0 (F, I, J)) ∧ (¬ x3 ≤ 1 → AMi m_X7_reach [.ref 0, .int x2, .int 0, .ref 15, .int 1, .int (-1), .int x1] (F, I, J) (fun r81 M81 => ((x3 ≤ r81 → P 0 M81) ∧ (¬ x3 ≤ r81 → P 1 M81)))))) ∧ (¬ (F 0) ≤ x4 → vp_in x4 100 ∧ (((I 12 (zn x4)) = 0 → AW m_X7_isCut (z_pi P) 21 [some (.ref 0), some (.int x1), some (.int x2), some (.int x3), some (.int (x4 + 1))] [] (F, I, J)) ∧ (¬ (I 12 (zn x4)) = 0 → ((¬ x4 = x1 → ((¬ x2 = (-1) → AW m_X7_isCut (z_pi P) 21 [some (.ref 0), some (.int x1), some (.int x2), some (.int (x3 + 1)), some (.int (x4 + 1))] [] (F, I, J)) ∧ (x2 = (-1) → AW m_X7_isCut (z_pi P) 21 [some (.ref 0), some (.int x1), some (.int x4), some (.int (x3 + 1)), some (.int (x4 + 1))] [] (F, I, J)))) ∧ (x4 = x1 → AW m_X7_isCut (z_pi P) 21 [some (.ref 0), some (.int x1), some (.int x2), some (.int x3), some (.int (x4 + 1))] [] (F, I, J)))))))) :
  AW m_X7_isCut (z_pi P) 21 [some (.ref 0), some (.int x1), some (.int x2), some (.int x3), some (.int x4)] [] (F, I, J) := by
  refine z_iload dX7_isCut_21 rfl ?_
  refine z_aload_n dX7_isCut_23 rfl rfl ?_
  refine z_geti dX7_isCut_24 fl_X7_84 lo1_0 rfl ?_
  refine z_icmp_ge 66 dX7_isCut_27 (by decide) ⟨fun h1 => ?_, fun h1 => ?_⟩
  · replace k := k.1 h1
    refine z_iload_n dX7_isCut_66 rfl rfl ?_
    refine z_iconst (v := 1) dX7_isCut_67 (by decide) ?_
    refine z_icmp_le 92 dX7_isCut_68 (by decide) ⟨fun h2 => ?_, fun h2 => ?_⟩
    · replace k := k.1 h2
      refine z_iconst (v := 0) dX7_isCut_92 (by decide) ?_
      exact z_zreturn (st := []) rfl rfl dX7_isCut_93 ⟨_, rfl, k⟩
    · replace k := k.2 h2
      refine z_aload_n dX7_isCut_71 rfl rfl ?_
      refine z_iload_n dX7_isCut_72 rfl rfl ?_
      refine z_iconst (v := 0) dX7_isCut_73 (by decide) ?_
      refine z_aload_n dX7_isCut_74 rfl rfl ?_
      refine z_getr dX7_isCut_75 fl_X7_53 lo1_0 rfl ?_
      refine z_iconst (v := 1) dX7_isCut_78 (by decide) ?_
      refine z_iconst (v := (-1)) dX7_isCut_79 (by decide) ?_
      refine z_iload_n dX7_isCut_80 rfl rfl ?_
      refine z_calli (I := m_X7_isCut) (I2 := m_X7_reach) (st := []) [.int x2, .int 0, .ref 15, .int 1, .int (-1), .int x1] dX7_isCut_81 ml_X7_111 rfl (by decide) lo1_0 rfl (Nat.le_of_ble_eq_true rfl) rfl (AMi.mono k (fun r81 M81 k => ?_))
      refine z_iload_n dX7_isCut_84 rfl rfl ?_
      refine z_icmp_ge 92 dX7_isCut_85 (by decide) ⟨fun h3 => ?_, fun h3 => ?_⟩
      · replace k := k.1 h3
        refine z_iconst (v := 0) dX7_isCut_92 (by decide) ?_
        exact z_zreturn (st := []) rfl rfl dX7_isCut_93 ⟨_, rfl, k⟩
      · replace k := k.2 h3
        refine z_iconst (v := 1) dX7_isCut_88 (by decide) ?_
        refine z_goto 93 dX7_isCut_89 (by decide) ?_
        exact z_zreturn (st := []) rfl rfl dX7_isCut_93 ⟨_, rfl, k⟩
  · replace k := k.2 h1
    refine z_aload_n dX7_isCut_30 rfl rfl ?_
    refine z_getr dX7_isCut_31 fl_X7_57 lo1_0 rfl ?_
    refine z_iload dX7_isCut_34 rfl ?_
    refine z_zald dX7_isCut_36 lo1_16 ⟨k.1, ?_⟩
    replace k := k.2
    refine z_if_eq 60 dX7_isCut_37 (by decide) ⟨fun h4 => ?_, fun h4 => ?_⟩
    · replace k := k.1 h4
      refine z_iinc (v := (x4 + 1)) dX7_isCut_60 rfl rfl (by decide) rfl ?_
      refine z_goto 21 dX7_isCut_63 (by decide) ?_
      exact k
    · replace k := k.2 h4
      refine z_iload dX7_isCut_40 rfl ?_
      refine z_iload_n dX7_isCut_42 rfl rfl ?_
      refine z_icmp_ne 49 dX7_isCut_43 (by decide) ⟨fun h5 => ?_, fun h5 => ?_⟩
      · replace k := k.1 h5
        refine z_iload_n dX7_isCut_49 rfl rfl ?_
        refine z_iconst (v := (-1)) dX7_isCut_50 (by decide) ?_
        refine z_icmp_ne 57 dX7_isCut_51 (by decide) ⟨fun h6 => ?_, fun h6 => ?_⟩
        · replace k := k.1 h6
          refine z_iinc (v := (x3 + 1)) dX7_isCut_57 rfl rfl (by decide) rfl ?_
          refine z_iinc (v := (x4 + 1)) dX7_isCut_60 rfl rfl (by decide) rfl ?_
          refine z_goto 21 dX7_isCut_63 (by decide) ?_
          exact k
        · replace k := k.2 h6
          refine z_iload dX7_isCut_54 rfl ?_
          refine z_istore_n dX7_isCut_56 rfl (by decide) rfl ?_
          refine z_iinc (v := (x3 + 1)) dX7_isCut_57 rfl rfl (by decide) rfl ?_
          refine z_iinc (v := (x4 + 1)) dX7_isCut_60 rfl rfl (by decide) rfl ?_
          refine z_goto 21 dX7_isCut_63 (by decide) ?_
          exact k
      · replace k := k.2 h5
        refine z_goto 60 dX7_isCut_46 (by decide) ?_
        refine z_iinc (v := (x4 + 1)) dX7_isCut_60 rfl rfl (by decide) rfl ?_
        refine z_goto 21 dX7_isCut_63 (by decide) ?_
        exact k

set_option maxRecDepth 100000 in
set_option maxHeartbeats 4000000 in
theorem r_X7_parts_0 {P : Int32 → zM → Prop}  (F : Nat → Int32) (I : Nat → Nat → Int32) (J : Nat → Nat → Int64)
  (k : AW m_X7_parts (z_pi P) 4 [some (.ref 0), some (.int 0), some (.int 0), none, none] [] (F, I, J)) :
  AMi m_X7_parts [.ref 0] (F, I, J) P := by
  refine z_entry (pad := 4) [some (.ref 0), none, none, none, none] (by decide) rfl rfl (fun _ => Nat.le_of_ble_eq_true rfl) ?_
  refine z_iconst (v := 0) dX7_parts_0 (by decide) ?_
  refine z_istore_n dX7_parts_1 rfl (by decide) rfl ?_
  refine z_iconst (v := 0) dX7_parts_2 (by decide) ?_
  refine z_istore_n dX7_parts_3 rfl (by decide) rfl ?_
  exact k

set_option maxRecDepth 100000 in
set_option maxHeartbeats 4000000 in
theorem r_X7_parts_4 {P : Int32 → zM → Prop} (x1 : Int32) (x2 : Int32) (F : Nat → Int32) (I : Nat → Nat → Int32) (J : Nat → Nat → Int64)
  (k : (((F 0) ≤ x2 → P x1 (F, I, J)) ∧ (¬ (F 0) ≤ x2 → AMi m_X7_part [.ref 0, .int x2] (F, I, J) (fun r14 M14 => AW m_X7_parts (z_pi P) 23 [some (.ref 0), some (.int x1), some (.int x2), some (.int 1), some (.int 0)] [] M14)))) :
  AW m_X7_parts (z_pi P) 4 [some (.ref 0), some (.int x1), some (.int x2), none, none] [] (F, I, J) := by
  refine z_iload_n dX7_parts_4 rfl rfl ?_
  refine z_aload_n dX7_parts_5 rfl rfl ?_
  refine z_geti dX7_parts_6 fl_X7_84 lo1_0 rfl ?_
  refine z_icmp_ge 60 dX7_parts_9 (by decide) ⟨fun h1 => ?_, fun h1 => ?_⟩
  · replace k := k.1 h1
    refine z_iload_n dX7_parts_60 rfl rfl ?_
    exact z_ireturn (st := []) rfl dX7_parts_61 ⟨_, rfl, k⟩
  · replace k := k.2 h1
    refine z_aload_n dX7_parts_12 rfl rfl ?_
    refine z_iload_n dX7_parts_13 rfl rfl ?_
    refine z_calli (I := m_X7_parts) (I2 := m_X7_part) (st := []) [.int x2] dX7_parts_14 ml_X7_115 rfl (by decide) lo1_0 rfl (Nat.le_of_ble_eq_true rfl) rfl (AMi.mono k (fun r14 M14 k => ?_))
    refine z_pop dX7_parts_17 rfl ?_
    refine z_iconst (v := 1) dX7_parts_18 (by decide) ?_
    refine z_istore_n dX7_parts_19 rfl (by decide) rfl ?_
    refine z_iconst (v := 0) dX7_parts_20 (by decide) ?_
    refine z_istore dX7_parts_21 (by decide) rfl ?_
    exact k

set_option maxRecDepth 100000 in
set_option maxHeartbeats 4000000 in
theorem r_X7_parts_23 {P : Int32 → zM → Prop} (x1 : Int32) (x2 : Int32) (x3 : Int32) (x4 : Int32) (F : Nat → Int32) (I : Nat → Nat → Int32) (J : Nat → Nat → Int64)
  (k : ((x2 ≤ x4 → ((x3 = 0 → AW m_X7_parts (z_pi P) 4 [some (.ref 0), some (.int x1), some (.int (x2 + 1)), none, none] [] (F, I, J)) ∧ (¬ x3 = 0 → AW m_X7_parts (z_pi P) 4 [some (.ref 0), some (.int (x1 + 1)), some (.int (x2 + 1)), none, none] [] (F, I, J)))) ∧ (¬ x2 ≤ x4 → vp_in x4 100 ∧ (((I 11 (zn x4)) = 0 → AW m_X7_parts (z_pi P) 23 [some (.ref 0), some (.int x1), some (.int x2), some (.int x3), some (.int (x4 + 1))] [] (F, I, J)) ∧ (¬ (I 11 (zn x4)) = 0 → AW m_X7_parts (z_pi P) 23 [some (.ref 0), some (.int x1), some (.int x2), some (.int 0), some (.int (x4 + 1))] [] (F, I, J)))))) :
  AW m_X7_parts (z_pi P) 23 [some (.ref 0), some (.int x1), some (.int x2), some (.int x3), some (.int x4)] [] (F, I, J) := by
  refine z_iload dX7_parts_23 rfl ?_
  refine z_iload_n dX7_parts_25 rfl rfl ?_
  refine z_icmp_ge 47 dX7_parts_26 (by decide) ⟨fun h1 => ?_, fun h1 => ?_⟩
  · replace k := k.1 h1
    refine z_iload_n dX7_parts_47 rfl rfl ?_
    refine z_if_eq 54 dX7_parts_48 (by decide) ⟨fun h2 => ?_, fun h2 => ?_⟩
    · replace k := k.1 h2
      refine z_iinc (v := (x2 + 1)) dX7_parts_54 rfl rfl (by decide) rfl ?_
      refine z_goto 4 dX7_parts_57 (by decide) ?_
      refine z_wk [some (.ref 0), some (.int x1), some (.int (x2 + 1)), none, none] (z_le_some (z_le_some (z_le_some (z_le_none (z_le_none z_le_nil))))) ?_
      exact k
    · replace k := k.2 h2
      refine z_iinc (v := (x1 + 1)) dX7_parts_51 rfl rfl (by decide) rfl ?_
      refine z_iinc (v := (x2 + 1)) dX7_parts_54 rfl rfl (by decide) rfl ?_
      refine z_goto 4 dX7_parts_57 (by decide) ?_
      refine z_wk [some (.ref 0), some (.int (x1 + 1)), some (.int (x2 + 1)), none, none] (z_le_some (z_le_some (z_le_some (z_le_none (z_le_none z_le_nil))))) ?_
      exact k
  · replace k := k.2 h1
    refine z_aload_n dX7_parts_29 rfl rfl ?_
    refine z_getr dX7_parts_30 fl_X7_53 lo1_0 rfl ?_
    refine z_iload dX7_parts_33 rfl ?_
    refine z_zald dX7_parts_35 lo1_15 ⟨k.1, ?_⟩
    replace k := k.2
    refine z_if_eq 41 dX7_parts_36 (by decide) ⟨fun h3 => ?_, fun h3 => ?_⟩
    · replace k := k.1 h3
      refine z_iinc (v := (x4 + 1)) dX7_parts_41 rfl rfl (by decide) rfl ?_
      refine z_goto 23 dX7_parts_44 (by decide) ?_
      exact k
    · replace k := k.2 h3
      refine z_iconst (v := 0) dX7_parts_39 (by decide) ?_
      refine z_istore_n dX7_parts_40 rfl (by decide) rfl ?_
      refine z_iinc (v := (x4 + 1)) dX7_parts_41 rfl rfl (by decide) rfl ?_
      refine z_goto 23 dX7_parts_44 (by decide) ?_
      exact k

set_option maxRecDepth 100000 in
set_option maxHeartbeats 4000000 in
theorem r_X7_count_0 {P : Int32 → zM → Prop} (x1 : Int32) (F : Nat → Int32) (I : Nat → Nat → Int32) (J : Nat → Nat → Int64)
  (k : ((x1 = 0 → P (F 0) (F, I, J)) ∧ (¬ x1 = 0 → ((x1 = 1 → P (F 1) (F, I, J)) ∧ (¬ x1 = 1 → ((x1 = 2 → AW m_X7_count (z_pi P) 64 [some (.ref 0), some (.int x1), some (.int 0), some (.int 0)] [] (F, I, J)) ∧ (¬ x1 = 2 → ((x1 = 3 → AW m_X7_count (z_pi P) 64 [some (.ref 0), some (.int x1), some (.int 0), some (.int 0)] [] (F, I, J)) ∧ (¬ x1 = 3 → ((x1 = 4 → AMi m_X7_parts [.ref 0] (F, I, J) (fun r96 M96 => P r96 M96)) ∧ (¬ x1 = 4 → ((x1 = 5 → AW m_X7_count (z_pi P) 102 [some (.ref 0), none, some (.int 0), some (.int 0)] [] (F, I, J)) ∧ (¬ x1 = 5 → ((x1 = 6 → AW m_X7_count (z_pi P) 140 [some (.ref 0), none, some (.int 0), some (.int 0)] [] (F, I, J)) ∧ (¬ x1 = 6 → ((x1 = 7 → P (F 5) (F, I, J)) ∧ (¬ x1 = 7 → ((x1 = 8 → P (F 4) (F, I, J)) ∧ (¬ x1 = 8 → P (-2) (F, I, J)))))))))))))))))))) :
  AMi m_X7_count [.ref 0, .int x1] (F, I, J) P := by
  refine z_entry (pad := 2) [some (.ref 0), some (.int x1), none, none] (by decide) rfl rfl (fun _ => Nat.le_of_ble_eq_true rfl) ?_
  refine z_iconst (v := 0) dX7_count_0 (by decide) ?_
  refine z_istore_n dX7_count_1 rfl (by decide) rfl ?_
  refine z_iload_n dX7_count_2 rfl rfl ?_
  refine z_case 0 x1 ⟨fun h1 => ?_, fun h1 => ?_⟩
  · replace k := k.1 h1
    refine z_tin (off := 49) 52 dX7_count_3 (by (try dsimp only); rw [h1]; decide) (by (try dsimp only); rw [h1]; decide) (by (try dsimp only); rw [h1]; decide) (by decide) ?_
    refine z_aload_n dX7_count_52 rfl rfl ?_
    refine z_geti dX7_count_53 fl_X7_84 lo1_0 rfl ?_
    exact z_ireturn (st := []) rfl dX7_count_56 ⟨_, rfl, k⟩
  replace k := k.2 h1
  refine z_case 1 x1 ⟨fun h2 => ?_, fun h2 => ?_⟩
  · replace k := k.1 h2
    refine z_tin (off := 54) 57 dX7_count_3 (by (try dsimp only); rw [h2]; decide) (by (try dsimp only); rw [h2]; decide) (by (try dsimp only); rw [h2]; decide) (by decide) ?_
    refine z_aload_n dX7_count_57 rfl rfl ?_
    refine z_geti dX7_count_58 fl_X7_88 lo1_0 rfl ?_
    exact z_ireturn (st := []) rfl dX7_count_61 ⟨_, rfl, k⟩
  replace k := k.2 h2
  refine z_case 2 x1 ⟨fun h3 => ?_, fun h3 => ?_⟩
  · replace k := k.1 h3
    refine z_tin (off := 59) 62 dX7_count_3 (by (try dsimp only); rw [h3]; decide) (by (try dsimp only); rw [h3]; decide) (by (try dsimp only); rw [h3]; decide) (by decide) ?_
    refine z_iconst (v := 0) dX7_count_62 (by decide) ?_
    refine z_istore_n dX7_count_63 rfl (by decide) rfl ?_
    exact k
  replace k := k.2 h3
  refine z_case 3 x1 ⟨fun h4 => ?_, fun h4 => ?_⟩
  · replace k := k.1 h4
    refine z_tin (off := 59) 62 dX7_count_3 (by (try dsimp only); rw [h4]; decide) (by (try dsimp only); rw [h4]; decide) (by (try dsimp only); rw [h4]; decide) (by decide) ?_
    refine z_iconst (v := 0) dX7_count_62 (by decide) ?_
    refine z_istore_n dX7_count_63 rfl (by decide) rfl ?_
    exact k
  replace k := k.2 h4
  refine z_case 4 x1 ⟨fun h5 => ?_, fun h5 => ?_⟩
  · replace k := k.1 h5
    refine z_tin (off := 92) 95 dX7_count_3 (by (try dsimp only); rw [h5]; decide) (by (try dsimp only); rw [h5]; decide) (by (try dsimp only); rw [h5]; decide) (by decide) ?_
    refine z_aload_n dX7_count_95 rfl rfl ?_
    refine z_calli (I := m_X7_count) (I2 := m_X7_parts) (st := []) [] dX7_count_96 ml_X7_163 rfl (by decide) lo1_0 rfl (Nat.le_of_ble_eq_true rfl) rfl (AMi.mono k (fun r96 M96 k => ?_))
    exact z_ireturn (st := []) rfl dX7_count_99 ⟨_, rfl, k⟩
  replace k := k.2 h5
  refine z_case 5 x1 ⟨fun h6 => ?_, fun h6 => ?_⟩
  · replace k := k.1 h6
    refine z_tin (off := 97) 100 dX7_count_3 (by (try dsimp only); rw [h6]; decide) (by (try dsimp only); rw [h6]; decide) (by (try dsimp only); rw [h6]; decide) (by decide) ?_
    refine z_iconst (v := 0) dX7_count_100 (by decide) ?_
    refine z_istore_n dX7_count_101 rfl (by decide) rfl ?_
    refine z_wk [some (.ref 0), none, some (.int 0), some (.int 0)] (z_le_some (z_le_none (z_le_some (z_le_some z_le_nil)))) ?_
    exact k
  replace k := k.2 h6
  refine z_case 6 x1 ⟨fun h7 => ?_, fun h7 => ?_⟩
  · replace k := k.1 h7
    refine z_tin (off := 135) 138 dX7_count_3 (by (try dsimp only); rw [h7]; decide) (by (try dsimp only); rw [h7]; decide) (by (try dsimp only); rw [h7]; decide) (by decide) ?_
    refine z_iconst (v := 0) dX7_count_138 (by decide) ?_
    refine z_istore_n dX7_count_139 rfl (by decide) rfl ?_
    refine z_wk [some (.ref 0), none, some (.int 0), some (.int 0)] (z_le_some (z_le_none (z_le_some (z_le_some z_le_nil)))) ?_
    exact k
  replace k := k.2 h7
  refine z_case 7 x1 ⟨fun h8 => ?_, fun h8 => ?_⟩
  · replace k := k.1 h8
    refine z_tin (off := 164) 167 dX7_count_3 (by (try dsimp only); rw [h8]; decide) (by (try dsimp only); rw [h8]; decide) (by (try dsimp only); rw [h8]; decide) (by decide) ?_
    refine z_aload_n dX7_count_167 rfl rfl ?_
    refine z_geti dX7_count_168 fl_X7_97 lo1_0 rfl ?_
    exact z_ireturn (st := []) rfl dX7_count_171 ⟨_, rfl, k⟩
  replace k := k.2 h8
  refine z_case 8 x1 ⟨fun h9 => ?_, fun h9 => ?_⟩
  · replace k := k.1 h9
    refine z_tin (off := 169) 172 dX7_count_3 (by (try dsimp only); rw [h9]; decide) (by (try dsimp only); rw [h9]; decide) (by (try dsimp only); rw [h9]; decide) (by decide) ?_
    refine z_aload_n dX7_count_172 rfl rfl ?_
    refine z_geti dX7_count_173 fl_X7_94 lo1_0 rfl ?_
    exact z_ireturn (st := []) rfl dX7_count_176 ⟨_, rfl, k⟩
  replace k := k.2 h9
  have eh1 := lv_neT h1 (a := 0) (by decide)
  have eh2 := lv_neT h2 (a := 1) (by decide)
  have eh3 := lv_neT h3 (a := 2) (by decide)
  have eh4 := lv_neT h4 (a := 3) (by decide)
  have eh5 := lv_neT h5 (a := 4) (by decide)
  have eh6 := lv_neT h6 (a := 5) (by decide)
  have eh7 := lv_neT h7 (a := 6) (by decide)
  have eh8 := lv_neT h8 (a := 7) (by decide)
  have eh9 := lv_neT h9 (a := 8) (by decide)
  refine z_tout 177 dX7_count_3 (by omega) (by decide) ?_
  refine z_bipush (v := (-2)) dX7_count_177 (by decide) ?_
  exact z_ireturn (st := []) rfl dX7_count_179 ⟨_, rfl, k⟩

set_option maxRecDepth 100000 in
set_option maxHeartbeats 4000000 in
theorem r_X7_count_64 {P : Int32 → zM → Prop} (x1 : Int32) (x2 : Int32) (x3 : Int32) (F : Nat → Int32) (I : Nat → Nat → Int32) (J : Nat → Nat → Int64)
  (k : (((F 1) ≤ x3 → P x2 (F, I, J)) ∧ (¬ (F 1) ≤ x3 → vp_in x3 300 ∧ ((¬ (I 3 (zn x3)) = (x1 - 1) → AW m_X7_count (z_pi P) 64 [some (.ref 0), some (.int x1), some (.int x2), some (.int (x3 + 1))] [] (F, I, J)) ∧ ((I 3 (zn x3)) = (x1 - 1) → AW m_X7_count (z_pi P) 64 [some (.ref 0), some (.int x1), some (.int (x2 + 1)), some (.int (x3 + 1))] [] (F, I, J)))))) :
  AW m_X7_count (z_pi P) 64 [some (.ref 0), some (.int x1), some (.int x2), some (.int x3)] [] (F, I, J) := by
  refine z_iload_n dX7_count_64 rfl rfl ?_
  refine z_aload_n dX7_count_65 rfl rfl ?_
  refine z_geti dX7_count_66 fl_X7_88 lo1_0 rfl ?_
  refine z_icmp_ge 93 dX7_count_69 (by decide) ⟨fun h1 => ?_, fun h1 => ?_⟩
  · replace k := k.1 h1
    refine z_iload_n dX7_count_93 rfl rfl ?_
    exact z_ireturn (st := []) rfl dX7_count_94 ⟨_, rfl, k⟩
  · replace k := k.2 h1
    refine z_aload_n dX7_count_72 rfl rfl ?_
    refine z_getr dX7_count_73 fl_X7_23 lo1_0 rfl ?_
    refine z_iload_n dX7_count_76 rfl rfl ?_
    refine z_iald dX7_count_77 lo1_5 ⟨k.1, ?_⟩
    replace k := k.2
    refine z_iload_n dX7_count_78 rfl rfl ?_
    refine z_iconst (v := 1) dX7_count_79 (by decide) ?_
    refine z_isub dX7_count_80 ?_
    refine z_icmp_ne 87 dX7_count_81 (by decide) ⟨fun h2 => ?_, fun h2 => ?_⟩
    · replace k := k.1 h2
      refine z_iinc (v := (x3 + 1)) dX7_count_87 rfl rfl (by decide) rfl ?_
      refine z_goto 64 dX7_count_90 (by decide) ?_
      exact k
    · replace k := k.2 h2
      refine z_iinc (v := (x2 + 1)) dX7_count_84 rfl rfl (by decide) rfl ?_
      refine z_iinc (v := (x3 + 1)) dX7_count_87 rfl rfl (by decide) rfl ?_
      refine z_goto 64 dX7_count_90 (by decide) ?_
      exact k

set_option maxRecDepth 100000 in
set_option maxHeartbeats 4000000 in
theorem r_X7_count_102 {P : Int32 → zM → Prop} (x2 : Int32) (x3 : Int32) (F : Nat → Int32) (I : Nat → Nat → Int32) (J : Nat → Nat → Int64)
  (k : (((F 1) ≤ x3 → P x2 (F, I, J)) ∧ (¬ (F 1) ≤ x3 → vp_in x3 300 ∧ (((I 3 (zn x3)) = 0 → AW m_X7_count (z_pi P) 102 [some (.ref 0), none, some (.int x2), some (.int (x3 + 1))] [] (F, I, J)) ∧ (¬ (I 3 (zn x3)) = 0 → AMi m_X7_isBridge [.ref 0, .int x3] (F, I, J) (fun r121 M121 => ((r121 = 0 → AW m_X7_count (z_pi P) 102 [some (.ref 0), none, some (.int x2), some (.int (x3 + 1))] [] M121) ∧ (¬ r121 = 0 → AW m_X7_count (z_pi P) 102 [some (.ref 0), none, some (.int (x2 + 1)), some (.int (x3 + 1))] [] M121)))))))) :
  AW m_X7_count (z_pi P) 102 [some (.ref 0), none, some (.int x2), some (.int x3)] [] (F, I, J) := by
  refine z_iload_n dX7_count_102 rfl rfl ?_
  refine z_aload_n dX7_count_103 rfl rfl ?_
  refine z_geti dX7_count_104 fl_X7_88 lo1_0 rfl ?_
  refine z_icmp_ge 136 dX7_count_107 (by decide) ⟨fun h1 => ?_, fun h1 => ?_⟩
  · replace k := k.1 h1
    refine z_iload_n dX7_count_136 rfl rfl ?_
    exact z_ireturn (st := []) rfl dX7_count_137 ⟨_, rfl, k⟩
  · replace k := k.2 h1
    refine z_aload_n dX7_count_110 rfl rfl ?_
    refine z_getr dX7_count_111 fl_X7_23 lo1_0 rfl ?_
    refine z_iload_n dX7_count_114 rfl rfl ?_
    refine z_iald dX7_count_115 lo1_5 ⟨k.1, ?_⟩
    replace k := k.2
    refine z_if_eq 130 dX7_count_116 (by decide) ⟨fun h2 => ?_, fun h2 => ?_⟩
    · replace k := k.1 h2
      refine z_iinc (v := (x3 + 1)) dX7_count_130 rfl rfl (by decide) rfl ?_
      refine z_goto 102 dX7_count_133 (by decide) ?_
      exact k
    · replace k := k.2 h2
      refine z_aload_n dX7_count_119 rfl rfl ?_
      refine z_iload_n dX7_count_120 rfl rfl ?_
      refine z_calli (I := m_X7_count) (I2 := m_X7_isBridge) (st := []) [.int x3] dX7_count_121 ml_X7_158 rfl (by decide) lo1_0 rfl (Nat.le_of_ble_eq_true rfl) rfl (AMi.mono k (fun r121 M121 k => ?_))
      refine z_if_eq 130 dX7_count_124 (by decide) ⟨fun h3 => ?_, fun h3 => ?_⟩
      · replace k := k.1 h3
        refine z_iinc (v := (x3 + 1)) dX7_count_130 rfl rfl (by decide) rfl ?_
        refine z_goto 102 dX7_count_133 (by decide) ?_
        exact k
      · replace k := k.2 h3
        refine z_iinc (v := (x2 + 1)) dX7_count_127 rfl rfl (by decide) rfl ?_
        refine z_iinc (v := (x3 + 1)) dX7_count_130 rfl rfl (by decide) rfl ?_
        refine z_goto 102 dX7_count_133 (by decide) ?_
        exact k

set_option maxRecDepth 100000 in
set_option maxHeartbeats 4000000 in
theorem r_X7_count_140 {P : Int32 → zM → Prop} (x2 : Int32) (x3 : Int32) (F : Nat → Int32) (I : Nat → Nat → Int32) (J : Nat → Nat → Int64)
  (k : (((F 0) ≤ x3 → P x2 (F, I, J)) ∧ (¬ (F 0) ≤ x3 → AMi m_X7_isCut [.ref 0, .int x3] (F, I, J) (fun r150 M150 => ((r150 = 0 → AW m_X7_count (z_pi P) 140 [some (.ref 0), none, some (.int x2), some (.int (x3 + 1))] [] M150) ∧ (¬ r150 = 0 → AW m_X7_count (z_pi P) 140 [some (.ref 0), none, some (.int (x2 + 1)), some (.int (x3 + 1))] [] M150)))))) :
  AW m_X7_count (z_pi P) 140 [some (.ref 0), none, some (.int x2), some (.int x3)] [] (F, I, J) := by
  refine z_iload_n dX7_count_140 rfl rfl ?_
  refine z_aload_n dX7_count_141 rfl rfl ?_
  refine z_geti dX7_count_142 fl_X7_84 lo1_0 rfl ?_
  refine z_icmp_ge 165 dX7_count_145 (by decide) ⟨fun h1 => ?_, fun h1 => ?_⟩
  · replace k := k.1 h1
    refine z_iload_n dX7_count_165 rfl rfl ?_
    exact z_ireturn (st := []) rfl dX7_count_166 ⟨_, rfl, k⟩
  · replace k := k.2 h1
    refine z_aload_n dX7_count_148 rfl rfl ?_
    refine z_iload_n dX7_count_149 rfl rfl ?_
    refine z_calli (I := m_X7_count) (I2 := m_X7_isCut) (st := []) [.int x3] dX7_count_150 ml_X7_166 rfl (by decide) lo1_0 rfl (Nat.le_of_ble_eq_true rfl) rfl (AMi.mono k (fun r150 M150 k => ?_))
    refine z_if_eq 159 dX7_count_153 (by decide) ⟨fun h2 => ?_, fun h2 => ?_⟩
    · replace k := k.1 h2
      refine z_iinc (v := (x3 + 1)) dX7_count_159 rfl rfl (by decide) rfl ?_
      refine z_goto 140 dX7_count_162 (by decide) ?_
      exact k
    · replace k := k.2 h2
      refine z_iinc (v := (x2 + 1)) dX7_count_156 rfl rfl (by decide) rfl ?_
      refine z_iinc (v := (x3 + 1)) dX7_count_159 rfl rfl (by decide) rfl ?_
      refine z_goto 140 dX7_count_162 (by decide) ?_
      exact k

set_option maxRecDepth 100000 in
set_option maxHeartbeats 4000000 in
theorem r_X7_total_0 {P : Int64 → zM → Prop}  (F : Nat → Int32) (I : Nat → Nat → Int32) (J : Nat → Nat → Int64)
  (k : AW m_X7_total (z_pl P) 4 [some (.ref 0), some (.long 0), none, some (.int 0)] [] (F, I, J)) :
  AMl m_X7_total [.ref 0] (F, I, J) P := by
  refine z_entry (pad := 3) [some (.ref 0), none, none, none] (by decide) rfl rfl (fun _ => Nat.le_of_ble_eq_true rfl) ?_
  refine z_lconst (v := 0) dX7_total_0 (by decide) ?_
  refine z_lstore_n dX7_total_1 rfl (by decide) rfl ?_
  refine z_iconst (v := 0) dX7_total_2 (by decide) ?_
  refine z_istore_n dX7_total_3 rfl (by decide) rfl ?_
  exact k

set_option maxRecDepth 100000 in
set_option maxHeartbeats 4000000 in
theorem r_X7_total_4 {P : Int64 → zM → Prop} (l1 : Int64) (x3 : Int32) (F : Nat → Int32) (I : Nat → Nat → Int32) (J : Nat → Nat → Int64)
  (k : (((F 1) ≤ x3 → P l1 (F, I, J)) ∧ (¬ (F 1) ≤ x3 → vp_in x3 300 ∧ ((¬ (I 3 (zn x3)) = 1 → AW m_X7_total (z_pl P) 4 [some (.ref 0), some (.long l1), none, some (.int (x3 + 1))] [] (F, I, J)) ∧ ((I 3 (zn x3)) = 1 → vp_in x3 300 ∧ AW m_X7_total (z_pl P) 4 [some (.ref 0), some (.long (l1 + (J 1 (zn x3)))), none, some (.int (x3 + 1))] [] (F, I, J)))))) :
  AW m_X7_total (z_pl P) 4 [some (.ref 0), some (.long l1), none, some (.int x3)] [] (F, I, J) := by
  refine z_iload_n dX7_total_4 rfl rfl ?_
  refine z_aload_n dX7_total_5 rfl rfl ?_
  refine z_geti dX7_total_6 fl_X7_88 lo1_0 rfl ?_
  refine z_icmp_ge 37 dX7_total_9 (by decide) ⟨fun h1 => ?_, fun h1 => ?_⟩
  · replace k := k.1 h1
    refine z_lload_n dX7_total_37 rfl rfl ?_
    exact z_lreturn (st := []) rfl dX7_total_38 ⟨_, rfl, k⟩
  · replace k := k.2 h1
    refine z_aload_n dX7_total_12 rfl rfl ?_
    refine z_getr dX7_total_13 fl_X7_23 lo1_0 rfl ?_
    refine z_iload_n dX7_total_16 rfl rfl ?_
    refine z_iald dX7_total_17 lo1_5 ⟨k.1, ?_⟩
    replace k := k.2
    refine z_iconst (v := 1) dX7_total_18 (by decide) ?_
    refine z_icmp_ne 31 dX7_total_19 (by decide) ⟨fun h2 => ?_, fun h2 => ?_⟩
    · replace k := k.1 h2
      refine z_iinc (v := (x3 + 1)) dX7_total_31 rfl rfl (by decide) rfl ?_
      refine z_goto 4 dX7_total_34 (by decide) ?_
      exact k
    · replace k := k.2 h2
      refine z_lload_n dX7_total_22 rfl rfl ?_
      refine z_aload_n dX7_total_23 rfl rfl ?_
      refine z_getr dX7_total_24 fl_X7_29 lo1_0 rfl ?_
      refine z_iload_n dX7_total_27 rfl rfl ?_
      refine z_lald dX7_total_28 lo1_7 ⟨k.1, ?_⟩
      replace k := k.2
      refine z_ladd dX7_total_29 ?_
      refine z_lstore_n dX7_total_30 rfl (by decide) rfl ?_
      refine z_iinc (v := (x3 + 1)) dX7_total_31 rfl rfl (by decide) rfl ?_
      refine z_goto 4 dX7_total_34 (by decide) ?_
      exact k

set_option maxRecDepth 100000 in
set_option maxHeartbeats 4000000 in
theorem r_X7_together_0 {P : Int32 → zM → Prop} (x1 : Int32) (x2 : Int32) (F : Nat → Int32) (I : Nat → Nat → Int32) (J : Nat → Nat → Int64)
  (k : AMi m_X7_isKnot [.ref 0, .int x1] (F, I, J) (fun r2 M2 => ((r2 = 0 → P (-2) M2) ∧ (¬ r2 = 0 → AMi m_X7_isKnot [.ref 0, .int x2] M2 (fun r10 M10 => ((¬ r10 = 0 → AMi m_X7_isTogether [.ref 0, .int x1, .int x2] M10 (fun r22 M22 => ((r22 = 0 → P 0 M22) ∧ (¬ r22 = 0 → P 1 M22)))) ∧ (r10 = 0 → P (-2) M10))))))) :
  AMi m_X7_together [.ref 0, .int x1, .int x2] (F, I, J) P := by
  refine z_entry (pad := 0) [some (.ref 0), some (.int x1), some (.int x2)] (by decide) rfl rfl (fun _ => Nat.le_of_ble_eq_true rfl) ?_
  refine z_aload_n dX7_together_0 rfl rfl ?_
  refine z_iload_n dX7_together_1 rfl rfl ?_
  refine z_calli (I := m_X7_together) (I2 := m_X7_isKnot) (st := []) [.int x1] dX7_together_2 ml_X7_129 rfl (by decide) lo1_0 rfl (Nat.le_of_ble_eq_true rfl) rfl (AMi.mono k (fun r2 M2 k => ?_))
  refine z_if_eq 16 dX7_together_5 (by decide) ⟨fun h1 => ?_, fun h1 => ?_⟩
  · replace k := k.1 h1
    refine z_bipush (v := (-2)) dX7_together_16 (by decide) ?_
    exact z_ireturn (st := []) rfl dX7_together_18 ⟨_, rfl, k⟩
  · replace k := k.2 h1
    refine z_aload_n dX7_together_8 rfl rfl ?_
    refine z_iload_n dX7_together_9 rfl rfl ?_
    refine z_calli (I := m_X7_together) (I2 := m_X7_isKnot) (st := []) [.int x2] dX7_together_10 ml_X7_129 rfl (by decide) lo1_0 rfl (Nat.le_of_ble_eq_true rfl) rfl (AMi.mono k (fun r10 M10 k => ?_))
    refine z_if_ne 19 dX7_together_13 (by decide) ⟨fun h2 => ?_, fun h2 => ?_⟩
    · replace k := k.1 h2
      refine z_aload_n dX7_together_19 rfl rfl ?_
      refine z_iload_n dX7_together_20 rfl rfl ?_
      refine z_iload_n dX7_together_21 rfl rfl ?_
      refine z_calli (I := m_X7_together) (I2 := m_X7_isTogether) (st := []) [.int x1, .int x2] dX7_together_22 ml_X7_133 rfl (by decide) lo1_0 rfl (Nat.le_of_ble_eq_true rfl) rfl (AMi.mono k (fun r22 M22 k => ?_))
      refine z_if_eq 32 dX7_together_25 (by decide) ⟨fun h3 => ?_, fun h3 => ?_⟩
      · replace k := k.1 h3
        refine z_iconst (v := 0) dX7_together_32 (by decide) ?_
        exact z_ireturn (st := []) rfl dX7_together_33 ⟨_, rfl, k⟩
      · replace k := k.2 h3
        refine z_iconst (v := 1) dX7_together_28 (by decide) ?_
        refine z_goto 33 dX7_together_29 (by decide) ?_
        exact z_ireturn (st := []) rfl dX7_together_33 ⟨_, rfl, k⟩
    · replace k := k.2 h2
      refine z_bipush (v := (-2)) dX7_together_16 (by decide) ?_
      exact z_ireturn (st := []) rfl dX7_together_18 ⟨_, rfl, k⟩

set_option maxRecDepth 100000 in
set_option maxHeartbeats 4000000 in
theorem r_X7_size_0 {P : Int32 → zM → Prop} (x1 : Int32) (F : Nat → Int32) (I : Nat → Nat → Int32) (J : Nat → Nat → Int64)
  (k : AMi m_X7_isKnot [.ref 0, .int x1] (F, I, J) (fun r2 M2 => ((r2 = 0 → P (-2) M2) ∧ (¬ r2 = 0 → AMi m_X7_part [.ref 0, .int x1] M2 (fun r10 M10 => P r10 M10))))) :
  AMi m_X7_size [.ref 0, .int x1] (F, I, J) P := by
  refine z_entry (pad := 0) [some (.ref 0), some (.int x1)] (by decide) rfl rfl (fun _ => Nat.le_of_ble_eq_true rfl) ?_
  refine z_aload_n dX7_size_0 rfl rfl ?_
  refine z_iload_n dX7_size_1 rfl rfl ?_
  refine z_calli (I := m_X7_size) (I2 := m_X7_isKnot) (st := []) [.int x1] dX7_size_2 ml_X7_129 rfl (by decide) lo1_0 rfl (Nat.le_of_ble_eq_true rfl) rfl (AMi.mono k (fun r2 M2 k => ?_))
  refine z_if_eq 16 dX7_size_5 (by decide) ⟨fun h1 => ?_, fun h1 => ?_⟩
  · replace k := k.1 h1
    refine z_bipush (v := (-2)) dX7_size_16 (by decide) ?_
    exact z_ireturn (st := []) rfl dX7_size_18 ⟨_, rfl, k⟩
  · replace k := k.2 h1
    refine z_aload_n dX7_size_8 rfl rfl ?_
    refine z_iload_n dX7_size_9 rfl rfl ?_
    refine z_calli (I := m_X7_size) (I2 := m_X7_part) (st := []) [.int x1] dX7_size_10 ml_X7_115 rfl (by decide) lo1_0 rfl (Nat.le_of_ble_eq_true rfl) rfl (AMi.mono k (fun r10 M10 k => ?_))
    refine z_goto 18 dX7_size_13 (by decide) ?_
    exact z_ireturn (st := []) rfl dX7_size_18 ⟨_, rfl, k⟩

set_option maxRecDepth 100000 in
set_option maxHeartbeats 4000000 in
theorem r_X7_member_0 {P : Int32 → zM → Prop} (x1 : Int32) (x2 : Int32) (F : Nat → Int32) (I : Nat → Nat → Int32) (J : Nat → Nat → Int64)
  (k : AMi m_X7_isKnot [.ref 0, .int x1] (F, I, J) (fun r2 M2 => ((¬ r2 = 0 → AMi m_X7_part [.ref 0, .int x1] M2 (fun r13 M13 => AW m_X7_member (z_pi P) 22 [some (.ref 0), none, some (.int x2), some (.int 0), some (.int 0)] [] M13)) ∧ (r2 = 0 → P (-2) M2)))) :
  AMi m_X7_member [.ref 0, .int x1, .int x2] (F, I, J) P := by
  refine z_entry (pad := 2) [some (.ref 0), some (.int x1), some (.int x2), none, none] (by decide) rfl rfl (fun _ => Nat.le_of_ble_eq_true rfl) ?_
  refine z_aload_n dX7_member_0 rfl rfl ?_
  refine z_iload_n dX7_member_1 rfl rfl ?_
  refine z_calli (I := m_X7_member) (I2 := m_X7_isKnot) (st := []) [.int x1] dX7_member_2 ml_X7_129 rfl (by decide) lo1_0 rfl (Nat.le_of_ble_eq_true rfl) rfl (AMi.mono k (fun r2 M2 k => ?_))
  refine z_if_ne 11 dX7_member_5 (by decide) ⟨fun h1 => ?_, fun h1 => ?_⟩
  · replace k := k.1 h1
    refine z_aload_n dX7_member_11 rfl rfl ?_
    refine z_iload_n dX7_member_12 rfl rfl ?_
    refine z_calli (I := m_X7_member) (I2 := m_X7_part) (st := []) [.int x1] dX7_member_13 ml_X7_115 rfl (by decide) lo1_0 rfl (Nat.le_of_ble_eq_true rfl) rfl (AMi.mono k (fun r13 M13 k => ?_))
    refine z_pop dX7_member_16 rfl ?_
    refine z_iconst (v := 0) dX7_member_17 (by decide) ?_
    refine z_istore_n dX7_member_18 rfl (by decide) rfl ?_
    refine z_iconst (v := 0) dX7_member_19 (by decide) ?_
    refine z_istore dX7_member_20 (by decide) rfl ?_
    refine z_wk [some (.ref 0), none, some (.int x2), some (.int 0), some (.int 0)] (z_le_some (z_le_none (z_le_some (z_le_some (z_le_some z_le_nil))))) ?_
    exact k
  · replace k := k.2 h1
    refine z_bipush (v := (-2)) dX7_member_8 (by decide) ?_
    exact z_ireturn (st := []) rfl dX7_member_10 ⟨_, rfl, k⟩

set_option maxRecDepth 100000 in
set_option maxHeartbeats 4000000 in
theorem r_X7_member_22 {P : Int32 → zM → Prop} (x2 : Int32) (x3 : Int32) (x4 : Int32) (F : Nat → Int32) (I : Nat → Nat → Int32) (J : Nat → Nat → Int64)
  (k : (((F 0) ≤ x4 → P (-1) (F, I, J)) ∧ (¬ (F 0) ≤ x4 → vp_in x4 100 ∧ (((I 11 (zn x4)) = 0 → AW m_X7_member (z_pi P) 22 [some (.ref 0), none, some (.int x2), some (.int x3), some (.int (x4 + 1))] [] (F, I, J)) ∧ (¬ (I 11 (zn x4)) = 0 → ((¬ x3 = x2 → AW m_X7_member (z_pi P) 22 [some (.ref 0), none, some (.int x2), some (.int (x3 + 1)), some (.int (x4 + 1))] [] (F, I, J)) ∧ (x3 = x2 → P x4 (F, I, J)))))))) :
  AW m_X7_member (z_pi P) 22 [some (.ref 0), none, some (.int x2), some (.int x3), some (.int x4)] [] (F, I, J) := by
  refine z_iload dX7_member_22 rfl ?_
  refine z_aload_n dX7_member_24 rfl rfl ?_
  refine z_geti dX7_member_25 fl_X7_84 lo1_0 rfl ?_
  refine z_icmp_ge 58 dX7_member_28 (by decide) ⟨fun h1 => ?_, fun h1 => ?_⟩
  · replace k := k.1 h1
    refine z_iconst (v := (-1)) dX7_member_58 (by decide) ?_
    exact z_ireturn (st := []) rfl dX7_member_59 ⟨_, rfl, k⟩
  · replace k := k.2 h1
    refine z_aload_n dX7_member_31 rfl rfl ?_
    refine z_getr dX7_member_32 fl_X7_53 lo1_0 rfl ?_
    refine z_iload dX7_member_35 rfl ?_
    refine z_zald dX7_member_37 lo1_15 ⟨k.1, ?_⟩
    replace k := k.2
    refine z_if_eq 52 dX7_member_38 (by decide) ⟨fun h2 => ?_, fun h2 => ?_⟩
    · replace k := k.1 h2
      refine z_iinc (v := (x4 + 1)) dX7_member_52 rfl rfl (by decide) rfl ?_
      refine z_goto 22 dX7_member_55 (by decide) ?_
      exact k
    · replace k := k.2 h2
      refine z_iload_n dX7_member_41 rfl rfl ?_
      refine z_iinc (v := (x3 + 1)) dX7_member_42 rfl rfl (by decide) rfl ?_
      refine z_iload_n dX7_member_45 rfl rfl ?_
      refine z_icmp_ne 52 dX7_member_46 (by decide) ⟨fun h3 => ?_, fun h3 => ?_⟩
      · replace k := k.1 h3
        refine z_iinc (v := (x4 + 1)) dX7_member_52 rfl rfl (by decide) rfl ?_
        refine z_goto 22 dX7_member_55 (by decide) ?_
        exact k
      · replace k := k.2 h3
        refine z_iload dX7_member_49 rfl ?_
        exact z_ireturn (st := []) rfl dX7_member_51 ⟨_, rfl, k⟩

set_option maxRecDepth 100000 in
set_option maxHeartbeats 4000000 in
theorem r_X7_way_0 {P : Int32 → zM → Prop} (x1 : Int32) (x2 : Int32) (F : Nat → Int32) (I : Nat → Nat → Int32) (J : Nat → Nat → Int64)
  (k : AMi m_X7_isKnot [.ref 0, .int x1] (F, I, J) (fun r2 M2 => ((r2 = 0 → P (-2) M2) ∧ (¬ r2 = 0 → AMi m_X7_isKnot [.ref 0, .int x2] M2 (fun r10 M10 => ((¬ r10 = 0 → AMi m_X7_finds [.ref 0, .int x1, .int x2] M10 (fun r22 M22 => ((r22 = 0 → P (-1) M22) ∧ (¬ r22 = 0 → P ((M22.1 6) - 1) M22)))) ∧ (r10 = 0 → P (-2) M10))))))) :
  AMi m_X7_way [.ref 0, .int x1, .int x2] (F, I, J) P := by
  refine z_entry (pad := 0) [some (.ref 0), some (.int x1), some (.int x2)] (by decide) rfl rfl (fun _ => Nat.le_of_ble_eq_true rfl) ?_
  refine z_aload_n dX7_way_0 rfl rfl ?_
  refine z_iload_n dX7_way_1 rfl rfl ?_
  refine z_calli (I := m_X7_way) (I2 := m_X7_isKnot) (st := []) [.int x1] dX7_way_2 ml_X7_129 rfl (by decide) lo1_0 rfl (Nat.le_of_ble_eq_true rfl) rfl (AMi.mono k (fun r2 M2 k => ?_))
  refine z_if_eq 16 dX7_way_5 (by decide) ⟨fun h1 => ?_, fun h1 => ?_⟩
  · replace k := k.1 h1
    refine z_bipush (v := (-2)) dX7_way_16 (by decide) ?_
    exact z_ireturn (st := []) rfl dX7_way_18 ⟨_, rfl, k⟩
  · replace k := k.2 h1
    refine z_aload_n dX7_way_8 rfl rfl ?_
    refine z_iload_n dX7_way_9 rfl rfl ?_
    refine z_calli (I := m_X7_way) (I2 := m_X7_isKnot) (st := []) [.int x2] dX7_way_10 ml_X7_129 rfl (by decide) lo1_0 rfl (Nat.le_of_ble_eq_true rfl) rfl (AMi.mono k (fun r10 M10 k => ?_))
    refine z_if_ne 19 dX7_way_13 (by decide) ⟨fun h2 => ?_, fun h2 => ?_⟩
    · replace k := k.1 h2
      refine z_aload_n dX7_way_19 rfl rfl ?_
      refine z_iload_n dX7_way_20 rfl rfl ?_
      refine z_iload_n dX7_way_21 rfl rfl ?_
      refine z_calli (I := m_X7_way) (I2 := m_X7_finds) (st := []) [.int x1, .int x2] dX7_way_22 ml_X7_139 rfl (by decide) lo1_0 rfl (Nat.le_of_ble_eq_true rfl) rfl (AMi.mono k (fun r22 M22 k => ?_))
      refine z_if_eq 37 dX7_way_25 (by decide) ⟨fun h3 => ?_, fun h3 => ?_⟩
      · replace k := k.1 h3
        refine z_iconst (v := (-1)) dX7_way_37 (by decide) ?_
        exact z_ireturn (st := []) rfl dX7_way_38 ⟨_, rfl, k⟩
      · replace k := k.2 h3
        refine z_aload_n dX7_way_28 rfl rfl ?_
        refine z_geti dX7_way_29 fl_X7_119 lo1_0 rfl ?_
        refine z_iconst (v := 1) dX7_way_32 (by decide) ?_
        refine z_isub dX7_way_33 ?_
        refine z_goto 38 dX7_way_34 (by decide) ?_
        exact z_ireturn (st := []) rfl dX7_way_38 ⟨_, rfl, k⟩
    · replace k := k.2 h2
      refine z_bipush (v := (-2)) dX7_way_16 (by decide) ?_
      exact z_ireturn (st := []) rfl dX7_way_18 ⟨_, rfl, k⟩

set_option maxRecDepth 100000 in
set_option maxHeartbeats 4000000 in
theorem r_X7_between_0 {P : Int32 → zM → Prop} (x1 : Int32) (x2 : Int32) (x3 : Int32) (F : Nat → Int32) (I : Nat → Nat → Int32) (J : Nat → Nat → Int64)
  (k : AMi m_X7_isKnot [.ref 0, .int x1] (F, I, J) (fun r2 M2 => ((r2 = 0 → P (-2) M2) ∧ (¬ r2 = 0 → AMi m_X7_isKnot [.ref 0, .int x2] M2 (fun r10 M10 => ((¬ r10 = 0 → AMi m_X7_finds [.ref 0, .int x1, .int x2] M10 (fun r22 M22 => ((r22 = 0 → P (-1) M22) ∧ (¬ r22 = 0 → ((x3 < 0 → P (-1) M22) ∧ (¬ x3 < 0 → (((M22.1 6) ≤ x3 → P (-1) M22) ∧ (¬ (M22.1 6) ≤ x3 → vp_in x3 100 ∧ P (M22.2.1 15 (zn x3)) M22)))))))) ∧ (r10 = 0 → P (-2) M10))))))) :
  AMi m_X7_between [.ref 0, .int x1, .int x2, .int x3] (F, I, J) P := by
  refine z_entry (pad := 0) [some (.ref 0), some (.int x1), some (.int x2), some (.int x3)] (by decide) rfl rfl (fun _ => Nat.le_of_ble_eq_true rfl) ?_
  refine z_aload_n dX7_between_0 rfl rfl ?_
  refine z_iload_n dX7_between_1 rfl rfl ?_
  refine z_calli (I := m_X7_between) (I2 := m_X7_isKnot) (st := []) [.int x1] dX7_between_2 ml_X7_129 rfl (by decide) lo1_0 rfl (Nat.le_of_ble_eq_true rfl) rfl (AMi.mono k (fun r2 M2 k => ?_))
  refine z_if_eq 16 dX7_between_5 (by decide) ⟨fun h1 => ?_, fun h1 => ?_⟩
  · replace k := k.1 h1
    refine z_bipush (v := (-2)) dX7_between_16 (by decide) ?_
    exact z_ireturn (st := []) rfl dX7_between_18 ⟨_, rfl, k⟩
  · replace k := k.2 h1
    refine z_aload_n dX7_between_8 rfl rfl ?_
    refine z_iload_n dX7_between_9 rfl rfl ?_
    refine z_calli (I := m_X7_between) (I2 := m_X7_isKnot) (st := []) [.int x2] dX7_between_10 ml_X7_129 rfl (by decide) lo1_0 rfl (Nat.le_of_ble_eq_true rfl) rfl (AMi.mono k (fun r10 M10 k => ?_))
    refine z_if_ne 19 dX7_between_13 (by decide) ⟨fun h2 => ?_, fun h2 => ?_⟩
    · replace k := k.1 h2
      refine z_aload_n dX7_between_19 rfl rfl ?_
      refine z_iload_n dX7_between_20 rfl rfl ?_
      refine z_iload_n dX7_between_21 rfl rfl ?_
      refine z_calli (I := m_X7_between) (I2 := m_X7_finds) (st := []) [.int x1, .int x2] dX7_between_22 ml_X7_139 rfl (by decide) lo1_0 rfl (Nat.le_of_ble_eq_true rfl) rfl (AMi.mono k (fun r22 M22 k => ?_))
      refine z_if_eq 49 dX7_between_25 (by decide) ⟨fun h3 => ?_, fun h3 => ?_⟩
      · replace k := k.1 h3
        refine z_iconst (v := (-1)) dX7_between_49 (by decide) ?_
        exact z_ireturn (st := []) rfl dX7_between_50 ⟨_, rfl, k⟩
      · replace k := k.2 h3
        refine z_iload_n dX7_between_28 rfl rfl ?_
        refine z_if_lt 49 dX7_between_29 (by decide) ⟨fun h4 => ?_, fun h4 => ?_⟩
        · replace k := k.1 h4
          refine z_iconst (v := (-1)) dX7_between_49 (by decide) ?_
          exact z_ireturn (st := []) rfl dX7_between_50 ⟨_, rfl, k⟩
        · replace k := k.2 h4
          refine z_iload_n dX7_between_32 rfl rfl ?_
          refine z_aload_n dX7_between_33 rfl rfl ?_
          refine z_geti dX7_between_34 fl_X7_119 lo1_0 rfl ?_
          refine z_icmp_ge 49 dX7_between_37 (by decide) ⟨fun h5 => ?_, fun h5 => ?_⟩
          · replace k := k.1 h5
            refine z_iconst (v := (-1)) dX7_between_49 (by decide) ?_
            exact z_ireturn (st := []) rfl dX7_between_50 ⟨_, rfl, k⟩
          · replace k := k.2 h5
            refine z_aload_n dX7_between_40 rfl rfl ?_
            refine z_getr dX7_between_41 fl_X7_66 lo1_0 rfl ?_
            refine z_iload_n dX7_between_44 rfl rfl ?_
            refine z_iald dX7_between_45 lo1_19 ⟨k.1, ?_⟩
            replace k := k.2
            refine z_goto 50 dX7_between_46 (by decide) ?_
            exact z_ireturn (st := []) rfl dX7_between_50 ⟨_, rfl, k⟩
    · replace k := k.2 h2
      refine z_bipush (v := (-2)) dX7_between_16 (by decide) ?_
      exact z_ireturn (st := []) rfl dX7_between_18 ⟨_, rfl, k⟩

set_option maxRecDepth 100000 in
set_option maxHeartbeats 4000000 in
theorem r_X7_heaviest_0 {P : Int32 → zM → Prop} (x1 : Int32) (x2 : Int32) (F : Nat → Int32) (I : Nat → Nat → Int32) (J : Nat → Nat → Int64)
  (k : AMi m_X7_isKnot [.ref 0, .int x1] (F, I, J) (fun r2 M2 => ((r2 = 0 → P (-2) M2) ∧ (¬ r2 = 0 → AMi m_X7_isKnot [.ref 0, .int x2] M2 (fun r10 M10 => ((¬ r10 = 0 → AMi m_X7_finds [.ref 0, .int x1, .int x2] M10 (fun r22 M22 => ((r22 = 0 → P (-1) M22) ∧ (¬ r22 = 0 → AMi m_X7_heaviestOfWay [.ref 0] M22 (fun r29 M29 => P r29 M29))))) ∧ (r10 = 0 → P (-2) M10))))))) :
  AMi m_X7_heaviest [.ref 0, .int x1, .int x2] (F, I, J) P := by
  refine z_entry (pad := 0) [some (.ref 0), some (.int x1), some (.int x2)] (by decide) rfl rfl (fun _ => Nat.le_of_ble_eq_true rfl) ?_
  refine z_aload_n dX7_heaviest_0 rfl rfl ?_
  refine z_iload_n dX7_heaviest_1 rfl rfl ?_
  refine z_calli (I := m_X7_heaviest) (I2 := m_X7_isKnot) (st := []) [.int x1] dX7_heaviest_2 ml_X7_129 rfl (by decide) lo1_0 rfl (Nat.le_of_ble_eq_true rfl) rfl (AMi.mono k (fun r2 M2 k => ?_))
  refine z_if_eq 16 dX7_heaviest_5 (by decide) ⟨fun h1 => ?_, fun h1 => ?_⟩
  · replace k := k.1 h1
    refine z_bipush (v := (-2)) dX7_heaviest_16 (by decide) ?_
    exact z_ireturn (st := []) rfl dX7_heaviest_18 ⟨_, rfl, k⟩
  · replace k := k.2 h1
    refine z_aload_n dX7_heaviest_8 rfl rfl ?_
    refine z_iload_n dX7_heaviest_9 rfl rfl ?_
    refine z_calli (I := m_X7_heaviest) (I2 := m_X7_isKnot) (st := []) [.int x2] dX7_heaviest_10 ml_X7_129 rfl (by decide) lo1_0 rfl (Nat.le_of_ble_eq_true rfl) rfl (AMi.mono k (fun r10 M10 k => ?_))
    refine z_if_ne 19 dX7_heaviest_13 (by decide) ⟨fun h2 => ?_, fun h2 => ?_⟩
    · replace k := k.1 h2
      refine z_aload_n dX7_heaviest_19 rfl rfl ?_
      refine z_iload_n dX7_heaviest_20 rfl rfl ?_
      refine z_iload_n dX7_heaviest_21 rfl rfl ?_
      refine z_calli (I := m_X7_heaviest) (I2 := m_X7_finds) (st := []) [.int x1, .int x2] dX7_heaviest_22 ml_X7_139 rfl (by decide) lo1_0 rfl (Nat.le_of_ble_eq_true rfl) rfl (AMi.mono k (fun r22 M22 k => ?_))
      refine z_if_eq 35 dX7_heaviest_25 (by decide) ⟨fun h3 => ?_, fun h3 => ?_⟩
      · replace k := k.1 h3
        refine z_iconst (v := (-1)) dX7_heaviest_35 (by decide) ?_
        exact z_ireturn (st := []) rfl dX7_heaviest_36 ⟨_, rfl, k⟩
      · replace k := k.2 h3
        refine z_aload_n dX7_heaviest_28 rfl rfl ?_
        refine z_calli (I := m_X7_heaviest) (I2 := m_X7_heaviestOfWay) (st := []) [] dX7_heaviest_29 ml_X7_142 rfl (by decide) lo1_0 rfl (Nat.le_of_ble_eq_true rfl) rfl (AMi.mono k (fun r29 M29 k => ?_))
        refine z_goto 36 dX7_heaviest_32 (by decide) ?_
        exact z_ireturn (st := []) rfl dX7_heaviest_36 ⟨_, rfl, k⟩
    · replace k := k.2 h2
      refine z_bipush (v := (-2)) dX7_heaviest_16 (by decide) ?_
      exact z_ireturn (st := []) rfl dX7_heaviest_18 ⟨_, rfl, k⟩

set_option maxRecDepth 100000 in
set_option maxHeartbeats 4000000 in
theorem r_X7_sum_0 {P : Int64 → zM → Prop} (x1 : Int32) (x2 : Int32) (F : Nat → Int32) (I : Nat → Nat → Int32) (J : Nat → Nat → Int64)
  (k : AMi m_X7_isKnot [.ref 0, .int x1] (F, I, J) (fun r2 M2 => ((r2 = 0 → P (-4611686018427387904) M2) ∧ (¬ r2 = 0 → AMi m_X7_isKnot [.ref 0, .int x2] M2 (fun r10 M10 => ((r10 = 0 → P (-4611686018427387904) M10) ∧ (¬ r10 = 0 → AMi m_X7_finds [.ref 0, .int x1, .int x2] M10 (fun r19 M19 => ((¬ r19 = 0 → AW m_X7_sum (z_pl P) 34 [some (.ref 0), none, none, some (.long 0), none, some (.int 0)] [] M19) ∧ (r19 = 0 → P (-4611686018427387904) M19)))))))))) :
  AMl m_X7_sum [.ref 0, .int x1, .int x2] (F, I, J) P := by
  refine z_entry (pad := 3) [some (.ref 0), some (.int x1), some (.int x2), none, none, none] (by decide) rfl rfl (fun _ => Nat.le_of_ble_eq_true rfl) ?_
  refine z_aload_n dX7_sum_0 rfl rfl ?_
  refine z_iload_n dX7_sum_1 rfl rfl ?_
  refine z_calli (I := m_X7_sum) (I2 := m_X7_isKnot) (st := []) [.int x1] dX7_sum_2 ml_X7_129 rfl (by decide) lo1_0 rfl (Nat.le_of_ble_eq_true rfl) rfl (AMi.mono k (fun r2 M2 k => ?_))
  refine z_if_eq 25 dX7_sum_5 (by decide) ⟨fun h1 => ?_, fun h1 => ?_⟩
  · replace k := k.1 h1
    refine z_ldc2 dX7_sum_25 lc_X7_161 ?_
    exact z_lreturn (st := []) rfl dX7_sum_28 ⟨_, rfl, k⟩
  · replace k := k.2 h1
    refine z_aload_n dX7_sum_8 rfl rfl ?_
    refine z_iload_n dX7_sum_9 rfl rfl ?_
    refine z_calli (I := m_X7_sum) (I2 := m_X7_isKnot) (st := []) [.int x2] dX7_sum_10 ml_X7_129 rfl (by decide) lo1_0 rfl (Nat.le_of_ble_eq_true rfl) rfl (AMi.mono k (fun r10 M10 k => ?_))
    refine z_if_eq 25 dX7_sum_13 (by decide) ⟨fun h2 => ?_, fun h2 => ?_⟩
    · replace k := k.1 h2
      refine z_ldc2 dX7_sum_25 lc_X7_161 ?_
      exact z_lreturn (st := []) rfl dX7_sum_28 ⟨_, rfl, k⟩
    · replace k := k.2 h2
      refine z_aload_n dX7_sum_16 rfl rfl ?_
      refine z_iload_n dX7_sum_17 rfl rfl ?_
      refine z_iload_n dX7_sum_18 rfl rfl ?_
      refine z_calli (I := m_X7_sum) (I2 := m_X7_finds) (st := []) [.int x1, .int x2] dX7_sum_19 ml_X7_139 rfl (by decide) lo1_0 rfl (Nat.le_of_ble_eq_true rfl) rfl (AMi.mono k (fun r19 M19 k => ?_))
      refine z_if_ne 29 dX7_sum_22 (by decide) ⟨fun h3 => ?_, fun h3 => ?_⟩
      · replace k := k.1 h3
        refine z_lconst (v := 0) dX7_sum_29 (by decide) ?_
        refine z_lstore_n dX7_sum_30 rfl (by decide) rfl ?_
        refine z_iconst (v := 0) dX7_sum_31 (by decide) ?_
        refine z_istore dX7_sum_32 (by decide) rfl ?_
        refine z_wk [some (.ref 0), none, none, some (.long 0), none, some (.int 0)] (z_le_some (z_le_none (z_le_none (z_le_some (z_le_none (z_le_some z_le_nil)))))) ?_
        exact k
      · replace k := k.2 h3
        refine z_ldc2 dX7_sum_25 lc_X7_161 ?_
        exact z_lreturn (st := []) rfl dX7_sum_28 ⟨_, rfl, k⟩

set_option maxRecDepth 100000 in
set_option maxHeartbeats 4000000 in
theorem r_X7_sum_34 {P : Int64 → zM → Prop} (l3 : Int64) (x5 : Int32) (F : Nat → Int32) (I : Nat → Nat → Int32) (J : Nat → Nat → Int64)
  (k : (((F 6) ≤ x5 → P l3 (F, I, J)) ∧ (¬ (F 6) ≤ x5 → vp_in x5 100 ∧ vp_in (I 15 (zn x5)) 100 ∧ AW m_X7_sum (z_pl P) 34 [some (.ref 0), none, none, some (.long (l3 + (J 0 (zn (I 15 (zn x5)))))), none, some (.int (x5 + 1))] [] (F, I, J)))) :
  AW m_X7_sum (z_pl P) 34 [some (.ref 0), none, none, some (.long l3), none, some (.int x5)] [] (F, I, J) := by
  refine z_iload dX7_sum_34 rfl ?_
  refine z_aload_n dX7_sum_36 rfl rfl ?_
  refine z_geti dX7_sum_37 fl_X7_119 lo1_0 rfl ?_
  refine z_icmp_ge 64 dX7_sum_40 (by decide) ⟨fun h1 => ?_, fun h1 => ?_⟩
  · replace k := k.1 h1
    refine z_lload_n dX7_sum_64 rfl rfl ?_
    exact z_lreturn (st := []) rfl dX7_sum_65 ⟨_, rfl, k⟩
  · replace k := k.2 h1
    refine z_lload_n dX7_sum_43 rfl rfl ?_
    refine z_aload_n dX7_sum_44 rfl rfl ?_
    refine z_getr dX7_sum_45 fl_X7_7 lo1_0 rfl ?_
    refine z_aload_n dX7_sum_48 rfl rfl ?_
    refine z_getr dX7_sum_49 fl_X7_66 lo1_0 rfl ?_
    refine z_iload dX7_sum_52 rfl ?_
    refine z_iald dX7_sum_54 lo1_19 ⟨k.1, ?_⟩
    replace k := k.2
    refine z_lald dX7_sum_55 lo1_1 ⟨k.1, ?_⟩
    replace k := k.2
    refine z_ladd dX7_sum_56 ?_
    refine z_lstore_n dX7_sum_57 rfl (by decide) rfl ?_
    refine z_iinc (v := (x5 + 1)) dX7_sum_58 rfl rfl (by decide) rfl ?_
    refine z_goto 34 dX7_sum_61 (by decide) ?_
    exact k

set_option maxRecDepth 100000 in
set_option maxHeartbeats 4000000 in
theorem r_X7_least_0 {P : Int64 → zM → Prop} (x1 : Int32) (x2 : Int32) (F : Nat → Int32) (I : Nat → Nat → Int32) (J : Nat → Nat → Int64)
  (k : AMi m_X7_isKnot [.ref 0, .int x1] (F, I, J) (fun r2 M2 => ((r2 = 0 → P (-4611686018427387904) M2) ∧ (¬ r2 = 0 → AMi m_X7_isKnot [.ref 0, .int x2] M2 (fun r10 M10 => ((r10 = 0 → P (-4611686018427387904) M10) ∧ (¬ r10 = 0 → AMi m_X7_finds [.ref 0, .int x1, .int x2] M10 (fun r19 M19 => ((¬ r19 = 0 → vp_in x1 100 ∧ AW m_X7_least (z_pl P) 39 [some (.ref 0), none, none, some (.long (M19.2.2 0 (zn x1))), none, some (.int 0)] [] M19) ∧ (r19 = 0 → P (-4611686018427387904) M19)))))))))) :
  AMl m_X7_least [.ref 0, .int x1, .int x2] (F, I, J) P := by
  refine z_entry (pad := 3) [some (.ref 0), some (.int x1), some (.int x2), none, none, none] (by decide) rfl rfl (fun _ => Nat.le_of_ble_eq_true rfl) ?_
  refine z_aload_n dX7_least_0 rfl rfl ?_
  refine z_iload_n dX7_least_1 rfl rfl ?_
  refine z_calli (I := m_X7_least) (I2 := m_X7_isKnot) (st := []) [.int x1] dX7_least_2 ml_X7_129 rfl (by decide) lo1_0 rfl (Nat.le_of_ble_eq_true rfl) rfl (AMi.mono k (fun r2 M2 k => ?_))
  refine z_if_eq 25 dX7_least_5 (by decide) ⟨fun h1 => ?_, fun h1 => ?_⟩
  · replace k := k.1 h1
    refine z_ldc2 dX7_least_25 lc_X7_161 ?_
    exact z_lreturn (st := []) rfl dX7_least_28 ⟨_, rfl, k⟩
  · replace k := k.2 h1
    refine z_aload_n dX7_least_8 rfl rfl ?_
    refine z_iload_n dX7_least_9 rfl rfl ?_
    refine z_calli (I := m_X7_least) (I2 := m_X7_isKnot) (st := []) [.int x2] dX7_least_10 ml_X7_129 rfl (by decide) lo1_0 rfl (Nat.le_of_ble_eq_true rfl) rfl (AMi.mono k (fun r10 M10 k => ?_))
    refine z_if_eq 25 dX7_least_13 (by decide) ⟨fun h2 => ?_, fun h2 => ?_⟩
    · replace k := k.1 h2
      refine z_ldc2 dX7_least_25 lc_X7_161 ?_
      exact z_lreturn (st := []) rfl dX7_least_28 ⟨_, rfl, k⟩
    · replace k := k.2 h2
      refine z_aload_n dX7_least_16 rfl rfl ?_
      refine z_iload_n dX7_least_17 rfl rfl ?_
      refine z_iload_n dX7_least_18 rfl rfl ?_
      refine z_calli (I := m_X7_least) (I2 := m_X7_finds) (st := []) [.int x1, .int x2] dX7_least_19 ml_X7_139 rfl (by decide) lo1_0 rfl (Nat.le_of_ble_eq_true rfl) rfl (AMi.mono k (fun r19 M19 k => ?_))
      refine z_if_ne 29 dX7_least_22 (by decide) ⟨fun h3 => ?_, fun h3 => ?_⟩
      · replace k := k.1 h3
        refine z_aload_n dX7_least_29 rfl rfl ?_
        refine z_getr dX7_least_30 fl_X7_7 lo1_0 rfl ?_
        refine z_iload_n dX7_least_33 rfl rfl ?_
        refine z_lald dX7_least_34 lo1_1 ⟨k.1, ?_⟩
        replace k := k.2
        refine z_lstore_n dX7_least_35 rfl (by decide) rfl ?_
        refine z_iconst (v := 0) dX7_least_36 (by decide) ?_
        refine z_istore dX7_least_37 (by decide) rfl ?_
        refine z_wk [some (.ref 0), none, none, some (.long (M19.2.2 0 (zn x1))), none, some (.int 0)] (z_le_some (z_le_none (z_le_none (z_le_some (z_le_none (z_le_some z_le_nil)))))) ?_
        exact k
      · replace k := k.2 h3
        refine z_ldc2 dX7_least_25 lc_X7_161 ?_
        exact z_lreturn (st := []) rfl dX7_least_28 ⟨_, rfl, k⟩

set_option maxRecDepth 100000 in
set_option maxHeartbeats 4000000 in
theorem r_X7_least_39 {P : Int64 → zM → Prop} (l3 : Int64) (x5 : Int32) (F : Nat → Int32) (I : Nat → Nat → Int32) (J : Nat → Nat → Int64)
  (k : (((F 6) ≤ x5 → P l3 (F, I, J)) ∧ (¬ (F 6) ≤ x5 → vp_in x5 100 ∧ vp_in (I 15 (zn x5)) 100 ∧ ((0 ≤ (lg_cmp (J 0 (zn (I 15 (zn x5)))) l3) → AW m_X7_least (z_pl P) 39 [some (.ref 0), none, none, some (.long l3), none, some (.int (x5 + 1))] [] (F, I, J)) ∧ (¬ 0 ≤ (lg_cmp (J 0 (zn (I 15 (zn x5)))) l3) → vp_in x5 100 ∧ vp_in (I 15 (zn x5)) 100 ∧ AW m_X7_least (z_pl P) 39 [some (.ref 0), none, none, some (.long (J 0 (zn (I 15 (zn x5))))), none, some (.int (x5 + 1))] [] (F, I, J)))))) :
  AW m_X7_least (z_pl P) 39 [some (.ref 0), none, none, some (.long l3), none, some (.int x5)] [] (F, I, J) := by
  refine z_iload dX7_least_39 rfl ?_
  refine z_aload_n dX7_least_41 rfl rfl ?_
  refine z_geti dX7_least_42 fl_X7_119 lo1_0 rfl ?_
  refine z_icmp_ge 84 dX7_least_45 (by decide) ⟨fun h1 => ?_, fun h1 => ?_⟩
  · replace k := k.1 h1
    refine z_lload_n dX7_least_84 rfl rfl ?_
    exact z_lreturn (st := []) rfl dX7_least_85 ⟨_, rfl, k⟩
  · replace k := k.2 h1
    refine z_aload_n dX7_least_48 rfl rfl ?_
    refine z_getr dX7_least_49 fl_X7_7 lo1_0 rfl ?_
    refine z_aload_n dX7_least_52 rfl rfl ?_
    refine z_getr dX7_least_53 fl_X7_66 lo1_0 rfl ?_
    refine z_iload dX7_least_56 rfl ?_
    refine z_iald dX7_least_58 lo1_19 ⟨k.1, ?_⟩
    replace k := k.2
    refine z_lald dX7_least_59 lo1_1 ⟨k.1, ?_⟩
    replace k := k.2
    refine z_lload_n dX7_least_60 rfl rfl ?_
    refine z_lcmp dX7_least_61 ?_
    refine z_if_ge 78 dX7_least_62 (by decide) ⟨fun h2 => ?_, fun h2 => ?_⟩
    · replace k := k.1 h2
      refine z_iinc (v := (x5 + 1)) dX7_least_78 rfl rfl (by decide) rfl ?_
      refine z_goto 39 dX7_least_81 (by decide) ?_
      exact k
    · replace k := k.2 h2
      refine z_aload_n dX7_least_65 rfl rfl ?_
      refine z_getr dX7_least_66 fl_X7_7 lo1_0 rfl ?_
      refine z_aload_n dX7_least_69 rfl rfl ?_
      refine z_getr dX7_least_70 fl_X7_66 lo1_0 rfl ?_
      refine z_iload dX7_least_73 rfl ?_
      refine z_iald dX7_least_75 lo1_19 ⟨k.1, ?_⟩
      replace k := k.2
      refine z_lald dX7_least_76 lo1_1 ⟨k.1, ?_⟩
      replace k := k.2
      refine z_lstore_n dX7_least_77 rfl (by decide) rfl ?_
      refine z_iinc (v := (x5 + 1)) dX7_least_78 rfl rfl (by decide) rfl ?_
      refine z_goto 39 dX7_least_81 (by decide) ?_
      exact k

set_option maxRecDepth 100000 in
set_option maxHeartbeats 4000000 in
theorem r_X7_add_0 {P : Int32 → zM → Prop} (x1 : Int32) (x2 : Int32) (l3 : Int64) (F : Nat → Int32) (I : Nat → Nat → Int32) (J : Nat → Nat → Int64)
  (k : AMi m_X7_isKnot [.ref 0, .int x1] (F, I, J) (fun r2 M2 => ((r2 = 0 → P (-2) M2) ∧ (¬ r2 = 0 → AMi m_X7_isKnot [.ref 0, .int x2] M2 (fun r10 M10 => ((¬ r10 = 0 → AMi m_X7_finds [.ref 0, .int x1, .int x2] M10 (fun r22 M22 => ((¬ r22 = 0 → AMv m_X7_changes [.ref 0] M22 (fun M32 => AW m_X7_add (z_pi P) 38 [some (.ref 0), none, none, some (.long l3), none, some (.int 0)] [] M32)) ∧ (r22 = 0 → P (-3) M22)))) ∧ (r10 = 0 → P (-2) M10))))))) :
  AMi m_X7_add [.ref 0, .int x1, .int x2, .long l3] (F, I, J) P := by
  refine z_entry (pad := 1) [some (.ref 0), some (.int x1), some (.int x2), some (.long l3), none, none] (by decide) rfl rfl (fun _ => Nat.le_of_ble_eq_true rfl) ?_
  refine z_aload_n dX7_add_0 rfl rfl ?_
  refine z_iload_n dX7_add_1 rfl rfl ?_
  refine z_calli (I := m_X7_add) (I2 := m_X7_isKnot) (st := []) [.int x1] dX7_add_2 ml_X7_129 rfl (by decide) lo1_0 rfl (Nat.le_of_ble_eq_true rfl) rfl (AMi.mono k (fun r2 M2 k => ?_))
  refine z_if_eq 16 dX7_add_5 (by decide) ⟨fun h1 => ?_, fun h1 => ?_⟩
  · replace k := k.1 h1
    refine z_bipush (v := (-2)) dX7_add_16 (by decide) ?_
    exact z_ireturn (st := []) rfl dX7_add_18 ⟨_, rfl, k⟩
  · replace k := k.2 h1
    refine z_aload_n dX7_add_8 rfl rfl ?_
    refine z_iload_n dX7_add_9 rfl rfl ?_
    refine z_calli (I := m_X7_add) (I2 := m_X7_isKnot) (st := []) [.int x2] dX7_add_10 ml_X7_129 rfl (by decide) lo1_0 rfl (Nat.le_of_ble_eq_true rfl) rfl (AMi.mono k (fun r10 M10 k => ?_))
    refine z_if_ne 19 dX7_add_13 (by decide) ⟨fun h2 => ?_, fun h2 => ?_⟩
    · replace k := k.1 h2
      refine z_aload_n dX7_add_19 rfl rfl ?_
      refine z_iload_n dX7_add_20 rfl rfl ?_
      refine z_iload_n dX7_add_21 rfl rfl ?_
      refine z_calli (I := m_X7_add) (I2 := m_X7_finds) (st := []) [.int x1, .int x2] dX7_add_22 ml_X7_139 rfl (by decide) lo1_0 rfl (Nat.le_of_ble_eq_true rfl) rfl (AMi.mono k (fun r22 M22 k => ?_))
      refine z_if_ne 31 dX7_add_25 (by decide) ⟨fun h3 => ?_, fun h3 => ?_⟩
      · replace k := k.1 h3
        refine z_aload_n dX7_add_31 rfl rfl ?_
        refine z_callv (I := m_X7_add) (I2 := m_X7_changes) (st := []) [] dX7_add_32 ml_X7_136 rfl (by decide) lo1_0 rfl (Nat.le_of_ble_eq_true rfl) rfl (AMv.mono k (fun M32 k => ?_))
        refine z_iconst (v := 0) dX7_add_35 (by decide) ?_
        refine z_istore dX7_add_36 (by decide) rfl ?_
        refine z_wk [some (.ref 0), none, none, some (.long l3), none, some (.int 0)] (z_le_some (z_le_none (z_le_none (z_le_some (z_le_none (z_le_some z_le_nil)))))) ?_
        exact k
      · replace k := k.2 h3
        refine z_bipush (v := (-3)) dX7_add_28 (by decide) ?_
        exact z_ireturn (st := []) rfl dX7_add_30 ⟨_, rfl, k⟩
    · replace k := k.2 h2
      refine z_bipush (v := (-2)) dX7_add_16 (by decide) ?_
      exact z_ireturn (st := []) rfl dX7_add_18 ⟨_, rfl, k⟩

set_option maxRecDepth 100000 in
set_option maxHeartbeats 4000000 in
theorem r_X7_add_38 {P : Int32 → zM → Prop} (l3 : Int64) (x5 : Int32) (F : Nat → Int32) (I : Nat → Nat → Int32) (J : Nat → Nat → Int64)
  (k : (((F 6) ≤ x5 → P (F 6) (F, I, J)) ∧ (¬ (F 6) ≤ x5 → vp_in x5 100 ∧ vp_in (I 15 (zn x5)) 100 ∧ vp_in (I 15 (zn x5)) 100 ∧ AW m_X7_add (z_pi P) 38 [some (.ref 0), none, none, some (.long l3), none, some (.int (x5 + 1))] [] (F, I, z_ul J 0 (zn (I 15 (zn x5))) ((J 0 (zn (I 15 (zn x5)))) + l3))))) :
  AW m_X7_add (z_pi P) 38 [some (.ref 0), none, none, some (.long l3), none, some (.int x5)] [] (F, I, J) := by
  refine z_iload dX7_add_38 rfl ?_
  refine z_aload_n dX7_add_40 rfl rfl ?_
  refine z_geti dX7_add_41 fl_X7_119 lo1_0 rfl ?_
  refine z_icmp_ge 69 dX7_add_44 (by decide) ⟨fun h1 => ?_, fun h1 => ?_⟩
  · replace k := k.1 h1
    refine z_aload_n dX7_add_69 rfl rfl ?_
    refine z_geti dX7_add_70 fl_X7_119 lo1_0 rfl ?_
    exact z_ireturn (st := []) rfl dX7_add_73 ⟨_, rfl, k⟩
  · replace k := k.2 h1
    refine z_aload_n dX7_add_47 rfl rfl ?_
    refine z_getr dX7_add_48 fl_X7_7 lo1_0 rfl ?_
    refine z_aload_n dX7_add_51 rfl rfl ?_
    refine z_getr dX7_add_52 fl_X7_66 lo1_0 rfl ?_
    refine z_iload dX7_add_55 rfl ?_
    refine z_iald dX7_add_57 lo1_19 ⟨k.1, ?_⟩
    replace k := k.2
    refine z_dup2 dX7_add_58 rfl rfl ?_
    refine z_lald dX7_add_59 lo1_1 ⟨k.1, ?_⟩
    replace k := k.2
    refine z_lload_n dX7_add_60 rfl rfl ?_
    refine z_ladd dX7_add_61 ?_
    refine z_last dX7_add_62 lo1_1 ⟨k.1, ?_⟩
    replace k := k.2
    refine z_iinc (v := (x5 + 1)) dX7_add_63 rfl rfl (by decide) rfl ?_
    refine z_goto 38 dX7_add_66 (by decide) ?_
    exact k

set_option maxRecDepth 100000 in
set_option maxHeartbeats 4000000 in
theorem r_X7_value_0 {P : Int64 → zM → Prop} (x1 : Int32) (F : Nat → Int32) (I : Nat → Nat → Int32) (J : Nat → Nat → Int64)
  (k : AMi m_X7_isKnot [.ref 0, .int x1] (F, I, J) (fun r2 M2 => ((r2 = 0 → P (-4611686018427387904) M2) ∧ (¬ r2 = 0 → vp_in x1 100 ∧ P (M2.2.2 0 (zn x1)) M2)))) :
  AMl m_X7_value [.ref 0, .int x1] (F, I, J) P := by
  refine z_entry (pad := 0) [some (.ref 0), some (.int x1)] (by decide) rfl rfl (fun _ => Nat.le_of_ble_eq_true rfl) ?_
  refine z_aload_n dX7_value_0 rfl rfl ?_
  refine z_iload_n dX7_value_1 rfl rfl ?_
  refine z_calli (I := m_X7_value) (I2 := m_X7_isKnot) (st := []) [.int x1] dX7_value_2 ml_X7_129 rfl (by decide) lo1_0 rfl (Nat.le_of_ble_eq_true rfl) rfl (AMi.mono k (fun r2 M2 k => ?_))
  refine z_if_eq 17 dX7_value_5 (by decide) ⟨fun h1 => ?_, fun h1 => ?_⟩
  · replace k := k.1 h1
    refine z_ldc2 dX7_value_17 lc_X7_161 ?_
    exact z_lreturn (st := []) rfl dX7_value_20 ⟨_, rfl, k⟩
  · replace k := k.2 h1
    refine z_aload_n dX7_value_8 rfl rfl ?_
    refine z_getr dX7_value_9 fl_X7_7 lo1_0 rfl ?_
    refine z_iload_n dX7_value_12 rfl rfl ?_
    refine z_lald dX7_value_13 lo1_1 ⟨k.1, ?_⟩
    replace k := k.2
    refine z_goto 20 dX7_value_14 (by decide) ?_
    exact z_lreturn (st := []) rfl dX7_value_20 ⟨_, rfl, k⟩

set_option maxRecDepth 100000 in
set_option maxHeartbeats 4000000 in
theorem r_X7_set_0 {P : Int32 → zM → Prop} (x1 : Int32) (l2 : Int64) (F : Nat → Int32) (I : Nat → Nat → Int32) (J : Nat → Nat → Int64)
  (k : AMi m_X7_isKnot [.ref 0, .int x1] (F, I, J) (fun r2 M2 => ((¬ r2 = 0 → AMv m_X7_changes [.ref 0] M2 (fun M12 => vp_in x1 100 ∧ P 1 (M12.1, M12.2.1, z_ul M12.2.2 0 (zn x1) l2))) ∧ (r2 = 0 → P (-2) M2)))) :
  AMi m_X7_set [.ref 0, .int x1, .long l2] (F, I, J) P := by
  refine z_entry (pad := 0) [some (.ref 0), some (.int x1), some (.long l2), none] (by decide) rfl rfl (fun _ => Nat.le_of_ble_eq_true rfl) ?_
  refine z_aload_n dX7_set_0 rfl rfl ?_
  refine z_iload_n dX7_set_1 rfl rfl ?_
  refine z_calli (I := m_X7_set) (I2 := m_X7_isKnot) (st := []) [.int x1] dX7_set_2 ml_X7_129 rfl (by decide) lo1_0 rfl (Nat.le_of_ble_eq_true rfl) rfl (AMi.mono k (fun r2 M2 k => ?_))
  refine z_if_ne 11 dX7_set_5 (by decide) ⟨fun h1 => ?_, fun h1 => ?_⟩
  · replace k := k.1 h1
    refine z_aload_n dX7_set_11 rfl rfl ?_
    refine z_callv (I := m_X7_set) (I2 := m_X7_changes) (st := []) [] dX7_set_12 ml_X7_136 rfl (by decide) lo1_0 rfl (Nat.le_of_ble_eq_true rfl) rfl (AMv.mono k (fun M12 k => ?_))
    refine z_aload_n dX7_set_15 rfl rfl ?_
    refine z_getr dX7_set_16 fl_X7_7 lo1_0 rfl ?_
    refine z_iload_n dX7_set_19 rfl rfl ?_
    refine z_lload_n dX7_set_20 rfl rfl ?_
    refine z_last dX7_set_21 lo1_1 ⟨k.1, ?_⟩
    replace k := k.2
    refine z_iconst (v := 1) dX7_set_22 (by decide) ?_
    exact z_ireturn (st := []) rfl dX7_set_23 ⟨_, rfl, k⟩
  · replace k := k.2 h1
    refine z_bipush (v := (-2)) dX7_set_8 (by decide) ?_
    exact z_ireturn (st := []) rfl dX7_set_10 ⟨_, rfl, k⟩

set_option maxRecDepth 100000 in
set_option maxHeartbeats 4000000 in
theorem r_X7_root_0 {P : Int32 → zM → Prop} (x1 : Int32) (F : Nat → Int32) (I : Nat → Nat → Int32) (J : Nat → Nat → Int64)
  (k : AMi m_X7_isKnot [.ref 0, .int x1] (F, I, J) (fun r2 M2 => ((¬ r2 = 0 → AMi m_X7_rootOf [.ref 0, .int x1] M2 (fun r13 M13 => AMv m_X7_changes [.ref 0] M13 (fun M18 => vp_in x1 100 ∧ P r13 (upd M18.1 3 ((M18.1 3) + 1), z_ui M18.2.1 0 (zn x1) ((M18.1 3) + 1), M18.2.2)))) ∧ (r2 = 0 → P (-2) M2)))) :
  AMi m_X7_root [.ref 0, .int x1] (F, I, J) P := by
  refine z_entry (pad := 1) [some (.ref 0), some (.int x1), none] (by decide) rfl rfl (fun _ => Nat.le_of_ble_eq_true rfl) ?_
  refine z_aload_n dX7_root_0 rfl rfl ?_
  refine z_iload_n dX7_root_1 rfl rfl ?_
  refine z_calli (I := m_X7_root) (I2 := m_X7_isKnot) (st := []) [.int x1] dX7_root_2 ml_X7_129 rfl (by decide) lo1_0 rfl (Nat.le_of_ble_eq_true rfl) rfl (AMi.mono k (fun r2 M2 k => ?_))
  refine z_if_ne 11 dX7_root_5 (by decide) ⟨fun h1 => ?_, fun h1 => ?_⟩
  · replace k := k.1 h1
    refine z_aload_n dX7_root_11 rfl rfl ?_
    refine z_iload_n dX7_root_12 rfl rfl ?_
    refine z_calli (I := m_X7_root) (I2 := m_X7_rootOf) (st := []) [.int x1] dX7_root_13 ml_X7_169 rfl (by decide) lo1_0 rfl (Nat.le_of_ble_eq_true rfl) rfl (AMi.mono k (fun r13 M13 k => ?_))
    refine z_istore_n dX7_root_16 rfl (by decide) rfl ?_
    refine z_aload_n dX7_root_17 rfl rfl ?_
    refine z_callv (I := m_X7_root) (I2 := m_X7_changes) (st := []) [] dX7_root_18 ml_X7_136 rfl (by decide) lo1_0 rfl (Nat.le_of_ble_eq_true rfl) rfl (AMv.mono k (fun M18 k => ?_))
    refine z_aload_n dX7_root_21 rfl rfl ?_
    refine z_getr dX7_root_22 fl_X7_13 lo1_0 rfl ?_
    refine z_iload_n dX7_root_25 rfl rfl ?_
    refine z_aload_n dX7_root_26 rfl rfl ?_
    refine z_dup dX7_root_27 rfl ?_
    refine z_geti dX7_root_28 fl_X7_91 lo1_0 rfl ?_
    refine z_iconst (v := 1) dX7_root_31 (by decide) ?_
    refine z_iadd dX7_root_32 ?_
    refine z_dup_x1 dX7_root_33 rfl rfl ?_
    refine z_puti dX7_root_34 fw_X7_91 lo1_0 rfl ?_
    refine z_iast dX7_root_37 lo1_2 ⟨k.1, ?_⟩
    replace k := k.2
    refine z_iload_n dX7_root_38 rfl rfl ?_
    exact z_ireturn (st := []) rfl dX7_root_39 ⟨_, rfl, k⟩
  · replace k := k.2 h1
    refine z_bipush (v := (-2)) dX7_root_8 (by decide) ?_
    exact z_ireturn (st := []) rfl dX7_root_10 ⟨_, rfl, k⟩

set_option maxRecDepth 100000 in
set_option maxHeartbeats 4000000 in
theorem r_X7_marksBelow_0 {P : Int32 → zM → Prop} (x1 : Int32) (F : Nat → Int32) (I : Nat → Nat → Int32) (J : Nat → Nat → Int64)
  (k : AMi m_X7_rootOf [.ref 0, .int x1] (F, I, J) (fun r2 M2 => AW m_X7_marksBelow (z_pi P) 11 [some (.ref 0), some (.int x1), some (.int r2), some (.int 0), some (.int 0), none] [] M2)) :
  AMi m_X7_marksBelow [.ref 0, .int x1] (F, I, J) P := by
  refine z_entry (pad := 4) [some (.ref 0), some (.int x1), none, none, none, none] (by decide) rfl rfl (fun _ => Nat.le_of_ble_eq_true rfl) ?_
  refine z_aload_n dX7_marksBelow_0 rfl rfl ?_
  refine z_iload_n dX7_marksBelow_1 rfl rfl ?_
  refine z_calli (I := m_X7_marksBelow) (I2 := m_X7_rootOf) (st := []) [.int x1] dX7_marksBelow_2 ml_X7_169 rfl (by decide) lo1_0 rfl (Nat.le_of_ble_eq_true rfl) rfl (AMi.mono k (fun r2 M2 k => ?_))
  refine z_istore_n dX7_marksBelow_5 rfl (by decide) rfl ?_
  refine z_iconst (v := 0) dX7_marksBelow_6 (by decide) ?_
  refine z_istore_n dX7_marksBelow_7 rfl (by decide) rfl ?_
  refine z_iconst (v := 0) dX7_marksBelow_8 (by decide) ?_
  refine z_istore dX7_marksBelow_9 (by decide) rfl ?_
  exact k

set_option maxRecDepth 100000 in
set_option maxHeartbeats 4000000 in
theorem r_X7_marksBelow_11 {P : Int32 → zM → Prop} (x1 : Int32) (x2 : Int32) (x3 : Int32) (x4 : Int32) (F : Nat → Int32) (I : Nat → Nat → Int32) (J : Nat → Nat → Int64)
  (k : (((F 0) ≤ x4 → P x3 (F, I, J)) ∧ (¬ (F 0) ≤ x4 → vp_in x4 100 ∧ AMi m_X7_finds [.ref 0, .int x4, .int x2] (F, z_ui I 12 (zn x4) 0, J) (fun r32 M32 => ((¬ r32 = 0 → AW m_X7_marksBelow (z_pi P) 44 [some (.ref 0), some (.int x1), some (.int x2), some (.int x3), some (.int x4), some (.int 0)] [] M32) ∧ (r32 = 0 → AW m_X7_marksBelow (z_pi P) 11 [some (.ref 0), some (.int x1), some (.int x2), some (.int x3), some (.int (x4 + 1)), none] [] M32)))))) :
  AW m_X7_marksBelow (z_pi P) 11 [some (.ref 0), some (.int x1), some (.int x2), some (.int x3), some (.int x4), none] [] (F, I, J) := by
  refine z_iload dX7_marksBelow_11 rfl ?_
  refine z_aload_n dX7_marksBelow_13 rfl rfl ?_
  refine z_geti dX7_marksBelow_14 fl_X7_84 lo1_0 rfl ?_
  refine z_icmp_ge 97 dX7_marksBelow_17 (by decide) ⟨fun h1 => ?_, fun h1 => ?_⟩
  · replace k := k.1 h1
    refine z_iload_n dX7_marksBelow_97 rfl rfl ?_
    exact z_ireturn (st := []) rfl dX7_marksBelow_98 ⟨_, rfl, k⟩
  · replace k := k.2 h1
    refine z_aload_n dX7_marksBelow_20 rfl rfl ?_
    refine z_getr dX7_marksBelow_21 fl_X7_57 lo1_0 rfl ?_
    refine z_iload dX7_marksBelow_24 rfl ?_
    refine z_iconst (v := 0) dX7_marksBelow_26 (by decide) ?_
    refine z_zast (x2 := 0) rfl dX7_marksBelow_27 lo1_16 ⟨k.1, ?_⟩
    replace k := k.2
    refine z_aload_n dX7_marksBelow_28 rfl rfl ?_
    refine z_iload dX7_marksBelow_29 rfl ?_
    refine z_iload_n dX7_marksBelow_31 rfl rfl ?_
    refine z_calli (I := m_X7_marksBelow) (I2 := m_X7_finds) (st := []) [.int x4, .int x2] dX7_marksBelow_32 ml_X7_139 rfl (by decide) lo1_0 rfl (Nat.le_of_ble_eq_true rfl) rfl (AMi.mono k (fun r32 M32 k => ?_))
    refine z_if_ne 41 dX7_marksBelow_35 (by decide) ⟨fun h2 => ?_, fun h2 => ?_⟩
    · replace k := k.1 h2
      refine z_iconst (v := 0) dX7_marksBelow_41 (by decide) ?_
      refine z_istore dX7_marksBelow_42 (by decide) rfl ?_
      exact k
    · replace k := k.2 h2
      refine z_goto 91 dX7_marksBelow_38 (by decide) ?_
      refine z_iinc (v := (x4 + 1)) dX7_marksBelow_91 rfl rfl (by decide) rfl ?_
      refine z_goto 11 dX7_marksBelow_94 (by decide) ?_
      exact k

set_option maxRecDepth 100000 in
set_option maxHeartbeats 4000000 in
theorem r_X7_marksBelow_44 {P : Int32 → zM → Prop} (x1 : Int32) (x2 : Int32) (x3 : Int32) (x4 : Int32) (x5 : Int32) (F : Nat → Int32) (I : Nat → Nat → Int32) (J : Nat → Nat → Int64)
  (k : (((F 6) ≤ x5 → vp_in x4 100 ∧ (((I 12 (zn x4)) = 0 → AW m_X7_marksBelow (z_pi P) 11 [some (.ref 0), some (.int x1), some (.int x2), some (.int x3), some (.int (x4 + 1)), none] [] (F, I, J)) ∧ (¬ (I 12 (zn x4)) = 0 → AW m_X7_marksBelow (z_pi P) 11 [some (.ref 0), some (.int x1), some (.int x2), some (.int (x3 + 1)), some (.int (x4 + 1)), none] [] (F, I, J)))) ∧ (¬ (F 6) ≤ x5 → vp_in x5 100 ∧ ((¬ (I 15 (zn x5)) = x1 → AW m_X7_marksBelow (z_pi P) 44 [some (.ref 0), some (.int x1), some (.int x2), some (.int x3), some (.int x4), some (.int (x5 + 1))] [] (F, I, J)) ∧ ((I 15 (zn x5)) = x1 → vp_in x4 100 ∧ AW m_X7_marksBelow (z_pi P) 44 [some (.ref 0), some (.int x1), some (.int x2), some (.int x3), some (.int x4), some (.int (x5 + 1))] [] (F, z_ui I 12 (zn x4) 1, J)))))) :
  AW m_X7_marksBelow (z_pi P) 44 [some (.ref 0), some (.int x1), some (.int x2), some (.int x3), some (.int x4), some (.int x5)] [] (F, I, J) := by
  refine z_iload dX7_marksBelow_44 rfl ?_
  refine z_aload_n dX7_marksBelow_46 rfl rfl ?_
  refine z_geti dX7_marksBelow_47 fl_X7_119 lo1_0 rfl ?_
  refine z_icmp_ge 78 dX7_marksBelow_50 (by decide) ⟨fun h1 => ?_, fun h1 => ?_⟩
  · replace k := k.1 h1
    refine z_aload_n dX7_marksBelow_78 rfl rfl ?_
    refine z_getr dX7_marksBelow_79 fl_X7_57 lo1_0 rfl ?_
    refine z_iload dX7_marksBelow_82 rfl ?_
    refine z_zald dX7_marksBelow_84 lo1_16 ⟨k.1, ?_⟩
    replace k := k.2
    refine z_if_eq 91 dX7_marksBelow_85 (by decide) ⟨fun h2 => ?_, fun h2 => ?_⟩
    · replace k := k.1 h2
      refine z_iinc (v := (x4 + 1)) dX7_marksBelow_91 rfl rfl (by decide) rfl ?_
      refine z_goto 11 dX7_marksBelow_94 (by decide) ?_
      refine z_wk [some (.ref 0), some (.int x1), some (.int x2), some (.int x3), some (.int (x4 + 1)), none] (z_le_some (z_le_some (z_le_some (z_le_some (z_le_some (z_le_none z_le_nil)))))) ?_
      exact k
    · replace k := k.2 h2
      refine z_iinc (v := (x3 + 1)) dX7_marksBelow_88 rfl rfl (by decide) rfl ?_
      refine z_iinc (v := (x4 + 1)) dX7_marksBelow_91 rfl rfl (by decide) rfl ?_
      refine z_goto 11 dX7_marksBelow_94 (by decide) ?_
      refine z_wk [some (.ref 0), some (.int x1), some (.int x2), some (.int (x3 + 1)), some (.int (x4 + 1)), none] (z_le_some (z_le_some (z_le_some (z_le_some (z_le_some (z_le_none z_le_nil)))))) ?_
      exact k
  · replace k := k.2 h1
    refine z_aload_n dX7_marksBelow_53 rfl rfl ?_
    refine z_getr dX7_marksBelow_54 fl_X7_66 lo1_0 rfl ?_
    refine z_iload dX7_marksBelow_57 rfl ?_
    refine z_iald dX7_marksBelow_59 lo1_19 ⟨k.1, ?_⟩
    replace k := k.2
    refine z_iload_n dX7_marksBelow_60 rfl rfl ?_
    refine z_icmp_ne 72 dX7_marksBelow_61 (by decide) ⟨fun h3 => ?_, fun h3 => ?_⟩
    · replace k := k.1 h3
      refine z_iinc (v := (x5 + 1)) dX7_marksBelow_72 rfl rfl (by decide) rfl ?_
      refine z_goto 44 dX7_marksBelow_75 (by decide) ?_
      exact k
    · replace k := k.2 h3
      refine z_aload_n dX7_marksBelow_64 rfl rfl ?_
      refine z_getr dX7_marksBelow_65 fl_X7_57 lo1_0 rfl ?_
      refine z_iload dX7_marksBelow_68 rfl ?_
      refine z_iconst (v := 1) dX7_marksBelow_70 (by decide) ?_
      refine z_zast (x2 := 1) rfl dX7_marksBelow_71 lo1_16 ⟨k.1, ?_⟩
      replace k := k.2
      refine z_iinc (v := (x5 + 1)) dX7_marksBelow_72 rfl rfl (by decide) rfl ?_
      refine z_goto 44 dX7_marksBelow_75 (by decide) ?_
      exact k

set_option maxRecDepth 100000 in
set_option maxHeartbeats 4000000 in
theorem r_X7_below_0 {P : Int32 → zM → Prop} (x1 : Int32) (x2 : Int32) (F : Nat → Int32) (I : Nat → Nat → Int32) (J : Nat → Nat → Int64)
  (k : AMi m_X7_isKnot [.ref 0, .int x1] (F, I, J) (fun r2 M2 => ((r2 = 0 → P (-2) M2) ∧ (¬ r2 = 0 → ((x2 < 0 → P (-2) M2) ∧ (¬ x2 < 0 → ((x2 ≤ 4 → AMi m_X7_rootOf [.ref 0, .int x1] M2 (fun r22 M22 => ((x2 = 0 → P r22 M22) ∧ (¬ x2 = 0 → ((x2 = 1 → AMi m_X7_finds [.ref 0, .int x1, .int r22] M22 (fun r61 M61 => (((M61.1 6) ≤ 1 → P (-1) M61) ∧ (¬ (M61.1 6) ≤ 1 → vp_in 1 100 ∧ P (M61.2.1 15 (zn 1)) M61)))) ∧ (¬ x2 = 1 → ((x2 = 2 → AMi m_X7_finds [.ref 0, .int x1, .int r22] M22 (fun r87 M87 => P ((M87.1 6) - 1) M87)) ∧ (¬ x2 = 2 → ((x2 = 3 → AMi m_X7_marksBelow [.ref 0, .int x1] M22 (fun r100 M100 => P r100 M100)) ∧ (¬ x2 = 3 → AMi m_X7_isCut [.ref 0, .int x1] M22 (fun r106 M106 => ((r106 = 0 → P 0 M106) ∧ (¬ r106 = 0 → P 1 M106))))))))))))) ∧ (¬ x2 ≤ 4 → P (-2) M2)))))))) :
  AMi m_X7_below [.ref 0, .int x1, .int x2] (F, I, J) P := by
  refine z_entry (pad := 1) [some (.ref 0), some (.int x1), some (.int x2), none] (by decide) rfl rfl (fun _ => Nat.le_of_ble_eq_true rfl) ?_
  refine z_aload_n dX7_below_0 rfl rfl ?_
  refine z_iload_n dX7_below_1 rfl rfl ?_
  refine z_calli (I := m_X7_below) (I2 := m_X7_isKnot) (st := []) [.int x1] dX7_below_2 ml_X7_129 rfl (by decide) lo1_0 rfl (Nat.le_of_ble_eq_true rfl) rfl (AMi.mono k (fun r2 M2 k => ?_))
  refine z_if_eq 17 dX7_below_5 (by decide) ⟨fun h1 => ?_, fun h1 => ?_⟩
  · replace k := k.1 h1
    refine z_bipush (v := (-2)) dX7_below_17 (by decide) ?_
    exact z_ireturn (st := []) rfl dX7_below_19 ⟨_, rfl, k⟩
  · replace k := k.2 h1
    refine z_iload_n dX7_below_8 rfl rfl ?_
    refine z_if_lt 17 dX7_below_9 (by decide) ⟨fun h2 => ?_, fun h2 => ?_⟩
    · replace k := k.1 h2
      refine z_bipush (v := (-2)) dX7_below_17 (by decide) ?_
      exact z_ireturn (st := []) rfl dX7_below_19 ⟨_, rfl, k⟩
    · replace k := k.2 h2
      refine z_iload_n dX7_below_12 rfl rfl ?_
      refine z_iconst (v := 4) dX7_below_13 (by decide) ?_
      refine z_icmp_le 20 dX7_below_14 (by decide) ⟨fun h3 => ?_, fun h3 => ?_⟩
      · replace k := k.1 h3
        refine z_aload_n dX7_below_20 rfl rfl ?_
        refine z_iload_n dX7_below_21 rfl rfl ?_
        refine z_calli (I := m_X7_below) (I2 := m_X7_rootOf) (st := []) [.int x1] dX7_below_22 ml_X7_169 rfl (by decide) lo1_0 rfl (Nat.le_of_ble_eq_true rfl) rfl (AMi.mono k (fun r22 M22 k => ?_))
        refine z_istore_n dX7_below_25 rfl (by decide) rfl ?_
        refine z_iload_n dX7_below_26 rfl rfl ?_
        refine z_case 0 x2 ⟨fun h4 => ?_, fun h4 => ?_⟩
        · replace k := k.1 h4
          refine z_tin (off := 29) 56 dX7_below_27 (by (try dsimp only); rw [h4]; decide) (by (try dsimp only); rw [h4]; decide) (by (try dsimp only); rw [h4]; decide) (by decide) ?_
          refine z_iload_n dX7_below_56 rfl rfl ?_
          exact z_ireturn (st := []) rfl dX7_below_57 ⟨_, rfl, k⟩
        replace k := k.2 h4
        refine z_case 1 x2 ⟨fun h5 => ?_, fun h5 => ?_⟩
        · replace k := k.1 h5
          refine z_tin (off := 31) 58 dX7_below_27 (by (try dsimp only); rw [h5]; decide) (by (try dsimp only); rw [h5]; decide) (by (try dsimp only); rw [h5]; decide) (by decide) ?_
          refine z_aload_n dX7_below_58 rfl rfl ?_
          refine z_iload_n dX7_below_59 rfl rfl ?_
          refine z_iload_n dX7_below_60 rfl rfl ?_
          refine z_calli (I := m_X7_below) (I2 := m_X7_finds) (st := []) [.int x1, .int r22] dX7_below_61 ml_X7_139 rfl (by decide) lo1_0 rfl (Nat.le_of_ble_eq_true rfl) rfl (AMi.mono k (fun r61 M61 k => ?_))
          refine z_pop dX7_below_64 rfl ?_
          refine z_aload_n dX7_below_65 rfl rfl ?_
          refine z_geti dX7_below_66 fl_X7_119 lo1_0 rfl ?_
          refine z_iconst (v := 1) dX7_below_69 (by decide) ?_
          refine z_icmp_le 82 dX7_below_70 (by decide) ⟨fun h6 => ?_, fun h6 => ?_⟩
          · replace k := k.1 h6
            refine z_iconst (v := (-1)) dX7_below_82 (by decide) ?_
            exact z_ireturn (st := []) rfl dX7_below_83 ⟨_, rfl, k⟩
          · replace k := k.2 h6
            refine z_aload_n dX7_below_73 rfl rfl ?_
            refine z_getr dX7_below_74 fl_X7_66 lo1_0 rfl ?_
            refine z_iconst (v := 1) dX7_below_77 (by decide) ?_
            refine z_iald dX7_below_78 lo1_19 ⟨k.1, ?_⟩
            replace k := k.2
            refine z_goto 83 dX7_below_79 (by decide) ?_
            exact z_ireturn (st := []) rfl dX7_below_83 ⟨_, rfl, k⟩
        replace k := k.2 h5
        refine z_case 2 x2 ⟨fun h7 => ?_, fun h7 => ?_⟩
        · replace k := k.1 h7
          refine z_tin (off := 57) 84 dX7_below_27 (by (try dsimp only); rw [h7]; decide) (by (try dsimp only); rw [h7]; decide) (by (try dsimp only); rw [h7]; decide) (by decide) ?_
          refine z_aload_n dX7_below_84 rfl rfl ?_
          refine z_iload_n dX7_below_85 rfl rfl ?_
          refine z_iload_n dX7_below_86 rfl rfl ?_
          refine z_calli (I := m_X7_below) (I2 := m_X7_finds) (st := []) [.int x1, .int r22] dX7_below_87 ml_X7_139 rfl (by decide) lo1_0 rfl (Nat.le_of_ble_eq_true rfl) rfl (AMi.mono k (fun r87 M87 k => ?_))
          refine z_pop dX7_below_90 rfl ?_
          refine z_aload_n dX7_below_91 rfl rfl ?_
          refine z_geti dX7_below_92 fl_X7_119 lo1_0 rfl ?_
          refine z_iconst (v := 1) dX7_below_95 (by decide) ?_
          refine z_isub dX7_below_96 ?_
          exact z_ireturn (st := []) rfl dX7_below_97 ⟨_, rfl, k⟩
        replace k := k.2 h7
        refine z_case 3 x2 ⟨fun h8 => ?_, fun h8 => ?_⟩
        · replace k := k.1 h8
          refine z_tin (off := 71) 98 dX7_below_27 (by (try dsimp only); rw [h8]; decide) (by (try dsimp only); rw [h8]; decide) (by (try dsimp only); rw [h8]; decide) (by decide) ?_
          refine z_aload_n dX7_below_98 rfl rfl ?_
          refine z_iload_n dX7_below_99 rfl rfl ?_
          refine z_calli (I := m_X7_below) (I2 := m_X7_marksBelow) (st := []) [.int x1] dX7_below_100 ml_X7_172 rfl (by decide) lo1_0 rfl (Nat.le_of_ble_eq_true rfl) rfl (AMi.mono k (fun r100 M100 k => ?_))
          exact z_ireturn (st := []) rfl dX7_below_103 ⟨_, rfl, k⟩
        replace k := k.2 h8
        have eh4 := lv_neT h4 (a := 0) (by decide)
        have eh5 := lv_neT h5 (a := 1) (by decide)
        have eh7 := lv_neT h7 (a := 2) (by decide)
        have eh8 := lv_neT h8 (a := 3) (by decide)
        refine z_tout 104 dX7_below_27 (by omega) (by decide) ?_
        refine z_aload_n dX7_below_104 rfl rfl ?_
        refine z_iload_n dX7_below_105 rfl rfl ?_
        refine z_calli (I := m_X7_below) (I2 := m_X7_isCut) (st := []) [.int x1] dX7_below_106 ml_X7_166 rfl (by decide) lo1_0 rfl (Nat.le_of_ble_eq_true rfl) rfl (AMi.mono k (fun r106 M106 k => ?_))
        refine z_if_eq 116 dX7_below_109 (by decide) ⟨fun h9 => ?_, fun h9 => ?_⟩
        · replace k := k.1 h9
          refine z_iconst (v := 0) dX7_below_116 (by decide) ?_
          exact z_ireturn (st := []) rfl dX7_below_117 ⟨_, rfl, k⟩
        · replace k := k.2 h9
          refine z_iconst (v := 1) dX7_below_112 (by decide) ?_
          refine z_goto 117 dX7_below_113 (by decide) ?_
          exact z_ireturn (st := []) rfl dX7_below_117 ⟨_, rfl, k⟩
      · replace k := k.2 h3
        refine z_bipush (v := (-2)) dX7_below_17 (by decide) ?_
        exact z_ireturn (st := []) rfl dX7_below_19 ⟨_, rfl, k⟩

set_option maxRecDepth 100000 in
set_option maxHeartbeats 4000000 in
theorem r_X7_meet_0 {P : Int32 → zM → Prop} (x1 : Int32) (x2 : Int32) (F : Nat → Int32) (I : Nat → Nat → Int32) (J : Nat → Nat → Int64)
  (k : AMi m_X7_isKnot [.ref 0, .int x1] (F, I, J) (fun r2 M2 => ((r2 = 0 → P (-2) M2) ∧ (¬ r2 = 0 → AMi m_X7_isKnot [.ref 0, .int x2] M2 (fun r10 M10 => ((¬ r10 = 0 → AMi m_X7_isTogether [.ref 0, .int x1, .int x2] M10 (fun r22 M22 => ((¬ r22 = 0 → AMi m_X7_rootOf [.ref 0, .int x1] M22 (fun r32 M32 => AMi m_X7_finds [.ref 0, .int x2, .int r32] M32 (fun r39 M39 => AW m_X7_meet (z_pi P) 46 [some (.ref 0), some (.int x1), none, some (.int r32), some (.int 0)] [] M39))) ∧ (r22 = 0 → P (-1) M22)))) ∧ (r10 = 0 → P (-2) M10))))))) :
  AMi m_X7_meet [.ref 0, .int x1, .int x2] (F, I, J) P := by
  refine z_entry (pad := 2) [some (.ref 0), some (.int x1), some (.int x2), none, none] (by decide) rfl rfl (fun _ => Nat.le_of_ble_eq_true rfl) ?_
  refine z_aload_n dX7_meet_0 rfl rfl ?_
  refine z_iload_n dX7_meet_1 rfl rfl ?_
  refine z_calli (I := m_X7_meet) (I2 := m_X7_isKnot) (st := []) [.int x1] dX7_meet_2 ml_X7_129 rfl (by decide) lo1_0 rfl (Nat.le_of_ble_eq_true rfl) rfl (AMi.mono k (fun r2 M2 k => ?_))
  refine z_if_eq 16 dX7_meet_5 (by decide) ⟨fun h1 => ?_, fun h1 => ?_⟩
  · replace k := k.1 h1
    refine z_bipush (v := (-2)) dX7_meet_16 (by decide) ?_
    exact z_ireturn (st := []) rfl dX7_meet_18 ⟨_, rfl, k⟩
  · replace k := k.2 h1
    refine z_aload_n dX7_meet_8 rfl rfl ?_
    refine z_iload_n dX7_meet_9 rfl rfl ?_
    refine z_calli (I := m_X7_meet) (I2 := m_X7_isKnot) (st := []) [.int x2] dX7_meet_10 ml_X7_129 rfl (by decide) lo1_0 rfl (Nat.le_of_ble_eq_true rfl) rfl (AMi.mono k (fun r10 M10 k => ?_))
    refine z_if_ne 19 dX7_meet_13 (by decide) ⟨fun h2 => ?_, fun h2 => ?_⟩
    · replace k := k.1 h2
      refine z_aload_n dX7_meet_19 rfl rfl ?_
      refine z_iload_n dX7_meet_20 rfl rfl ?_
      refine z_iload_n dX7_meet_21 rfl rfl ?_
      refine z_calli (I := m_X7_meet) (I2 := m_X7_isTogether) (st := []) [.int x1, .int x2] dX7_meet_22 ml_X7_133 rfl (by decide) lo1_0 rfl (Nat.le_of_ble_eq_true rfl) rfl (AMi.mono k (fun r22 M22 k => ?_))
      refine z_if_ne 30 dX7_meet_25 (by decide) ⟨fun h3 => ?_, fun h3 => ?_⟩
      · replace k := k.1 h3
        refine z_aload_n dX7_meet_30 rfl rfl ?_
        refine z_iload_n dX7_meet_31 rfl rfl ?_
        refine z_calli (I := m_X7_meet) (I2 := m_X7_rootOf) (st := []) [.int x1] dX7_meet_32 ml_X7_169 rfl (by decide) lo1_0 rfl (Nat.le_of_ble_eq_true rfl) rfl (AMi.mono k (fun r32 M32 k => ?_))
        refine z_istore_n dX7_meet_35 rfl (by decide) rfl ?_
        refine z_aload_n dX7_meet_36 rfl rfl ?_
        refine z_iload_n dX7_meet_37 rfl rfl ?_
        refine z_iload_n dX7_meet_38 rfl rfl ?_
        refine z_calli (I := m_X7_meet) (I2 := m_X7_finds) (st := []) [.int x2, .int r32] dX7_meet_39 ml_X7_139 rfl (by decide) lo1_0 rfl (Nat.le_of_ble_eq_true rfl) rfl (AMi.mono k (fun r39 M39 k => ?_))
        refine z_pop dX7_meet_42 rfl ?_
        refine z_iconst (v := 0) dX7_meet_43 (by decide) ?_
        refine z_istore dX7_meet_44 (by decide) rfl ?_
        refine z_wk [some (.ref 0), some (.int x1), none, some (.int r32), some (.int 0)] (z_le_some (z_le_some (z_le_none (z_le_some (z_le_some z_le_nil))))) ?_
        exact k
      · replace k := k.2 h3
        refine z_iconst (v := (-1)) dX7_meet_28 (by decide) ?_
        exact z_ireturn (st := []) rfl dX7_meet_29 ⟨_, rfl, k⟩
    · replace k := k.2 h2
      refine z_bipush (v := (-2)) dX7_meet_16 (by decide) ?_
      exact z_ireturn (st := []) rfl dX7_meet_18 ⟨_, rfl, k⟩

set_option maxRecDepth 100000 in
set_option maxHeartbeats 4000000 in
theorem r_X7_meet_46 {P : Int32 → zM → Prop} (x1 : Int32) (x3 : Int32) (x4 : Int32) (F : Nat → Int32) (I : Nat → Nat → Int32) (J : Nat → Nat → Int64)
  (k : (((F 0) ≤ x4 → AW m_X7_meet (z_pi P) 72 [some (.ref 0), some (.int x1), none, some (.int x3), some (.int 0)] [] (F, I, J)) ∧ (¬ (F 0) ≤ x4 → vp_in x4 100 ∧ AW m_X7_meet (z_pi P) 46 [some (.ref 0), some (.int x1), none, some (.int x3), some (.int (x4 + 1))] [] (F, z_ui I 12 (zn x4) 0, J)))) :
  AW m_X7_meet (z_pi P) 46 [some (.ref 0), some (.int x1), none, some (.int x3), some (.int x4)] [] (F, I, J) := by
  refine z_iload dX7_meet_46 rfl ?_
  refine z_aload_n dX7_meet_48 rfl rfl ?_
  refine z_geti dX7_meet_49 fl_X7_84 lo1_0 rfl ?_
  refine z_icmp_ge 69 dX7_meet_52 (by decide) ⟨fun h1 => ?_, fun h1 => ?_⟩
  · replace k := k.1 h1
    refine z_iconst (v := 0) dX7_meet_69 (by decide) ?_
    refine z_istore dX7_meet_70 (by decide) rfl ?_
    exact k
  · replace k := k.2 h1
    refine z_aload_n dX7_meet_55 rfl rfl ?_
    refine z_getr dX7_meet_56 fl_X7_57 lo1_0 rfl ?_
    refine z_iload dX7_meet_59 rfl ?_
    refine z_iconst (v := 0) dX7_meet_61 (by decide) ?_
    refine z_zast (x2 := 0) rfl dX7_meet_62 lo1_16 ⟨k.1, ?_⟩
    replace k := k.2
    refine z_iinc (v := (x4 + 1)) dX7_meet_63 rfl rfl (by decide) rfl ?_
    refine z_goto 46 dX7_meet_66 (by decide) ?_
    exact k

set_option maxRecDepth 100000 in
set_option maxHeartbeats 4000000 in
theorem r_X7_meet_72 {P : Int32 → zM → Prop} (x1 : Int32) (x3 : Int32) (x4 : Int32) (F : Nat → Int32) (I : Nat → Nat → Int32) (J : Nat → Nat → Int64)
  (k : (((F 6) ≤ x4 → AMi m_X7_finds [.ref 0, .int x1, .int x3] (F, I, J) (fun r103 M103 => AW m_X7_meet (z_pi P) 110 [some (.ref 0), none, none, none, some (.int 0)] [] M103)) ∧ (¬ (F 6) ≤ x4 → vp_in x4 100 ∧ vp_in (I 15 (zn x4)) 100 ∧ AW m_X7_meet (z_pi P) 72 [some (.ref 0), some (.int x1), none, some (.int x3), some (.int (x4 + 1))] [] (F, z_ui I 12 (zn (I 15 (zn x4))) 1, J)))) :
  AW m_X7_meet (z_pi P) 72 [some (.ref 0), some (.int x1), none, some (.int x3), some (.int x4)] [] (F, I, J) := by
  refine z_iload dX7_meet_72 rfl ?_
  refine z_aload_n dX7_meet_74 rfl rfl ?_
  refine z_geti dX7_meet_75 fl_X7_119 lo1_0 rfl ?_
  refine z_icmp_ge 100 dX7_meet_78 (by decide) ⟨fun h1 => ?_, fun h1 => ?_⟩
  · replace k := k.1 h1
    refine z_aload_n dX7_meet_100 rfl rfl ?_
    refine z_iload_n dX7_meet_101 rfl rfl ?_
    refine z_iload_n dX7_meet_102 rfl rfl ?_
    refine z_calli (I := m_X7_meet) (I2 := m_X7_finds) (st := []) [.int x1, .int x3] dX7_meet_103 ml_X7_139 rfl (by decide) lo1_0 rfl (Nat.le_of_ble_eq_true rfl) rfl (AMi.mono k (fun r103 M103 k => ?_))
    refine z_pop dX7_meet_106 rfl ?_
    refine z_iconst (v := 0) dX7_meet_107 (by decide) ?_
    refine z_istore dX7_meet_108 (by decide) rfl ?_
    refine z_wk [some (.ref 0), none, none, none, some (.int 0)] (z_le_some (z_le_none (z_le_none (z_le_none (z_le_some z_le_nil))))) ?_
    exact k
  · replace k := k.2 h1
    refine z_aload_n dX7_meet_81 rfl rfl ?_
    refine z_getr dX7_meet_82 fl_X7_57 lo1_0 rfl ?_
    refine z_aload_n dX7_meet_85 rfl rfl ?_
    refine z_getr dX7_meet_86 fl_X7_66 lo1_0 rfl ?_
    refine z_iload dX7_meet_89 rfl ?_
    refine z_iald dX7_meet_91 lo1_19 ⟨k.1, ?_⟩
    replace k := k.2
    refine z_iconst (v := 1) dX7_meet_92 (by decide) ?_
    refine z_zast (x2 := 1) rfl dX7_meet_93 lo1_16 ⟨k.1, ?_⟩
    replace k := k.2
    refine z_iinc (v := (x4 + 1)) dX7_meet_94 rfl rfl (by decide) rfl ?_
    refine z_goto 72 dX7_meet_97 (by decide) ?_
    exact k

set_option maxRecDepth 100000 in
set_option maxHeartbeats 4000000 in
theorem r_X7_meet_110 {P : Int32 → zM → Prop} (x4 : Int32) (F : Nat → Int32) (I : Nat → Nat → Int32) (J : Nat → Nat → Int64)
  (k : (((F 6) ≤ x4 → P (-1) (F, I, J)) ∧ (¬ (F 6) ≤ x4 → vp_in x4 100 ∧ vp_in (I 15 (zn x4)) 100 ∧ (((I 12 (zn (I 15 (zn x4)))) = 0 → AW m_X7_meet (z_pi P) 110 [some (.ref 0), none, none, none, some (.int (x4 + 1))] [] (F, I, J)) ∧ (¬ (I 12 (zn (I 15 (zn x4)))) = 0 → vp_in x4 100 ∧ P (I 15 (zn x4)) (F, I, J)))))) :
  AW m_X7_meet (z_pi P) 110 [some (.ref 0), none, none, none, some (.int x4)] [] (F, I, J) := by
  refine z_iload dX7_meet_110 rfl ?_
  refine z_aload_n dX7_meet_112 rfl rfl ?_
  refine z_geti dX7_meet_113 fl_X7_119 lo1_0 rfl ?_
  refine z_icmp_ge 148 dX7_meet_116 (by decide) ⟨fun h1 => ?_, fun h1 => ?_⟩
  · replace k := k.1 h1
    refine z_iconst (v := (-1)) dX7_meet_148 (by decide) ?_
    exact z_ireturn (st := []) rfl dX7_meet_149 ⟨_, rfl, k⟩
  · replace k := k.2 h1
    refine z_aload_n dX7_meet_119 rfl rfl ?_
    refine z_getr dX7_meet_120 fl_X7_57 lo1_0 rfl ?_
    refine z_aload_n dX7_meet_123 rfl rfl ?_
    refine z_getr dX7_meet_124 fl_X7_66 lo1_0 rfl ?_
    refine z_iload dX7_meet_127 rfl ?_
    refine z_iald dX7_meet_129 lo1_19 ⟨k.1, ?_⟩
    replace k := k.2
    refine z_zald dX7_meet_130 lo1_16 ⟨k.1, ?_⟩
    replace k := k.2
    refine z_if_eq 142 dX7_meet_131 (by decide) ⟨fun h2 => ?_, fun h2 => ?_⟩
    · replace k := k.1 h2
      refine z_iinc (v := (x4 + 1)) dX7_meet_142 rfl rfl (by decide) rfl ?_
      refine z_goto 110 dX7_meet_145 (by decide) ?_
      exact k
    · replace k := k.2 h2
      refine z_aload_n dX7_meet_134 rfl rfl ?_
      refine z_getr dX7_meet_135 fl_X7_66 lo1_0 rfl ?_
      refine z_iload dX7_meet_138 rfl ?_
      refine z_iald dX7_meet_140 lo1_19 ⟨k.1, ?_⟩
      replace k := k.2
      exact z_ireturn (st := []) rfl dX7_meet_141 ⟨_, rfl, k⟩

set_option maxRecDepth 100000 in
set_option maxHeartbeats 4000000 in
theorem r_X7_sumBelow_0 {P : Int64 → zM → Prop} (x1 : Int32) (F : Nat → Int32) (I : Nat → Nat → Int32) (J : Nat → Nat → Int64)
  (k : AMi m_X7_isKnot [.ref 0, .int x1] (F, I, J) (fun r2 M2 => ((¬ r2 = 0 → AMi m_X7_marksBelow [.ref 0, .int x1] M2 (fun r14 M14 => AW m_X7_sumBelow (z_pl P) 23 [some (.ref 0), none, some (.long 0), none, some (.int 0)] [] M14)) ∧ (r2 = 0 → P (-4611686018427387904) M2)))) :
  AMl m_X7_sumBelow [.ref 0, .int x1] (F, I, J) P := by
  refine z_entry (pad := 3) [some (.ref 0), some (.int x1), none, none, none] (by decide) rfl rfl (fun _ => Nat.le_of_ble_eq_true rfl) ?_
  refine z_aload_n dX7_sumBelow_0 rfl rfl ?_
  refine z_iload_n dX7_sumBelow_1 rfl rfl ?_
  refine z_calli (I := m_X7_sumBelow) (I2 := m_X7_isKnot) (st := []) [.int x1] dX7_sumBelow_2 ml_X7_129 rfl (by decide) lo1_0 rfl (Nat.le_of_ble_eq_true rfl) rfl (AMi.mono k (fun r2 M2 k => ?_))
  refine z_if_ne 12 dX7_sumBelow_5 (by decide) ⟨fun h1 => ?_, fun h1 => ?_⟩
  · replace k := k.1 h1
    refine z_aload_n dX7_sumBelow_12 rfl rfl ?_
    refine z_iload_n dX7_sumBelow_13 rfl rfl ?_
    refine z_calli (I := m_X7_sumBelow) (I2 := m_X7_marksBelow) (st := []) [.int x1] dX7_sumBelow_14 ml_X7_172 rfl (by decide) lo1_0 rfl (Nat.le_of_ble_eq_true rfl) rfl (AMi.mono k (fun r14 M14 k => ?_))
    refine z_pop dX7_sumBelow_17 rfl ?_
    refine z_lconst (v := 0) dX7_sumBelow_18 (by decide) ?_
    refine z_lstore_n dX7_sumBelow_19 rfl (by decide) rfl ?_
    refine z_iconst (v := 0) dX7_sumBelow_20 (by decide) ?_
    refine z_istore dX7_sumBelow_21 (by decide) rfl ?_
    refine z_wk [some (.ref 0), none, some (.long 0), none, some (.int 0)] (z_le_some (z_le_none (z_le_some (z_le_none (z_le_some z_le_nil))))) ?_
    exact k
  · replace k := k.2 h1
    refine z_ldc2 dX7_sumBelow_8 lc_X7_161 ?_
    exact z_lreturn (st := []) rfl dX7_sumBelow_11 ⟨_, rfl, k⟩

set_option maxRecDepth 100000 in
set_option maxHeartbeats 4000000 in
theorem r_X7_sumBelow_23 {P : Int64 → zM → Prop} (l2 : Int64) (x4 : Int32) (F : Nat → Int32) (I : Nat → Nat → Int32) (J : Nat → Nat → Int64)
  (k : (((F 0) ≤ x4 → P l2 (F, I, J)) ∧ (¬ (F 0) ≤ x4 → vp_in x4 100 ∧ (((I 12 (zn x4)) = 0 → AW m_X7_sumBelow (z_pl P) 23 [some (.ref 0), none, some (.long l2), none, some (.int (x4 + 1))] [] (F, I, J)) ∧ (¬ (I 12 (zn x4)) = 0 → vp_in x4 100 ∧ AW m_X7_sumBelow (z_pl P) 23 [some (.ref 0), none, some (.long (l2 + (J 0 (zn x4)))), none, some (.int (x4 + 1))] [] (F, I, J)))))) :
  AW m_X7_sumBelow (z_pl P) 23 [some (.ref 0), none, some (.long l2), none, some (.int x4)] [] (F, I, J) := by
  refine z_iload dX7_sumBelow_23 rfl ?_
  refine z_aload_n dX7_sumBelow_25 rfl rfl ?_
  refine z_geti dX7_sumBelow_26 fl_X7_84 lo1_0 rfl ?_
  refine z_icmp_ge 58 dX7_sumBelow_29 (by decide) ⟨fun h1 => ?_, fun h1 => ?_⟩
  · replace k := k.1 h1
    refine z_lload_n dX7_sumBelow_58 rfl rfl ?_
    exact z_lreturn (st := []) rfl dX7_sumBelow_59 ⟨_, rfl, k⟩
  · replace k := k.2 h1
    refine z_aload_n dX7_sumBelow_32 rfl rfl ?_
    refine z_getr dX7_sumBelow_33 fl_X7_57 lo1_0 rfl ?_
    refine z_iload dX7_sumBelow_36 rfl ?_
    refine z_zald dX7_sumBelow_38 lo1_16 ⟨k.1, ?_⟩
    replace k := k.2
    refine z_if_eq 52 dX7_sumBelow_39 (by decide) ⟨fun h2 => ?_, fun h2 => ?_⟩
    · replace k := k.1 h2
      refine z_iinc (v := (x4 + 1)) dX7_sumBelow_52 rfl rfl (by decide) rfl ?_
      refine z_goto 23 dX7_sumBelow_55 (by decide) ?_
      exact k
    · replace k := k.2 h2
      refine z_lload_n dX7_sumBelow_42 rfl rfl ?_
      refine z_aload_n dX7_sumBelow_43 rfl rfl ?_
      refine z_getr dX7_sumBelow_44 fl_X7_7 lo1_0 rfl ?_
      refine z_iload dX7_sumBelow_47 rfl ?_
      refine z_lald dX7_sumBelow_49 lo1_1 ⟨k.1, ?_⟩
      replace k := k.2
      refine z_ladd dX7_sumBelow_50 ?_
      refine z_lstore_n dX7_sumBelow_51 rfl (by decide) rfl ?_
      refine z_iinc (v := (x4 + 1)) dX7_sumBelow_52 rfl rfl (by decide) rfl ?_
      refine z_goto 23 dX7_sumBelow_55 (by decide) ?_
      exact k

set_option maxRecDepth 100000 in
set_option maxHeartbeats 4000000 in
theorem r_X7_addBelow_0 {P : Int32 → zM → Prop} (x1 : Int32) (l2 : Int64) (F : Nat → Int32) (I : Nat → Nat → Int32) (J : Nat → Nat → Int64)
  (k : AMi m_X7_isKnot [.ref 0, .int x1] (F, I, J) (fun r2 M2 => ((¬ r2 = 0 → AMi m_X7_marksBelow [.ref 0, .int x1] M2 (fun r13 M13 => AMv m_X7_changes [.ref 0] M13 (fun M19 => AW m_X7_addBelow (z_pi P) 25 [some (.ref 0), none, some (.long l2), none, some (.int r13), some (.int 0)] [] M19))) ∧ (r2 = 0 → P (-2) M2)))) :
  AMi m_X7_addBelow [.ref 0, .int x1, .long l2] (F, I, J) P := by
  refine z_entry (pad := 2) [some (.ref 0), some (.int x1), some (.long l2), none, none, none] (by decide) rfl rfl (fun _ => Nat.le_of_ble_eq_true rfl) ?_
  refine z_aload_n dX7_addBelow_0 rfl rfl ?_
  refine z_iload_n dX7_addBelow_1 rfl rfl ?_
  refine z_calli (I := m_X7_addBelow) (I2 := m_X7_isKnot) (st := []) [.int x1] dX7_addBelow_2 ml_X7_129 rfl (by decide) lo1_0 rfl (Nat.le_of_ble_eq_true rfl) rfl (AMi.mono k (fun r2 M2 k => ?_))
  refine z_if_ne 11 dX7_addBelow_5 (by decide) ⟨fun h1 => ?_, fun h1 => ?_⟩
  · replace k := k.1 h1
    refine z_aload_n dX7_addBelow_11 rfl rfl ?_
    refine z_iload_n dX7_addBelow_12 rfl rfl ?_
    refine z_calli (I := m_X7_addBelow) (I2 := m_X7_marksBelow) (st := []) [.int x1] dX7_addBelow_13 ml_X7_172 rfl (by decide) lo1_0 rfl (Nat.le_of_ble_eq_true rfl) rfl (AMi.mono k (fun r13 M13 k => ?_))
    refine z_istore dX7_addBelow_16 (by decide) rfl ?_
    refine z_aload_n dX7_addBelow_18 rfl rfl ?_
    refine z_callv (I := m_X7_addBelow) (I2 := m_X7_changes) (st := []) [] dX7_addBelow_19 ml_X7_136 rfl (by decide) lo1_0 rfl (Nat.le_of_ble_eq_true rfl) rfl (AMv.mono k (fun M19 k => ?_))
    refine z_iconst (v := 0) dX7_addBelow_22 (by decide) ?_
    refine z_istore dX7_addBelow_23 (by decide) rfl ?_
    refine z_wk [some (.ref 0), none, some (.long l2), none, some (.int r13), some (.int 0)] (z_le_some (z_le_none (z_le_some (z_le_none (z_le_some (z_le_some z_le_nil)))))) ?_
    exact k
  · replace k := k.2 h1
    refine z_bipush (v := (-2)) dX7_addBelow_8 (by decide) ?_
    exact z_ireturn (st := []) rfl dX7_addBelow_10 ⟨_, rfl, k⟩

set_option maxRecDepth 100000 in
set_option maxHeartbeats 4000000 in
theorem r_X7_addBelow_25 {P : Int32 → zM → Prop} (l2 : Int64) (x4 : Int32) (x5 : Int32) (F : Nat → Int32) (I : Nat → Nat → Int32) (J : Nat → Nat → Int64)
  (k : (((F 0) ≤ x5 → P x4 (F, I, J)) ∧ (¬ (F 0) ≤ x5 → vp_in x5 100 ∧ (((I 12 (zn x5)) = 0 → AW m_X7_addBelow (z_pi P) 25 [some (.ref 0), none, some (.long l2), none, some (.int x4), some (.int (x5 + 1))] [] (F, I, J)) ∧ (¬ (I 12 (zn x5)) = 0 → vp_in x5 100 ∧ vp_in x5 100 ∧ AW m_X7_addBelow (z_pi P) 25 [some (.ref 0), none, some (.long l2), none, some (.int x4), some (.int (x5 + 1))] [] (F, I, z_ul J 0 (zn x5) ((J 0 (zn x5)) + l2))))))) :
  AW m_X7_addBelow (z_pi P) 25 [some (.ref 0), none, some (.long l2), none, some (.int x4), some (.int x5)] [] (F, I, J) := by
  refine z_iload dX7_addBelow_25 rfl ?_
  refine z_aload_n dX7_addBelow_27 rfl rfl ?_
  refine z_geti dX7_addBelow_28 fl_X7_84 lo1_0 rfl ?_
  refine z_icmp_ge 61 dX7_addBelow_31 (by decide) ⟨fun h1 => ?_, fun h1 => ?_⟩
  · replace k := k.1 h1
    refine z_iload dX7_addBelow_61 rfl ?_
    exact z_ireturn (st := []) rfl dX7_addBelow_63 ⟨_, rfl, k⟩
  · replace k := k.2 h1
    refine z_aload_n dX7_addBelow_34 rfl rfl ?_
    refine z_getr dX7_addBelow_35 fl_X7_57 lo1_0 rfl ?_
    refine z_iload dX7_addBelow_38 rfl ?_
    refine z_zald dX7_addBelow_40 lo1_16 ⟨k.1, ?_⟩
    replace k := k.2
    refine z_if_eq 55 dX7_addBelow_41 (by decide) ⟨fun h2 => ?_, fun h2 => ?_⟩
    · replace k := k.1 h2
      refine z_iinc (v := (x5 + 1)) dX7_addBelow_55 rfl rfl (by decide) rfl ?_
      refine z_goto 25 dX7_addBelow_58 (by decide) ?_
      exact k
    · replace k := k.2 h2
      refine z_aload_n dX7_addBelow_44 rfl rfl ?_
      refine z_getr dX7_addBelow_45 fl_X7_7 lo1_0 rfl ?_
      refine z_iload dX7_addBelow_48 rfl ?_
      refine z_dup2 dX7_addBelow_50 rfl rfl ?_
      refine z_lald dX7_addBelow_51 lo1_1 ⟨k.1, ?_⟩
      replace k := k.2
      refine z_lload_n dX7_addBelow_52 rfl rfl ?_
      refine z_ladd dX7_addBelow_53 ?_
      refine z_last dX7_addBelow_54 lo1_1 ⟨k.1, ?_⟩
      replace k := k.2
      refine z_iinc (v := (x5 + 1)) dX7_addBelow_55 rfl rfl (by decide) rfl ?_
      refine z_goto 25 dX7_addBelow_58 (by decide) ?_
      exact k

set_option maxRecDepth 100000 in
set_option maxHeartbeats 4000000 in
theorem r_X7_refused_0 {P : Int32 → zM → Prop} (x1 : Int32) (F : Nat → Int32) (I : Nat → Nat → Int32) (J : Nat → Nat → Int64)
  (k : P (-1) (upd F 7 x1, I, J)) :
  AMi m_X7_refused [.ref 0, .int x1] (F, I, J) P := by
  refine z_entry (pad := 0) [some (.ref 0), some (.int x1)] (by decide) rfl rfl (fun _ => Nat.le_of_ble_eq_true rfl) ?_
  refine z_aload_n dX7_refused_0 rfl rfl ?_
  refine z_iload_n dX7_refused_1 rfl rfl ?_
  refine z_puti dX7_refused_2 fw_X7_175 lo1_0 rfl ?_
  refine z_iconst (v := (-1)) dX7_refused_5 (by decide) ?_
  exact z_ireturn (st := []) rfl dX7_refused_6 ⟨_, rfl, k⟩

set_option maxRecDepth 100000 in
set_option maxHeartbeats 4000000 in
theorem r_X7_done_0 {P : Int32 → zM → Prop} (x1 : Int32) (F : Nat → Int32) (I : Nat → Nat → Int32) (J : Nat → Nat → Int64)
  (k : P x1 (upd F 7 0, I, J)) :
  AMi m_X7_done [.ref 0, .int x1] (F, I, J) P := by
  refine z_entry (pad := 0) [some (.ref 0), some (.int x1)] (by decide) rfl rfl (fun _ => Nat.le_of_ble_eq_true rfl) ?_
  refine z_aload_n dX7_done_0 rfl rfl ?_
  refine z_iconst (v := 0) dX7_done_1 (by decide) ?_
  refine z_puti dX7_done_2 fw_X7_175 lo1_0 rfl ?_
  refine z_iload_n dX7_done_5 rfl rfl ?_
  exact z_ireturn (st := []) rfl dX7_done_6 ⟨_, rfl, k⟩

set_option maxRecDepth 100000 in
set_option maxHeartbeats 4000000 in
theorem r_X7_put_0 {P : Int32 → zM → Prop} (x1 : Int32) (x2 : Int32) (x3 : Int32) (x4 : Int32) (F : Nat → Int32) (I : Nat → Nat → Int32) (J : Nat → Nat → Int64)
  (k : ((x1 < 0 → AMi m_X7_refused [.ref 0, .int 1] (F, I, J) (fun r20 M20 => P r20 M20)) ∧ (¬ x1 < 0 → ((5 < x1 → AMi m_X7_refused [.ref 0, .int 1] (F, I, J) (fun r20 M20 => P r20 M20)) ∧ (¬ 5 < x1 → ((x2 < 0 → AMi m_X7_refused [.ref 0, .int 1] (F, I, J) (fun r20 M20 => P r20 M20)) ∧ (¬ x2 < 0 → ((x2 ≤ 4 → ((¬ x2 = 1 → ((x2 < 2 → AW m_X7_put (z_pi P) 50 [some (.ref 0), some (.int x1), some (.int x2), some (.int x3), some (.int x4), none, none] [] (F, I, J)) ∧ (¬ x2 < 2 → AMi m_X7_isKnot [.ref 0, .int x3] (F, I, J) (fun r44 M44 => ((r44 = 0 → AMi m_X7_refused [.ref 0, .int 1] M44 (fun r76 M76 => P r76 M76)) ∧ (¬ r44 = 0 → AW m_X7_put (z_pi P) 50 [some (.ref 0), some (.int x1), some (.int x2), some (.int x3), some (.int x4), none, none] [] M44)))))) ∧ (x2 = 1 → AMi m_X7_isThere [.ref 0, .int x3] (F, I, J) (fun r31 M31 => ((r31 = 0 → AMi m_X7_refused [.ref 0, .int 1] M31 (fun r76 M76 => P r76 M76)) ∧ (¬ r31 = 0 → ((x2 < 2 → AW m_X7_put (z_pi P) 50 [some (.ref 0), some (.int x1), some (.int x2), some (.int x3), some (.int x4), none, none] [] M31) ∧ (¬ x2 < 2 → AMi m_X7_isKnot [.ref 0, .int x3] M31 (fun r44 M44 => ((r44 = 0 → AMi m_X7_refused [.ref 0, .int 1] M44 (fun r76 M76 => P r76 M76)) ∧ (¬ r44 = 0 → AW m_X7_put (z_pi P) 50 [some (.ref 0), some (.int x1), some (.int x2), some (.int x3), some (.int x4), none, none] [] M44))))))))))) ∧ (¬ x2 ≤ 4 → AMi m_X7_refused [.ref 0, .int 1] (F, I, J) (fun r20 M20 => P r20 M20)))))))))) :
  AMi m_X7_put [.ref 0, .int x1, .int x2, .int x3, .int x4] (F, I, J) P := by
  refine z_entry (pad := 2) [some (.ref 0), some (.int x1), some (.int x2), some (.int x3), some (.int x4), none, none] (by decide) rfl rfl (fun _ => Nat.le_of_ble_eq_true rfl) ?_
  refine z_iload_n dX7_put_0 rfl rfl ?_
  refine z_if_lt 18 dX7_put_1 (by decide) ⟨fun h1 => ?_, fun h1 => ?_⟩
  · replace k := k.1 h1
    refine z_aload_n dX7_put_18 rfl rfl ?_
    refine z_iconst (v := 1) dX7_put_19 (by decide) ?_
    refine z_calli (I := m_X7_put) (I2 := m_X7_refused) (st := []) [.int 1] dX7_put_20 ml_X7_178 rfl (by decide) lo1_0 rfl (Nat.le_of_ble_eq_true rfl) rfl (AMi.mono k (fun r20 M20 k => ?_))
    exact z_ireturn (st := []) rfl dX7_put_23 ⟨_, rfl, k⟩
  · replace k := k.2 h1
    refine z_iload_n dX7_put_4 rfl rfl ?_
    refine z_iconst (v := 5) dX7_put_5 (by decide) ?_
    refine z_icmp_gt 18 dX7_put_6 (by decide) ⟨fun h2 => ?_, fun h2 => ?_⟩
    · replace k := k.1 h2
      refine z_aload_n dX7_put_18 rfl rfl ?_
      refine z_iconst (v := 1) dX7_put_19 (by decide) ?_
      refine z_calli (I := m_X7_put) (I2 := m_X7_refused) (st := []) [.int 1] dX7_put_20 ml_X7_178 rfl (by decide) lo1_0 rfl (Nat.le_of_ble_eq_true rfl) rfl (AMi.mono k (fun r20 M20 k => ?_))
      exact z_ireturn (st := []) rfl dX7_put_23 ⟨_, rfl, k⟩
    · replace k := k.2 h2
      refine z_iload_n dX7_put_9 rfl rfl ?_
      refine z_if_lt 18 dX7_put_10 (by decide) ⟨fun h3 => ?_, fun h3 => ?_⟩
      · replace k := k.1 h3
        refine z_aload_n dX7_put_18 rfl rfl ?_
        refine z_iconst (v := 1) dX7_put_19 (by decide) ?_
        refine z_calli (I := m_X7_put) (I2 := m_X7_refused) (st := []) [.int 1] dX7_put_20 ml_X7_178 rfl (by decide) lo1_0 rfl (Nat.le_of_ble_eq_true rfl) rfl (AMi.mono k (fun r20 M20 k => ?_))
        exact z_ireturn (st := []) rfl dX7_put_23 ⟨_, rfl, k⟩
      · replace k := k.2 h3
        refine z_iload_n dX7_put_13 rfl rfl ?_
        refine z_iconst (v := 4) dX7_put_14 (by decide) ?_
        refine z_icmp_le 24 dX7_put_15 (by decide) ⟨fun h4 => ?_, fun h4 => ?_⟩
        · replace k := k.1 h4
          refine z_iload_n dX7_put_24 rfl rfl ?_
          refine z_iconst (v := 1) dX7_put_25 (by decide) ?_
          refine z_icmp_ne 37 dX7_put_26 (by decide) ⟨fun h5 => ?_, fun h5 => ?_⟩
          · replace k := k.1 h5
            refine z_iload_n dX7_put_37 rfl rfl ?_
            refine z_iconst (v := 2) dX7_put_38 (by decide) ?_
            refine z_icmp_lt 50 dX7_put_39 (by decide) ⟨fun h6 => ?_, fun h6 => ?_⟩
            · replace k := k.1 h6
              exact k
            · replace k := k.2 h6
              refine z_aload_n dX7_put_42 rfl rfl ?_
              refine z_iload_n dX7_put_43 rfl rfl ?_
              refine z_calli (I := m_X7_put) (I2 := m_X7_isKnot) (st := []) [.int x3] dX7_put_44 ml_X7_129 rfl (by decide) lo1_0 rfl (Nat.le_of_ble_eq_true rfl) rfl (AMi.mono k (fun r44 M44 k => ?_))
              refine z_if_eq 74 dX7_put_47 (by decide) ⟨fun h7 => ?_, fun h7 => ?_⟩
              · replace k := k.1 h7
                refine z_aload_n dX7_put_74 rfl rfl ?_
                refine z_iconst (v := 1) dX7_put_75 (by decide) ?_
                refine z_calli (I := m_X7_put) (I2 := m_X7_refused) (st := []) [.int 1] dX7_put_76 ml_X7_178 rfl (by decide) lo1_0 rfl (Nat.le_of_ble_eq_true rfl) rfl (AMi.mono k (fun r76 M76 k => ?_))
                exact z_ireturn (st := []) rfl dX7_put_79 ⟨_, rfl, k⟩
              · replace k := k.2 h7
                exact k
          · replace k := k.2 h5
            refine z_aload_n dX7_put_29 rfl rfl ?_
            refine z_iload_n dX7_put_30 rfl rfl ?_
            refine z_calli (I := m_X7_put) (I2 := m_X7_isThere) (st := []) [.int x3] dX7_put_31 ml_X7_152 rfl (by decide) lo1_0 rfl (Nat.le_of_ble_eq_true rfl) rfl (AMi.mono k (fun r31 M31 k => ?_))
            refine z_if_eq 74 dX7_put_34 (by decide) ⟨fun h8 => ?_, fun h8 => ?_⟩
            · replace k := k.1 h8
              refine z_aload_n dX7_put_74 rfl rfl ?_
              refine z_iconst (v := 1) dX7_put_75 (by decide) ?_
              refine z_calli (I := m_X7_put) (I2 := m_X7_refused) (st := []) [.int 1] dX7_put_76 ml_X7_178 rfl (by decide) lo1_0 rfl (Nat.le_of_ble_eq_true rfl) rfl (AMi.mono k (fun r76 M76 k => ?_))
              exact z_ireturn (st := []) rfl dX7_put_79 ⟨_, rfl, k⟩
            · replace k := k.2 h8
              refine z_iload_n dX7_put_37 rfl rfl ?_
              refine z_iconst (v := 2) dX7_put_38 (by decide) ?_
              refine z_icmp_lt 50 dX7_put_39 (by decide) ⟨fun h9 => ?_, fun h9 => ?_⟩
              · replace k := k.1 h9
                exact k
              · replace k := k.2 h9
                refine z_aload_n dX7_put_42 rfl rfl ?_
                refine z_iload_n dX7_put_43 rfl rfl ?_
                refine z_calli (I := m_X7_put) (I2 := m_X7_isKnot) (st := []) [.int x3] dX7_put_44 ml_X7_129 rfl (by decide) lo1_0 rfl (Nat.le_of_ble_eq_true rfl) rfl (AMi.mono k (fun r44 M44 k => ?_))
                refine z_if_eq 74 dX7_put_47 (by decide) ⟨fun h10 => ?_, fun h10 => ?_⟩
                · replace k := k.1 h10
                  refine z_aload_n dX7_put_74 rfl rfl ?_
                  refine z_iconst (v := 1) dX7_put_75 (by decide) ?_
                  refine z_calli (I := m_X7_put) (I2 := m_X7_refused) (st := []) [.int 1] dX7_put_76 ml_X7_178 rfl (by decide) lo1_0 rfl (Nat.le_of_ble_eq_true rfl) rfl (AMi.mono k (fun r76 M76 k => ?_))
                  exact z_ireturn (st := []) rfl dX7_put_79 ⟨_, rfl, k⟩
                · replace k := k.2 h10
                  exact k
        · replace k := k.2 h4
          refine z_aload_n dX7_put_18 rfl rfl ?_
          refine z_iconst (v := 1) dX7_put_19 (by decide) ?_
          refine z_calli (I := m_X7_put) (I2 := m_X7_refused) (st := []) [.int 1] dX7_put_20 ml_X7_178 rfl (by decide) lo1_0 rfl (Nat.le_of_ble_eq_true rfl) rfl (AMi.mono k (fun r20 M20 k => ?_))
          exact z_ireturn (st := []) rfl dX7_put_23 ⟨_, rfl, k⟩

set_option maxRecDepth 100000 in
set_option maxHeartbeats 4000000 in
theorem r_X7_put_50 {P : Int32 → zM → Prop} (x1 : Int32) (x2 : Int32) (x3 : Int32) (x4 : Int32) (F : Nat → Int32) (I : Nat → Nat → Int32) (J : Nat → Nat → Int64)
  (k : ((¬ x2 = 3 → AW m_X7_put (z_pi P) 80 [some (.ref 0), some (.int x1), some (.int x2), some (.int x3), none, none, none] [] (F, I, J)) ∧ (x2 = 3 → AMi m_X7_isKnot [.ref 0, .int x4] (F, I, J) (fun r58 M58 => ((r58 = 0 → AMi m_X7_refused [.ref 0, .int 1] M58 (fun r76 M76 => P r76 M76)) ∧ (¬ r58 = 0 → AMi m_X7_finds [.ref 0, .int x3, .int x4] M58 (fun r68 M68 => ((¬ r68 = 0 → AW m_X7_put (z_pi P) 80 [some (.ref 0), some (.int x1), some (.int x2), some (.int x3), none, none, none] [] M68) ∧ (r68 = 0 → AMi m_X7_refused [.ref 0, .int 1] M68 (fun r76 M76 => P r76 M76)))))))))) :
  AW m_X7_put (z_pi P) 50 [some (.ref 0), some (.int x1), some (.int x2), some (.int x3), some (.int x4), none, none] [] (F, I, J) := by
  refine z_iload_n dX7_put_50 rfl rfl ?_
  refine z_iconst (v := 3) dX7_put_51 (by decide) ?_
  refine z_icmp_ne 80 dX7_put_52 (by decide) ⟨fun h1 => ?_, fun h1 => ?_⟩
  · replace k := k.1 h1
    refine z_wk [some (.ref 0), some (.int x1), some (.int x2), some (.int x3), none, none, none] (z_le_some (z_le_some (z_le_some (z_le_some (z_le_none (z_le_none (z_le_none z_le_nil))))))) ?_
    exact k
  · replace k := k.2 h1
    refine z_aload_n dX7_put_55 rfl rfl ?_
    refine z_iload dX7_put_56 rfl ?_
    refine z_calli (I := m_X7_put) (I2 := m_X7_isKnot) (st := []) [.int x4] dX7_put_58 ml_X7_129 rfl (by decide) lo1_0 rfl (Nat.le_of_ble_eq_true rfl) rfl (AMi.mono k (fun r58 M58 k => ?_))
    refine z_if_eq 74 dX7_put_61 (by decide) ⟨fun h2 => ?_, fun h2 => ?_⟩
    · replace k := k.1 h2
      refine z_aload_n dX7_put_74 rfl rfl ?_
      refine z_iconst (v := 1) dX7_put_75 (by decide) ?_
      refine z_calli (I := m_X7_put) (I2 := m_X7_refused) (st := []) [.int 1] dX7_put_76 ml_X7_178 rfl (by decide) lo1_0 rfl (Nat.le_of_ble_eq_true rfl) rfl (AMi.mono k (fun r76 M76 k => ?_))
      exact z_ireturn (st := []) rfl dX7_put_79 ⟨_, rfl, k⟩
    · replace k := k.2 h2
      refine z_aload_n dX7_put_64 rfl rfl ?_
      refine z_iload_n dX7_put_65 rfl rfl ?_
      refine z_iload dX7_put_66 rfl ?_
      refine z_calli (I := m_X7_put) (I2 := m_X7_finds) (st := []) [.int x3, .int x4] dX7_put_68 ml_X7_139 rfl (by decide) lo1_0 rfl (Nat.le_of_ble_eq_true rfl) rfl (AMi.mono k (fun r68 M68 k => ?_))
      refine z_if_ne 80 dX7_put_71 (by decide) ⟨fun h3 => ?_, fun h3 => ?_⟩
      · replace k := k.1 h3
        refine z_wk [some (.ref 0), some (.int x1), some (.int x2), some (.int x3), none, none, none] (z_le_some (z_le_some (z_le_some (z_le_some (z_le_none (z_le_none (z_le_none z_le_nil))))))) ?_
        exact k
      · replace k := k.2 h3
        refine z_aload_n dX7_put_74 rfl rfl ?_
        refine z_iconst (v := 1) dX7_put_75 (by decide) ?_
        refine z_calli (I := m_X7_put) (I2 := m_X7_refused) (st := []) [.int 1] dX7_put_76 ml_X7_178 rfl (by decide) lo1_0 rfl (Nat.le_of_ble_eq_true rfl) rfl (AMi.mono k (fun r76 M76 k => ?_))
        exact z_ireturn (st := []) rfl dX7_put_79 ⟨_, rfl, k⟩

set_option maxRecDepth 100000 in
set_option maxHeartbeats 4000000 in
theorem r_X7_put_80 {P : Int32 → zM → Prop} (x1 : Int32) (x2 : Int32) (x3 : Int32) (F : Nat → Int32) (I : Nat → Nat → Int32) (J : Nat → Nat → Int64)
  (k : vp_in x1 6 ∧ vp_in x1 6 ∧ ((¬ x2 = 1 → AW m_X7_put (z_pi P) 118 [some (.ref 0), some (.int x1), some (.int x2), some (.int x3), none, some (.int (100 * x1)), none] [] (F, z_ui (z_ui I 17 (zn x1) x2) 18 (zn x1) 0, J)) ∧ (x2 = 1 → vp_in x3 300 ∧ vp_in (100 * x1) 600 ∧ AW m_X7_put (z_pi P) 118 [some (.ref 0), some (.int x1), some (.int x2), some (.int x3), none, some (.int (100 * x1)), none] [] (F, z_ui (z_ui (z_ui I 17 (zn x1) x2) 18 (zn x1) 0) 19 (zn (100 * x1)) (I 1 (zn x3)), J)))) :
  AW m_X7_put (z_pi P) 80 [some (.ref 0), some (.int x1), some (.int x2), some (.int x3), none, none, none] [] (F, I, J) := by
  refine z_aload_n dX7_put_80 rfl rfl ?_
  refine z_getr dX7_put_81 fl_X7_72 lo1_0 rfl ?_
  refine z_iload_n dX7_put_84 rfl rfl ?_
  refine z_iload_n dX7_put_85 rfl rfl ?_
  refine z_iast dX7_put_86 lo1_21 ⟨k.1, ?_⟩
  replace k := k.2
  refine z_aload_n dX7_put_87 rfl rfl ?_
  refine z_getr dX7_put_88 fl_X7_75 lo1_0 rfl ?_
  refine z_iload_n dX7_put_91 rfl rfl ?_
  refine z_iconst (v := 0) dX7_put_92 (by decide) ?_
  refine z_iast dX7_put_93 lo1_22 ⟨k.1, ?_⟩
  replace k := k.2
  refine z_bipush (v := 100) dX7_put_94 (by decide) ?_
  refine z_iload_n dX7_put_96 rfl rfl ?_
  refine z_imul dX7_put_97 ?_
  refine z_istore dX7_put_98 (by decide) rfl ?_
  refine z_iload_n dX7_put_100 rfl rfl ?_
  refine z_iconst (v := 1) dX7_put_101 (by decide) ?_
  refine z_icmp_ne 118 dX7_put_102 (by decide) ⟨fun h1 => ?_, fun h1 => ?_⟩
  · replace k := k.1 h1
    exact k
  · replace k := k.2 h1
    refine z_aload_n dX7_put_105 rfl rfl ?_
    refine z_getr dX7_put_106 fl_X7_78 lo1_0 rfl ?_
    refine z_iload dX7_put_109 rfl ?_
    refine z_aload_n dX7_put_111 rfl rfl ?_
    refine z_getr dX7_put_112 fl_X7_17 lo1_0 rfl ?_
    refine z_iload_n dX7_put_115 rfl rfl ?_
    refine z_iald dX7_put_116 lo1_3 ⟨k.1, ?_⟩
    replace k := k.2
    refine z_iast dX7_put_117 lo1_23 ⟨k.1, ?_⟩
    replace k := k.2
    exact k

set_option maxRecDepth 100000 in
set_option maxHeartbeats 4000000 in
theorem r_X7_put_118 {P : Int32 → zM → Prop} (x1 : Int32) (x2 : Int32) (x3 : Int32) (x5 : Int32) (F : Nat → Int32) (I : Nat → Nat → Int32) (J : Nat → Nat → Int64)
  (k : ((x2 = 2 → AMi m_X7_part [.ref 0, .int x3] (F, I, J) (fun r130 M130 => AW m_X7_put (z_pi P) 137 [some (.ref 0), some (.int x1), some (.int x2), none, none, some (.int x5), some (.int 0)] [] M130)) ∧ (¬ x2 = 2 → ((¬ x2 = 4 → AW m_X7_put (z_pi P) 137 [some (.ref 0), some (.int x1), some (.int x2), none, none, some (.int x5), some (.int 0)] [] (F, I, J)) ∧ (x2 = 4 → AMi m_X7_part [.ref 0, .int x3] (F, I, J) (fun r130 M130 => AW m_X7_put (z_pi P) 137 [some (.ref 0), some (.int x1), some (.int x2), none, none, some (.int x5), some (.int 0)] [] M130)))))) :
  AW m_X7_put (z_pi P) 118 [some (.ref 0), some (.int x1), some (.int x2), some (.int x3), none, some (.int x5), none] [] (F, I, J) := by
  refine z_iload_n dX7_put_118 rfl rfl ?_
  refine z_iconst (v := 2) dX7_put_119 (by decide) ?_
  refine z_icmp_eq 128 dX7_put_120 (by decide) ⟨fun h1 => ?_, fun h1 => ?_⟩
  · replace k := k.1 h1
    refine z_aload_n dX7_put_128 rfl rfl ?_
    refine z_iload_n dX7_put_129 rfl rfl ?_
    refine z_calli (I := m_X7_put) (I2 := m_X7_part) (st := []) [.int x3] dX7_put_130 ml_X7_115 rfl (by decide) lo1_0 rfl (Nat.le_of_ble_eq_true rfl) rfl (AMi.mono k (fun r130 M130 k => ?_))
    refine z_pop dX7_put_133 rfl ?_
    refine z_iconst (v := 0) dX7_put_134 (by decide) ?_
    refine z_istore dX7_put_135 (by decide) rfl ?_
    refine z_wk [some (.ref 0), some (.int x1), some (.int x2), none, none, some (.int x5), some (.int 0)] (z_le_some (z_le_some (z_le_some (z_le_none (z_le_none (z_le_some (z_le_some z_le_nil))))))) ?_
    exact k
  · replace k := k.2 h1
    refine z_iload_n dX7_put_123 rfl rfl ?_
    refine z_iconst (v := 4) dX7_put_124 (by decide) ?_
    refine z_icmp_ne 134 dX7_put_125 (by decide) ⟨fun h2 => ?_, fun h2 => ?_⟩
    · replace k := k.1 h2
      refine z_iconst (v := 0) dX7_put_134 (by decide) ?_
      refine z_istore dX7_put_135 (by decide) rfl ?_
      refine z_wk [some (.ref 0), some (.int x1), some (.int x2), none, none, some (.int x5), some (.int 0)] (z_le_some (z_le_some (z_le_some (z_le_none (z_le_none (z_le_some (z_le_some z_le_nil))))))) ?_
      exact k
    · replace k := k.2 h2
      refine z_aload_n dX7_put_128 rfl rfl ?_
      refine z_iload_n dX7_put_129 rfl rfl ?_
      refine z_calli (I := m_X7_put) (I2 := m_X7_part) (st := []) [.int x3] dX7_put_130 ml_X7_115 rfl (by decide) lo1_0 rfl (Nat.le_of_ble_eq_true rfl) rfl (AMi.mono k (fun r130 M130 k => ?_))
      refine z_pop dX7_put_133 rfl ?_
      refine z_iconst (v := 0) dX7_put_134 (by decide) ?_
      refine z_istore dX7_put_135 (by decide) rfl ?_
      refine z_wk [some (.ref 0), some (.int x1), some (.int x2), none, none, some (.int x5), some (.int 0)] (z_le_some (z_le_some (z_le_some (z_le_none (z_le_none (z_le_some (z_le_some z_le_nil))))))) ?_
      exact k

set_option maxRecDepth 100000 in
set_option maxHeartbeats 4000000 in
theorem r_X7_put_137 {P : Int32 → zM → Prop} (x1 : Int32) (x2 : Int32) (x5 : Int32) (x6 : Int32) (F : Nat → Int32) (I : Nat → Nat → Int32) (J : Nat → Nat → Int64)
  (k : (((F 0) ≤ x6 → AW m_X7_put (z_pi P) 238 [some (.ref 0), some (.int x1), some (.int x2), none, none, some (.int x5), some (.int 1)] [] (F, I, J)) ∧ (¬ (F 0) ≤ x6 → ((x2 = 2 → AW m_X7_put (z_pi P) 156 [some (.ref 0), some (.int x1), some (.int x2), none, none, some (.int x5), some (.int x6)] [] (F, I, J)) ∧ (¬ x2 = 2 → ((¬ x2 = 4 → AW m_X7_put (z_pi P) 238 [some (.ref 0), some (.int x1), some (.int x2), none, none, some (.int x5), some (.int 1)] [] (F, I, J)) ∧ (x2 = 4 → AW m_X7_put (z_pi P) 156 [some (.ref 0), some (.int x1), some (.int x2), none, none, some (.int x5), some (.int x6)] [] (F, I, J)))))))) :
  AW m_X7_put (z_pi P) 137 [some (.ref 0), some (.int x1), some (.int x2), none, none, some (.int x5), some (.int x6)] [] (F, I, J) := by
  refine z_iload dX7_put_137 rfl ?_
  refine z_aload_n dX7_put_139 rfl rfl ?_
  refine z_geti dX7_put_140 fl_X7_84 lo1_0 rfl ?_
  refine z_icmp_ge 235 dX7_put_143 (by decide) ⟨fun h1 => ?_, fun h1 => ?_⟩
  · replace k := k.1 h1
    refine z_iconst (v := 1) dX7_put_235 (by decide) ?_
    refine z_istore dX7_put_236 (by decide) rfl ?_
    exact k
  · replace k := k.2 h1
    refine z_iload_n dX7_put_146 rfl rfl ?_
    refine z_iconst (v := 2) dX7_put_147 (by decide) ?_
    refine z_icmp_eq 156 dX7_put_148 (by decide) ⟨fun h2 => ?_, fun h2 => ?_⟩
    · replace k := k.1 h2
      exact k
    · replace k := k.2 h2
      refine z_iload_n dX7_put_151 rfl rfl ?_
      refine z_iconst (v := 4) dX7_put_152 (by decide) ?_
      refine z_icmp_ne 235 dX7_put_153 (by decide) ⟨fun h3 => ?_, fun h3 => ?_⟩
      · replace k := k.1 h3
        refine z_iconst (v := 1) dX7_put_235 (by decide) ?_
        refine z_istore dX7_put_236 (by decide) rfl ?_
        exact k
      · replace k := k.2 h3
        exact k

set_option maxRecDepth 100000 in
set_option maxHeartbeats 4000000 in
theorem r_X7_put_156 {P : Int32 → zM → Prop} (x1 : Int32) (x2 : Int32) (x5 : Int32) (x6 : Int32) (F : Nat → Int32) (I : Nat → Nat → Int32) (J : Nat → Nat → Int64)
  (k : ((¬ x2 = 4 → vp_in x6 100 ∧ (((I 11 (zn x6)) = 0 → AW m_X7_put (z_pi P) 137 [some (.ref 0), some (.int x1), some (.int x2), none, none, some (.int x5), some (.int (x6 + 1))] [] (F, I, J)) ∧ (¬ (I 11 (zn x6)) = 0 → vp_in x1 6 ∧ vp_in x1 6 ∧ vp_in (x5 + (I 18 (zn x1))) 600 ∧ AW m_X7_put (z_pi P) 137 [some (.ref 0), some (.int x1), some (.int x2), none, none, some (.int x5), some (.int (x6 + 1))] [] (F, z_ui (z_ui I 18 (zn x1) ((I 18 (zn x1)) + 1)) 19 (zn (x5 + (I 18 (zn x1)))) x6, J)))) ∧ (x2 = 4 → vp_in x1 6 ∧ vp_in x1 6 ∧ vp_in x6 100 ∧ (((I 11 (zn x6)) = 0 → vp_in (x5 + (I 18 (zn x1))) 600 ∧ AW m_X7_put (z_pi P) 137 [some (.ref 0), some (.int x1), some (.int x2), none, none, some (.int x5), some (.int (x6 + 1))] [] (F, z_ui (z_ui I 18 (zn x1) ((I 18 (zn x1)) + 1)) 19 (zn (x5 + (I 18 (zn x1)))) 0, J)) ∧ (¬ (I 11 (zn x6)) = 0 → vp_in (x5 + (I 18 (zn x1))) 600 ∧ AW m_X7_put (z_pi P) 137 [some (.ref 0), some (.int x1), some (.int x2), none, none, some (.int x5), some (.int (x6 + 1))] [] (F, z_ui (z_ui I 18 (zn x1) ((I 18 (zn x1)) + 1)) 19 (zn (x5 + (I 18 (zn x1)))) 1, J)))))) :
  AW m_X7_put (z_pi P) 156 [some (.ref 0), some (.int x1), some (.int x2), none, none, some (.int x5), some (.int x6)] [] (F, I, J) := by
  refine z_iload_n dX7_put_156 rfl rfl ?_
  refine z_iconst (v := 4) dX7_put_157 (by decide) ?_
  refine z_icmp_ne 198 dX7_put_158 (by decide) ⟨fun h1 => ?_, fun h1 => ?_⟩
  · replace k := k.1 h1
    refine z_aload_n dX7_put_198 rfl rfl ?_
    refine z_getr dX7_put_199 fl_X7_53 lo1_0 rfl ?_
    refine z_iload dX7_put_202 rfl ?_
    refine z_zald dX7_put_204 lo1_15 ⟨k.1, ?_⟩
    replace k := k.2
    refine z_if_eq 229 dX7_put_205 (by decide) ⟨fun h2 => ?_, fun h2 => ?_⟩
    · replace k := k.1 h2
      refine z_iinc (v := (x6 + 1)) dX7_put_229 rfl rfl (by decide) rfl ?_
      refine z_goto 137 dX7_put_232 (by decide) ?_
      exact k
    · replace k := k.2 h2
      refine z_aload_n dX7_put_208 rfl rfl ?_
      refine z_getr dX7_put_209 fl_X7_78 lo1_0 rfl ?_
      refine z_iload dX7_put_212 rfl ?_
      refine z_aload_n dX7_put_214 rfl rfl ?_
      refine z_getr dX7_put_215 fl_X7_75 lo1_0 rfl ?_
      refine z_iload_n dX7_put_218 rfl rfl ?_
      refine z_dup2 dX7_put_219 rfl rfl ?_
      refine z_iald dX7_put_220 lo1_22 ⟨k.1, ?_⟩
      replace k := k.2
      refine z_dup_x2 dX7_put_221 rfl rfl rfl ?_
      refine z_iconst (v := 1) dX7_put_222 (by decide) ?_
      refine z_iadd dX7_put_223 ?_
      refine z_iast dX7_put_224 lo1_22 ⟨k.1, ?_⟩
      replace k := k.2
      refine z_iadd dX7_put_225 ?_
      refine z_iload dX7_put_226 rfl ?_
      refine z_iast dX7_put_228 lo1_23 ⟨k.1, ?_⟩
      replace k := k.2
      refine z_iinc (v := (x6 + 1)) dX7_put_229 rfl rfl (by decide) rfl ?_
      refine z_goto 137 dX7_put_232 (by decide) ?_
      exact k
  · replace k := k.2 h1
    refine z_aload_n dX7_put_161 rfl rfl ?_
    refine z_getr dX7_put_162 fl_X7_78 lo1_0 rfl ?_
    refine z_iload dX7_put_165 rfl ?_
    refine z_aload_n dX7_put_167 rfl rfl ?_
    refine z_getr dX7_put_168 fl_X7_75 lo1_0 rfl ?_
    refine z_iload_n dX7_put_171 rfl rfl ?_
    refine z_dup2 dX7_put_172 rfl rfl ?_
    refine z_iald dX7_put_173 lo1_22 ⟨k.1, ?_⟩
    replace k := k.2
    refine z_dup_x2 dX7_put_174 rfl rfl rfl ?_
    refine z_iconst (v := 1) dX7_put_175 (by decide) ?_
    refine z_iadd dX7_put_176 ?_
    refine z_iast dX7_put_177 lo1_22 ⟨k.1, ?_⟩
    replace k := k.2
    refine z_iadd dX7_put_178 ?_
    refine z_aload_n dX7_put_179 rfl rfl ?_
    refine z_getr dX7_put_180 fl_X7_53 lo1_0 rfl ?_
    refine z_iload dX7_put_183 rfl ?_
    refine z_zald dX7_put_185 lo1_15 ⟨k.1, ?_⟩
    replace k := k.2
    refine z_if_eq 193 dX7_put_186 (by decide) ⟨fun h3 => ?_, fun h3 => ?_⟩
    · replace k := k.1 h3
      refine z_iconst (v := 0) dX7_put_193 (by decide) ?_
      refine z_iast dX7_put_194 lo1_23 ⟨k.1, ?_⟩
      replace k := k.2
      refine z_goto 229 dX7_put_195 (by decide) ?_
      refine z_iinc (v := (x6 + 1)) dX7_put_229 rfl rfl (by decide) rfl ?_
      refine z_goto 137 dX7_put_232 (by decide) ?_
      exact k
    · replace k := k.2 h3
      refine z_iconst (v := 1) dX7_put_189 (by decide) ?_
      refine z_goto 194 dX7_put_190 (by decide) ?_
      refine z_iast dX7_put_194 lo1_23 ⟨k.1, ?_⟩
      replace k := k.2
      refine z_goto 229 dX7_put_195 (by decide) ?_
      refine z_iinc (v := (x6 + 1)) dX7_put_229 rfl rfl (by decide) rfl ?_
      refine z_goto 137 dX7_put_232 (by decide) ?_
      exact k

set_option maxRecDepth 100000 in
set_option maxHeartbeats 4000000 in
theorem r_X7_put_238 {P : Int32 → zM → Prop} (x1 : Int32) (x2 : Int32) (x5 : Int32) (x6 : Int32) (F : Nat → Int32) (I : Nat → Nat → Int32) (J : Nat → Nat → Int64)
  (k : (((F 6) ≤ x6 → AMi m_X7_done [.ref 0, .int 1] (F, I, J) (fun r291 M291 => P r291 M291)) ∧ (¬ (F 6) ≤ x6 → ((¬ x2 = 3 → AMi m_X7_done [.ref 0, .int 1] (F, I, J) (fun r291 M291 => P r291 M291)) ∧ (x2 = 3 → vp_in x1 6 ∧ vp_in x1 6 ∧ vp_in x6 100 ∧ vp_in (I 16 (zn x6)) 300 ∧ vp_in (x5 + (I 18 (zn x1))) 600 ∧ AW m_X7_put (z_pi P) 238 [some (.ref 0), some (.int x1), some (.int x2), none, none, some (.int x5), some (.int (x6 + 1))] [] (F, z_ui I 18 (zn x1) ((I 18 (zn x1)) + 1), z_ul J 3 (zn (x5 + (I 18 (zn x1)))) (J 1 (zn (I 16 (zn x6)))))))))) :
  AW m_X7_put (z_pi P) 238 [some (.ref 0), some (.int x1), some (.int x2), none, none, some (.int x5), some (.int x6)] [] (F, I, J) := by
  refine z_iload dX7_put_238 rfl ?_
  refine z_aload_n dX7_put_240 rfl rfl ?_
  refine z_geti dX7_put_241 fl_X7_119 lo1_0 rfl ?_
  refine z_icmp_ge 289 dX7_put_244 (by decide) ⟨fun h1 => ?_, fun h1 => ?_⟩
  · replace k := k.1 h1
    refine z_aload_n dX7_put_289 rfl rfl ?_
    refine z_iconst (v := 1) dX7_put_290 (by decide) ?_
    refine z_calli (I := m_X7_put) (I2 := m_X7_done) (st := []) [.int 1] dX7_put_291 ml_X7_181 rfl (by decide) lo1_0 rfl (Nat.le_of_ble_eq_true rfl) rfl (AMi.mono k (fun r291 M291 k => ?_))
    exact z_ireturn (st := []) rfl dX7_put_294 ⟨_, rfl, k⟩
  · replace k := k.2 h1
    refine z_iload_n dX7_put_247 rfl rfl ?_
    refine z_iconst (v := 3) dX7_put_248 (by decide) ?_
    refine z_icmp_ne 289 dX7_put_249 (by decide) ⟨fun h2 => ?_, fun h2 => ?_⟩
    · replace k := k.1 h2
      refine z_aload_n dX7_put_289 rfl rfl ?_
      refine z_iconst (v := 1) dX7_put_290 (by decide) ?_
      refine z_calli (I := m_X7_put) (I2 := m_X7_done) (st := []) [.int 1] dX7_put_291 ml_X7_181 rfl (by decide) lo1_0 rfl (Nat.le_of_ble_eq_true rfl) rfl (AMi.mono k (fun r291 M291 k => ?_))
      exact z_ireturn (st := []) rfl dX7_put_294 ⟨_, rfl, k⟩
    · replace k := k.2 h2
      refine z_aload_n dX7_put_252 rfl rfl ?_
      refine z_getr dX7_put_253 fl_X7_81 lo1_0 rfl ?_
      refine z_iload dX7_put_256 rfl ?_
      refine z_aload_n dX7_put_258 rfl rfl ?_
      refine z_getr dX7_put_259 fl_X7_75 lo1_0 rfl ?_
      refine z_iload_n dX7_put_262 rfl rfl ?_
      refine z_dup2 dX7_put_263 rfl rfl ?_
      refine z_iald dX7_put_264 lo1_22 ⟨k.1, ?_⟩
      replace k := k.2
      refine z_dup_x2 dX7_put_265 rfl rfl rfl ?_
      refine z_iconst (v := 1) dX7_put_266 (by decide) ?_
      refine z_iadd dX7_put_267 ?_
      refine z_iast dX7_put_268 lo1_22 ⟨k.1, ?_⟩
      replace k := k.2
      refine z_iadd dX7_put_269 ?_
      refine z_aload_n dX7_put_270 rfl rfl ?_
      refine z_getr dX7_put_271 fl_X7_29 lo1_0 rfl ?_
      refine z_aload_n dX7_put_274 rfl rfl ?_
      refine z_getr dX7_put_275 fl_X7_69 lo1_0 rfl ?_
      refine z_iload dX7_put_278 rfl ?_
      refine z_iald dX7_put_280 lo1_20 ⟨k.1, ?_⟩
      replace k := k.2
      refine z_lald dX7_put_281 lo1_7 ⟨k.1, ?_⟩
      replace k := k.2
      refine z_last dX7_put_282 lo1_24 ⟨k.1, ?_⟩
      replace k := k.2
      refine z_iinc (v := (x6 + 1)) dX7_put_283 rfl rfl (by decide) rfl ?_
      refine z_goto 238 dX7_put_286 (by decide) ?_
      exact k

set_option maxRecDepth 100000 in
set_option maxHeartbeats 4000000 in
theorem r_X7_forge_0 {P : Int32 → zM → Prop} (x1 : Int32) (x2 : Int32) (x3 : Int32) (F : Nat → Int32) (I : Nat → Nat → Int32) (J : Nat → Nat → Int64)
  (k : ((x1 < 0 → AMi m_X7_refused [.ref 0, .int 1] (F, I, J) (fun r33 M33 => P r33 M33)) ∧ (¬ x1 < 0 → ((5 < x1 → AMi m_X7_refused [.ref 0, .int 1] (F, I, J) (fun r33 M33 => P r33 M33)) ∧ (¬ 5 < x1 → ((x2 < 0 → AMi m_X7_refused [.ref 0, .int 1] (F, I, J) (fun r33 M33 => P r33 M33)) ∧ (¬ x2 < 0 → ((8 < x2 → AMi m_X7_refused [.ref 0, .int 1] (F, I, J) (fun r33 M33 => P r33 M33)) ∧ (¬ 8 < x2 → ((x3 < (-100) → AMi m_X7_refused [.ref 0, .int 1] (F, I, J) (fun r33 M33 => P r33 M33)) ∧ (¬ x3 < (-100) → ((x3 ≤ 100 → vp_in x1 6 ∧ ((x2 ≤ 3 → AW m_X7_forge (z_pi P) 61 [some (.ref 0), some (.int x1), some (.int x2), some (.int x3), some (.int (I 17 (zn x1))), some (.int (100 * x1)), none, none] [] (F, I, J)) ∧ (¬ x2 ≤ 3 → ((¬ x2 = 5 → AW m_X7_forge (z_pi P) 97 [some (.ref 0), some (.int x1), some (.int x2), some (.int x3), some (.int (I 17 (zn x1))), some (.int (100 * x1)), none, none] [] (F, I, J)) ∧ (x2 = 5 → AW m_X7_forge (z_pi P) 61 [some (.ref 0), some (.int x1), some (.int x2), some (.int x3), some (.int (I 17 (zn x1))), some (.int (100 * x1)), none, none] [] (F, I, J)))))) ∧ (¬ x3 ≤ 100 → AMi m_X7_refused [.ref 0, .int 1] (F, I, J) (fun r33 M33 => P r33 M33)))))))))))))) :
  AMi m_X7_forge [.ref 0, .int x1, .int x2, .int x3] (F, I, J) P := by
  refine z_entry (pad := 4) [some (.ref 0), some (.int x1), some (.int x2), some (.int x3), none, none, none, none] (by decide) rfl rfl (fun _ => Nat.le_of_ble_eq_true rfl) ?_
  refine z_iload_n dX7_forge_0 rfl rfl ?_
  refine z_if_lt 31 dX7_forge_1 (by decide) ⟨fun h1 => ?_, fun h1 => ?_⟩
  · replace k := k.1 h1
    refine z_aload_n dX7_forge_31 rfl rfl ?_
    refine z_iconst (v := 1) dX7_forge_32 (by decide) ?_
    refine z_calli (I := m_X7_forge) (I2 := m_X7_refused) (st := []) [.int 1] dX7_forge_33 ml_X7_178 rfl (by decide) lo1_0 rfl (Nat.le_of_ble_eq_true rfl) rfl (AMi.mono k (fun r33 M33 k => ?_))
    exact z_ireturn (st := []) rfl dX7_forge_36 ⟨_, rfl, k⟩
  · replace k := k.2 h1
    refine z_iload_n dX7_forge_4 rfl rfl ?_
    refine z_iconst (v := 5) dX7_forge_5 (by decide) ?_
    refine z_icmp_gt 31 dX7_forge_6 (by decide) ⟨fun h2 => ?_, fun h2 => ?_⟩
    · replace k := k.1 h2
      refine z_aload_n dX7_forge_31 rfl rfl ?_
      refine z_iconst (v := 1) dX7_forge_32 (by decide) ?_
      refine z_calli (I := m_X7_forge) (I2 := m_X7_refused) (st := []) [.int 1] dX7_forge_33 ml_X7_178 rfl (by decide) lo1_0 rfl (Nat.le_of_ble_eq_true rfl) rfl (AMi.mono k (fun r33 M33 k => ?_))
      exact z_ireturn (st := []) rfl dX7_forge_36 ⟨_, rfl, k⟩
    · replace k := k.2 h2
      refine z_iload_n dX7_forge_9 rfl rfl ?_
      refine z_if_lt 31 dX7_forge_10 (by decide) ⟨fun h3 => ?_, fun h3 => ?_⟩
      · replace k := k.1 h3
        refine z_aload_n dX7_forge_31 rfl rfl ?_
        refine z_iconst (v := 1) dX7_forge_32 (by decide) ?_
        refine z_calli (I := m_X7_forge) (I2 := m_X7_refused) (st := []) [.int 1] dX7_forge_33 ml_X7_178 rfl (by decide) lo1_0 rfl (Nat.le_of_ble_eq_true rfl) rfl (AMi.mono k (fun r33 M33 k => ?_))
        exact z_ireturn (st := []) rfl dX7_forge_36 ⟨_, rfl, k⟩
      · replace k := k.2 h3
        refine z_iload_n dX7_forge_13 rfl rfl ?_
        refine z_bipush (v := 8) dX7_forge_14 (by decide) ?_
        refine z_icmp_gt 31 dX7_forge_16 (by decide) ⟨fun h4 => ?_, fun h4 => ?_⟩
        · replace k := k.1 h4
          refine z_aload_n dX7_forge_31 rfl rfl ?_
          refine z_iconst (v := 1) dX7_forge_32 (by decide) ?_
          refine z_calli (I := m_X7_forge) (I2 := m_X7_refused) (st := []) [.int 1] dX7_forge_33 ml_X7_178 rfl (by decide) lo1_0 rfl (Nat.le_of_ble_eq_true rfl) rfl (AMi.mono k (fun r33 M33 k => ?_))
          exact z_ireturn (st := []) rfl dX7_forge_36 ⟨_, rfl, k⟩
        · replace k := k.2 h4
          refine z_iload_n dX7_forge_19 rfl rfl ?_
          refine z_bipush (v := (-100)) dX7_forge_20 (by decide) ?_
          refine z_icmp_lt 31 dX7_forge_22 (by decide) ⟨fun h5 => ?_, fun h5 => ?_⟩
          · replace k := k.1 h5
            refine z_aload_n dX7_forge_31 rfl rfl ?_
            refine z_iconst (v := 1) dX7_forge_32 (by decide) ?_
            refine z_calli (I := m_X7_forge) (I2 := m_X7_refused) (st := []) [.int 1] dX7_forge_33 ml_X7_178 rfl (by decide) lo1_0 rfl (Nat.le_of_ble_eq_true rfl) rfl (AMi.mono k (fun r33 M33 k => ?_))
            exact z_ireturn (st := []) rfl dX7_forge_36 ⟨_, rfl, k⟩
          · replace k := k.2 h5
            refine z_iload_n dX7_forge_25 rfl rfl ?_
            refine z_bipush (v := 100) dX7_forge_26 (by decide) ?_
            refine z_icmp_le 37 dX7_forge_28 (by decide) ⟨fun h6 => ?_, fun h6 => ?_⟩
            · replace k := k.1 h6
              refine z_aload_n dX7_forge_37 rfl rfl ?_
              refine z_getr dX7_forge_38 fl_X7_72 lo1_0 rfl ?_
              refine z_iload_n dX7_forge_41 rfl rfl ?_
              refine z_iald dX7_forge_42 lo1_21 ⟨k.1, ?_⟩
              replace k := k.2
              refine z_istore dX7_forge_43 (by decide) rfl ?_
              refine z_bipush (v := 100) dX7_forge_45 (by decide) ?_
              refine z_iload_n dX7_forge_47 rfl rfl ?_
              refine z_imul dX7_forge_48 ?_
              refine z_istore dX7_forge_49 (by decide) rfl ?_
              refine z_iload_n dX7_forge_51 rfl rfl ?_
              refine z_iconst (v := 3) dX7_forge_52 (by decide) ?_
              refine z_icmp_le 61 dX7_forge_53 (by decide) ⟨fun h7 => ?_, fun h7 => ?_⟩
              · replace k := k.1 h7
                exact k
              · replace k := k.2 h7
                refine z_iload_n dX7_forge_56 rfl rfl ?_
                refine z_iconst (v := 5) dX7_forge_57 (by decide) ?_
                refine z_icmp_ne 97 dX7_forge_58 (by decide) ⟨fun h8 => ?_, fun h8 => ?_⟩
                · replace k := k.1 h8
                  exact k
                · replace k := k.2 h8
                  exact k
            · replace k := k.2 h6
              refine z_aload_n dX7_forge_31 rfl rfl ?_
              refine z_iconst (v := 1) dX7_forge_32 (by decide) ?_
              refine z_calli (I := m_X7_forge) (I2 := m_X7_refused) (st := []) [.int 1] dX7_forge_33 ml_X7_178 rfl (by decide) lo1_0 rfl (Nat.le_of_ble_eq_true rfl) rfl (AMi.mono k (fun r33 M33 k => ?_))
              exact z_ireturn (st := []) rfl dX7_forge_36 ⟨_, rfl, k⟩

set_option maxRecDepth 100000 in
set_option maxHeartbeats 4000000 in
theorem r_X7_forge_61 {P : Int32 → zM → Prop} (x1 : Int32) (x2 : Int32) (x3 : Int32) (x4 : Int32) (x5 : Int32) (F : Nat → Int32) (I : Nat → Nat → Int32) (J : Nat → Nat → Int64)
  (k : ((¬ x4 = 0 → ((¬ x2 = 5 → ((x4 = (x2 + 1) → AW m_X7_forge (z_pi P) 97 [some (.ref 0), some (.int x1), some (.int x2), some (.int x3), some (.int x4), some (.int x5), none, none] [] (F, I, J)) ∧ (¬ x4 = (x2 + 1) → AMi m_X7_refused [.ref 0, .int 11] (F, I, J) (fun r93 M93 => P r93 M93)))) ∧ (x2 = 5 → ((x4 = 2 → AW m_X7_forge (z_pi P) 97 [some (.ref 0), some (.int x1), some (.int x2), some (.int x3), some (.int x4), some (.int x5), none, none] [] (F, I, J)) ∧ (¬ x4 = 2 → AMi m_X7_refused [.ref 0, .int 11] (F, I, J) (fun r93 M93 => P r93 M93)))))) ∧ (x4 = 0 → AMi m_X7_refused [.ref 0, .int 10] (F, I, J) (fun r69 M69 => P r69 M69)))) :
  AW m_X7_forge (z_pi P) 61 [some (.ref 0), some (.int x1), some (.int x2), some (.int x3), some (.int x4), some (.int x5), none, none] [] (F, I, J) := by
  refine z_iload dX7_forge_61 rfl ?_
  refine z_if_ne 73 dX7_forge_63 (by decide) ⟨fun h1 => ?_, fun h1 => ?_⟩
  · replace k := k.1 h1
    refine z_iload dX7_forge_73 rfl ?_
    refine z_iload_n dX7_forge_75 rfl rfl ?_
    refine z_iconst (v := 5) dX7_forge_76 (by decide) ?_
    refine z_icmp_ne 84 dX7_forge_77 (by decide) ⟨fun h2 => ?_, fun h2 => ?_⟩
    · replace k := k.1 h2
      refine z_iload_n dX7_forge_84 rfl rfl ?_
      refine z_iconst (v := 1) dX7_forge_85 (by decide) ?_
      refine z_iadd dX7_forge_86 ?_
      refine z_icmp_eq 97 dX7_forge_87 (by decide) ⟨fun h3 => ?_, fun h3 => ?_⟩
      · replace k := k.1 h3
        exact k
      · replace k := k.2 h3
        refine z_aload_n dX7_forge_90 rfl rfl ?_
        refine z_bipush (v := 11) dX7_forge_91 (by decide) ?_
        refine z_calli (I := m_X7_forge) (I2 := m_X7_refused) (st := []) [.int 11] dX7_forge_93 ml_X7_178 rfl (by decide) lo1_0 rfl (Nat.le_of_ble_eq_true rfl) rfl (AMi.mono k (fun r93 M93 k => ?_))
        exact z_ireturn (st := []) rfl dX7_forge_96 ⟨_, rfl, k⟩
    · replace k := k.2 h2
      refine z_iconst (v := 2) dX7_forge_80 (by decide) ?_
      refine z_goto 87 dX7_forge_81 (by decide) ?_
      refine z_icmp_eq 97 dX7_forge_87 (by decide) ⟨fun h4 => ?_, fun h4 => ?_⟩
      · replace k := k.1 h4
        exact k
      · replace k := k.2 h4
        refine z_aload_n dX7_forge_90 rfl rfl ?_
        refine z_bipush (v := 11) dX7_forge_91 (by decide) ?_
        refine z_calli (I := m_X7_forge) (I2 := m_X7_refused) (st := []) [.int 11] dX7_forge_93 ml_X7_178 rfl (by decide) lo1_0 rfl (Nat.le_of_ble_eq_true rfl) rfl (AMi.mono k (fun r93 M93 k => ?_))
        exact z_ireturn (st := []) rfl dX7_forge_96 ⟨_, rfl, k⟩
  · replace k := k.2 h1
    refine z_aload_n dX7_forge_66 rfl rfl ?_
    refine z_bipush (v := 10) dX7_forge_67 (by decide) ?_
    refine z_calli (I := m_X7_forge) (I2 := m_X7_refused) (st := []) [.int 10] dX7_forge_69 ml_X7_178 rfl (by decide) lo1_0 rfl (Nat.le_of_ble_eq_true rfl) rfl (AMi.mono k (fun r69 M69 k => ?_))
    exact z_ireturn (st := []) rfl dX7_forge_72 ⟨_, rfl, k⟩

set_option maxRecDepth 100000 in
set_option maxHeartbeats 4000000 in
theorem r_X7_forge_97 {P : Int32 → zM → Prop} (x1 : Int32) (x2 : Int32) (x3 : Int32) (x4 : Int32) (x5 : Int32) (F : Nat → Int32) (I : Nat → Nat → Int32) (J : Nat → Nat → Int64)
  (k : ((x2 = 0 → vp_in x5 600 ∧ AMi m_X7_done [.ref 0, .int (I 19 (zn x5))] (F, I, J) (fun r152 M152 => P r152 M152)) ∧ (¬ x2 = 0 → ((x2 = 1 → ((x3 < 0 → AMi m_X7_refused [.ref 0, .int 12] (F, I, J) (fun r173 M173 => P r173 M173)) ∧ (¬ x3 < 0 → vp_in x1 6 ∧ ((x3 < (I 18 (zn x1)) → vp_in (x5 + x3) 600 ∧ AMi m_X7_done [.ref 0, .int (I 19 (zn (x5 + x3)))] (F, I, J) (fun r189 M189 => P r189 M189)) ∧ (¬ x3 < (I 18 (zn x1)) → AMi m_X7_refused [.ref 0, .int 12] (F, I, J) (fun r173 M173 => P r173 M173)))))) ∧ (¬ x2 = 1 → ((x2 = 2 → AW m_X7_forge (z_pi P) 199 [some (.ref 0), some (.int x1), none, some (.int x3), none, some (.int x5), some (.int 0), some (.int 0)] [] (F, I, J)) ∧ (¬ x2 = 2 → ((x2 = 3 → ((x3 < 0 → AMi m_X7_refused [.ref 0, .int 12] (F, I, J) (fun r173 M173 => P r173 M173)) ∧ (¬ x3 < 0 → vp_in x1 6 ∧ ((x3 < (I 18 (zn x1)) → vp_in (x5 + x3) 600 ∧ AMi m_X7_done [.ref 0, .int (I 19 (zn (x5 + x3)))] (F, I, J) (fun r189 M189 => P r189 M189)) ∧ (¬ x3 < (I 18 (zn x1)) → AMi m_X7_refused [.ref 0, .int 12] (F, I, J) (fun r173 M173 => P r173 M173)))))) ∧ (¬ x2 = 3 → ((x2 = 4 → ((0 ≤ x3 → AMi m_X7_done [.ref 0, .int x3] (F, I, J) (fun r257 M257 => P r257 M257)) ∧ (¬ 0 ≤ x3 → AMi m_X7_refused [.ref 0, .int 13] (F, I, J) (fun r249 M249 => P r249 M249)))) ∧ (¬ x2 = 4 → ((x2 = 5 → ((x3 < 0 → AMi m_X7_refused [.ref 0, .int 12] (F, I, J) (fun r286 M286 => P r286 M286)) ∧ (¬ x3 < 0 → vp_in x1 6 ∧ (((I 18 (zn x1)) < x3 → AMi m_X7_refused [.ref 0, .int 12] (F, I, J) (fun r286 M286 => P r286 M286)) ∧ (¬ (I 18 (zn x1)) < x3 → (((x3 + x3) ≤ 8 → AW m_X7_forge (z_pi P) 296 [some (.ref 0), none, none, some (.int x3), none, some (.int x5), some (.int 0), some (.int 0)] [] (F, I, J)) ∧ (¬ (x3 + x3) ≤ 8 → AMi m_X7_refused [.ref 0, .int 12] (F, I, J) (fun r286 M286 => P r286 M286)))))))) ∧ (¬ x2 = 5 → ((x2 = 6 → ((¬ x4 = 0 → ((¬ x4 = 3 → AMi m_X7_refused [.ref 0, .int 14] (F, I, J) (fun r365 M365 => P r365 M365)) ∧ (x4 = 3 → vp_in x1 6 ∧ AMi m_X7_done [.ref 0, .int (I 18 (zn x1))] (F, I, J) (fun r356 M356 => P r356 M356)))) ∧ (x4 = 0 → AMi m_X7_done [.ref 0, .int 0] (F, I, J) (fun r337 M337 => P r337 M337)))) ∧ (¬ x2 = 6 → ((x2 = 7 → ((¬ x3 = 0 → (¬ x3 = 0) ∧ AMi m_X7_done [.ref 0, .int (1000 / x3)] (F, I, J) (fun r388 M388 => P r388 M388)) ∧ (x3 = 0 → AMi m_X7_refused [.ref 0, .int 15] (F, I, J) (fun r376 M376 => P r376 M376)))) ∧ (¬ x2 = 7 → AMi m_X7_refused [.ref 0, .int 10] (F, I, J) (fun r395 M395 => P r395 M395)))))))))))))))))) :
  AW m_X7_forge (z_pi P) 97 [some (.ref 0), some (.int x1), some (.int x2), some (.int x3), some (.int x4), some (.int x5), none, none] [] (F, I, J) := by
  refine z_iload_n dX7_forge_97 rfl rfl ?_
  refine z_case 0 x2 ⟨fun h1 => ?_, fun h1 => ?_⟩
  · replace k := k.1 h1
    refine z_tin (off := 46) 144 dX7_forge_98 (by (try dsimp only); rw [h1]; decide) (by (try dsimp only); rw [h1]; decide) (by (try dsimp only); rw [h1]; decide) (by decide) ?_
    refine z_aload_n dX7_forge_144 rfl rfl ?_
    refine z_aload_n dX7_forge_145 rfl rfl ?_
    refine z_getr dX7_forge_146 fl_X7_78 lo1_0 rfl ?_
    refine z_iload dX7_forge_149 rfl ?_
    refine z_iald dX7_forge_151 lo1_23 ⟨k.1, ?_⟩
    replace k := k.2
    refine z_calli (I := m_X7_forge) (I2 := m_X7_done) (st := []) [.int (I 19 (zn x5))] dX7_forge_152 ml_X7_181 rfl (by decide) lo1_0 rfl (Nat.le_of_ble_eq_true rfl) rfl (AMi.mono k (fun r152 M152 k => ?_))
    exact z_ireturn (st := []) rfl dX7_forge_155 ⟨_, rfl, k⟩
  replace k := k.2 h1
  refine z_case 1 x2 ⟨fun h2 => ?_, fun h2 => ?_⟩
  · replace k := k.1 h2
    refine z_tin (off := 58) 156 dX7_forge_98 (by (try dsimp only); rw [h2]; decide) (by (try dsimp only); rw [h2]; decide) (by (try dsimp only); rw [h2]; decide) (by decide) ?_
    refine z_iload_n dX7_forge_156 rfl rfl ?_
    refine z_if_lt 170 dX7_forge_157 (by decide) ⟨fun h3 => ?_, fun h3 => ?_⟩
    · replace k := k.1 h3
      refine z_aload_n dX7_forge_170 rfl rfl ?_
      refine z_bipush (v := 12) dX7_forge_171 (by decide) ?_
      refine z_calli (I := m_X7_forge) (I2 := m_X7_refused) (st := []) [.int 12] dX7_forge_173 ml_X7_178 rfl (by decide) lo1_0 rfl (Nat.le_of_ble_eq_true rfl) rfl (AMi.mono k (fun r173 M173 k => ?_))
      refine z_goto 192 dX7_forge_176 (by decide) ?_
      exact z_ireturn (st := []) rfl dX7_forge_192 ⟨_, rfl, k⟩
    · replace k := k.2 h3
      refine z_iload_n dX7_forge_160 rfl rfl ?_
      refine z_aload_n dX7_forge_161 rfl rfl ?_
      refine z_getr dX7_forge_162 fl_X7_75 lo1_0 rfl ?_
      refine z_iload_n dX7_forge_165 rfl rfl ?_
      refine z_iald dX7_forge_166 lo1_22 ⟨k.1, ?_⟩
      replace k := k.2
      refine z_icmp_lt 179 dX7_forge_167 (by decide) ⟨fun h4 => ?_, fun h4 => ?_⟩
      · replace k := k.1 h4
        refine z_aload_n dX7_forge_179 rfl rfl ?_
        refine z_aload_n dX7_forge_180 rfl rfl ?_
        refine z_getr dX7_forge_181 fl_X7_78 lo1_0 rfl ?_
        refine z_iload dX7_forge_184 rfl ?_
        refine z_iload_n dX7_forge_186 rfl rfl ?_
        refine z_iadd dX7_forge_187 ?_
        refine z_iald dX7_forge_188 lo1_23 ⟨k.1, ?_⟩
        replace k := k.2
        refine z_calli (I := m_X7_forge) (I2 := m_X7_done) (st := []) [.int (I 19 (zn (x5 + x3)))] dX7_forge_189 ml_X7_181 rfl (by decide) lo1_0 rfl (Nat.le_of_ble_eq_true rfl) rfl (AMi.mono k (fun r189 M189 k => ?_))
        exact z_ireturn (st := []) rfl dX7_forge_192 ⟨_, rfl, k⟩
      · replace k := k.2 h4
        refine z_aload_n dX7_forge_170 rfl rfl ?_
        refine z_bipush (v := 12) dX7_forge_171 (by decide) ?_
        refine z_calli (I := m_X7_forge) (I2 := m_X7_refused) (st := []) [.int 12] dX7_forge_173 ml_X7_178 rfl (by decide) lo1_0 rfl (Nat.le_of_ble_eq_true rfl) rfl (AMi.mono k (fun r173 M173 k => ?_))
        refine z_goto 192 dX7_forge_176 (by decide) ?_
        exact z_ireturn (st := []) rfl dX7_forge_192 ⟨_, rfl, k⟩
  replace k := k.2 h2
  refine z_case 2 x2 ⟨fun h5 => ?_, fun h5 => ?_⟩
  · replace k := k.1 h5
    refine z_tin (off := 95) 193 dX7_forge_98 (by (try dsimp only); rw [h5]; decide) (by (try dsimp only); rw [h5]; decide) (by (try dsimp only); rw [h5]; decide) (by decide) ?_
    refine z_iconst (v := 0) dX7_forge_193 (by decide) ?_
    refine z_istore dX7_forge_194 (by decide) rfl ?_
    refine z_iconst (v := 0) dX7_forge_196 (by decide) ?_
    refine z_istore dX7_forge_197 (by decide) rfl ?_
    refine z_wk [some (.ref 0), some (.int x1), none, some (.int x3), none, some (.int x5), some (.int 0), some (.int 0)] (z_le_some (z_le_some (z_le_none (z_le_some (z_le_none (z_le_some (z_le_some (z_le_some z_le_nil)))))))) ?_
    exact k
  replace k := k.2 h5
  refine z_case 3 x2 ⟨fun h6 => ?_, fun h6 => ?_⟩
  · replace k := k.1 h6
    refine z_tin (off := 58) 156 dX7_forge_98 (by (try dsimp only); rw [h6]; decide) (by (try dsimp only); rw [h6]; decide) (by (try dsimp only); rw [h6]; decide) (by decide) ?_
    refine z_iload_n dX7_forge_156 rfl rfl ?_
    refine z_if_lt 170 dX7_forge_157 (by decide) ⟨fun h7 => ?_, fun h7 => ?_⟩
    · replace k := k.1 h7
      refine z_aload_n dX7_forge_170 rfl rfl ?_
      refine z_bipush (v := 12) dX7_forge_171 (by decide) ?_
      refine z_calli (I := m_X7_forge) (I2 := m_X7_refused) (st := []) [.int 12] dX7_forge_173 ml_X7_178 rfl (by decide) lo1_0 rfl (Nat.le_of_ble_eq_true rfl) rfl (AMi.mono k (fun r173 M173 k => ?_))
      refine z_goto 192 dX7_forge_176 (by decide) ?_
      exact z_ireturn (st := []) rfl dX7_forge_192 ⟨_, rfl, k⟩
    · replace k := k.2 h7
      refine z_iload_n dX7_forge_160 rfl rfl ?_
      refine z_aload_n dX7_forge_161 rfl rfl ?_
      refine z_getr dX7_forge_162 fl_X7_75 lo1_0 rfl ?_
      refine z_iload_n dX7_forge_165 rfl rfl ?_
      refine z_iald dX7_forge_166 lo1_22 ⟨k.1, ?_⟩
      replace k := k.2
      refine z_icmp_lt 179 dX7_forge_167 (by decide) ⟨fun h8 => ?_, fun h8 => ?_⟩
      · replace k := k.1 h8
        refine z_aload_n dX7_forge_179 rfl rfl ?_
        refine z_aload_n dX7_forge_180 rfl rfl ?_
        refine z_getr dX7_forge_181 fl_X7_78 lo1_0 rfl ?_
        refine z_iload dX7_forge_184 rfl ?_
        refine z_iload_n dX7_forge_186 rfl rfl ?_
        refine z_iadd dX7_forge_187 ?_
        refine z_iald dX7_forge_188 lo1_23 ⟨k.1, ?_⟩
        replace k := k.2
        refine z_calli (I := m_X7_forge) (I2 := m_X7_done) (st := []) [.int (I 19 (zn (x5 + x3)))] dX7_forge_189 ml_X7_181 rfl (by decide) lo1_0 rfl (Nat.le_of_ble_eq_true rfl) rfl (AMi.mono k (fun r189 M189 k => ?_))
        exact z_ireturn (st := []) rfl dX7_forge_192 ⟨_, rfl, k⟩
      · replace k := k.2 h8
        refine z_aload_n dX7_forge_170 rfl rfl ?_
        refine z_bipush (v := 12) dX7_forge_171 (by decide) ?_
        refine z_calli (I := m_X7_forge) (I2 := m_X7_refused) (st := []) [.int 12] dX7_forge_173 ml_X7_178 rfl (by decide) lo1_0 rfl (Nat.le_of_ble_eq_true rfl) rfl (AMi.mono k (fun r173 M173 k => ?_))
        refine z_goto 192 dX7_forge_176 (by decide) ?_
        exact z_ireturn (st := []) rfl dX7_forge_192 ⟨_, rfl, k⟩
  replace k := k.2 h6
  refine z_case 4 x2 ⟨fun h9 => ?_, fun h9 => ?_⟩
  · replace k := k.1 h9
    refine z_tin (off := 144) 242 dX7_forge_98 (by (try dsimp only); rw [h9]; decide) (by (try dsimp only); rw [h9]; decide) (by (try dsimp only); rw [h9]; decide) (by decide) ?_
    refine z_iload_n dX7_forge_242 rfl rfl ?_
    refine z_if_ge 255 dX7_forge_243 (by decide) ⟨fun h10 => ?_, fun h10 => ?_⟩
    · replace k := k.1 h10
      refine z_aload_n dX7_forge_255 rfl rfl ?_
      refine z_iload_n dX7_forge_256 rfl rfl ?_
      refine z_calli (I := m_X7_forge) (I2 := m_X7_done) (st := []) [.int x3] dX7_forge_257 ml_X7_181 rfl (by decide) lo1_0 rfl (Nat.le_of_ble_eq_true rfl) rfl (AMi.mono k (fun r257 M257 k => ?_))
      exact z_ireturn (st := []) rfl dX7_forge_260 ⟨_, rfl, k⟩
    · replace k := k.2 h10
      refine z_aload_n dX7_forge_246 rfl rfl ?_
      refine z_bipush (v := 13) dX7_forge_247 (by decide) ?_
      refine z_calli (I := m_X7_forge) (I2 := m_X7_refused) (st := []) [.int 13] dX7_forge_249 ml_X7_178 rfl (by decide) lo1_0 rfl (Nat.le_of_ble_eq_true rfl) rfl (AMi.mono k (fun r249 M249 k => ?_))
      refine z_goto 260 dX7_forge_252 (by decide) ?_
      exact z_ireturn (st := []) rfl dX7_forge_260 ⟨_, rfl, k⟩
  replace k := k.2 h9
  refine z_case 5 x2 ⟨fun h11 => ?_, fun h11 => ?_⟩
  · replace k := k.1 h11
    refine z_tin (off := 163) 261 dX7_forge_98 (by (try dsimp only); rw [h11]; decide) (by (try dsimp only); rw [h11]; decide) (by (try dsimp only); rw [h11]; decide) (by decide) ?_
    refine z_iload_n dX7_forge_261 rfl rfl ?_
    refine z_if_lt 283 dX7_forge_262 (by decide) ⟨fun h12 => ?_, fun h12 => ?_⟩
    · replace k := k.1 h12
      refine z_aload_n dX7_forge_283 rfl rfl ?_
      refine z_bipush (v := 12) dX7_forge_284 (by decide) ?_
      refine z_calli (I := m_X7_forge) (I2 := m_X7_refused) (st := []) [.int 12] dX7_forge_286 ml_X7_178 rfl (by decide) lo1_0 rfl (Nat.le_of_ble_eq_true rfl) rfl (AMi.mono k (fun r286 M286 k => ?_))
      exact z_ireturn (st := []) rfl dX7_forge_289 ⟨_, rfl, k⟩
    · replace k := k.2 h12
      refine z_iload_n dX7_forge_265 rfl rfl ?_
      refine z_aload_n dX7_forge_266 rfl rfl ?_
      refine z_getr dX7_forge_267 fl_X7_75 lo1_0 rfl ?_
      refine z_iload_n dX7_forge_270 rfl rfl ?_
      refine z_iald dX7_forge_271 lo1_22 ⟨k.1, ?_⟩
      replace k := k.2
      refine z_icmp_gt 283 dX7_forge_272 (by decide) ⟨fun h13 => ?_, fun h13 => ?_⟩
      · replace k := k.1 h13
        refine z_aload_n dX7_forge_283 rfl rfl ?_
        refine z_bipush (v := 12) dX7_forge_284 (by decide) ?_
        refine z_calli (I := m_X7_forge) (I2 := m_X7_refused) (st := []) [.int 12] dX7_forge_286 ml_X7_178 rfl (by decide) lo1_0 rfl (Nat.le_of_ble_eq_true rfl) rfl (AMi.mono k (fun r286 M286 k => ?_))
        exact z_ireturn (st := []) rfl dX7_forge_289 ⟨_, rfl, k⟩
      · replace k := k.2 h13
        refine z_iload_n dX7_forge_275 rfl rfl ?_
        refine z_iload_n dX7_forge_276 rfl rfl ?_
        refine z_iadd dX7_forge_277 ?_
        refine z_bipush (v := 8) dX7_forge_278 (by decide) ?_
        refine z_icmp_le 290 dX7_forge_280 (by decide) ⟨fun h14 => ?_, fun h14 => ?_⟩
        · replace k := k.1 h14
          refine z_iconst (v := 0) dX7_forge_290 (by decide) ?_
          refine z_istore dX7_forge_291 (by decide) rfl ?_
          refine z_iconst (v := 0) dX7_forge_293 (by decide) ?_
          refine z_istore dX7_forge_294 (by decide) rfl ?_
          refine z_wk [some (.ref 0), none, none, some (.int x3), none, some (.int x5), some (.int 0), some (.int 0)] (z_le_some (z_le_none (z_le_none (z_le_some (z_le_none (z_le_some (z_le_some (z_le_some z_le_nil)))))))) ?_
          exact k
        · replace k := k.2 h14
          refine z_aload_n dX7_forge_283 rfl rfl ?_
          refine z_bipush (v := 12) dX7_forge_284 (by decide) ?_
          refine z_calli (I := m_X7_forge) (I2 := m_X7_refused) (st := []) [.int 12] dX7_forge_286 ml_X7_178 rfl (by decide) lo1_0 rfl (Nat.le_of_ble_eq_true rfl) rfl (AMi.mono k (fun r286 M286 k => ?_))
          exact z_ireturn (st := []) rfl dX7_forge_289 ⟨_, rfl, k⟩
  replace k := k.2 h11
  refine z_case 6 x2 ⟨fun h15 => ?_, fun h15 => ?_⟩
  · replace k := k.1 h15
    refine z_tin (off := 232) 330 dX7_forge_98 (by (try dsimp only); rw [h15]; decide) (by (try dsimp only); rw [h15]; decide) (by (try dsimp only); rw [h15]; decide) (by decide) ?_
    refine z_iload dX7_forge_330 rfl ?_
    refine z_if_ne 343 dX7_forge_332 (by decide) ⟨fun h16 => ?_, fun h16 => ?_⟩
    · replace k := k.1 h16
      refine z_iload dX7_forge_343 rfl ?_
      refine z_iconst (v := 3) dX7_forge_345 (by decide) ?_
      refine z_icmp_ne 362 dX7_forge_346 (by decide) ⟨fun h17 => ?_, fun h17 => ?_⟩
      · replace k := k.1 h17
        refine z_aload_n dX7_forge_362 rfl rfl ?_
        refine z_bipush (v := 14) dX7_forge_363 (by decide) ?_
        refine z_calli (I := m_X7_forge) (I2 := m_X7_refused) (st := []) [.int 14] dX7_forge_365 ml_X7_178 rfl (by decide) lo1_0 rfl (Nat.le_of_ble_eq_true rfl) rfl (AMi.mono k (fun r365 M365 k => ?_))
        exact z_ireturn (st := []) rfl dX7_forge_368 ⟨_, rfl, k⟩
      · replace k := k.2 h17
        refine z_aload_n dX7_forge_349 rfl rfl ?_
        refine z_aload_n dX7_forge_350 rfl rfl ?_
        refine z_getr dX7_forge_351 fl_X7_75 lo1_0 rfl ?_
        refine z_iload_n dX7_forge_354 rfl rfl ?_
        refine z_iald dX7_forge_355 lo1_22 ⟨k.1, ?_⟩
        replace k := k.2
        refine z_calli (I := m_X7_forge) (I2 := m_X7_done) (st := []) [.int (I 18 (zn x1))] dX7_forge_356 ml_X7_181 rfl (by decide) lo1_0 rfl (Nat.le_of_ble_eq_true rfl) rfl (AMi.mono k (fun r356 M356 k => ?_))
        refine z_goto 368 dX7_forge_359 (by decide) ?_
        exact z_ireturn (st := []) rfl dX7_forge_368 ⟨_, rfl, k⟩
    · replace k := k.2 h16
      refine z_aload_n dX7_forge_335 rfl rfl ?_
      refine z_iconst (v := 0) dX7_forge_336 (by decide) ?_
      refine z_calli (I := m_X7_forge) (I2 := m_X7_done) (st := []) [.int 0] dX7_forge_337 ml_X7_181 rfl (by decide) lo1_0 rfl (Nat.le_of_ble_eq_true rfl) rfl (AMi.mono k (fun r337 M337 k => ?_))
      refine z_goto 368 dX7_forge_340 (by decide) ?_
      exact z_ireturn (st := []) rfl dX7_forge_368 ⟨_, rfl, k⟩
  replace k := k.2 h15
  refine z_case 7 x2 ⟨fun h18 => ?_, fun h18 => ?_⟩
  · replace k := k.1 h18
    refine z_tin (off := 271) 369 dX7_forge_98 (by (try dsimp only); rw [h18]; decide) (by (try dsimp only); rw [h18]; decide) (by (try dsimp only); rw [h18]; decide) (by decide) ?_
    refine z_iload_n dX7_forge_369 rfl rfl ?_
    refine z_if_ne 382 dX7_forge_370 (by decide) ⟨fun h19 => ?_, fun h19 => ?_⟩
    · replace k := k.1 h19
      refine z_aload_n dX7_forge_382 rfl rfl ?_
      refine z_sipush (v := 1000) dX7_forge_383 (by decide) ?_
      refine z_iload_n dX7_forge_386 rfl rfl ?_
      refine z_idiv dX7_forge_387 k.1 ?_
      replace k := k.2
      refine z_calli (I := m_X7_forge) (I2 := m_X7_done) (st := []) [.int (1000 / x3)] dX7_forge_388 ml_X7_181 rfl (by decide) lo1_0 rfl (Nat.le_of_ble_eq_true rfl) rfl (AMi.mono k (fun r388 M388 k => ?_))
      exact z_ireturn (st := []) rfl dX7_forge_391 ⟨_, rfl, k⟩
    · replace k := k.2 h19
      refine z_aload_n dX7_forge_373 rfl rfl ?_
      refine z_bipush (v := 15) dX7_forge_374 (by decide) ?_
      refine z_calli (I := m_X7_forge) (I2 := m_X7_refused) (st := []) [.int 15] dX7_forge_376 ml_X7_178 rfl (by decide) lo1_0 rfl (Nat.le_of_ble_eq_true rfl) rfl (AMi.mono k (fun r376 M376 k => ?_))
      refine z_goto 391 dX7_forge_379 (by decide) ?_
      exact z_ireturn (st := []) rfl dX7_forge_391 ⟨_, rfl, k⟩
  replace k := k.2 h18
  have eh1 := lv_neT h1 (a := 0) (by decide)
  have eh2 := lv_neT h2 (a := 1) (by decide)
  have eh5 := lv_neT h5 (a := 2) (by decide)
  have eh6 := lv_neT h6 (a := 3) (by decide)
  have eh9 := lv_neT h9 (a := 4) (by decide)
  have eh11 := lv_neT h11 (a := 5) (by decide)
  have eh15 := lv_neT h15 (a := 6) (by decide)
  have eh18 := lv_neT h18 (a := 7) (by decide)
  refine z_tout 392 dX7_forge_98 (by omega) (by decide) ?_
  refine z_aload_n dX7_forge_392 rfl rfl ?_
  refine z_bipush (v := 10) dX7_forge_393 (by decide) ?_
  refine z_calli (I := m_X7_forge) (I2 := m_X7_refused) (st := []) [.int 10] dX7_forge_395 ml_X7_178 rfl (by decide) lo1_0 rfl (Nat.le_of_ble_eq_true rfl) rfl (AMi.mono k (fun r395 M395 k => ?_))
  exact z_ireturn (st := []) rfl dX7_forge_398 ⟨_, rfl, k⟩

set_option maxRecDepth 100000 in
set_option maxHeartbeats 4000000 in
theorem r_X7_forge_199 {P : Int32 → zM → Prop} (x1 : Int32) (x3 : Int32) (x5 : Int32) (x6 : Int32) (x7 : Int32) (F : Nat → Int32) (I : Nat → Nat → Int32) (J : Nat → Nat → Int64)
  (k : vp_in x1 6 ∧ (((I 18 (zn x1)) ≤ x7 → AMi m_X7_done [.ref 0, .int x6] (F, I, J) (fun r238 M238 => P r238 M238)) ∧ (¬ (I 18 (zn x1)) ≤ x7 → vp_in (x5 + x7) 600 ∧ ((¬ (lg_cmp (J 3 (zn (x5 + x7))) ((x3).toInt64)) = 0 → AW m_X7_forge (z_pi P) 199 [some (.ref 0), some (.int x1), none, some (.int x3), none, some (.int x5), some (.int x6), some (.int (x7 + 1))] [] (F, I, J)) ∧ ((lg_cmp (J 3 (zn (x5 + x7))) ((x3).toInt64)) = 0 → AW m_X7_forge (z_pi P) 199 [some (.ref 0), some (.int x1), none, some (.int x3), none, some (.int x5), some (.int (x6 + 1)), some (.int (x7 + 1))] [] (F, I, J)))))) :
  AW m_X7_forge (z_pi P) 199 [some (.ref 0), some (.int x1), none, some (.int x3), none, some (.int x5), some (.int x6), some (.int x7)] [] (F, I, J) := by
  refine z_iload dX7_forge_199 rfl ?_
  refine z_aload_n dX7_forge_201 rfl rfl ?_
  refine z_getr dX7_forge_202 fl_X7_75 lo1_0 rfl ?_
  refine z_iload_n dX7_forge_205 rfl rfl ?_
  refine z_iald dX7_forge_206 lo1_22 ⟨k.1, ?_⟩
  replace k := k.2
  refine z_icmp_ge 235 dX7_forge_207 (by decide) ⟨fun h1 => ?_, fun h1 => ?_⟩
  · replace k := k.1 h1
    refine z_aload_n dX7_forge_235 rfl rfl ?_
    refine z_iload dX7_forge_236 rfl ?_
    refine z_calli (I := m_X7_forge) (I2 := m_X7_done) (st := []) [.int x6] dX7_forge_238 ml_X7_181 rfl (by decide) lo1_0 rfl (Nat.le_of_ble_eq_true rfl) rfl (AMi.mono k (fun r238 M238 k => ?_))
    exact z_ireturn (st := []) rfl dX7_forge_241 ⟨_, rfl, k⟩
  · replace k := k.2 h1
    refine z_aload_n dX7_forge_210 rfl rfl ?_
    refine z_getr dX7_forge_211 fl_X7_81 lo1_0 rfl ?_
    refine z_iload dX7_forge_214 rfl ?_
    refine z_iload dX7_forge_216 rfl ?_
    refine z_iadd dX7_forge_218 ?_
    refine z_lald dX7_forge_219 lo1_24 ⟨k.1, ?_⟩
    replace k := k.2
    refine z_iload_n dX7_forge_220 rfl rfl ?_
    refine z_i2l dX7_forge_221 ?_
    refine z_lcmp dX7_forge_222 ?_
    refine z_if_ne 229 dX7_forge_223 (by decide) ⟨fun h2 => ?_, fun h2 => ?_⟩
    · replace k := k.1 h2
      refine z_iinc (v := (x7 + 1)) dX7_forge_229 rfl rfl (by decide) rfl ?_
      refine z_goto 199 dX7_forge_232 (by decide) ?_
      exact k
    · replace k := k.2 h2
      refine z_iinc (v := (x6 + 1)) dX7_forge_226 rfl rfl (by decide) rfl ?_
      refine z_iinc (v := (x7 + 1)) dX7_forge_229 rfl rfl (by decide) rfl ?_
      refine z_goto 199 dX7_forge_232 (by decide) ?_
      exact k

set_option maxRecDepth 100000 in
set_option maxHeartbeats 4000000 in
theorem r_X7_forge_296 {P : Int32 → zM → Prop} (x3 : Int32) (x5 : Int32) (x6 : Int32) (x7 : Int32) (F : Nat → Int32) (I : Nat → Nat → Int32) (J : Nat → Nat → Int64)
  (k : ((x3 ≤ x7 → AMi m_X7_done [.ref 0, .int x6] (F, I, J) (fun r326 M326 => P r326 M326)) ∧ (¬ x3 ≤ x7 → vp_in (x5 + x7) 600 ∧ AW m_X7_forge (z_pi P) 296 [some (.ref 0), none, none, some (.int x3), none, some (.int x5), some (.int (x6 + (I 19 (zn (x5 + x7))))), some (.int (x7 + 1))] [] (F, I, J)))) :
  AW m_X7_forge (z_pi P) 296 [some (.ref 0), none, none, some (.int x3), none, some (.int x5), some (.int x6), some (.int x7)] [] (F, I, J) := by
  refine z_iload dX7_forge_296 rfl ?_
  refine z_iload_n dX7_forge_298 rfl rfl ?_
  refine z_icmp_ge 323 dX7_forge_299 (by decide) ⟨fun h1 => ?_, fun h1 => ?_⟩
  · replace k := k.1 h1
    refine z_aload_n dX7_forge_323 rfl rfl ?_
    refine z_iload dX7_forge_324 rfl ?_
    refine z_calli (I := m_X7_forge) (I2 := m_X7_done) (st := []) [.int x6] dX7_forge_326 ml_X7_181 rfl (by decide) lo1_0 rfl (Nat.le_of_ble_eq_true rfl) rfl (AMi.mono k (fun r326 M326 k => ?_))
    exact z_ireturn (st := []) rfl dX7_forge_329 ⟨_, rfl, k⟩
  · replace k := k.2 h1
    refine z_iload dX7_forge_302 rfl ?_
    refine z_aload_n dX7_forge_304 rfl rfl ?_
    refine z_getr dX7_forge_305 fl_X7_78 lo1_0 rfl ?_
    refine z_iload dX7_forge_308 rfl ?_
    refine z_iload dX7_forge_310 rfl ?_
    refine z_iadd dX7_forge_312 ?_
    refine z_iald dX7_forge_313 lo1_23 ⟨k.1, ?_⟩
    replace k := k.2
    refine z_iadd dX7_forge_314 ?_
    refine z_istore dX7_forge_315 (by decide) rfl ?_
    refine z_iinc (v := (x7 + 1)) dX7_forge_317 rfl rfl (by decide) rfl ?_
    refine z_goto 296 dX7_forge_320 (by decide) ?_
    exact k

set_option maxRecDepth 100000 in
set_option maxHeartbeats 4000000 in
theorem r_X7_status_0 {P : Int32 → zM → Prop}  (F : Nat → Int32) (I : Nat → Nat → Int32) (J : Nat → Nat → Int64)
  (k : P (F 7) (F, I, J)) :
  AMi m_X7_status [.ref 0] (F, I, J) P := by
  refine z_entry (pad := 0) [some (.ref 0)] (by decide) rfl rfl (fun _ => Nat.le_of_ble_eq_true rfl) ?_
  refine z_aload_n dX7_status_0 rfl rfl ?_
  refine z_geti dX7_status_1 fl_X7_175 lo1_0 rfl ?_
  exact z_ireturn (st := []) rfl dX7_status_4 ⟨_, rfl, k⟩
