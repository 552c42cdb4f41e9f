theorem z_le_nil {L : List (Option Value)} : z_le [] L := trivial
theorem z_le_none {L2 L : List (Option Value)} {o : Option Value} (h : z_le L2 L) : z_le (none :: L2) (o :: L) := h
theorem z_le_some {L2 L : List (Option Value)} {v : Value} (h : z_le L2 L) : z_le (some v :: L2) (some v :: L) := ⟨rfl, h⟩
theorem lo0_0 : z_layC[0]? = some (.inl (6, [.inl 1, .inl 2, .inl 3, .inl 12, .inl 17, .inl 22, .inl 25, .inl 31, .inl 36, .inr 0, .inr 1, .inr 2, .inr 3])) := rfl
theorem lo0_1 : z_layC[1]? = some (.inr (2, 100, 0)) := rfl
theorem lo0_2 : z_layC[2]? = some (.inr (0, 100, 0)) := rfl
theorem lo0_3 : z_layC[3]? = some (.inl (0, [.inl 4, .inl 5, .inl 6, .inl 7, .inl 8, .inl 9, .inl 10, .inl 11, .inr 4, .inr 5])) := rfl
theorem lo0_4 : z_layC[4]? = some (.inr (0, 300, 1)) := rfl
theorem lo0_5 : z_layC[5]? = some (.inr (0, 300, 2)) := rfl
theorem lo0_6 : z_layC[6]? = some (.inr (2, 300, 1)) := rfl
theorem lo0_7 : z_layC[7]? = some (.inr (0, 300, 3)) := rfl
theorem lo0_8 : z_layC[8]? = some (.inr (0, 300, 4)) := rfl
theorem lo0_9 : z_layC[9]? = some (.inr (0, 100, 5)) := rfl
theorem lo0_10 : z_layC[10]? = some (.inr (0, 600, 6)) := rfl
theorem lo0_11 : z_layC[11]? = some (.inr (0, 1500, 7)) := rfl
theorem lo0_12 : z_layC[12]? = some (.inl (1, [.inl 13, .inl 14, .inl 15, .inl 16, .inr 6])) := rfl
theorem lo0_13 : z_layC[13]? = some (.inr (0, 100, 8)) := rfl
theorem lo0_14 : z_layC[14]? = some (.inr (0, 100, 9)) := rfl
theorem lo0_15 : z_layC[15]? = some (.inr (0, 100, 10)) := rfl
theorem lo0_16 : z_layC[16]? = some (.inr (1, 100, 11)) := rfl
theorem lo0_17 : z_layC[17]? = some (.inl (1, [.inl 18, .inl 19, .inl 20, .inl 21, .inr 7])) := rfl
theorem lo0_18 : z_layC[18]? = some (.inr (0, 100, 12)) := rfl
theorem lo0_19 : z_layC[19]? = some (.inr (0, 100, 13)) := rfl
theorem lo0_20 : z_layC[20]? = some (.inr (0, 100, 14)) := rfl
theorem lo0_21 : z_layC[21]? = some (.inr (1, 100, 15)) := rfl
theorem lo0_22 : z_layC[22]? = some (.inl (5, [.inl 23, .inl 24, .inr 8])) := rfl
theorem lo0_23 : z_layC[23]? = some (.inr (0, 100, 16)) := rfl
theorem lo0_24 : z_layC[24]? = some (.inr (0, 100, 17)) := rfl
theorem lo0_25 : z_layC[25]? = some (.inl (2, [.inl 26, .inl 27, .inl 28, .inl 29, .inl 30, .inr 9, .inr 10, .inr 11, .inr 12])) := rfl
theorem lo0_26 : z_layC[26]? = some (.inr (0, 100, 18)) := rfl
theorem lo0_27 : z_layC[27]? = some (.inr (0, 100, 19)) := rfl
theorem lo0_28 : z_layC[28]? = some (.inr (0, 100, 20)) := rfl
theorem lo0_29 : z_layC[29]? = some (.inr (0, 100, 21)) := rfl
theorem lo0_30 : z_layC[30]? = some (.inr (1, 100, 22)) := rfl
theorem lo0_31 : z_layC[31]? = some (.inl (3, [.inl 32, .inl 33, .inl 34, .inl 35, .inr 13, .inr 14])) := rfl
theorem lo0_32 : z_layC[32]? = some (.inr (0, 20, 23)) := rfl
theorem lo0_33 : z_layC[33]? = some (.inr (0, 20, 24)) := rfl
theorem lo0_34 : z_layC[34]? = some (.inr (0, 20, 25)) := rfl
theorem lo0_35 : z_layC[35]? = some (.inr (2, 20, 2)) := rfl
theorem lo0_36 : z_layC[36]? = some (.inr (3, 6, 37)) := rfl
theorem lo0_37 : z_layC[37]? = some (.inl (4, [.inl 38, .inr 15, .inr 21])) := rfl
theorem lo0_38 : z_layC[38]? = some (.inr (2, 100, 3)) := rfl
theorem lo0_39 : z_layC[39]? = some (.inl (4, [.inl 40, .inr 16, .inr 22])) := rfl
theorem lo0_40 : z_layC[40]? = some (.inr (2, 100, 4)) := rfl
theorem lo0_41 : z_layC[41]? = some (.inl (4, [.inl 42, .inr 17, .inr 23])) := rfl
theorem lo0_42 : z_layC[42]? = some (.inr (2, 100, 5)) := rfl
theorem lo0_43 : z_layC[43]? = some (.inl (4, [.inl 44, .inr 18, .inr 24])) := rfl
theorem lo0_44 : z_layC[44]? = some (.inr (2, 100, 6)) := rfl
theorem lo0_45 : z_layC[45]? = some (.inl (4, [.inl 46, .inr 19, .inr 25])) := rfl
theorem lo0_46 : z_layC[46]? = some (.inr (2, 100, 7)) := rfl
theorem lo0_47 : z_layC[47]? = some (.inl (4, [.inl 48, .inr 20, .inr 26])) := rfl
theorem lo0_48 : z_layC[48]? = some (.inr (2, 100, 8)) := rfl
theorem lo1_0 : z_layM[0]? = some (.inl (7, [.inr 0, .inr 1, .inr 2, .inr 3, .inr 4, .inl 1, .inl 2, .inl 3, .inl 4, .inl 5, .inl 6, .inl 7, .inr 5, .inl 8, .inl 9, .inl 10, .inl 11, .inl 12, .inl 13, .inl 14, .inl 15, .inl 16, .inl 17, .inl 18, .inl 19, .inl 20, .inr 6, .inl 21, .inl 22, .inl 23, .inl 24, .inr 7])) := rfl
theorem lo1_1 : z_layM[1]? = some (.inr (2, 100, 0)) := rfl
theorem lo1_2 : z_layM[2]? = some (.inr (0, 100, 0)) := rfl
theorem lo1_3 : z_layM[3]? = some (.inr (0, 300, 1)) := rfl
theorem lo1_4 : z_layM[4]? = some (.inr (0, 300, 2)) := rfl
theorem lo1_5 : z_layM[5]? = some (.inr (0, 300, 3)) := rfl
theorem lo1_6 : z_layM[6]? = some (.inr (0, 300, 4)) := rfl
theorem lo1_7 : z_layM[7]? = some (.inr (2, 300, 1)) := rfl
theorem lo1_8 : z_layM[8]? = some (.inr (2, 2100, 2)) := rfl
theorem lo1_9 : z_layM[9]? = some (.inr (0, 2100, 5)) := rfl
theorem lo1_10 : z_layM[10]? = some (.inr (0, 6300, 6)) := rfl
theorem lo1_11 : z_layM[11]? = some (.inr (0, 6300, 7)) := rfl
theorem lo1_12 : z_layM[12]? = some (.inr (0, 21, 8)) := rfl
theorem lo1_13 : z_layM[13]? = some (.inr (0, 21, 9)) := rfl
theorem lo1_14 : z_layM[14]? = some (.inr (0, 21, 10)) := rfl
theorem lo1_15 : z_layM[15]? = some (.inr (1, 100, 11)) := rfl
theorem lo1_16 : z_layM[16]? = some (.inr (1, 100, 12)) := rfl
theorem lo1_17 : z_layM[17]? = some (.inr (0, 100, 13)) := rfl
theorem lo1_18 : z_layM[18]? = some (.inr (0, 100, 14)) := rfl
theorem lo1_19 : z_layM[19]? = some (.inr (0, 100, 15)) := rfl
theorem lo1_20 : z_layM[20]? = some (.inr (0, 100, 16)) := rfl
theorem lo1_21 : z_layM[21]? = some (.inr (0, 6, 17)) := rfl
theorem lo1_22 : z_layM[22]? = some (.inr (0, 6, 18)) := rfl
theorem lo1_23 : z_layM[23]? = some (.inr (0, 600, 19)) := rfl
theorem lo1_24 : z_layM[24]? = some (.inr (2, 600, 3)) := rfl
set_option maxRecDepth 100000 in
set_option maxHeartbeats 4000000 in
theorem r_X0_hasCome_0 {P : Int32 → zM → Prop} (x1 : Int32) (F : Nat → Int32) (I : Nat → Nat → Int32) (J : Nat → Nat → Int64)
  (k : ((x1 < 0 → P 0 (F, I, J)) ∧ (¬ x1 < 0 → (((F 4) ≤ x1 → P 0 (F, I, J)) ∧ (¬ (F 4) ≤ x1 → P 1 (F, I, J)))))) :
  AMi m_X0_hasCome [.ref 3, .int x1] (F, I, J) P := by
  refine z_entry (pad := 0) [some (.ref 3), some (.int x1)] (by decide) rfl rfl (fun _ => Nat.le_of_ble_eq_true rfl) ?_
  refine z_iload_n dX0_hasCome_0 rfl rfl ?_
  refine z_if_lt 16 dX0_hasCome_1 (by decide) ⟨fun h1 => ?_, fun h1 => ?_⟩
  · replace k := k.1 h1
    refine z_iconst (v := 0) dX0_hasCome_16 (by decide) ?_
    exact z_zreturn (st := []) rfl rfl dX0_hasCome_17 ⟨_, rfl, k⟩
  · replace k := k.2 h1
    refine z_iload_n dX0_hasCome_4 rfl rfl ?_
    refine z_aload_n dX0_hasCome_5 rfl rfl ?_
    refine z_geti dX0_hasCome_6 fl_X0_43 lo0_3 rfl ?_
    refine z_icmp_ge 16 dX0_hasCome_9 (by decide) ⟨fun h2 => ?_, fun h2 => ?_⟩
    · replace k := k.1 h2
      refine z_iconst (v := 0) dX0_hasCome_16 (by decide) ?_
      exact z_zreturn (st := []) rfl rfl dX0_hasCome_17 ⟨_, rfl, k⟩
    · replace k := k.2 h2
      refine z_iconst (v := 1) dX0_hasCome_12 (by decide) ?_
      refine z_goto 17 dX0_hasCome_13 (by decide) ?_
      exact z_zreturn (st := []) rfl rfl dX0_hasCome_17 ⟨_, rfl, k⟩

set_option maxRecDepth 100000 in
set_option maxHeartbeats 4000000 in
theorem r_X0_isThere_0 {P : Int32 → zM → Prop} (x1 : Int32) (F : Nat → Int32) (I : Nat → Nat → Int32) (J : Nat → Nat → Int64)
  (k : AMi m_X0_hasCome [.ref 3, .int x1] (F, I, J) (fun r2 M2 => ((r2 = 0 → P 0 M2) ∧ (¬ r2 = 0 → vp_in x1 300 ∧ (((M2.2.1 3 (zn x1)) = 0 → P 0 M2) ∧ (¬ (M2.2.1 3 (zn x1)) = 0 → P 1 M2)))))) :
  AMi m_X0_isThere [.ref 3, .int x1] (F, I, J) P := by
  refine z_entry (pad := 0) [some (.ref 3), some (.int x1)] (by decide) rfl rfl (fun _ => Nat.le_of_ble_eq_true rfl) ?_
  refine z_aload_n dX0_isThere_0 rfl rfl ?_
  refine z_iload_n dX0_isThere_1 rfl rfl ?_
  refine z_calli (I := m_X0_isThere) (I2 := m_X0_hasCome) (st := []) [.int x1] dX0_isThere_2 ml_X0_47 rfl (by decide) lo0_3 rfl (Nat.le_of_ble_eq_true rfl) rfl (AMi.mono k (fun r2 M2 k => ?_))
  refine z_if_eq 21 dX0_isThere_5 (by decide) ⟨fun h1 => ?_, fun h1 => ?_⟩
  · replace k := k.1 h1
    refine z_iconst (v := 0) dX0_isThere_21 (by decide) ?_
    exact z_zreturn (st := []) rfl rfl dX0_isThere_22 ⟨_, rfl, k⟩
  · replace k := k.2 h1
    refine z_aload_n dX0_isThere_8 rfl rfl ?_
    refine z_getr dX0_isThere_9 fl_X0_22 lo0_3 rfl ?_
    refine z_iload_n dX0_isThere_12 rfl rfl ?_
    refine z_iald dX0_isThere_13 lo0_7 ⟨k.1, ?_⟩
    replace k := k.2
    refine z_if_eq 21 dX0_isThere_14 (by decide) ⟨fun h2 => ?_, fun h2 => ?_⟩
    · replace k := k.1 h2
      refine z_iconst (v := 0) dX0_isThere_21 (by decide) ?_
      exact z_zreturn (st := []) rfl rfl dX0_isThere_22 ⟨_, rfl, k⟩
    · replace k := k.2 h2
      refine z_iconst (v := 1) dX0_isThere_17 (by decide) ?_
      refine z_goto 22 dX0_isThere_18 (by decide) ?_
      exact z_zreturn (st := []) rfl rfl dX0_isThere_22 ⟨_, rfl, k⟩

set_option maxRecDepth 100000 in
set_option maxHeartbeats 4000000 in
theorem r_X0_isAt_0 {P : Int32 → zM → Prop} (x1 : Int32) (x2 : Int32) (x3 : Int32) (F : Nat → Int32) (I : Nat → Nat → Int32) (J : Nat → Nat → Int64)
  (k : vp_in x1 300 ∧ ((¬ (I 3 (zn x1)) = x2 → P 0 (F, I, J)) ∧ ((I 3 (zn x1)) = x2 → vp_in x1 300 ∧ ((¬ (I 4 (zn x1)) = x3 → P 0 (F, I, J)) ∧ ((I 4 (zn x1)) = x3 → P 1 (F, I, J)))))) :
  AMi m_X0_isAt [.ref 3, .int x1, .int x2, .int x3] (F, I, J) P := by
  refine z_entry (pad := 0) [some (.ref 3), some (.int x1), some (.int x2), some (.int x3)] (by decide) rfl rfl (fun _ => Nat.le_of_ble_eq_true rfl) ?_
  refine z_aload_n dX0_isAt_0 rfl rfl ?_
  refine z_getr dX0_isAt_1 fl_X0_22 lo0_3 rfl ?_
  refine z_iload_n dX0_isAt_4 rfl rfl ?_
  refine z_iald dX0_isAt_5 lo0_7 ⟨k.1, ?_⟩
  replace k := k.2
  refine z_iload_n dX0_isAt_6 rfl rfl ?_
  refine z_icmp_ne 24 dX0_isAt_7 (by decide) ⟨fun h1 => ?_, fun h1 => ?_⟩
  · replace k := k.1 h1
    refine z_iconst (v := 0) dX0_isAt_24 (by decide) ?_
    exact z_zreturn (st := []) rfl rfl dX0_isAt_25 ⟨_, rfl, k⟩
  · replace k := k.2 h1
    refine z_aload_n dX0_isAt_10 rfl rfl ?_
    refine z_getr dX0_isAt_11 fl_X0_25 lo0_3 rfl ?_
    refine z_iload_n dX0_isAt_14 rfl rfl ?_
    refine z_iald dX0_isAt_15 lo0_8 ⟨k.1, ?_⟩
    replace k := k.2
    refine z_iload_n dX0_isAt_16 rfl rfl ?_
    refine z_icmp_ne 24 dX0_isAt_17 (by decide) ⟨fun h2 => ?_, fun h2 => ?_⟩
    · replace k := k.1 h2
      refine z_iconst (v := 0) dX0_isAt_24 (by decide) ?_
      exact z_zreturn (st := []) rfl rfl dX0_isAt_25 ⟨_, rfl, k⟩
    · replace k := k.2 h2
      refine z_iconst (v := 1) dX0_isAt_20 (by decide) ?_
      refine z_goto 25 dX0_isAt_21 (by decide) ?_
      exact z_zreturn (st := []) rfl rfl dX0_isAt_25 ⟨_, rfl, k⟩

set_option maxRecDepth 100000 in
set_option maxHeartbeats 4000000 in
theorem r_X0_isHeavier_0 {P : Int32 → zM → Prop} (x1 : Int32) (x2 : Int32) (F : Nat → Int32) (I : Nat → Nat → Int32) (J : Nat → Nat → Int64)
  (k : vp_in x1 300 ∧ vp_in x2 300 ∧ (((lg_cmp (J 1 (zn x1)) (J 1 (zn x2))) = 0 → ((x1 ≤ x2 → P 0 (F, I, J)) ∧ (¬ x1 ≤ x2 → P 1 (F, I, J)))) ∧ (¬ (lg_cmp (J 1 (zn x1)) (J 1 (zn x2))) = 0 → vp_in x1 300 ∧ vp_in x2 300 ∧ (((lg_cmp (J 1 (zn x1)) (J 1 (zn x2))) ≤ 0 → P 0 (F, I, J)) ∧ (¬ (lg_cmp (J 1 (zn x1)) (J 1 (zn x2))) ≤ 0 → P 1 (F, I, J)))))) :
  AMi m_X0_isHeavier [.ref 3, .int x1, .int x2] (F, I, J) P := by
  refine z_entry (pad := 0) [some (.ref 3), some (.int x1), some (.int x2)] (by decide) rfl rfl (fun _ => Nat.le_of_ble_eq_true rfl) ?_
  refine z_aload_n dX0_isHeavier_0 rfl rfl ?_
  refine z_getr dX0_isHeavier_1 fl_X0_18 lo0_3 rfl ?_
  refine z_iload_n dX0_isHeavier_4 rfl rfl ?_
  refine z_lald dX0_isHeavier_5 lo0_6 ⟨k.1, ?_⟩
  replace k := k.2
  refine z_aload_n dX0_isHeavier_6 rfl rfl ?_
  refine z_getr dX0_isHeavier_7 fl_X0_18 lo0_3 rfl ?_
  refine z_iload_n dX0_isHeavier_10 rfl rfl ?_
  refine z_lald dX0_isHeavier_11 lo0_6 ⟨k.1, ?_⟩
  replace k := k.2
  refine z_lcmp dX0_isHeavier_12 ?_
  refine z_if_eq 40 dX0_isHeavier_13 (by decide) ⟨fun h1 => ?_, fun h1 => ?_⟩
  · replace k := k.1 h1
    refine z_iload_n dX0_isHeavier_40 rfl rfl ?_
    refine z_iload_n dX0_isHeavier_41 rfl rfl ?_
    refine z_icmp_le 49 dX0_isHeavier_42 (by decide) ⟨fun h2 => ?_, fun h2 => ?_⟩
    · replace k := k.1 h2
      refine z_iconst (v := 0) dX0_isHeavier_49 (by decide) ?_
      exact z_zreturn (st := []) rfl rfl dX0_isHeavier_50 ⟨_, rfl, k⟩
    · replace k := k.2 h2
      refine z_iconst (v := 1) dX0_isHeavier_45 (by decide) ?_
      refine z_goto 50 dX0_isHeavier_46 (by decide) ?_
      exact z_zreturn (st := []) rfl rfl dX0_isHeavier_50 ⟨_, rfl, k⟩
  · replace k := k.2 h1
    refine z_aload_n dX0_isHeavier_16 rfl rfl ?_
    refine z_getr dX0_isHeavier_17 fl_X0_18 lo0_3 rfl ?_
    refine z_iload_n dX0_isHeavier_20 rfl rfl ?_
    refine z_lald dX0_isHeavier_21 lo0_6 ⟨k.1, ?_⟩
    replace k := k.2
    refine z_aload_n dX0_isHeavier_22 rfl rfl ?_
    refine z_getr dX0_isHeavier_23 fl_X0_18 lo0_3 rfl ?_
    refine z_iload_n dX0_isHeavier_26 rfl rfl ?_
    refine z_lald dX0_isHeavier_27 lo0_6 ⟨k.1, ?_⟩
    replace k := k.2
    refine z_lcmp dX0_isHeavier_28 ?_
    refine z_if_le 36 dX0_isHeavier_29 (by decide) ⟨fun h3 => ?_, fun h3 => ?_⟩
    · replace k := k.1 h3
      refine z_iconst (v := 0) dX0_isHeavier_36 (by decide) ?_
      refine z_goto 50 dX0_isHeavier_37 (by decide) ?_
      exact z_zreturn (st := []) rfl rfl dX0_isHeavier_50 ⟨_, rfl, k⟩
    · replace k := k.2 h3
      refine z_iconst (v := 1) dX0_isHeavier_32 (by decide) ?_
      refine z_goto 50 dX0_isHeavier_33 (by decide) ?_
      exact z_zreturn (st := []) rfl rfl dX0_isHeavier_50 ⟨_, rfl, k⟩

set_option maxRecDepth 100000 in
set_option maxHeartbeats 4000000 in
theorem r_X0_across_0 {P : Int32 → zM → Prop} (x1 : Int32) (x2 : Int32) (F : Nat → Int32) (I : Nat → Nat → Int32) (J : Nat → Nat → Int64)
  (k : vp_in x1 300 ∧ ((¬ (I 1 (zn x1)) = x2 → vp_in x1 300 ∧ P (I 1 (zn x1)) (F, I, J)) ∧ ((I 1 (zn x1)) = x2 → vp_in x1 300 ∧ P (I 2 (zn x1)) (F, I, J)))) :
  AMi m_X0_across [.ref 3, .int x1, .int x2] (F, I, J) P := by
  refine z_entry (pad := 0) [some (.ref 3), some (.int x1), some (.int x2)] (by decide) rfl rfl (fun _ => Nat.le_of_ble_eq_true rfl) ?_
  refine z_aload_n dX0_across_0 rfl rfl ?_
  refine z_getr dX0_across_1 fl_X0_9 lo0_3 rfl ?_
  refine z_iload_n dX0_across_4 rfl rfl ?_
  refine z_iald dX0_across_5 lo0_4 ⟨k.1, ?_⟩
  replace k := k.2
  refine z_iload_n dX0_across_6 rfl rfl ?_
  refine z_icmp_ne 19 dX0_across_7 (by decide) ⟨fun h1 => ?_, fun h1 => ?_⟩
  · replace k := k.1 h1
    refine z_aload_n dX0_across_19 rfl rfl ?_
    refine z_getr dX0_across_20 fl_X0_9 lo0_3 rfl ?_
    refine z_iload_n dX0_across_23 rfl rfl ?_
    refine z_iald dX0_across_24 lo0_4 ⟨k.1, ?_⟩
    replace k := k.2
    exact z_ireturn (st := []) rfl dX0_across_25 ⟨_, rfl, k⟩
  · replace k := k.2 h1
    refine z_aload_n dX0_across_10 rfl rfl ?_
    refine z_getr dX0_across_11 fl_X0_15 lo0_3 rfl ?_
    refine z_iload_n dX0_across_14 rfl rfl ?_
    refine z_iald dX0_across_15 lo0_5 ⟨k.1, ?_⟩
    replace k := k.2
    refine z_goto 25 dX0_across_16 (by decide) ?_
    exact z_ireturn (st := []) rfl dX0_across_25 ⟨_, rfl, k⟩

set_option maxRecDepth 100000 in
set_option maxHeartbeats 4000000 in
theorem r_X0_howMany_0 {P : Int32 → zM → Prop} (x1 : Int32) (F : Nat → Int32) (I : Nat → Nat → Int32) (J : Nat → Nat → Int64)
  (k : AW m_X0_howMany (z_pi P) 4 [some (.ref 3), some (.int x1), some (.int 0), some (.int 0)] [] (F, I, J)) :
  AMi m_X0_howMany [.ref 3, .int x1] (F, I, J) P := by
  refine z_entry (pad := 2) [some (.ref 3), some (.int x1), none, none] (by decide) rfl rfl (fun _ => Nat.le_of_ble_eq_true rfl) ?_
  refine z_iconst (v := 0) dX0_howMany_0 (by decide) ?_
  refine z_istore_n dX0_howMany_1 rfl (by decide) rfl ?_
  refine z_iconst (v := 0) dX0_howMany_2 (by decide) ?_
  refine z_istore_n dX0_howMany_3 rfl (by decide) rfl ?_
  exact k

set_option maxRecDepth 100000 in
set_option maxHeartbeats 4000000 in
theorem r_X0_howMany_4 {P : Int32 → zM → Prop} (x1 : Int32) (x2 : Int32) (x3 : Int32) (F : Nat → Int32) (I : Nat → Nat → Int32) (J : Nat → Nat → Int64)
  (k : (((F 4) ≤ x3 → P x2 (F, I, J)) ∧ (¬ (F 4) ≤ x3 → vp_in x3 300 ∧ ((¬ (I 3 (zn x3)) = x1 → AW m_X0_howMany (z_pi P) 4 [some (.ref 3), some (.int x1), some (.int x2), some (.int (x3 + 1))] [] (F, I, J)) ∧ ((I 3 (zn x3)) = x1 → AW m_X0_howMany (z_pi P) 4 [some (.ref 3), some (.int x1), some (.int (x2 + 1)), some (.int (x3 + 1))] [] (F, I, J)))))) :
  AW m_X0_howMany (z_pi P) 4 [some (.ref 3), some (.int x1), some (.int x2), some (.int x3)] [] (F, I, J) := by
  refine z_iload_n dX0_howMany_4 rfl rfl ?_
  refine z_aload_n dX0_howMany_5 rfl rfl ?_
  refine z_geti dX0_howMany_6 fl_X0_43 lo0_3 rfl ?_
  refine z_icmp_ge 31 dX0_howMany_9 (by decide) ⟨fun h1 => ?_, fun h1 => ?_⟩
  · replace k := k.1 h1
    refine z_iload_n dX0_howMany_31 rfl rfl ?_
    exact z_ireturn (st := []) rfl dX0_howMany_32 ⟨_, rfl, k⟩
  · replace k := k.2 h1
    refine z_aload_n dX0_howMany_12 rfl rfl ?_
    refine z_getr dX0_howMany_13 fl_X0_22 lo0_3 rfl ?_
    refine z_iload_n dX0_howMany_16 rfl rfl ?_
    refine z_iald dX0_howMany_17 lo0_7 ⟨k.1, ?_⟩
    replace k := k.2
    refine z_iload_n dX0_howMany_18 rfl rfl ?_
    refine z_icmp_ne 25 dX0_howMany_19 (by decide) ⟨fun h2 => ?_, fun h2 => ?_⟩
    · replace k := k.1 h2
      refine z_iinc (v := (x3 + 1)) dX0_howMany_25 rfl rfl (by decide) rfl ?_
      refine z_goto 4 dX0_howMany_28 (by decide) ?_
      exact k
    · replace k := k.2 h2
      refine z_iinc (v := (x2 + 1)) dX0_howMany_22 rfl rfl (by decide) rfl ?_
      refine z_iinc (v := (x3 + 1)) dX0_howMany_25 rfl rfl (by decide) rfl ?_
      refine z_goto 4 dX0_howMany_28 (by decide) ?_
      exact k

set_option maxRecDepth 100000 in
set_option maxHeartbeats 4000000 in
theorem r_X0_append_0 {P : Int32 → zM → Prop} (x1 : Int32) (x2 : Int32) (l3 : Int64) (x5 : Int32) (F : Nat → Int32) (I : Nat → Nat → Int32) (J : Nat → Nat → Int64)
  (k : vp_in (F 4) 300 ∧ vp_in (F 4) 300 ∧ vp_in (F 4) 300 ∧ vp_in (F 4) 300 ∧ vp_in (F 4) 300 ∧ AMv m_X0_chain [.ref 3, .int (2 * (F 4)), .int x1] (F, z_ui (z_ui (z_ui (z_ui I 1 (zn (F 4)) x1) 2 (zn (F 4)) x2) 3 (zn (F 4)) x5) 4 (zn (F 4)) 0, z_ul J 1 (zn (F 4)) l3) (fun M53 => AMv m_X0_chain [.ref 3, .int ((2 * (F 4)) + 1), .int x2] M53 (fun M64 => P (F 4) (upd M64.1 4 ((M64.1 4) + 1), M64.2.1, M64.2.2)))) :
  AMi m_X0_append [.ref 3, .int x1, .int x2, .long l3, .int x5] (F, I, J) P := by
  refine z_entry (pad := 1) [some (.ref 3), some (.int x1), some (.int x2), some (.long l3), none, some (.int x5), none] (by decide) rfl rfl (fun _ => Nat.le_of_ble_eq_true rfl) ?_
  refine z_aload_n dX0_append_0 rfl rfl ?_
  refine z_geti dX0_append_1 fl_X0_43 lo0_3 rfl ?_
  refine z_istore dX0_append_4 (by decide) rfl ?_
  refine z_aload_n dX0_append_6 rfl rfl ?_
  refine z_getr dX0_append_7 fl_X0_9 lo0_3 rfl ?_
  refine z_iload dX0_append_10 rfl ?_
  refine z_iload_n dX0_append_12 rfl rfl ?_
  refine z_iast dX0_append_13 lo0_4 ⟨k.1, ?_⟩
  replace k := k.2
  refine z_aload_n dX0_append_14 rfl rfl ?_
  refine z_getr dX0_append_15 fl_X0_15 lo0_3 rfl ?_
  refine z_iload dX0_append_18 rfl ?_
  refine z_iload_n dX0_append_20 rfl rfl ?_
  refine z_iast dX0_append_21 lo0_5 ⟨k.1, ?_⟩
  replace k := k.2
  refine z_aload_n dX0_append_22 rfl rfl ?_
  refine z_getr dX0_append_23 fl_X0_18 lo0_3 rfl ?_
  refine z_iload dX0_append_26 rfl ?_
  refine z_lload_n dX0_append_28 rfl rfl ?_
  refine z_last dX0_append_29 lo0_6 ⟨k.1, ?_⟩
  replace k := k.2
  refine z_aload_n dX0_append_30 rfl rfl ?_
  refine z_getr dX0_append_31 fl_X0_22 lo0_3 rfl ?_
  refine z_iload dX0_append_34 rfl ?_
  refine z_iload dX0_append_36 rfl ?_
  refine z_iast dX0_append_38 lo0_7 ⟨k.1, ?_⟩
  replace k := k.2
  refine z_aload_n dX0_append_39 rfl rfl ?_
  refine z_getr dX0_append_40 fl_X0_25 lo0_3 rfl ?_
  refine z_iload dX0_append_43 rfl ?_
  refine z_iconst (v := 0) dX0_append_45 (by decide) ?_
  refine z_iast dX0_append_46 lo0_8 ⟨k.1, ?_⟩
  replace k := k.2
  refine z_aload_n dX0_append_47 rfl rfl ?_
  refine z_iconst (v := 2) dX0_append_48 (by decide) ?_
  refine z_iload dX0_append_49 rfl ?_
  refine z_imul dX0_append_51 ?_
  refine z_iload_n dX0_append_52 rfl rfl ?_
  refine z_callv (I := m_X0_append) (I2 := m_X0_chain) (st := []) [.int (2 * (F 4)), .int x1] dX0_append_53 ml_X0_51 rfl (by decide) lo0_3 rfl (Nat.le_of_ble_eq_true rfl) rfl (AMv.mono k (fun M53 k => ?_))
  refine z_aload_n dX0_append_56 rfl rfl ?_
  refine z_iconst (v := 2) dX0_append_57 (by decide) ?_
  refine z_iload dX0_append_58 rfl ?_
  refine z_imul dX0_append_60 ?_
  refine z_iconst (v := 1) dX0_append_61 (by decide) ?_
  refine z_iadd dX0_append_62 ?_
  refine z_iload_n dX0_append_63 rfl rfl ?_
  refine z_callv (I := m_X0_append) (I2 := m_X0_chain) (st := []) [.int ((2 * (F 4)) + 1), .int x2] dX0_append_64 ml_X0_51 rfl (by decide) lo0_3 rfl (Nat.le_of_ble_eq_true rfl) rfl (AMv.mono k (fun M64 k => ?_))
  refine z_aload_n dX0_append_67 rfl rfl ?_
  refine z_dup dX0_append_68 rfl ?_
  refine z_geti dX0_append_69 fl_X0_43 lo0_3 rfl ?_
  refine z_iconst (v := 1) dX0_append_72 (by decide) ?_
  refine z_iadd dX0_append_73 ?_
  refine z_puti dX0_append_74 fw_X0_43 lo0_3 rfl ?_
  refine z_iload dX0_append_77 rfl ?_
  exact z_ireturn (st := []) rfl dX0_append_79 ⟨_, rfl, k⟩

set_option maxRecDepth 100000 in
set_option maxHeartbeats 4000000 in
theorem r_X0_chain_0 {P : zM → Prop} (x1 : Int32) (x2 : Int32) (F : Nat → Int32) (I : Nat → Nat → Int32) (J : Nat → Nat → Int64)
  (k : vp_in x2 100 ∧ vp_in x1 600 ∧ vp_in x2 100 ∧ P (F, z_ui (z_ui I 6 (zn x1) (I 5 (zn x2))) 5 (zn x2) x1, J)) :
  AMv m_X0_chain [.ref 3, .int x1, .int x2] (F, I, J) P := by
  refine z_entry (pad := 0) [some (.ref 3), some (.int x1), some (.int x2)] (by decide) rfl rfl (fun _ => Nat.le_of_ble_eq_true rfl) ?_
  refine z_aload_n dX0_chain_0 rfl rfl ?_
  refine z_getr dX0_chain_1 fl_X0_31 lo0_3 rfl ?_
  refine z_iload_n dX0_chain_4 rfl rfl ?_
  refine z_aload_n dX0_chain_5 rfl rfl ?_
  refine z_getr dX0_chain_6 fl_X0_28 lo0_3 rfl ?_
  refine z_iload_n dX0_chain_9 rfl rfl ?_
  refine z_iald dX0_chain_10 lo0_9 ⟨k.1, ?_⟩
  replace k := k.2
  refine z_iast dX0_chain_11 lo0_10 ⟨k.1, ?_⟩
  replace k := k.2
  refine z_aload_n dX0_chain_12 rfl rfl ?_
  refine z_getr dX0_chain_13 fl_X0_28 lo0_3 rfl ?_
  refine z_iload_n dX0_chain_16 rfl rfl ?_
  refine z_iload_n dX0_chain_17 rfl rfl ?_
  refine z_iast dX0_chain_18 lo0_9 ⟨k.1, ?_⟩
  replace k := k.2
  exact z_return (st := []) rfl dX0_chain_19 ⟨rfl, k⟩

set_option maxRecDepth 100000 in
set_option maxHeartbeats 4000000 in
theorem r_X0_dropLatest_0 {P : zM → Prop}  (F : Nat → Int32) (I : Nat → Nat → Int32) (J : Nat → Nat → Int64)
  (k : ((¬ (F 4) = 0 → vp_in ((F 4) - 1) 300 ∧ vp_in (2 * ((F 4) - 1)) 600 ∧ vp_in (I 1 (zn ((F 4) - 1))) 100 ∧ vp_in ((F 4) - 1) 300 ∧ vp_in ((2 * ((F 4) - 1)) + 1) 600 ∧ vp_in (I 2 (zn ((F 4) - 1))) 100 ∧ P (upd F 4 ((F 4) - 1), z_ui (z_ui I 5 (zn (I 1 (zn ((F 4) - 1)))) (I 6 (zn (2 * ((F 4) - 1))))) 5 (zn (I 2 (zn ((F 4) - 1)))) (I 6 (zn ((2 * ((F 4) - 1)) + 1))), J)) ∧ ((F 4) = 0 → P (F, I, J)))) :
  AMv m_X0_dropLatest [.ref 3] (F, I, J) P := by
  refine z_entry (pad := 0) [some (.ref 3)] (by decide) rfl rfl (fun _ => Nat.le_of_ble_eq_true rfl) ?_
  refine z_aload_n dX0_dropLatest_0 rfl rfl ?_
  refine z_geti dX0_dropLatest_1 fl_X0_43 lo0_3 rfl ?_
  refine z_if_ne 8 dX0_dropLatest_4 (by decide) ⟨fun h1 => ?_, fun h1 => ?_⟩
  · replace k := k.1 h1
    refine z_aload_n dX0_dropLatest_8 rfl rfl ?_
    refine z_dup dX0_dropLatest_9 rfl ?_
    refine z_geti dX0_dropLatest_10 fl_X0_43 lo0_3 rfl ?_
    refine z_iconst (v := 1) dX0_dropLatest_13 (by decide) ?_
    refine z_isub dX0_dropLatest_14 ?_
    refine z_puti dX0_dropLatest_15 fw_X0_43 lo0_3 rfl ?_
    refine z_aload_n dX0_dropLatest_18 rfl rfl ?_
    refine z_getr dX0_dropLatest_19 fl_X0_28 lo0_3 rfl ?_
    refine z_aload_n dX0_dropLatest_22 rfl rfl ?_
    refine z_getr dX0_dropLatest_23 fl_X0_9 lo0_3 rfl ?_
    refine z_aload_n dX0_dropLatest_26 rfl rfl ?_
    refine z_geti dX0_dropLatest_27 fl_X0_43 lo0_3 rfl ?_
    refine z_iald dX0_dropLatest_30 lo0_4 ⟨k.1, ?_⟩
    replace k := k.2
    refine z_aload_n dX0_dropLatest_31 rfl rfl ?_
    refine z_getr dX0_dropLatest_32 fl_X0_31 lo0_3 rfl ?_
    refine z_iconst (v := 2) dX0_dropLatest_35 (by decide) ?_
    refine z_aload_n dX0_dropLatest_36 rfl rfl ?_
    refine z_geti dX0_dropLatest_37 fl_X0_43 lo0_3 rfl ?_
    refine z_imul dX0_dropLatest_40 ?_
    refine z_iald dX0_dropLatest_41 lo0_10 ⟨k.1, ?_⟩
    replace k := k.2
    refine z_iast dX0_dropLatest_42 lo0_9 ⟨k.1, ?_⟩
    replace k := k.2
    refine z_aload_n dX0_dropLatest_43 rfl rfl ?_
    refine z_getr dX0_dropLatest_44 fl_X0_28 lo0_3 rfl ?_
    refine z_aload_n dX0_dropLatest_47 rfl rfl ?_
    refine z_getr dX0_dropLatest_48 fl_X0_15 lo0_3 rfl ?_
    refine z_aload_n dX0_dropLatest_51 rfl rfl ?_
    refine z_geti dX0_dropLatest_52 fl_X0_43 lo0_3 rfl ?_
    refine z_iald dX0_dropLatest_55 lo0_5 ⟨k.1, ?_⟩
    replace k := k.2
    refine z_aload_n dX0_dropLatest_56 rfl rfl ?_
    refine z_getr dX0_dropLatest_57 fl_X0_31 lo0_3 rfl ?_
    refine z_iconst (v := 2) dX0_dropLatest_60 (by decide) ?_
    refine z_aload_n dX0_dropLatest_61 rfl rfl ?_
    refine z_geti dX0_dropLatest_62 fl_X0_43 lo0_3 rfl ?_
    refine z_imul dX0_dropLatest_65 ?_
    refine z_iconst (v := 1) dX0_dropLatest_66 (by decide) ?_
    refine z_iadd dX0_dropLatest_67 ?_
    refine z_iald dX0_dropLatest_68 lo0_10 ⟨k.1, ?_⟩
    replace k := k.2
    refine z_iast dX0_dropLatest_69 lo0_9 ⟨k.1, ?_⟩
    replace k := k.2
    exact z_return (st := []) rfl dX0_dropLatest_70 ⟨rfl, k⟩
  · replace k := k.2 h1
    exact z_return (st := []) rfl dX0_dropLatest_7 ⟨rfl, k⟩

set_option maxRecDepth 100000 in
set_option maxHeartbeats 4000000 in
theorem r_X0_raise_0 {P : zM → Prop} (x1 : Int32) (F : Nat → Int32) (I : Nat → Nat → Int32) (J : Nat → Nat → Int64)
  (k : ((1500 ≤ (F 5) → P (F, I, J)) ∧ (¬ 1500 ≤ (F 5) → vp_in (F 5) 1500 ∧ vp_in x1 300 ∧ vp_in x1 300 ∧ P (upd F 5 ((F 5) + 1), z_ui (z_ui I 7 (zn (F 5)) x1) 4 (zn x1) ((I 4 (zn x1)) + 1), J)))) :
  AMv m_X0_raise [.ref 3, .int x1] (F, I, J) P := by
  refine z_entry (pad := 0) [some (.ref 3), some (.int x1)] (by decide) rfl rfl (fun _ => Nat.le_of_ble_eq_true rfl) ?_
  refine z_aload_n dX0_raise_0 rfl rfl ?_
  refine z_geti dX0_raise_1 fl_X0_55 lo0_3 rfl ?_
  refine z_aload_n dX0_raise_4 rfl rfl ?_
  refine z_getr dX0_raise_5 fl_X0_34 lo0_3 rfl ?_
  refine z_alen (v := 1500) dX0_raise_8 lo0_11 (by decide) rfl ?_
  refine z_icmp_ge 42 dX0_raise_9 (by decide) ⟨fun h1 => ?_, fun h1 => ?_⟩
  · replace k := k.1 h1
    exact z_return (st := []) rfl dX0_raise_42 ⟨rfl, k⟩
  · replace k := k.2 h1
    refine z_aload_n dX0_raise_12 rfl rfl ?_
    refine z_getr dX0_raise_13 fl_X0_34 lo0_3 rfl ?_
    refine z_aload_n dX0_raise_16 rfl rfl ?_
    refine z_geti dX0_raise_17 fl_X0_55 lo0_3 rfl ?_
    refine z_iload_n dX0_raise_20 rfl rfl ?_
    refine z_iast dX0_raise_21 lo0_11 ⟨k.1, ?_⟩
    replace k := k.2
    refine z_aload_n dX0_raise_22 rfl rfl ?_
    refine z_dup dX0_raise_23 rfl ?_
    refine z_geti dX0_raise_24 fl_X0_55 lo0_3 rfl ?_
    refine z_iconst (v := 1) dX0_raise_27 (by decide) ?_
    refine z_iadd dX0_raise_28 ?_
    refine z_puti dX0_raise_29 fw_X0_55 lo0_3 rfl ?_
    refine z_aload_n dX0_raise_32 rfl rfl ?_
    refine z_getr dX0_raise_33 fl_X0_25 lo0_3 rfl ?_
    refine z_iload_n dX0_raise_36 rfl rfl ?_
    refine z_dup2 dX0_raise_37 rfl rfl ?_
    refine z_iald dX0_raise_38 lo0_8 ⟨k.1, ?_⟩
    replace k := k.2
    refine z_iconst (v := 1) dX0_raise_39 (by decide) ?_
    refine z_iadd dX0_raise_40 ?_
    refine z_iast dX0_raise_41 lo0_8 ⟨k.1, ?_⟩
    replace k := k.2
    exact z_return (st := []) rfl dX0_raise_42 ⟨rfl, k⟩

set_option maxRecDepth 100000 in
set_option maxHeartbeats 4000000 in
theorem r_X0_lowerTo_0 {P : zM → Prop} (x1 : Int32) (F : Nat → Int32) (I : Nat → Nat → Int32) (J : Nat → Nat → Int64)
  (k : AW m_X0_lowerTo (z_pv P) 7 [some (.ref 3), some (.int x1), some (.int ((F 5) - 1))] [] (F, I, J)) :
  AMv m_X0_lowerTo [.ref 3, .int x1] (F, I, J) P := by
  refine z_entry (pad := 1) [some (.ref 3), some (.int x1), none] (by decide) rfl rfl (fun _ => Nat.le_of_ble_eq_true rfl) ?_
  refine z_aload_n dX0_lowerTo_0 rfl rfl ?_
  refine z_geti dX0_lowerTo_1 fl_X0_55 lo0_3 rfl ?_
  refine z_iconst (v := 1) dX0_lowerTo_4 (by decide) ?_
  refine z_isub dX0_lowerTo_5 ?_
  refine z_istore_n dX0_lowerTo_6 rfl (by decide) rfl ?_
  exact k

set_option maxRecDepth 100000 in
set_option maxHeartbeats 4000000 in
theorem r_X0_lowerTo_7 {P : zM → Prop} (x1 : Int32) (x2 : Int32) (F : Nat → Int32) (I : Nat → Nat → Int32) (J : Nat → Nat → Int64)
  (k : ((x2 < x1 → P (F, I, J)) ∧ (¬ x2 < x1 → ((x2 < 0 → P (F, I, J)) ∧ (¬ x2 < 0 → vp_in x2 1500 ∧ vp_in (I 7 (zn x2)) 300 ∧ vp_in (I 7 (zn x2)) 300 ∧ AW m_X0_lowerTo (z_pv P) 7 [some (.ref 3), some (.int x1), some (.int (x2 + (-1)))] [] (upd F 5 x2, z_ui I 4 (zn (I 7 (zn x2))) ((I 4 (zn (I 7 (zn x2)))) - 1), J)))))) :
  AW m_X0_lowerTo (z_pv P) 7 [some (.ref 3), some (.int x1), some (.int x2)] [] (F, I, J) := by
  refine z_iload_n dX0_lowerTo_7 rfl rfl ?_
  refine z_iload_n dX0_lowerTo_8 rfl rfl ?_
  refine z_icmp_lt 42 dX0_lowerTo_9 (by decide) ⟨fun h1 => ?_, fun h1 => ?_⟩
  · replace k := k.1 h1
    exact z_return (st := []) rfl dX0_lowerTo_42 ⟨rfl, k⟩
  · replace k := k.2 h1
    refine z_iload_n dX0_lowerTo_12 rfl rfl ?_
    refine z_if_lt 42 dX0_lowerTo_13 (by decide) ⟨fun h2 => ?_, fun h2 => ?_⟩
    · replace k := k.1 h2
      exact z_return (st := []) rfl dX0_lowerTo_42 ⟨rfl, k⟩
    · replace k := k.2 h2
      refine z_aload_n dX0_lowerTo_16 rfl rfl ?_
      refine z_getr dX0_lowerTo_17 fl_X0_25 lo0_3 rfl ?_
      refine z_aload_n dX0_lowerTo_20 rfl rfl ?_
      refine z_getr dX0_lowerTo_21 fl_X0_34 lo0_3 rfl ?_
      refine z_iload_n dX0_lowerTo_24 rfl rfl ?_
      refine z_iald dX0_lowerTo_25 lo0_11 ⟨k.1, ?_⟩
      replace k := k.2
      refine z_dup2 dX0_lowerTo_26 rfl rfl ?_
      refine z_iald dX0_lowerTo_27 lo0_8 ⟨k.1, ?_⟩
      replace k := k.2
      refine z_iconst (v := 1) dX0_lowerTo_28 (by decide) ?_
      refine z_isub dX0_lowerTo_29 ?_
      refine z_iast dX0_lowerTo_30 lo0_8 ⟨k.1, ?_⟩
      replace k := k.2
      refine z_aload_n dX0_lowerTo_31 rfl rfl ?_
      refine z_iload_n dX0_lowerTo_32 rfl rfl ?_
      refine z_puti dX0_lowerTo_33 fw_X0_55 lo0_3 rfl ?_
      refine z_iinc (v := (x2 + (-1))) dX0_lowerTo_36 rfl rfl (by decide) rfl ?_
      refine z_goto 7 dX0_lowerTo_39 (by decide) ?_
      exact k

set_option maxRecDepth 100000 in
set_option maxHeartbeats 4000000 in
theorem r_X1_spread_a_0 {P : zM → Prop} (x2 : Int32) (x3 : Int32) (x4 : Int32) (F : Nat → Int32) (I : Nat → Nat → Int32) (J : Nat → Nat → Int64)
  (k : AMv m_X1_clear [.ref 12] (F, I, J) (fun M1 => AMv m_X1_reach [.ref 12, .int x2, .int (-1), .int 0] M1 (fun M8 => AW m_X1_spread (z_pv P) 14 [some (.ref 12), some (.ref 3), none, some (.int x3), some (.int x4), some (.int 0)] [] M8))) :
  AMv m_X1_spread [.ref 12, .ref 3, .int x2, .int x3, .int x4] (F, I, J) P := by
  refine z_entry (pad := 1) [some (.ref 12), some (.ref 3), some (.int x2), some (.int x3), some (.int x4), none] (by decide) rfl rfl (fun _ => Nat.le_of_ble_eq_true rfl) ?_
  refine z_aload_n dX1_spread_0 rfl rfl ?_
  refine z_callv (I := m_X1_spread) (I2 := m_X1_clear) (st := []) [] dX1_spread_1 ml_X1_25 rfl (by decide) lo0_12 rfl (Nat.le_of_ble_eq_true rfl) rfl (AMv.mono k (fun M1 k => ?_))
  refine z_aload_n dX1_spread_4 rfl rfl ?_
  refine z_iload_n dX1_spread_5 rfl rfl ?_
  refine z_iconst (v := (-1)) dX1_spread_6 (by decide) ?_
  refine z_iconst (v := 0) dX1_spread_7 (by decide) ?_
  refine z_callv (I := m_X1_spread) (I2 := m_X1_reach) (st := []) [.int x2, .int (-1), .int 0] dX1_spread_8 ml_X1_28 rfl (by decide) lo0_12 rfl (Nat.le_of_ble_eq_true rfl) rfl (AMv.mono k (fun M8 k => ?_))
  refine z_iconst (v := 0) dX1_spread_11 (by decide) ?_
  refine z_istore dX1_spread_12 (by decide) rfl ?_
  refine z_wk [some (.ref 12), some (.ref 3), none, some (.int x3), some (.int x4), some (.int 0)] (z_le_some (z_le_some (z_le_none (z_le_some (z_le_some (z_le_some z_le_nil)))))) ?_
  exact k

set_option maxRecDepth 100000 in
set_option maxHeartbeats 4000000 in
theorem r_X1_spread_a_14 {P : zM → Prop} (x3 : Int32) (x4 : Int32) (x5 : Int32) (F : Nat → Int32) (I : Nat → Nat → Int32) (J : Nat → Nat → Int64)
  (k : (((F 6) ≤ x5 → P (F, I, J)) ∧ (¬ (F 6) ≤ x5 → ((100 ≤ x5 → P (F, I, J)) ∧ (¬ 100 ≤ x5 → vp_in x5 100 ∧ AMv m_X1_spreadFrom [.ref 12, .ref 3, .int (I 8 (zn x5)), .int x3, .int x4] (F, I, J) (fun M42 => AW m_X1_spread (z_pv P) 14 [some (.ref 12), some (.ref 3), none, some (.int x3), some (.int x4), some (.int (x5 + 1))] [] M42)))))) :
  AW m_X1_spread (z_pv P) 14 [some (.ref 12), some (.ref 3), none, some (.int x3), some (.int x4), some (.int x5)] [] (F, I, J) := by
  refine z_iload dX1_spread_14 rfl ?_
  refine z_aload_n dX1_spread_16 rfl rfl ?_
  refine z_geti dX1_spread_17 fl_X1_32 lo0_12 rfl ?_
  refine z_icmp_ge 51 dX1_spread_20 (by decide) ⟨fun h1 => ?_, fun h1 => ?_⟩
  · replace k := k.1 h1
    exact z_return (st := []) rfl dX1_spread_51 ⟨rfl, k⟩
  · replace k := k.2 h1
    refine z_iload dX1_spread_23 rfl ?_
    refine z_bipush (v := 100) dX1_spread_25 (by decide) ?_
    refine z_icmp_ge 51 dX1_spread_27 (by decide) ⟨fun h2 => ?_, fun h2 => ?_⟩
    · replace k := k.1 h2
      exact z_return (st := []) rfl dX1_spread_51 ⟨rfl, k⟩
    · replace k := k.2 h2
      refine z_aload_n dX1_spread_30 rfl rfl ?_
      refine z_aload_n dX1_spread_31 rfl rfl ?_
      refine z_aload_n dX1_spread_32 rfl rfl ?_
      refine z_getr dX1_spread_33 fl_X1_9 lo0_12 rfl ?_
      refine z_iload dX1_spread_36 rfl ?_
      refine z_iald dX1_spread_38 lo0_13 ⟨k.1, ?_⟩
      replace k := k.2
      refine z_iload_n dX1_spread_39 rfl rfl ?_
      refine z_iload dX1_spread_40 rfl ?_
      refine z_callv (I := m_X1_spread) (I2 := m_X1_spreadFrom) (st := []) [.ref 3, .int (I 8 (zn x5)), .int x3, .int x4] dX1_spread_42 ml_X1_36 rfl (by decide) lo0_12 rfl (Nat.le_of_ble_eq_true rfl) rfl (AMv.mono k (fun M42 k => ?_))
      refine z_iinc (v := (x5 + 1)) dX1_spread_45 rfl rfl (by decide) rfl ?_
      refine z_goto 14 dX1_spread_48 (by decide) ?_
      exact k

set_option maxRecDepth 100000 in
set_option maxHeartbeats 4000000 in
theorem r_X1_spread_b_0 {P : zM → Prop} (x2 : Int32) (x3 : Int32) (x4 : Int32) (F : Nat → Int32) (I : Nat → Nat → Int32) (J : Nat → Nat → Int64)
  (k : AMv m_X1_clear [.ref 17] (F, I, J) (fun M1 => AMv m_X1_reach [.ref 17, .int x2, .int (-1), .int 0] M1 (fun M8 => AW m_X1_spread (z_pv P) 14 [some (.ref 17), some (.ref 3), none, some (.int x3), some (.int x4), some (.int 0)] [] M8))) :
  AMv m_X1_spread [.ref 17, .ref 3, .int x2, .int x3, .int x4] (F, I, J) P := by
  refine z_entry (pad := 1) [some (.ref 17), some (.ref 3), some (.int x2), some (.int x3), some (.int x4), none] (by decide) rfl rfl (fun _ => Nat.le_of_ble_eq_true rfl) ?_
  refine z_aload_n dX1_spread_0 rfl rfl ?_
  refine z_callv (I := m_X1_spread) (I2 := m_X1_clear) (st := []) [] dX1_spread_1 ml_X1_25 rfl (by decide) lo0_17 rfl (Nat.le_of_ble_eq_true rfl) rfl (AMv.mono k (fun M1 k => ?_))
  refine z_aload_n dX1_spread_4 rfl rfl ?_
  refine z_iload_n dX1_spread_5 rfl rfl ?_
  refine z_iconst (v := (-1)) dX1_spread_6 (by decide) ?_
  refine z_iconst (v := 0) dX1_spread_7 (by decide) ?_
  refine z_callv (I := m_X1_spread) (I2 := m_X1_reach) (st := []) [.int x2, .int (-1), .int 0] dX1_spread_8 ml_X1_28 rfl (by decide) lo0_17 rfl (Nat.le_of_ble_eq_true rfl) rfl (AMv.mono k (fun M8 k => ?_))
  refine z_iconst (v := 0) dX1_spread_11 (by decide) ?_
  refine z_istore dX1_spread_12 (by decide) rfl ?_
  refine z_wk [some (.ref 17), some (.ref 3), none, some (.int x3), some (.int x4), some (.int 0)] (z_le_some (z_le_some (z_le_none (z_le_some (z_le_some (z_le_some z_le_nil)))))) ?_
  exact k

set_option maxRecDepth 100000 in
set_option maxHeartbeats 4000000 in
theorem r_X1_spread_b_14 {P : zM → Prop} (x3 : Int32) (x4 : Int32) (x5 : Int32) (F : Nat → Int32) (I : Nat → Nat → Int32) (J : Nat → Nat → Int64)
  (k : (((F 7) ≤ x5 → P (F, I, J)) ∧ (¬ (F 7) ≤ x5 → ((100 ≤ x5 → P (F, I, J)) ∧ (¬ 100 ≤ x5 → vp_in x5 100 ∧ AMv m_X1_spreadFrom [.ref 17, .ref 3, .int (I 12 (zn x5)), .int x3, .int x4] (F, I, J) (fun M42 => AW m_X1_spread (z_pv P) 14 [some (.ref 17), some (.ref 3), none, some (.int x3), some (.int x4), some (.int (x5 + 1))] [] M42)))))) :
  AW m_X1_spread (z_pv P) 14 [some (.ref 17), some (.ref 3), none, some (.int x3), some (.int x4), some (.int x5)] [] (F, I, J) := by
  refine z_iload dX1_spread_14 rfl ?_
  refine z_aload_n dX1_spread_16 rfl rfl ?_
  refine z_geti dX1_spread_17 fl_X1_32 lo0_17 rfl ?_
  refine z_icmp_ge 51 dX1_spread_20 (by decide) ⟨fun h1 => ?_, fun h1 => ?_⟩
  · replace k := k.1 h1
    exact z_return (st := []) rfl dX1_spread_51 ⟨rfl, k⟩
  · replace k := k.2 h1
    refine z_iload dX1_spread_23 rfl ?_
    refine z_bipush (v := 100) dX1_spread_25 (by decide) ?_
    refine z_icmp_ge 51 dX1_spread_27 (by decide) ⟨fun h2 => ?_, fun h2 => ?_⟩
    · replace k := k.1 h2
      exact z_return (st := []) rfl dX1_spread_51 ⟨rfl, k⟩
    · replace k := k.2 h2
      refine z_aload_n dX1_spread_30 rfl rfl ?_
      refine z_aload_n dX1_spread_31 rfl rfl ?_
      refine z_aload_n dX1_spread_32 rfl rfl ?_
      refine z_getr dX1_spread_33 fl_X1_9 lo0_17 rfl ?_
      refine z_iload dX1_spread_36 rfl ?_
      refine z_iald dX1_spread_38 lo0_18 ⟨k.1, ?_⟩
      replace k := k.2
      refine z_iload_n dX1_spread_39 rfl rfl ?_
      refine z_iload dX1_spread_40 rfl ?_
      refine z_callv (I := m_X1_spread) (I2 := m_X1_spreadFrom) (st := []) [.ref 3, .int (I 12 (zn x5)), .int x3, .int x4] dX1_spread_42 ml_X1_36 rfl (by decide) lo0_17 rfl (Nat.le_of_ble_eq_true rfl) rfl (AMv.mono k (fun M42 k => ?_))
      refine z_iinc (v := (x5 + 1)) dX1_spread_45 rfl rfl (by decide) rfl ?_
      refine z_goto 14 dX1_spread_48 (by decide) ?_
      exact k

set_option maxRecDepth 100000 in
set_option maxHeartbeats 4000000 in
theorem r_X1_clear_a_0 {P : zM → Prop}  (F : Nat → Int32) (I : Nat → Nat → Int32) (J : Nat → Nat → Int64)
  (k : AW m_X1_clear (z_pv P) 2 [some (.ref 12), some (.int 0)] [] (F, I, J)) :
  AMv m_X1_clear [.ref 12] (F, I, J) P := by
  refine z_entry (pad := 1) [some (.ref 12), none] (by decide) rfl rfl (fun _ => Nat.le_of_ble_eq_true rfl) ?_
  refine z_iconst (v := 0) dX1_clear_0 (by decide) ?_
  refine z_istore_n dX1_clear_1 rfl (by decide) rfl ?_
  exact k

set_option maxRecDepth 100000 in
set_option maxHeartbeats 4000000 in
theorem r_X1_clear_a_2 {P : zM → Prop} (x1 : Int32) (F : Nat → Int32) (I : Nat → Nat → Int32) (J : Nat → Nat → Int64)
  (k : (((F 6) ≤ x1 → P (upd F 6 0, I, J)) ∧ (¬ (F 6) ≤ x1 → vp_in x1 100 ∧ vp_in (I 8 (zn x1)) 100 ∧ AW m_X1_clear (z_pv P) 2 [some (.ref 12), some (.int (x1 + 1))] [] (F, z_ui I 11 (zn (I 8 (zn x1))) 0, J)))) :
  AW m_X1_clear (z_pv P) 2 [some (.ref 12), some (.int x1)] [] (F, I, J) := by
  refine z_iload_n dX1_clear_2 rfl rfl ?_
  refine z_aload_n dX1_clear_3 rfl rfl ?_
  refine z_geti dX1_clear_4 fl_X1_32 lo0_12 rfl ?_
  refine z_icmp_ge 28 dX1_clear_7 (by decide) ⟨fun h1 => ?_, fun h1 => ?_⟩
  · replace k := k.1 h1
    refine z_aload_n dX1_clear_28 rfl rfl ?_
    refine z_iconst (v := 0) dX1_clear_29 (by decide) ?_
    refine z_puti dX1_clear_30 fw_X1_32 lo0_12 rfl ?_
    exact z_return (st := []) rfl dX1_clear_33 ⟨rfl, k⟩
  · replace k := k.2 h1
    refine z_aload_n dX1_clear_10 rfl rfl ?_
    refine z_getr dX1_clear_11 fl_X1_21 lo0_12 rfl ?_
    refine z_aload_n dX1_clear_14 rfl rfl ?_
    refine z_getr dX1_clear_15 fl_X1_9 lo0_12 rfl ?_
    refine z_iload_n dX1_clear_18 rfl rfl ?_
    refine z_iald dX1_clear_19 lo0_13 ⟨k.1, ?_⟩
    replace k := k.2
    refine z_iconst (v := 0) dX1_clear_20 (by decide) ?_
    refine z_zast (x2 := 0) rfl dX1_clear_21 lo0_16 ⟨k.1, ?_⟩
    replace k := k.2
    refine z_iinc (v := (x1 + 1)) dX1_clear_22 rfl rfl (by decide) rfl ?_
    refine z_goto 2 dX1_clear_25 (by decide) ?_
    exact k

set_option maxRecDepth 100000 in
set_option maxHeartbeats 4000000 in
theorem r_X1_clear_b_0 {P : zM → Prop}  (F : Nat → Int32) (I : Nat → Nat → Int32) (J : Nat → Nat → Int64)
  (k : AW m_X1_clear (z_pv P) 2 [some (.ref 17), some (.int 0)] [] (F, I, J)) :
  AMv m_X1_clear [.ref 17] (F, I, J) P := by
  refine z_entry (pad := 1) [some (.ref 17), none] (by decide) rfl rfl (fun _ => Nat.le_of_ble_eq_true rfl) ?_
  refine z_iconst (v := 0) dX1_clear_0 (by decide) ?_
  refine z_istore_n dX1_clear_1 rfl (by decide) rfl ?_
  exact k

set_option maxRecDepth 100000 in
set_option maxHeartbeats 4000000 in
theorem r_X1_clear_b_2 {P : zM → Prop} (x1 : Int32) (F : Nat → Int32) (I : Nat → Nat → Int32) (J : Nat → Nat → Int64)
  (k : (((F 7) ≤ x1 → P (upd F 7 0, I, J)) ∧ (¬ (F 7) ≤ x1 → vp_in x1 100 ∧ vp_in (I 12 (zn x1)) 100 ∧ AW m_X1_clear (z_pv P) 2 [some (.ref 17), some (.int (x1 + 1))] [] (F, z_ui I 15 (zn (I 12 (zn x1))) 0, J)))) :
  AW m_X1_clear (z_pv P) 2 [some (.ref 17), some (.int x1)] [] (F, I, J) := by
  refine z_iload_n dX1_clear_2 rfl rfl ?_
  refine z_aload_n dX1_clear_3 rfl rfl ?_
  refine z_geti dX1_clear_4 fl_X1_32 lo0_17 rfl ?_
  refine z_icmp_ge 28 dX1_clear_7 (by decide) ⟨fun h1 => ?_, fun h1 => ?_⟩
  · replace k := k.1 h1
    refine z_aload_n dX1_clear_28 rfl rfl ?_
    refine z_iconst (v := 0) dX1_clear_29 (by decide) ?_
    refine z_puti dX1_clear_30 fw_X1_32 lo0_17 rfl ?_
    exact z_return (st := []) rfl dX1_clear_33 ⟨rfl, k⟩
  · replace k := k.2 h1
    refine z_aload_n dX1_clear_10 rfl rfl ?_
    refine z_getr dX1_clear_11 fl_X1_21 lo0_17 rfl ?_
    refine z_aload_n dX1_clear_14 rfl rfl ?_
    refine z_getr dX1_clear_15 fl_X1_9 lo0_17 rfl ?_
    refine z_iload_n dX1_clear_18 rfl rfl ?_
    refine z_iald dX1_clear_19 lo0_18 ⟨k.1, ?_⟩
    replace k := k.2
    refine z_iconst (v := 0) dX1_clear_20 (by decide) ?_
    refine z_zast (x2 := 0) rfl dX1_clear_21 lo0_21 ⟨k.1, ?_⟩
    replace k := k.2
    refine z_iinc (v := (x1 + 1)) dX1_clear_22 rfl rfl (by decide) rfl ?_
    refine z_goto 2 dX1_clear_25 (by decide) ?_
    exact k

set_option maxRecDepth 100000 in
set_option maxHeartbeats 4000000 in
theorem r_X1_reach_a_0 {P : zM → Prop} (x1 : Int32) (x2 : Int32) (x3 : Int32) (F : Nat → Int32) (I : Nat → Nat → Int32) (J : Nat → Nat → Int64)
  (k : vp_in x1 100 ∧ vp_in x1 100 ∧ vp_in x1 100 ∧ vp_in (F 6) 100 ∧ P (upd F 6 ((F 6) + 1), z_ui (z_ui (z_ui (z_ui I 11 (zn x1) 1) 10 (zn x1) x2) 9 (zn x1) x3) 8 (zn (F 6)) x1, J)) :
  AMv m_X1_reach [.ref 12, .int x1, .int x2, .int x3] (F, I, J) P := by
  refine z_entry (pad := 0) [some (.ref 12), some (.int x1), some (.int x2), some (.int x3)] (by decide) rfl rfl (fun _ => Nat.le_of_ble_eq_true rfl) ?_
  refine z_aload_n dX1_reach_0 rfl rfl ?_
  refine z_getr dX1_reach_1 fl_X1_21 lo0_12 rfl ?_
  refine z_iload_n dX1_reach_4 rfl rfl ?_
  refine z_iconst (v := 1) dX1_reach_5 (by decide) ?_
  refine z_zast (x2 := 1) rfl dX1_reach_6 lo0_16 ⟨k.1, ?_⟩
  replace k := k.2
  refine z_aload_n dX1_reach_7 rfl rfl ?_
  refine z_getr dX1_reach_8 fl_X1_18 lo0_12 rfl ?_
  refine z_iload_n dX1_reach_11 rfl rfl ?_
  refine z_iload_n dX1_reach_12 rfl rfl ?_
  refine z_iast dX1_reach_13 lo0_15 ⟨k.1, ?_⟩
  replace k := k.2
  refine z_aload_n dX1_reach_14 rfl rfl ?_
  refine z_getr dX1_reach_15 fl_X1_15 lo0_12 rfl ?_
  refine z_iload_n dX1_reach_18 rfl rfl ?_
  refine z_iload_n dX1_reach_19 rfl rfl ?_
  refine z_iast dX1_reach_20 lo0_14 ⟨k.1, ?_⟩
  replace k := k.2
  refine z_aload_n dX1_reach_21 rfl rfl ?_
  refine z_getr dX1_reach_22 fl_X1_9 lo0_12 rfl ?_
  refine z_aload_n dX1_reach_25 rfl rfl ?_
  refine z_geti dX1_reach_26 fl_X1_32 lo0_12 rfl ?_
  refine z_iload_n dX1_reach_29 rfl rfl ?_
  refine z_iast dX1_reach_30 lo0_13 ⟨k.1, ?_⟩
  replace k := k.2
  refine z_aload_n dX1_reach_31 rfl rfl ?_
  refine z_dup dX1_reach_32 rfl ?_
  refine z_geti dX1_reach_33 fl_X1_32 lo0_12 rfl ?_
  refine z_iconst (v := 1) dX1_reach_36 (by decide) ?_
  refine z_iadd dX1_reach_37 ?_
  refine z_puti dX1_reach_38 fw_X1_32 lo0_12 rfl ?_
  exact z_return (st := []) rfl dX1_reach_41 ⟨rfl, k⟩

set_option maxRecDepth 100000 in
set_option maxHeartbeats 4000000 in
theorem r_X1_reach_b_0 {P : zM → Prop} (x1 : Int32) (x2 : Int32) (x3 : Int32) (F : Nat → Int32) (I : Nat → Nat → Int32) (J : Nat → Nat → Int64)
  (k : vp_in x1 100 ∧ vp_in x1 100 ∧ vp_in x1 100 ∧ vp_in (F 7) 100 ∧ P (upd F 7 ((F 7) + 1), z_ui (z_ui (z_ui (z_ui I 15 (zn x1) 1) 14 (zn x1) x2) 13 (zn x1) x3) 12 (zn (F 7)) x1, J)) :
  AMv m_X1_reach [.ref 17, .int x1, .int x2, .int x3] (F, I, J) P := by
  refine z_entry (pad := 0) [some (.ref 17), some (.int x1), some (.int x2), some (.int x3)] (by decide) rfl rfl (fun _ => Nat.le_of_ble_eq_true rfl) ?_
  refine z_aload_n dX1_reach_0 rfl rfl ?_
  refine z_getr dX1_reach_1 fl_X1_21 lo0_17 rfl ?_
  refine z_iload_n dX1_reach_4 rfl rfl ?_
  refine z_iconst (v := 1) dX1_reach_5 (by decide) ?_
  refine z_zast (x2 := 1) rfl dX1_reach_6 lo0_21 ⟨k.1, ?_⟩
  replace k := k.2
  refine z_aload_n dX1_reach_7 rfl rfl ?_
  refine z_getr dX1_reach_8 fl_X1_18 lo0_17 rfl ?_
  refine z_iload_n dX1_reach_11 rfl rfl ?_
  refine z_iload_n dX1_reach_12 rfl rfl ?_
  refine z_iast dX1_reach_13 lo0_20 ⟨k.1, ?_⟩
  replace k := k.2
  refine z_aload_n dX1_reach_14 rfl rfl ?_
  refine z_getr dX1_reach_15 fl_X1_15 lo0_17 rfl ?_
  refine z_iload_n dX1_reach_18 rfl rfl ?_
  refine z_iload_n dX1_reach_19 rfl rfl ?_
  refine z_iast dX1_reach_20 lo0_19 ⟨k.1, ?_⟩
  replace k := k.2
  refine z_aload_n dX1_reach_21 rfl rfl ?_
  refine z_getr dX1_reach_22 fl_X1_9 lo0_17 rfl ?_
  refine z_aload_n dX1_reach_25 rfl rfl ?_
  refine z_geti dX1_reach_26 fl_X1_32 lo0_17 rfl ?_
  refine z_iload_n dX1_reach_29 rfl rfl ?_
  refine z_iast dX1_reach_30 lo0_18 ⟨k.1, ?_⟩
  replace k := k.2
  refine z_aload_n dX1_reach_31 rfl rfl ?_
  refine z_dup dX1_reach_32 rfl ?_
  refine z_geti dX1_reach_33 fl_X1_32 lo0_17 rfl ?_
  refine z_iconst (v := 1) dX1_reach_36 (by decide) ?_
  refine z_iadd dX1_reach_37 ?_
  refine z_puti dX1_reach_38 fw_X1_32 lo0_17 rfl ?_
  exact z_return (st := []) rfl dX1_reach_41 ⟨rfl, k⟩

set_option maxRecDepth 100000 in
set_option maxHeartbeats 4000000 in
theorem r_X1_spreadFrom_a_0 {P : zM → Prop} (x2 : Int32) (x3 : Int32) (x4 : Int32) (F : Nat → Int32) (I : Nat → Nat → Int32) (J : Nat → Nat → Int64)
  (k : vp_in x2 100 ∧ AW m_X1_spreadFrom (z_pv P) 11 [some (.ref 12), some (.ref 3), some (.int x2), some (.int x3), some (.int x4), some (.int (I 5 (zn x2))), some (.int 0), none, none] [] (F, I, J)) :
  AMv m_X1_spreadFrom [.ref 12, .ref 3, .int x2, .int x3, .int x4] (F, I, J) P := by
  refine z_entry (pad := 4) [some (.ref 12), some (.ref 3), some (.int x2), some (.int x3), some (.int x4), none, none, none, none] (by decide) rfl rfl (fun _ => Nat.le_of_ble_eq_true rfl) ?_
  refine z_aload_n dX1_spreadFrom_0 rfl rfl ?_
  refine z_getr dX1_spreadFrom_1 fl_X1_40 lo0_3 rfl ?_
  refine z_iload_n dX1_spreadFrom_4 rfl rfl ?_
  refine z_iald dX1_spreadFrom_5 lo0_9 ⟨k.1, ?_⟩
  replace k := k.2
  refine z_istore dX1_spreadFrom_6 (by decide) rfl ?_
  refine z_iconst (v := 0) dX1_spreadFrom_8 (by decide) ?_
  refine z_istore dX1_spreadFrom_9 (by decide) rfl ?_
  exact k

set_option maxRecDepth 100000 in
set_option maxHeartbeats 4000000 in
theorem r_X1_spreadFrom_a_11 {P : zM → Prop} (x2 : Int32) (x3 : Int32) (x4 : Int32) (x5 : Int32) (x6 : Int32) (F : Nat → Int32) (I : Nat → Nat → Int32) (J : Nat → Nat → Int64)
  (k : ((x5 = (-1) → P (F, I, J)) ∧ (¬ x5 = (-1) → ((300 ≤ x6 → P (F, I, J)) ∧ (¬ 300 ≤ x6 → AMi m_X0_across [.ref 3, .int (x5 / 2), .int x2] (F, I, J) (fun r35 M35 => vp_in (x5 / 2) 300 ∧ ((¬ (M35.2.1 3 (zn (x5 / 2))) = 1 → vp_in x5 600 ∧ AW m_X1_spreadFrom (z_pv P) 11 [some (.ref 12), some (.ref 3), some (.int x2), some (.int x3), some (.int x4), some (.int (M35.2.1 6 (zn x5))), some (.int (x6 + 1)), none, none] [] M35) ∧ ((M35.2.1 3 (zn (x5 / 2))) = 1 → (((x5 / 2) = x3 → vp_in x5 600 ∧ AW m_X1_spreadFrom (z_pv P) 11 [some (.ref 12), some (.ref 3), some (.int x2), some (.int x3), some (.int x4), some (.int (M35.2.1 6 (zn x5))), some (.int (x6 + 1)), none, none] [] M35) ∧ (¬ (x5 / 2) = x3 → vp_in (x5 / 2) 300 ∧ (((M35.2.1 4 (zn (x5 / 2))) < x4 → vp_in x5 600 ∧ AW m_X1_spreadFrom (z_pv P) 11 [some (.ref 12), some (.ref 3), some (.int x2), some (.int x3), some (.int x4), some (.int (M35.2.1 6 (zn x5))), some (.int (x6 + 1)), none, none] [] M35) ∧ (¬ (M35.2.1 4 (zn (x5 / 2))) < x4 → vp_in r35 100 ∧ ((¬ (M35.2.1 11 (zn r35)) = 0 → vp_in x5 600 ∧ AW m_X1_spreadFrom (z_pv P) 11 [some (.ref 12), some (.ref 3), some (.int x2), some (.int x3), some (.int x4), some (.int (M35.2.1 6 (zn x5))), some (.int (x6 + 1)), none, none] [] M35) ∧ ((M35.2.1 11 (zn r35)) = 0 → vp_in x2 100 ∧ AMv m_X1_reach [.ref 12, .int r35, .int (x5 / 2), .int ((M35.2.1 9 (zn x2)) + 1)] M35 (fun M92 => vp_in x5 600 ∧ AW m_X1_spreadFrom (z_pv P) 11 [some (.ref 12), some (.ref 3), some (.int x2), some (.int x3), some (.int x4), some (.int (M92.2.1 6 (zn x5))), some (.int (x6 + 1)), none, none] [] M92))))))))))))))) :
  AW m_X1_spreadFrom (z_pv P) 11 [some (.ref 12), some (.ref 3), some (.int x2), some (.int x3), some (.int x4), some (.int x5), some (.int x6), none, none] [] (F, I, J) := by
  refine z_iload dX1_spreadFrom_11 rfl ?_
  refine z_iconst (v := (-1)) dX1_spreadFrom_13 (by decide) ?_
  refine z_icmp_eq 110 dX1_spreadFrom_14 (by decide) ⟨fun h1 => ?_, fun h1 => ?_⟩
  · replace k := k.1 h1
    exact z_return (st := []) rfl dX1_spreadFrom_110 ⟨rfl, k⟩
  · replace k := k.2 h1
    refine z_iload dX1_spreadFrom_17 rfl ?_
    refine z_sipush (v := 300) dX1_spreadFrom_19 (by decide) ?_
    refine z_icmp_ge 110 dX1_spreadFrom_22 (by decide) ⟨fun h2 => ?_, fun h2 => ?_⟩
    · replace k := k.1 h2
      exact z_return (st := []) rfl dX1_spreadFrom_110 ⟨rfl, k⟩
    · replace k := k.2 h2
      refine z_iload dX1_spreadFrom_25 rfl ?_
      refine z_iconst (v := 2) dX1_spreadFrom_27 (by decide) ?_
      refine z_idiv dX1_spreadFrom_28 (by decide) ?_
      refine z_istore dX1_spreadFrom_29 (by decide) rfl ?_
      refine z_aload_n dX1_spreadFrom_31 rfl rfl ?_
      refine z_iload dX1_spreadFrom_32 rfl ?_
      refine z_iload_n dX1_spreadFrom_34 rfl rfl ?_
      refine z_calli (I := m_X1_spreadFrom) (I2 := m_X0_across) (st := []) [.int (x5 / 2), .int x2] dX1_spreadFrom_35 ml_X1_45 rfl (by decide) lo0_3 rfl (Nat.le_of_ble_eq_true rfl) rfl (AMi.mono k (fun r35 M35 k => ?_))
      refine z_istore dX1_spreadFrom_38 (by decide) rfl ?_
      refine z_aload_n dX1_spreadFrom_40 rfl rfl ?_
      refine z_getr dX1_spreadFrom_41 fl_X1_49 lo0_3 rfl ?_
      refine z_iload dX1_spreadFrom_44 rfl ?_
      refine z_iald dX1_spreadFrom_46 lo0_7 ⟨k.1, ?_⟩
      replace k := k.2
      refine z_iconst (v := 1) dX1_spreadFrom_47 (by decide) ?_
      refine z_icmp_ne 95 dX1_spreadFrom_48 (by decide) ⟨fun h3 => ?_, fun h3 => ?_⟩
      · replace k := k.1 h3
        refine z_aload_n dX1_spreadFrom_95 rfl rfl ?_
        refine z_getr dX1_spreadFrom_96 fl_X1_55 lo0_3 rfl ?_
        refine z_iload dX1_spreadFrom_99 rfl ?_
        refine z_iald dX1_spreadFrom_101 lo0_10 ⟨k.1, ?_⟩
        replace k := k.2
        refine z_istore dX1_spreadFrom_102 (by decide) rfl ?_
        refine z_iinc (v := (x6 + 1)) dX1_spreadFrom_104 rfl rfl (by decide) rfl ?_
        refine z_goto 11 dX1_spreadFrom_107 (by decide) ?_
        refine z_wk [some (.ref 12), some (.ref 3), some (.int x2), some (.int x3), some (.int x4), some (.int (M35.2.1 6 (zn x5))), some (.int (x6 + 1)), none, none] (z_le_some (z_le_some (z_le_some (z_le_some (z_le_some (z_le_some (z_le_some (z_le_none (z_le_none z_le_nil))))))))) ?_
        exact k
      · replace k := k.2 h3
        refine z_iload dX1_spreadFrom_51 rfl ?_
        refine z_iload_n dX1_spreadFrom_53 rfl rfl ?_
        refine z_icmp_eq 95 dX1_spreadFrom_54 (by decide) ⟨fun h4 => ?_, fun h4 => ?_⟩
        · replace k := k.1 h4
          refine z_aload_n dX1_spreadFrom_95 rfl rfl ?_
          refine z_getr dX1_spreadFrom_96 fl_X1_55 lo0_3 rfl ?_
          refine z_iload dX1_spreadFrom_99 rfl ?_
          refine z_iald dX1_spreadFrom_101 lo0_10 ⟨k.1, ?_⟩
          replace k := k.2
          refine z_istore dX1_spreadFrom_102 (by decide) rfl ?_
          refine z_iinc (v := (x6 + 1)) dX1_spreadFrom_104 rfl rfl (by decide) rfl ?_
          refine z_goto 11 dX1_spreadFrom_107 (by decide) ?_
          refine z_wk [some (.ref 12), some (.ref 3), some (.int x2), some (.int x3), some (.int x4), some (.int (M35.2.1 6 (zn x5))), some (.int (x6 + 1)), none, none] (z_le_some (z_le_some (z_le_some (z_le_some (z_le_some (z_le_some (z_le_some (z_le_none (z_le_none z_le_nil))))))))) ?_
          exact k
        · replace k := k.2 h4
          refine z_aload_n dX1_spreadFrom_57 rfl rfl ?_
          refine z_getr dX1_spreadFrom_58 fl_X1_52 lo0_3 rfl ?_
          refine z_iload dX1_spreadFrom_61 rfl ?_
          refine z_iald dX1_spreadFrom_63 lo0_8 ⟨k.1, ?_⟩
          replace k := k.2
          refine z_iload dX1_spreadFrom_64 rfl ?_
          refine z_icmp_lt 95 dX1_spreadFrom_66 (by decide) ⟨fun h5 => ?_, fun h5 => ?_⟩
          · replace k := k.1 h5
            refine z_aload_n dX1_spreadFrom_95 rfl rfl ?_
            refine z_getr dX1_spreadFrom_96 fl_X1_55 lo0_3 rfl ?_
            refine z_iload dX1_spreadFrom_99 rfl ?_
            refine z_iald dX1_spreadFrom_101 lo0_10 ⟨k.1, ?_⟩
            replace k := k.2
            refine z_istore dX1_spreadFrom_102 (by decide) rfl ?_
            refine z_iinc (v := (x6 + 1)) dX1_spreadFrom_104 rfl rfl (by decide) rfl ?_
            refine z_goto 11 dX1_spreadFrom_107 (by decide) ?_
            refine z_wk [some (.ref 12), some (.ref 3), some (.int x2), some (.int x3), some (.int x4), some (.int (M35.2.1 6 (zn x5))), some (.int (x6 + 1)), none, none] (z_le_some (z_le_some (z_le_some (z_le_some (z_le_some (z_le_some (z_le_some (z_le_none (z_le_none z_le_nil))))))))) ?_
            exact k
          · replace k := k.2 h5
            refine z_aload_n dX1_spreadFrom_69 rfl rfl ?_
            refine z_getr dX1_spreadFrom_70 fl_X1_21 lo0_12 rfl ?_
            refine z_iload dX1_spreadFrom_73 rfl ?_
            refine z_zald dX1_spreadFrom_75 lo0_16 ⟨k.1, ?_⟩
            replace k := k.2
            refine z_if_ne 95 dX1_spreadFrom_76 (by decide) ⟨fun h6 => ?_, fun h6 => ?_⟩
            · replace k := k.1 h6
              refine z_aload_n dX1_spreadFrom_95 rfl rfl ?_
              refine z_getr dX1_spreadFrom_96 fl_X1_55 lo0_3 rfl ?_
              refine z_iload dX1_spreadFrom_99 rfl ?_
              refine z_iald dX1_spreadFrom_101 lo0_10 ⟨k.1, ?_⟩
              replace k := k.2
              refine z_istore dX1_spreadFrom_102 (by decide) rfl ?_
              refine z_iinc (v := (x6 + 1)) dX1_spreadFrom_104 rfl rfl (by decide) rfl ?_
              refine z_goto 11 dX1_spreadFrom_107 (by decide) ?_
              refine z_wk [some (.ref 12), some (.ref 3), some (.int x2), some (.int x3), some (.int x4), some (.int (M35.2.1 6 (zn x5))), some (.int (x6 + 1)), none, none] (z_le_some (z_le_some (z_le_some (z_le_some (z_le_some (z_le_some (z_le_some (z_le_none (z_le_none z_le_nil))))))))) ?_
              exact k
            · replace k := k.2 h6
              refine z_aload_n dX1_spreadFrom_79 rfl rfl ?_
              refine z_iload dX1_spreadFrom_80 rfl ?_
              refine z_iload dX1_spreadFrom_82 rfl ?_
              refine z_aload_n dX1_spreadFrom_84 rfl rfl ?_
              refine z_getr dX1_spreadFrom_85 fl_X1_15 lo0_12 rfl ?_
              refine z_iload_n dX1_spreadFrom_88 rfl rfl ?_
              refine z_iald dX1_spreadFrom_89 lo0_14 ⟨k.1, ?_⟩
              replace k := k.2
              refine z_iconst (v := 1) dX1_spreadFrom_90 (by decide) ?_
              refine z_iadd dX1_spreadFrom_91 ?_
              refine z_callv (I := m_X1_spreadFrom) (I2 := m_X1_reach) (st := []) [.int r35, .int (x5 / 2), .int ((M35.2.1 9 (zn x2)) + 1)] dX1_spreadFrom_92 ml_X1_28 rfl (by decide) lo0_12 rfl (Nat.le_of_ble_eq_true rfl) rfl (AMv.mono k (fun M92 k => ?_))
              refine z_aload_n dX1_spreadFrom_95 rfl rfl ?_
              refine z_getr dX1_spreadFrom_96 fl_X1_55 lo0_3 rfl ?_
              refine z_iload dX1_spreadFrom_99 rfl ?_
              refine z_iald dX1_spreadFrom_101 lo0_10 ⟨k.1, ?_⟩
              replace k := k.2
              refine z_istore dX1_spreadFrom_102 (by decide) rfl ?_
              refine z_iinc (v := (x6 + 1)) dX1_spreadFrom_104 rfl rfl (by decide) rfl ?_
              refine z_goto 11 dX1_spreadFrom_107 (by decide) ?_
              refine z_wk [some (.ref 12), some (.ref 3), some (.int x2), some (.int x3), some (.int x4), some (.int (M92.2.1 6 (zn x5))), some (.int (x6 + 1)), none, none] (z_le_some (z_le_some (z_le_some (z_le_some (z_le_some (z_le_some (z_le_some (z_le_none (z_le_none z_le_nil))))))))) ?_
              exact k

set_option maxRecDepth 100000 in
set_option maxHeartbeats 4000000 in
theorem r_X1_spreadFrom_b_0 {P : zM → Prop} (x2 : Int32) (x3 : Int32) (x4 : Int32) (F : Nat → Int32) (I : Nat → Nat → Int32) (J : Nat → Nat → Int64)
  (k : vp_in x2 100 ∧ AW m_X1_spreadFrom (z_pv P) 11 [some (.ref 17), some (.ref 3), some (.int x2), some (.int x3), some (.int x4), some (.int (I 5 (zn x2))), some (.int 0), none, none] [] (F, I, J)) :
  AMv m_X1_spreadFrom [.ref 17, .ref 3, .int x2, .int x3, .int x4] (F, I, J) P := by
  refine z_entry (pad := 4) [some (.ref 17), some (.ref 3), some (.int x2), some (.int x3), some (.int x4), none, none, none, none] (by decide) rfl rfl (fun _ => Nat.le_of_ble_eq_true rfl) ?_
  refine z_aload_n dX1_spreadFrom_0 rfl rfl ?_
  refine z_getr dX1_spreadFrom_1 fl_X1_40 lo0_3 rfl ?_
  refine z_iload_n dX1_spreadFrom_4 rfl rfl ?_
  refine z_iald dX1_spreadFrom_5 lo0_9 ⟨k.1, ?_⟩
  replace k := k.2
  refine z_istore dX1_spreadFrom_6 (by decide) rfl ?_
  refine z_iconst (v := 0) dX1_spreadFrom_8 (by decide) ?_
  refine z_istore dX1_spreadFrom_9 (by decide) rfl ?_
  exact k

set_option maxRecDepth 100000 in
set_option maxHeartbeats 4000000 in
theorem r_X1_spreadFrom_b_11 {P : zM → Prop} (x2 : Int32) (x3 : Int32) (x4 : Int32) (x5 : Int32) (x6 : Int32) (F : Nat → Int32) (I : Nat → Nat → Int32) (J : Nat → Nat → Int64)
  (k : ((x5 = (-1) → P (F, I, J)) ∧ (¬ x5 = (-1) → ((300 ≤ x6 → P (F, I, J)) ∧ (¬ 300 ≤ x6 → AMi m_X0_across [.ref 3, .int (x5 / 2), .int x2] (F, I, J) (fun r35 M35 => vp_in (x5 / 2) 300 ∧ ((¬ (M35.2.1 3 (zn (x5 / 2))) = 1 → vp_in x5 600 ∧ AW m_X1_spreadFrom (z_pv P) 11 [some (.ref 17), some (.ref 3), some (.int x2), some (.int x3), some (.int x4), some (.int (M35.2.1 6 (zn x5))), some (.int (x6 + 1)), none, none] [] M35) ∧ ((M35.2.1 3 (zn (x5 / 2))) = 1 → (((x5 / 2) = x3 → vp_in x5 600 ∧ AW m_X1_spreadFrom (z_pv P) 11 [some (.ref 17), some (.ref 3), some (.int x2), some (.int x3), some (.int x4), some (.int (M35.2.1 6 (zn x5))), some (.int (x6 + 1)), none, none] [] M35) ∧ (¬ (x5 / 2) = x3 → vp_in (x5 / 2) 300 ∧ (((M35.2.1 4 (zn (x5 / 2))) < x4 → vp_in x5 600 ∧ AW m_X1_spreadFrom (z_pv P) 11 [some (.ref 17), some (.ref 3), some (.int x2), some (.int x3), some (.int x4), some (.int (M35.2.1 6 (zn x5))), some (.int (x6 + 1)), none, none] [] M35) ∧ (¬ (M35.2.1 4 (zn (x5 / 2))) < x4 → vp_in r35 100 ∧ ((¬ (M35.2.1 15 (zn r35)) = 0 → vp_in x5 600 ∧ AW m_X1_spreadFrom (z_pv P) 11 [some (.ref 17), some (.ref 3), some (.int x2), some (.int x3), some (.int x4), some (.int (M35.2.1 6 (zn x5))), some (.int (x6 + 1)), none, none] [] M35) ∧ ((M35.2.1 15 (zn r35)) = 0 → vp_in x2 100 ∧ AMv m_X1_reach [.ref 17, .int r35, .int (x5 / 2), .int ((M35.2.1 13 (zn x2)) + 1)] M35 (fun M92 => vp_in x5 600 ∧ AW m_X1_spreadFrom (z_pv P) 11 [some (.ref 17), some (.ref 3), some (.int x2), some (.int x3), some (.int x4), some (.int (M92.2.1 6 (zn x5))), some (.int (x6 + 1)), none, none] [] M92))))))))))))))) :
  AW m_X1_spreadFrom (z_pv P) 11 [some (.ref 17), some (.ref 3), some (.int x2), some (.int x3), some (.int x4), some (.int x5), some (.int x6), none, none] [] (F, I, J) := by
  refine z_iload dX1_spreadFrom_11 rfl ?_
  refine z_iconst (v := (-1)) dX1_spreadFrom_13 (by decide) ?_
  refine z_icmp_eq 110 dX1_spreadFrom_14 (by decide) ⟨fun h1 => ?_, fun h1 => ?_⟩
  · replace k := k.1 h1
    exact z_return (st := []) rfl dX1_spreadFrom_110 ⟨rfl, k⟩
  · replace k := k.2 h1
    refine z_iload dX1_spreadFrom_17 rfl ?_
    refine z_sipush (v := 300) dX1_spreadFrom_19 (by decide) ?_
    refine z_icmp_ge 110 dX1_spreadFrom_22 (by decide) ⟨fun h2 => ?_, fun h2 => ?_⟩
    · replace k := k.1 h2
      exact z_return (st := []) rfl dX1_spreadFrom_110 ⟨rfl, k⟩
    · replace k := k.2 h2
      refine z_iload dX1_spreadFrom_25 rfl ?_
      refine z_iconst (v := 2) dX1_spreadFrom_27 (by decide) ?_
      refine z_idiv dX1_spreadFrom_28 (by decide) ?_
      refine z_istore dX1_spreadFrom_29 (by decide) rfl ?_
      refine z_aload_n dX1_spreadFrom_31 rfl rfl ?_
      refine z_iload dX1_spreadFrom_32 rfl ?_
      refine z_iload_n dX1_spreadFrom_34 rfl rfl ?_
      refine z_calli (I := m_X1_spreadFrom) (I2 := m_X0_across) (st := []) [.int (x5 / 2), .int x2] dX1_spreadFrom_35 ml_X1_45 rfl (by decide) lo0_3 rfl (Nat.le_of_ble_eq_true rfl) rfl (AMi.mono k (fun r35 M35 k => ?_))
      refine z_istore dX1_spreadFrom_38 (by decide) rfl ?_
      refine z_aload_n dX1_spreadFrom_40 rfl rfl ?_
      refine z_getr dX1_spreadFrom_41 fl_X1_49 lo0_3 rfl ?_
      refine z_iload dX1_spreadFrom_44 rfl ?_
      refine z_iald dX1_spreadFrom_46 lo0_7 ⟨k.1, ?_⟩
      replace k := k.2
      refine z_iconst (v := 1) dX1_spreadFrom_47 (by decide) ?_
      refine z_icmp_ne 95 dX1_spreadFrom_48 (by decide) ⟨fun h3 => ?_, fun h3 => ?_⟩
      · replace k := k.1 h3
        refine z_aload_n dX1_spreadFrom_95 rfl rfl ?_
        refine z_getr dX1_spreadFrom_96 fl_X1_55 lo0_3 rfl ?_
        refine z_iload dX1_spreadFrom_99 rfl ?_
        refine z_iald dX1_spreadFrom_101 lo0_10 ⟨k.1, ?_⟩
        replace k := k.2
        refine z_istore dX1_spreadFrom_102 (by decide) rfl ?_
        refine z_iinc (v := (x6 + 1)) dX1_spreadFrom_104 rfl rfl (by decide) rfl ?_
        refine z_goto 11 dX1_spreadFrom_107 (by decide) ?_
        refine z_wk [some (.ref 17), some (.ref 3), some (.int x2), some (.int x3), some (.int x4), some (.int (M35.2.1 6 (zn x5))), some (.int (x6 + 1)), none, none] (z_le_some (z_le_some (z_le_some (z_le_some (z_le_some (z_le_some (z_le_some (z_le_none (z_le_none z_le_nil))))))))) ?_
        exact k
      · replace k := k.2 h3
        refine z_iload dX1_spreadFrom_51 rfl ?_
        refine z_iload_n dX1_spreadFrom_53 rfl rfl ?_
        refine z_icmp_eq 95 dX1_spreadFrom_54 (by decide) ⟨fun h4 => ?_, fun h4 => ?_⟩
        · replace k := k.1 h4
          refine z_aload_n dX1_spreadFrom_95 rfl rfl ?_
          refine z_getr dX1_spreadFrom_96 fl_X1_55 lo0_3 rfl ?_
          refine z_iload dX1_spreadFrom_99 rfl ?_
          refine z_iald dX1_spreadFrom_101 lo0_10 ⟨k.1, ?_⟩
          replace k := k.2
          refine z_istore dX1_spreadFrom_102 (by decide) rfl ?_
          refine z_iinc (v := (x6 + 1)) dX1_spreadFrom_104 rfl rfl (by decide) rfl ?_
          refine z_goto 11 dX1_spreadFrom_107 (by decide) ?_
          refine z_wk [some (.ref 17), some (.ref 3), some (.int x2), some (.int x3), some (.int x4), some (.int (M35.2.1 6 (zn x5))), some (.int (x6 + 1)), none, none] (z_le_some (z_le_some (z_le_some (z_le_some (z_le_some (z_le_some (z_le_some (z_le_none (z_le_none z_le_nil))))))))) ?_
          exact k
        · replace k := k.2 h4
          refine z_aload_n dX1_spreadFrom_57 rfl rfl ?_
          refine z_getr dX1_spreadFrom_58 fl_X1_52 lo0_3 rfl ?_
          refine z_iload dX1_spreadFrom_61 rfl ?_
          refine z_iald dX1_spreadFrom_63 lo0_8 ⟨k.1, ?_⟩
          replace k := k.2
          refine z_iload dX1_spreadFrom_64 rfl ?_
          refine z_icmp_lt 95 dX1_spreadFrom_66 (by decide) ⟨fun h5 => ?_, fun h5 => ?_⟩
          · replace k := k.1 h5
            refine z_aload_n dX1_spreadFrom_95 rfl rfl ?_
            refine z_getr dX1_spreadFrom_96 fl_X1_55 lo0_3 rfl ?_
            refine z_iload dX1_spreadFrom_99 rfl ?_
            refine z_iald dX1_spreadFrom_101 lo0_10 ⟨k.1, ?_⟩
            replace k := k.2
            refine z_istore dX1_spreadFrom_102 (by decide) rfl ?_
            refine z_iinc (v := (x6 + 1)) dX1_spreadFrom_104 rfl rfl (by decide) rfl ?_
            refine z_goto 11 dX1_spreadFrom_107 (by decide) ?_
            refine z_wk [some (.ref 17), some (.ref 3), some (.int x2), some (.int x3), some (.int x4), some (.int (M35.2.1 6 (zn x5))), some (.int (x6 + 1)), none, none] (z_le_some (z_le_some (z_le_some (z_le_some (z_le_some (z_le_some (z_le_some (z_le_none (z_le_none z_le_nil))))))))) ?_
            exact k
          · replace k := k.2 h5
            refine z_aload_n dX1_spreadFrom_69 rfl rfl ?_
            refine z_getr dX1_spreadFrom_70 fl_X1_21 lo0_17 rfl ?_
            refine z_iload dX1_spreadFrom_73 rfl ?_
            refine z_zald dX1_spreadFrom_75 lo0_21 ⟨k.1, ?_⟩
            replace k := k.2
            refine z_if_ne 95 dX1_spreadFrom_76 (by decide) ⟨fun h6 => ?_, fun h6 => ?_⟩
            · replace k := k.1 h6
              refine z_aload_n dX1_spreadFrom_95 rfl rfl ?_
              refine z_getr dX1_spreadFrom_96 fl_X1_55 lo0_3 rfl ?_
              refine z_iload dX1_spreadFrom_99 rfl ?_
              refine z_iald dX1_spreadFrom_101 lo0_10 ⟨k.1, ?_⟩
              replace k := k.2
              refine z_istore dX1_spreadFrom_102 (by decide) rfl ?_
              refine z_iinc (v := (x6 + 1)) dX1_spreadFrom_104 rfl rfl (by decide) rfl ?_
              refine z_goto 11 dX1_spreadFrom_107 (by decide) ?_
              refine z_wk [some (.ref 17), some (.ref 3), some (.int x2), some (.int x3), some (.int x4), some (.int (M35.2.1 6 (zn x5))), some (.int (x6 + 1)), none, none] (z_le_some (z_le_some (z_le_some (z_le_some (z_le_some (z_le_some (z_le_some (z_le_none (z_le_none z_le_nil))))))))) ?_
              exact k
            · replace k := k.2 h6
              refine z_aload_n dX1_spreadFrom_79 rfl rfl ?_
              refine z_iload dX1_spreadFrom_80 rfl ?_
              refine z_iload dX1_spreadFrom_82 rfl ?_
              refine z_aload_n dX1_spreadFrom_84 rfl rfl ?_
              refine z_getr dX1_spreadFrom_85 fl_X1_15 lo0_17 rfl ?_
              refine z_iload_n dX1_spreadFrom_88 rfl rfl ?_
              refine z_iald dX1_spreadFrom_89 lo0_19 ⟨k.1, ?_⟩
              replace k := k.2
              refine z_iconst (v := 1) dX1_spreadFrom_90 (by decide) ?_
              refine z_iadd dX1_spreadFrom_91 ?_
              refine z_callv (I := m_X1_spreadFrom) (I2 := m_X1_reach) (st := []) [.int r35, .int (x5 / 2), .int ((M35.2.1 13 (zn x2)) + 1)] dX1_spreadFrom_92 ml_X1_28 rfl (by decide) lo0_17 rfl (Nat.le_of_ble_eq_true rfl) rfl (AMv.mono k (fun M92 k => ?_))
              refine z_aload_n dX1_spreadFrom_95 rfl rfl ?_
              refine z_getr dX1_spreadFrom_96 fl_X1_55 lo0_3 rfl ?_
              refine z_iload dX1_spreadFrom_99 rfl ?_
              refine z_iald dX1_spreadFrom_101 lo0_10 ⟨k.1, ?_⟩
              replace k := k.2
              refine z_istore dX1_spreadFrom_102 (by decide) rfl ?_
              refine z_iinc (v := (x6 + 1)) dX1_spreadFrom_104 rfl rfl (by decide) rfl ?_
              refine z_goto 11 dX1_spreadFrom_107 (by decide) ?_
              refine z_wk [some (.ref 17), some (.ref 3), some (.int x2), some (.int x3), some (.int x4), some (.int (M92.2.1 6 (zn x5))), some (.int (x6 + 1)), none, none] (z_le_some (z_le_some (z_le_some (z_le_some (z_le_some (z_le_some (z_le_some (z_le_none (z_le_none z_le_nil))))))))) ?_
              exact k

set_option maxRecDepth 100000 in
set_option maxHeartbeats 4000000 in
theorem r_X1_before_a_0 {P : Int32 → zM → Prop} (x2 : Int32) (F : Nat → Int32) (I : Nat → Nat → Int32) (J : Nat → Nat → Int64)
  (k : vp_in x2 100 ∧ ((¬ (I 10 (zn x2)) = (-1) → vp_in x2 100 ∧ AMi m_X0_across [.ref 3, .int (I 10 (zn x2)), .int x2] (F, I, J) (fun r22 M22 => P r22 M22)) ∧ ((I 10 (zn x2)) = (-1) → P (-1) (F, I, J)))) :
  AMi m_X1_before [.ref 12, .ref 3, .int x2] (F, I, J) P := by
  refine z_entry (pad := 0) [some (.ref 12), some (.ref 3), some (.int x2)] (by decide) rfl rfl (fun _ => Nat.le_of_ble_eq_true rfl) ?_
  refine z_aload_n dX1_before_0 rfl rfl ?_
  refine z_getr dX1_before_1 fl_X1_18 lo0_12 rfl ?_
  refine z_iload_n dX1_before_4 rfl rfl ?_
  refine z_iald dX1_before_5 lo0_15 ⟨k.1, ?_⟩
  replace k := k.2
  refine z_iconst (v := (-1)) dX1_before_6 (by decide) ?_
  refine z_icmp_ne 14 dX1_before_7 (by decide) ⟨fun h1 => ?_, fun h1 => ?_⟩
  · replace k := k.1 h1
    refine z_aload_n dX1_before_14 rfl rfl ?_
    refine z_aload_n dX1_before_15 rfl rfl ?_
    refine z_getr dX1_before_16 fl_X1_18 lo0_12 rfl ?_
    refine z_iload_n dX1_before_19 rfl rfl ?_
    refine z_iald dX1_before_20 lo0_15 ⟨k.1, ?_⟩
    replace k := k.2
    refine z_iload_n dX1_before_21 rfl rfl ?_
    refine z_calli (I := m_X1_before) (I2 := m_X0_across) (st := []) [.int (I 10 (zn x2)), .int x2] dX1_before_22 ml_X1_45 rfl (by decide) lo0_3 rfl (Nat.le_of_ble_eq_true rfl) rfl (AMi.mono k (fun r22 M22 k => ?_))
    exact z_ireturn (st := []) rfl dX1_before_25 ⟨_, rfl, k⟩
  · replace k := k.2 h1
    refine z_iconst (v := (-1)) dX1_before_10 (by decide) ?_
    refine z_goto 25 dX1_before_11 (by decide) ?_
    exact z_ireturn (st := []) rfl dX1_before_25 ⟨_, rfl, k⟩

set_option maxRecDepth 100000 in
set_option maxHeartbeats 4000000 in
theorem r_X1_before_b_0 {P : Int32 → zM → Prop} (x2 : Int32) (F : Nat → Int32) (I : Nat → Nat → Int32) (J : Nat → Nat → Int64)
  (k : vp_in x2 100 ∧ ((¬ (I 14 (zn x2)) = (-1) → vp_in x2 100 ∧ AMi m_X0_across [.ref 3, .int (I 14 (zn x2)), .int x2] (F, I, J) (fun r22 M22 => P r22 M22)) ∧ ((I 14 (zn x2)) = (-1) → P (-1) (F, I, J)))) :
  AMi m_X1_before [.ref 17, .ref 3, .int x2] (F, I, J) P := by
  refine z_entry (pad := 0) [some (.ref 17), some (.ref 3), some (.int x2)] (by decide) rfl rfl (fun _ => Nat.le_of_ble_eq_true rfl) ?_
  refine z_aload_n dX1_before_0 rfl rfl ?_
  refine z_getr dX1_before_1 fl_X1_18 lo0_17 rfl ?_
  refine z_iload_n dX1_before_4 rfl rfl ?_
  refine z_iald dX1_before_5 lo0_20 ⟨k.1, ?_⟩
  replace k := k.2
  refine z_iconst (v := (-1)) dX1_before_6 (by decide) ?_
  refine z_icmp_ne 14 dX1_before_7 (by decide) ⟨fun h1 => ?_, fun h1 => ?_⟩
  · replace k := k.1 h1
    refine z_aload_n dX1_before_14 rfl rfl ?_
    refine z_aload_n dX1_before_15 rfl rfl ?_
    refine z_getr dX1_before_16 fl_X1_18 lo0_17 rfl ?_
    refine z_iload_n dX1_before_19 rfl rfl ?_
    refine z_iald dX1_before_20 lo0_20 ⟨k.1, ?_⟩
    replace k := k.2
    refine z_iload_n dX1_before_21 rfl rfl ?_
    refine z_calli (I := m_X1_before) (I2 := m_X0_across) (st := []) [.int (I 14 (zn x2)), .int x2] dX1_before_22 ml_X1_45 rfl (by decide) lo0_3 rfl (Nat.le_of_ble_eq_true rfl) rfl (AMi.mono k (fun r22 M22 k => ?_))
    exact z_ireturn (st := []) rfl dX1_before_25 ⟨_, rfl, k⟩
  · replace k := k.2 h1
    refine z_iconst (v := (-1)) dX1_before_10 (by decide) ?_
    refine z_goto 25 dX1_before_11 (by decide) ?_
    exact z_ireturn (st := []) rfl dX1_before_25 ⟨_, rfl, k⟩

set_option maxRecDepth 100000 in
set_option maxHeartbeats 4000000 in
theorem r_X1_endsOf_a_0 {P : Int32 → zM → Prop} (x2 : Int32) (F : Nat → Int32) (I : Nat → Nat → Int32) (J : Nat → Nat → Int64)
  (k : vp_in x2 300 ∧ vp_in (I 1 (zn x2)) 100 ∧ (((I 11 (zn (I 1 (zn x2)))) = 0 → vp_in x2 300 ∧ vp_in (I 2 (zn x2)) 100 ∧ (((I 11 (zn (I 2 (zn x2)))) = 0 → P (0 + 0) (F, I, J)) ∧ (¬ (I 11 (zn (I 2 (zn x2)))) = 0 → P (0 + 1) (F, I, J)))) ∧ (¬ (I 11 (zn (I 1 (zn x2)))) = 0 → vp_in x2 300 ∧ vp_in (I 2 (zn x2)) 100 ∧ (((I 11 (zn (I 2 (zn x2)))) = 0 → P (1 + 0) (F, I, J)) ∧ (¬ (I 11 (zn (I 2 (zn x2)))) = 0 → P (1 + 1) (F, I, J)))))) :
  AMi m_X1_endsOf [.ref 12, .ref 3, .int x2] (F, I, J) P := by
  refine z_entry (pad := 0) [some (.ref 12), some (.ref 3), some (.int x2)] (by decide) rfl rfl (fun _ => Nat.le_of_ble_eq_true rfl) ?_
  refine z_aload_n dX1_endsOf_0 rfl rfl ?_
  refine z_getr dX1_endsOf_1 fl_X1_21 lo0_12 rfl ?_
  refine z_aload_n dX1_endsOf_4 rfl rfl ?_
  refine z_getr dX1_endsOf_5 fl_X1_58 lo0_3 rfl ?_
  refine z_iload_n dX1_endsOf_8 rfl rfl ?_
  refine z_iald dX1_endsOf_9 lo0_4 ⟨k.1, ?_⟩
  replace k := k.2
  refine z_zald dX1_endsOf_10 lo0_16 ⟨k.1, ?_⟩
  replace k := k.2
  refine z_if_eq 18 dX1_endsOf_11 (by decide) ⟨fun h1 => ?_, fun h1 => ?_⟩
  · replace k := k.1 h1
    refine z_iconst (v := 0) dX1_endsOf_18 (by decide) ?_
    refine z_aload_n dX1_endsOf_19 rfl rfl ?_
    refine z_getr dX1_endsOf_20 fl_X1_21 lo0_12 rfl ?_
    refine z_aload_n dX1_endsOf_23 rfl rfl ?_
    refine z_getr dX1_endsOf_24 fl_X1_61 lo0_3 rfl ?_
    refine z_iload_n dX1_endsOf_27 rfl rfl ?_
    refine z_iald dX1_endsOf_28 lo0_5 ⟨k.1, ?_⟩
    replace k := k.2
    refine z_zald dX1_endsOf_29 lo0_16 ⟨k.1, ?_⟩
    replace k := k.2
    refine z_if_eq 37 dX1_endsOf_30 (by decide) ⟨fun h2 => ?_, fun h2 => ?_⟩
    · replace k := k.1 h2
      refine z_iconst (v := 0) dX1_endsOf_37 (by decide) ?_
      refine z_iadd dX1_endsOf_38 ?_
      exact z_ireturn (st := []) rfl dX1_endsOf_39 ⟨_, rfl, k⟩
    · replace k := k.2 h2
      refine z_iconst (v := 1) dX1_endsOf_33 (by decide) ?_
      refine z_goto 38 dX1_endsOf_34 (by decide) ?_
      refine z_iadd dX1_endsOf_38 ?_
      exact z_ireturn (st := []) rfl dX1_endsOf_39 ⟨_, rfl, k⟩
  · replace k := k.2 h1
    refine z_iconst (v := 1) dX1_endsOf_14 (by decide) ?_
    refine z_goto 19 dX1_endsOf_15 (by decide) ?_
    refine z_aload_n dX1_endsOf_19 rfl rfl ?_
    refine z_getr dX1_endsOf_20 fl_X1_21 lo0_12 rfl ?_
    refine z_aload_n dX1_endsOf_23 rfl rfl ?_
    refine z_getr dX1_endsOf_24 fl_X1_61 lo0_3 rfl ?_
    refine z_iload_n dX1_endsOf_27 rfl rfl ?_
    refine z_iald dX1_endsOf_28 lo0_5 ⟨k.1, ?_⟩
    replace k := k.2
    refine z_zald dX1_endsOf_29 lo0_16 ⟨k.1, ?_⟩
    replace k := k.2
    refine z_if_eq 37 dX1_endsOf_30 (by decide) ⟨fun h3 => ?_, fun h3 => ?_⟩
    · replace k := k.1 h3
      refine z_iconst (v := 0) dX1_endsOf_37 (by decide) ?_
      refine z_iadd dX1_endsOf_38 ?_
      exact z_ireturn (st := []) rfl dX1_endsOf_39 ⟨_, rfl, k⟩
    · replace k := k.2 h3
      refine z_iconst (v := 1) dX1_endsOf_33 (by decide) ?_
      refine z_goto 38 dX1_endsOf_34 (by decide) ?_
      refine z_iadd dX1_endsOf_38 ?_
      exact z_ireturn (st := []) rfl dX1_endsOf_39 ⟨_, rfl, k⟩

set_option maxRecDepth 100000 in
set_option maxHeartbeats 4000000 in
theorem r_X1_endsOf_b_0 {P : Int32 → zM → Prop} (x2 : Int32) (F : Nat → Int32) (I : Nat → Nat → Int32) (J : Nat → Nat → Int64)
  (k : vp_in x2 300 ∧ vp_in (I 1 (zn x2)) 100 ∧ (((I 15 (zn (I 1 (zn x2)))) = 0 → vp_in x2 300 ∧ vp_in (I 2 (zn x2)) 100 ∧ (((I 15 (zn (I 2 (zn x2)))) = 0 → P (0 + 0) (F, I, J)) ∧ (¬ (I 15 (zn (I 2 (zn x2)))) = 0 → P (0 + 1) (F, I, J)))) ∧ (¬ (I 15 (zn (I 1 (zn x2)))) = 0 → vp_in x2 300 ∧ vp_in (I 2 (zn x2)) 100 ∧ (((I 15 (zn (I 2 (zn x2)))) = 0 → P (1 + 0) (F, I, J)) ∧ (¬ (I 15 (zn (I 2 (zn x2)))) = 0 → P (1 + 1) (F, I, J)))))) :
  AMi m_X1_endsOf [.ref 17, .ref 3, .int x2] (F, I, J) P := by
  refine z_entry (pad := 0) [some (.ref 17), some (.ref 3), some (.int x2)] (by decide) rfl rfl (fun _ => Nat.le_of_ble_eq_true rfl) ?_
  refine z_aload_n dX1_endsOf_0 rfl rfl ?_
  refine z_getr dX1_endsOf_1 fl_X1_21 lo0_17 rfl ?_
  refine z_aload_n dX1_endsOf_4 rfl rfl ?_
  refine z_getr dX1_endsOf_5 fl_X1_58 lo0_3 rfl ?_
  refine z_iload_n dX1_endsOf_8 rfl rfl ?_
  refine z_iald dX1_endsOf_9 lo0_4 ⟨k.1, ?_⟩
  replace k := k.2
  refine z_zald dX1_endsOf_10 lo0_21 ⟨k.1, ?_⟩
  replace k := k.2
  refine z_if_eq 18 dX1_endsOf_11 (by decide) ⟨fun h1 => ?_, fun h1 => ?_⟩
  · replace k := k.1 h1
    refine z_iconst (v := 0) dX1_endsOf_18 (by decide) ?_
    refine z_aload_n dX1_endsOf_19 rfl rfl ?_
    refine z_getr dX1_endsOf_20 fl_X1_21 lo0_17 rfl ?_
    refine z_aload_n dX1_endsOf_23 rfl rfl ?_
    refine z_getr dX1_endsOf_24 fl_X1_61 lo0_3 rfl ?_
    refine z_iload_n dX1_endsOf_27 rfl rfl ?_
    refine z_iald dX1_endsOf_28 lo0_5 ⟨k.1, ?_⟩
    replace k := k.2
    refine z_zald dX1_endsOf_29 lo0_21 ⟨k.1, ?_⟩
    replace k := k.2
    refine z_if_eq 37 dX1_endsOf_30 (by decide) ⟨fun h2 => ?_, fun h2 => ?_⟩
    · replace k := k.1 h2
      refine z_iconst (v := 0) dX1_endsOf_37 (by decide) ?_
      refine z_iadd dX1_endsOf_38 ?_
      exact z_ireturn (st := []) rfl dX1_endsOf_39 ⟨_, rfl, k⟩
    · replace k := k.2 h2
      refine z_iconst (v := 1) dX1_endsOf_33 (by decide) ?_
      refine z_goto 38 dX1_endsOf_34 (by decide) ?_
      refine z_iadd dX1_endsOf_38 ?_
      exact z_ireturn (st := []) rfl dX1_endsOf_39 ⟨_, rfl, k⟩
  · replace k := k.2 h1
    refine z_iconst (v := 1) dX1_endsOf_14 (by decide) ?_
    refine z_goto 19 dX1_endsOf_15 (by decide) ?_
    refine z_aload_n dX1_endsOf_19 rfl rfl ?_
    refine z_getr dX1_endsOf_20 fl_X1_21 lo0_17 rfl ?_
    refine z_aload_n dX1_endsOf_23 rfl rfl ?_
    refine z_getr dX1_endsOf_24 fl_X1_61 lo0_3 rfl ?_
    refine z_iload_n dX1_endsOf_27 rfl rfl ?_
    refine z_iald dX1_endsOf_28 lo0_5 ⟨k.1, ?_⟩
    replace k := k.2
    refine z_zald dX1_endsOf_29 lo0_21 ⟨k.1, ?_⟩
    replace k := k.2
    refine z_if_eq 37 dX1_endsOf_30 (by decide) ⟨fun h3 => ?_, fun h3 => ?_⟩
    · replace k := k.1 h3
      refine z_iconst (v := 0) dX1_endsOf_37 (by decide) ?_
      refine z_iadd dX1_endsOf_38 ?_
      exact z_ireturn (st := []) rfl dX1_endsOf_39 ⟨_, rfl, k⟩
    · replace k := k.2 h3
      refine z_iconst (v := 1) dX1_endsOf_33 (by decide) ?_
      refine z_goto 38 dX1_endsOf_34 (by decide) ?_
      refine z_iadd dX1_endsOf_38 ?_
      exact z_ireturn (st := []) rfl dX1_endsOf_39 ⟨_, rfl, k⟩

set_option maxRecDepth 100000 in
set_option maxHeartbeats 4000000 in
theorem r_X2_find_0 {P : zM → Prop} (x2 : Int32) (F : Nat → Int32) (I : Nat → Nat → Int32) (J : Nat → Nat → Int64)
  (k : AMv m_J7_fill_53178 [.ref 26, .int 0] (F, I, J) (fun M5 => AW m_X2_find (z_pv P) 25 [some (.ref 25), some (.ref 3), some (.int x2), some (.int 0)] [] (upd (upd (upd M5.1 9 0) 11 0) 12 0, M5.2.1, M5.2.2))) :
  AMv m_X2_find [.ref 25, .ref 3, .int x2] (F, I, J) P := by
  refine z_entry (pad := 1) [some (.ref 25), some (.ref 3), some (.int x2), none] (by decide) rfl rfl (fun _ => Nat.le_of_ble_eq_true rfl) ?_
  refine z_aload_n dX2_find_0 rfl rfl ?_
  refine z_getr dX2_find_1 fl_X2_9 lo0_25 rfl ?_
  refine z_iconst (v := 0) dX2_find_4 (by decide) ?_
  refine z_callSv (I := m_X2_find) (I2 := m_J7_fill_53178) (st := []) [.ref 26, .int 0] dX2_find_5 ms_X2_28 rfl (by decide) rfl (Nat.le_of_ble_eq_true rfl) rfl (AMv.mono k (fun M5 k => ?_))
  refine z_aload_n dX2_find_8 rfl rfl ?_
  refine z_iconst (v := 0) dX2_find_9 (by decide) ?_
  refine z_puti dX2_find_10 fw_X2_34 lo0_25 rfl ?_
  refine z_aload_n dX2_find_13 rfl rfl ?_
  refine z_iconst (v := 0) dX2_find_14 (by decide) ?_
  refine z_puti dX2_find_15 fw_X2_38 lo0_25 rfl ?_
  refine z_aload_n dX2_find_18 rfl rfl ?_
  refine z_iconst (v := 0) dX2_find_19 (by decide) ?_
  refine z_puti dX2_find_20 fw_X2_41 lo0_25 rfl ?_
  refine z_iconst (v := 0) dX2_find_23 (by decide) ?_
  refine z_istore_n dX2_find_24 rfl (by decide) rfl ?_
  exact k

set_option maxRecDepth 100000 in
set_option maxHeartbeats 4000000 in
theorem r_X2_find_25 {P : zM → Prop} (x2 : Int32) (x3 : Int32) (F : Nat → Int32) (I : Nat → Nat → Int32) (J : Nat → Nat → Int64)
  (k : ((x2 ≤ x3 → P (F, I, J)) ∧ (¬ x2 ≤ x3 → vp_in x3 100 ∧ ((¬ (I 18 (zn x3)) = 0 → AW m_X2_find (z_pv P) 25 [some (.ref 25), some (.ref 3), some (.int x2), some (.int (x3 + 1))] [] (F, I, J)) ∧ ((I 18 (zn x3)) = 0 → AMv m_X2_walkFrom [.ref 25, .ref 3, .int x3] (F, I, J) (fun M42 => AW m_X2_find (z_pv P) 25 [some (.ref 25), some (.ref 3), some (.int x2), some (.int (x3 + 1))] [] M42)))))) :
  AW m_X2_find (z_pv P) 25 [some (.ref 25), some (.ref 3), some (.int x2), some (.int x3)] [] (F, I, J) := by
  refine z_iload_n dX2_find_25 rfl rfl ?_
  refine z_iload_n dX2_find_26 rfl rfl ?_
  refine z_icmp_ge 51 dX2_find_27 (by decide) ⟨fun h1 => ?_, fun h1 => ?_⟩
  · replace k := k.1 h1
    exact z_return (st := []) rfl dX2_find_51 ⟨rfl, k⟩
  · replace k := k.2 h1
    refine z_aload_n dX2_find_30 rfl rfl ?_
    refine z_getr dX2_find_31 fl_X2_9 lo0_25 rfl ?_
    refine z_iload_n dX2_find_34 rfl rfl ?_
    refine z_iald dX2_find_35 lo0_26 ⟨k.1, ?_⟩
    replace k := k.2
    refine z_if_ne 45 dX2_find_36 (by decide) ⟨fun h2 => ?_, fun h2 => ?_⟩
    · replace k := k.1 h2
      refine z_iinc (v := (x3 + 1)) dX2_find_45 rfl rfl (by decide) rfl ?_
      refine z_goto 25 dX2_find_48 (by decide) ?_
      exact k
    · replace k := k.2 h2
      refine z_aload_n dX2_find_39 rfl rfl ?_
      refine z_aload_n dX2_find_40 rfl rfl ?_
      refine z_iload_n dX2_find_41 rfl rfl ?_
      refine z_callv (I := m_X2_find) (I2 := m_X2_walkFrom) (st := []) [.ref 3, .int x3] dX2_find_42 ml_X2_44 rfl (by decide) lo0_25 rfl (Nat.le_of_ble_eq_true rfl) rfl (AMv.mono k (fun M42 k => ?_))
      refine z_iinc (v := (x3 + 1)) dX2_find_45 rfl rfl (by decide) rfl ?_
      refine z_goto 25 dX2_find_48 (by decide) ?_
      exact k

set_option maxRecDepth 100000 in
set_option maxHeartbeats 4000000 in
theorem r_X2_isBridge_0 {P : Int32 → zM → Prop} (x2 : Int32) (F : Nat → Int32) (I : Nat → Nat → Int32) (J : Nat → Nat → Int64)
  (k : vp_in x2 300 ∧ AMi m_X2_isBridgeTo [.ref 25, .int (I 1 (zn x2)), .int x2] (F, I, J) (fun r8 M8 => ((¬ r8 = 0 → P 1 M8) ∧ (r8 = 0 → vp_in x2 300 ∧ AMi m_X2_isBridgeTo [.ref 25, .int (M8.2.1 2 (zn x2)), .int x2] M8 (fun r22 M22 => ((r22 = 0 → P 0 M22) ∧ (¬ r22 = 0 → P 1 M22))))))) :
  AMi m_X2_isBridge [.ref 25, .ref 3, .int x2] (F, I, J) P := by
  refine z_entry (pad := 0) [some (.ref 25), some (.ref 3), some (.int x2)] (by decide) rfl rfl (fun _ => Nat.le_of_ble_eq_true rfl) ?_
  refine z_aload_n dX2_isBridge_0 rfl rfl ?_
  refine z_aload_n dX2_isBridge_1 rfl rfl ?_
  refine z_getr dX2_isBridge_2 fl_X2_48 lo0_3 rfl ?_
  refine z_iload_n dX2_isBridge_5 rfl rfl ?_
  refine z_iald dX2_isBridge_6 lo0_4 ⟨k.1, ?_⟩
  replace k := k.2
  refine z_iload_n dX2_isBridge_7 rfl rfl ?_
  refine z_calli (I := m_X2_isBridge) (I2 := m_X2_isBridgeTo) (st := []) [.int (I 1 (zn x2)), .int x2] dX2_isBridge_8 ml_X2_53 rfl (by decide) lo0_25 rfl (Nat.le_of_ble_eq_true rfl) rfl (AMi.mono k (fun r8 M8 k => ?_))
  refine z_if_ne 28 dX2_isBridge_11 (by decide) ⟨fun h1 => ?_, fun h1 => ?_⟩
  · replace k := k.1 h1
    refine z_iconst (v := 1) dX2_isBridge_28 (by decide) ?_
    refine z_goto 33 dX2_isBridge_29 (by decide) ?_
    exact z_zreturn (st := []) rfl rfl dX2_isBridge_33 ⟨_, rfl, k⟩
  · replace k := k.2 h1
    refine z_aload_n dX2_isBridge_14 rfl rfl ?_
    refine z_aload_n dX2_isBridge_15 rfl rfl ?_
    refine z_getr dX2_isBridge_16 fl_X2_57 lo0_3 rfl ?_
    refine z_iload_n dX2_isBridge_19 rfl rfl ?_
    refine z_iald dX2_isBridge_20 lo0_5 ⟨k.1, ?_⟩
    replace k := k.2
    refine z_iload_n dX2_isBridge_21 rfl rfl ?_
    refine z_calli (I := m_X2_isBridge) (I2 := m_X2_isBridgeTo) (st := []) [.int (M8.2.1 2 (zn x2)), .int x2] dX2_isBridge_22 ml_X2_53 rfl (by decide) lo0_25 rfl (Nat.le_of_ble_eq_true rfl) rfl (AMi.mono k (fun r22 M22 k => ?_))
    refine z_if_eq 32 dX2_isBridge_25 (by decide) ⟨fun h2 => ?_, fun h2 => ?_⟩
    · replace k := k.1 h2
      refine z_iconst (v := 0) dX2_isBridge_32 (by decide) ?_
      exact z_zreturn (st := []) rfl rfl dX2_isBridge_33 ⟨_, rfl, k⟩
    · replace k := k.2 h2
      refine z_iconst (v := 1) dX2_isBridge_28 (by decide) ?_
      refine z_goto 33 dX2_isBridge_29 (by decide) ?_
      exact z_zreturn (st := []) rfl rfl dX2_isBridge_33 ⟨_, rfl, k⟩

set_option maxRecDepth 100000 in
set_option maxHeartbeats 4000000 in
theorem r_X2_isBridgeTo_0 {P : Int32 → zM → Prop} (x1 : Int32) (x2 : Int32) (F : Nat → Int32) (I : Nat → Nat → Int32) (J : Nat → Nat → Int64)
  (k : vp_in x1 100 ∧ ((¬ (I 20 (zn x1)) = x2 → P 0 (F, I, J)) ∧ ((I 20 (zn x1)) = x2 → vp_in x1 100 ∧ vp_in x1 100 ∧ ((¬ (I 19 (zn x1)) = (I 18 (zn x1)) → P 0 (F, I, J)) ∧ ((I 19 (zn x1)) = (I 18 (zn x1)) → P 1 (F, I, J)))))) :
  AMi m_X2_isBridgeTo [.ref 25, .int x1, .int x2] (F, I, J) P := by
  refine z_entry (pad := 0) [some (.ref 25), some (.int x1), some (.int x2)] (by decide) rfl rfl (fun _ => Nat.le_of_ble_eq_true rfl) ?_
  refine z_aload_n dX2_isBridgeTo_0 rfl rfl ?_
  refine z_getr dX2_isBridgeTo_1 fl_X2_18 lo0_25 rfl ?_
  refine z_iload_n dX2_isBridgeTo_4 rfl rfl ?_
  refine z_iald dX2_isBridgeTo_5 lo0_28 ⟨k.1, ?_⟩
  replace k := k.2
  refine z_iload_n dX2_isBridgeTo_6 rfl rfl ?_
  refine z_icmp_ne 29 dX2_isBridgeTo_7 (by decide) ⟨fun h1 => ?_, fun h1 => ?_⟩
  · replace k := k.1 h1
    refine z_iconst (v := 0) dX2_isBridgeTo_29 (by decide) ?_
    exact z_zreturn (st := []) rfl rfl dX2_isBridgeTo_30 ⟨_, rfl, k⟩
  · replace k := k.2 h1
    refine z_aload_n dX2_isBridgeTo_10 rfl rfl ?_
    refine z_getr dX2_isBridgeTo_11 fl_X2_15 lo0_25 rfl ?_
    refine z_iload_n dX2_isBridgeTo_14 rfl rfl ?_
    refine z_iald dX2_isBridgeTo_15 lo0_27 ⟨k.1, ?_⟩
    replace k := k.2
    refine z_aload_n dX2_isBridgeTo_16 rfl rfl ?_
    refine z_getr dX2_isBridgeTo_17 fl_X2_9 lo0_25 rfl ?_
    refine z_iload_n dX2_isBridgeTo_20 rfl rfl ?_
    refine z_iald dX2_isBridgeTo_21 lo0_26 ⟨k.1, ?_⟩
    replace k := k.2
    refine z_icmp_ne 29 dX2_isBridgeTo_22 (by decide) ⟨fun h2 => ?_, fun h2 => ?_⟩
    · replace k := k.1 h2
      refine z_iconst (v := 0) dX2_isBridgeTo_29 (by decide) ?_
      exact z_zreturn (st := []) rfl rfl dX2_isBridgeTo_30 ⟨_, rfl, k⟩
    · replace k := k.2 h2
      refine z_iconst (v := 1) dX2_isBridgeTo_25 (by decide) ?_
      refine z_goto 30 dX2_isBridgeTo_26 (by decide) ?_
      exact z_zreturn (st := []) rfl rfl dX2_isBridgeTo_30 ⟨_, rfl, k⟩

set_option maxRecDepth 100000 in
set_option maxHeartbeats 4000000 in
theorem r_X2_walkFrom_0 {P : zM → Prop} (x2 : Int32) (F : Nat → Int32) (I : Nat → Nat → Int32) (J : Nat → Nat → Int64)
  (k : AMv m_X2_enter [.ref 25, .ref 3, .int x2, .int (-1)] (upd F 10 0, I, J) (fun M9 => AW m_X2_walkFrom (z_pv P) 17 [some (.ref 25), some (.ref 3), some (.int x2), some (.int x2), some (.int 0), none] [] M9)) :
  AMv m_X2_walkFrom [.ref 25, .ref 3, .int x2] (F, I, J) P := by
  refine z_entry (pad := 3) [some (.ref 25), some (.ref 3), some (.int x2), none, none, none] (by decide) rfl rfl (fun _ => Nat.le_of_ble_eq_true rfl) ?_
  refine z_aload_n dX2_walkFrom_0 rfl rfl ?_
  refine z_iconst (v := 0) dX2_walkFrom_1 (by decide) ?_
  refine z_puti dX2_walkFrom_2 fw_X2_60 lo0_25 rfl ?_
  refine z_aload_n dX2_walkFrom_5 rfl rfl ?_
  refine z_aload_n dX2_walkFrom_6 rfl rfl ?_
  refine z_iload_n dX2_walkFrom_7 rfl rfl ?_
  refine z_iconst (v := (-1)) dX2_walkFrom_8 (by decide) ?_
  refine z_callv (I := m_X2_walkFrom) (I2 := m_X2_enter) (st := []) [.ref 3, .int x2, .int (-1)] dX2_walkFrom_9 ml_X2_63 rfl (by decide) lo0_25 rfl (Nat.le_of_ble_eq_true rfl) rfl (AMv.mono k (fun M9 k => ?_))
  refine z_iload_n dX2_walkFrom_12 rfl rfl ?_
  refine z_istore_n dX2_walkFrom_13 rfl (by decide) rfl ?_
  refine z_iconst (v := 0) dX2_walkFrom_14 (by decide) ?_
  refine z_istore dX2_walkFrom_15 (by decide) rfl ?_
  exact k

set_option maxRecDepth 100000 in
set_option maxHeartbeats 4000000 in
theorem r_X2_walkFrom_17 {P : zM → Prop} (x2 : Int32) (x3 : Int32) (x4 : Int32) (F : Nat → Int32) (I : Nat → Nat → Int32) (J : Nat → Nat → Int64)
  (k : ((x3 = (-1) → (((F 10) ≤ 1 → P (F, I, J)) ∧ (¬ (F 10) ≤ 1 → AMv m_X2_markCutKnot [.ref 25, .int x2] (F, I, J) (fun M94 => P M94)))) ∧ (¬ x3 = (-1) → ((800 ≤ x4 → (((F 10) ≤ 1 → P (F, I, J)) ∧ (¬ (F 10) ≤ 1 → AMv m_X2_markCutKnot [.ref 25, .int x2] (F, I, J) (fun M94 => P M94)))) ∧ (¬ 800 ≤ x4 → vp_in x3 100 ∧ ((¬ (I 21 (zn x3)) = (-1) → vp_in (I 21 (zn x3)) 600 ∧ vp_in x3 100 ∧ AMi m_X2_follow [.ref 25, .ref 3, .int x3, .int ((I 21 (zn x3)) / 2)] (F, z_ui I 21 (zn x3) (I 6 (zn (I 21 (zn x3)))), J) (fun r74 M74 => AW m_X2_walkFrom (z_pv P) 17 [some (.ref 25), some (.ref 3), some (.int x2), some (.int r74), some (.int (x4 + 1)), none] [] M74)) ∧ ((I 21 (zn x3)) = (-1) → AMi m_X2_leave [.ref 25, .ref 3, .int x3] (F, I, J) (fun r47 M47 => AW m_X2_walkFrom (z_pv P) 17 [some (.ref 25), some (.ref 3), some (.int x2), some (.int r47), some (.int (x4 + 1)), none] [] M47)))))))) :
  AW m_X2_walkFrom (z_pv P) 17 [some (.ref 25), some (.ref 3), some (.int x2), some (.int x3), some (.int x4), none] [] (F, I, J) := by
  refine z_iload_n dX2_walkFrom_17 rfl rfl ?_
  refine z_iconst (v := (-1)) dX2_walkFrom_18 (by decide) ?_
  refine z_icmp_eq 84 dX2_walkFrom_19 (by decide) ⟨fun h1 => ?_, fun h1 => ?_⟩
  · replace k := k.1 h1
    refine z_aload_n dX2_walkFrom_84 rfl rfl ?_
    refine z_geti dX2_walkFrom_85 fl_X2_60 lo0_25 rfl ?_
    refine z_iconst (v := 1) dX2_walkFrom_88 (by decide) ?_
    refine z_icmp_le 97 dX2_walkFrom_89 (by decide) ⟨fun h2 => ?_, fun h2 => ?_⟩
    · replace k := k.1 h2
      exact z_return (st := []) rfl dX2_walkFrom_97 ⟨rfl, k⟩
    · replace k := k.2 h2
      refine z_aload_n dX2_walkFrom_92 rfl rfl ?_
      refine z_iload_n dX2_walkFrom_93 rfl rfl ?_
      refine z_callv (I := m_X2_walkFrom) (I2 := m_X2_markCutKnot) (st := []) [.int x2] dX2_walkFrom_94 ml_X2_76 rfl (by decide) lo0_25 rfl (Nat.le_of_ble_eq_true rfl) rfl (AMv.mono k (fun M94 k => ?_))
      exact z_return (st := []) rfl dX2_walkFrom_97 ⟨rfl, k⟩
  · replace k := k.2 h1
    refine z_iload dX2_walkFrom_22 rfl ?_
    refine z_sipush (v := 800) dX2_walkFrom_24 (by decide) ?_
    refine z_icmp_ge 84 dX2_walkFrom_27 (by decide) ⟨fun h3 => ?_, fun h3 => ?_⟩
    · replace k := k.1 h3
      refine z_aload_n dX2_walkFrom_84 rfl rfl ?_
      refine z_geti dX2_walkFrom_85 fl_X2_60 lo0_25 rfl ?_
      refine z_iconst (v := 1) dX2_walkFrom_88 (by decide) ?_
      refine z_icmp_le 97 dX2_walkFrom_89 (by decide) ⟨fun h4 => ?_, fun h4 => ?_⟩
      · replace k := k.1 h4
        exact z_return (st := []) rfl dX2_walkFrom_97 ⟨rfl, k⟩
      · replace k := k.2 h4
        refine z_aload_n dX2_walkFrom_92 rfl rfl ?_
        refine z_iload_n dX2_walkFrom_93 rfl rfl ?_
        refine z_callv (I := m_X2_walkFrom) (I2 := m_X2_markCutKnot) (st := []) [.int x2] dX2_walkFrom_94 ml_X2_76 rfl (by decide) lo0_25 rfl (Nat.le_of_ble_eq_true rfl) rfl (AMv.mono k (fun M94 k => ?_))
        exact z_return (st := []) rfl dX2_walkFrom_97 ⟨rfl, k⟩
    · replace k := k.2 h3
      refine z_aload_n dX2_walkFrom_30 rfl rfl ?_
      refine z_getr dX2_walkFrom_31 fl_X2_21 lo0_25 rfl ?_
      refine z_iload_n dX2_walkFrom_34 rfl rfl ?_
      refine z_iald dX2_walkFrom_35 lo0_29 ⟨k.1, ?_⟩
      replace k := k.2
      refine z_istore dX2_walkFrom_36 (by decide) rfl ?_
      refine z_iload dX2_walkFrom_38 rfl ?_
      refine z_iconst (v := (-1)) dX2_walkFrom_40 (by decide) ?_
      refine z_icmp_ne 54 dX2_walkFrom_41 (by decide) ⟨fun h5 => ?_, fun h5 => ?_⟩
      · replace k := k.1 h5
        refine z_aload_n dX2_walkFrom_54 rfl rfl ?_
        refine z_getr dX2_walkFrom_55 fl_X2_21 lo0_25 rfl ?_
        refine z_iload_n dX2_walkFrom_58 rfl rfl ?_
        refine z_aload_n dX2_walkFrom_59 rfl rfl ?_
        refine z_getr dX2_walkFrom_60 fl_X2_71 lo0_3 rfl ?_
        refine z_iload dX2_walkFrom_63 rfl ?_
        refine z_iald dX2_walkFrom_65 lo0_10 ⟨k.1, ?_⟩
        replace k := k.2
        refine z_iast dX2_walkFrom_66 lo0_29 ⟨k.1, ?_⟩
        replace k := k.2
        refine z_aload_n dX2_walkFrom_67 rfl rfl ?_
        refine z_aload_n dX2_walkFrom_68 rfl rfl ?_
        refine z_iload_n dX2_walkFrom_69 rfl rfl ?_
        refine z_iload dX2_walkFrom_70 rfl ?_
        refine z_iconst (v := 2) dX2_walkFrom_72 (by decide) ?_
        refine z_idiv dX2_walkFrom_73 (by decide) ?_
        refine z_calli (I := m_X2_walkFrom) (I2 := m_X2_follow) (st := []) [.ref 3, .int x3, .int ((I 21 (zn x3)) / 2)] dX2_walkFrom_74 ml_X2_72 rfl (by decide) lo0_25 rfl (Nat.le_of_ble_eq_true rfl) rfl (AMi.mono k (fun r74 M74 k => ?_))
        refine z_istore_n dX2_walkFrom_77 rfl (by decide) rfl ?_
        refine z_iinc (v := (x4 + 1)) dX2_walkFrom_78 rfl rfl (by decide) rfl ?_
        refine z_goto 17 dX2_walkFrom_81 (by decide) ?_
        refine z_wk [some (.ref 25), some (.ref 3), some (.int x2), some (.int r74), some (.int (x4 + 1)), none] (z_le_some (z_le_some (z_le_some (z_le_some (z_le_some (z_le_none z_le_nil)))))) ?_
        exact k
      · replace k := k.2 h5
        refine z_aload_n dX2_walkFrom_44 rfl rfl ?_
        refine z_aload_n dX2_walkFrom_45 rfl rfl ?_
        refine z_iload_n dX2_walkFrom_46 rfl rfl ?_
        refine z_calli (I := m_X2_walkFrom) (I2 := m_X2_leave) (st := []) [.ref 3, .int x3] dX2_walkFrom_47 ml_X2_67 rfl (by decide) lo0_25 rfl (Nat.le_of_ble_eq_true rfl) rfl (AMi.mono k (fun r47 M47 k => ?_))
        refine z_istore_n dX2_walkFrom_50 rfl (by decide) rfl ?_
        refine z_goto 78 dX2_walkFrom_51 (by decide) ?_
        refine z_iinc (v := (x4 + 1)) dX2_walkFrom_78 rfl rfl (by decide) rfl ?_
        refine z_goto 17 dX2_walkFrom_81 (by decide) ?_
        refine z_wk [some (.ref 25), some (.ref 3), some (.int x2), some (.int r47), some (.int (x4 + 1)), none] (z_le_some (z_le_some (z_le_some (z_le_some (z_le_some (z_le_none z_le_nil)))))) ?_
        exact k

set_option maxRecDepth 100000 in
set_option maxHeartbeats 4000000 in
theorem r_X2_enter_0 {P : zM → Prop} (x2 : Int32) (x3 : Int32) (F : Nat → Int32) (I : Nat → Nat → Int32) (J : Nat → Nat → Int64)
  (k : vp_in x2 100 ∧ vp_in x2 100 ∧ vp_in x2 100 ∧ vp_in x2 100 ∧ vp_in x2 100 ∧ vp_in x2 100 ∧ P (upd F 9 ((F 9) + 1), z_ui (z_ui (z_ui (z_ui (z_ui I 18 (zn x2) ((F 9) + 1)) 19 (zn x2) ((F 9) + 1)) 20 (zn x2) x3) 22 (zn x2) 0) 21 (zn x2) (I 5 (zn x2)), J)) :
  AMv m_X2_enter [.ref 25, .ref 3, .int x2, .int x3] (F, I, J) P := by
  refine z_entry (pad := 0) [some (.ref 25), some (.ref 3), some (.int x2), some (.int x3)] (by decide) rfl rfl (fun _ => Nat.le_of_ble_eq_true rfl) ?_
  refine z_aload_n dX2_enter_0 rfl rfl ?_
  refine z_dup dX2_enter_1 rfl ?_
  refine z_geti dX2_enter_2 fl_X2_34 lo0_25 rfl ?_
  refine z_iconst (v := 1) dX2_enter_5 (by decide) ?_
  refine z_iadd dX2_enter_6 ?_
  refine z_puti dX2_enter_7 fw_X2_34 lo0_25 rfl ?_
  refine z_aload_n dX2_enter_10 rfl rfl ?_
  refine z_getr dX2_enter_11 fl_X2_9 lo0_25 rfl ?_
  refine z_iload_n dX2_enter_14 rfl rfl ?_
  refine z_aload_n dX2_enter_15 rfl rfl ?_
  refine z_geti dX2_enter_16 fl_X2_34 lo0_25 rfl ?_
  refine z_iast dX2_enter_19 lo0_26 ⟨k.1, ?_⟩
  replace k := k.2
  refine z_aload_n dX2_enter_20 rfl rfl ?_
  refine z_getr dX2_enter_21 fl_X2_15 lo0_25 rfl ?_
  refine z_iload_n dX2_enter_24 rfl rfl ?_
  refine z_aload_n dX2_enter_25 rfl rfl ?_
  refine z_geti dX2_enter_26 fl_X2_34 lo0_25 rfl ?_
  refine z_iast dX2_enter_29 lo0_27 ⟨k.1, ?_⟩
  replace k := k.2
  refine z_aload_n dX2_enter_30 rfl rfl ?_
  refine z_getr dX2_enter_31 fl_X2_18 lo0_25 rfl ?_
  refine z_iload_n dX2_enter_34 rfl rfl ?_
  refine z_iload_n dX2_enter_35 rfl rfl ?_
  refine z_iast dX2_enter_36 lo0_28 ⟨k.1, ?_⟩
  replace k := k.2
  refine z_aload_n dX2_enter_37 rfl rfl ?_
  refine z_getr dX2_enter_38 fl_X2_24 lo0_25 rfl ?_
  refine z_iload_n dX2_enter_41 rfl rfl ?_
  refine z_iconst (v := 0) dX2_enter_42 (by decide) ?_
  refine z_zast (x2 := 0) rfl dX2_enter_43 lo0_30 ⟨k.1, ?_⟩
  replace k := k.2
  refine z_aload_n dX2_enter_44 rfl rfl ?_
  refine z_getr dX2_enter_45 fl_X2_21 lo0_25 rfl ?_
  refine z_iload_n dX2_enter_48 rfl rfl ?_
  refine z_aload_n dX2_enter_49 rfl rfl ?_
  refine z_getr dX2_enter_50 fl_X2_80 lo0_3 rfl ?_
  refine z_iload_n dX2_enter_53 rfl rfl ?_
  refine z_iald dX2_enter_54 lo0_9 ⟨k.1, ?_⟩
  replace k := k.2
  refine z_iast dX2_enter_55 lo0_29 ⟨k.1, ?_⟩
  replace k := k.2
  exact z_return (st := []) rfl dX2_enter_56 ⟨rfl, k⟩

set_option maxRecDepth 100000 in
set_option maxHeartbeats 4000000 in
theorem r_X2_follow_0 {P : Int32 → zM → Prop} (x2 : Int32) (x3 : Int32) (F : Nat → Int32) (I : Nat → Nat → Int32) (J : Nat → Nat → Int64)
  (k : vp_in x2 100 ∧ ((x3 = (I 20 (zn x2)) → P x2 (F, I, J)) ∧ (¬ x3 = (I 20 (zn x2)) → AMi m_X0_isThere [.ref 3, .int x3] (F, I, J) (fun r12 M12 => ((¬ r12 = 0 → AMi m_X0_across [.ref 3, .int x3, .int x2] M12 (fun r23 M23 => vp_in r23 100 ∧ ((¬ (M23.2.1 18 (zn r23)) = 0 → vp_in x2 100 ∧ vp_in r23 100 ∧ vp_in x2 100 ∧ P x2 (M23.1, z_ui M23.2.1 19 (zn x2) (if (M23.2.1 18 (zn r23)) < (M23.2.1 19 (zn x2)) then (M23.2.1 18 (zn r23)) else (M23.2.1 19 (zn x2))), M23.2.2)) ∧ ((M23.2.1 18 (zn r23)) = 0 → AMv m_X2_enter [.ref 25, .ref 3, .int r23, .int x3] M23 (fun M43 => P r23 M43))))) ∧ (r12 = 0 → P x2 M12)))))) :
  AMi m_X2_follow [.ref 25, .ref 3, .int x2, .int x3] (F, I, J) P := by
  refine z_entry (pad := 1) [some (.ref 25), some (.ref 3), some (.int x2), some (.int x3), none] (by decide) rfl rfl (fun _ => Nat.le_of_ble_eq_true rfl) ?_
  refine z_iload_n dX2_follow_0 rfl rfl ?_
  refine z_aload_n dX2_follow_1 rfl rfl ?_
  refine z_getr dX2_follow_2 fl_X2_18 lo0_25 rfl ?_
  refine z_iload_n dX2_follow_5 rfl rfl ?_
  refine z_iald dX2_follow_6 lo0_28 ⟨k.1, ?_⟩
  replace k := k.2
  refine z_icmp_eq 18 dX2_follow_7 (by decide) ⟨fun h1 => ?_, fun h1 => ?_⟩
  · replace k := k.1 h1
    refine z_iload_n dX2_follow_18 rfl rfl ?_
    exact z_ireturn (st := []) rfl dX2_follow_19 ⟨_, rfl, k⟩
  · replace k := k.2 h1
    refine z_aload_n dX2_follow_10 rfl rfl ?_
    refine z_iload_n dX2_follow_11 rfl rfl ?_
    refine z_calli (I := m_X2_follow) (I2 := m_X0_isThere) (st := []) [.int x3] dX2_follow_12 ml_X2_83 rfl (by decide) lo0_3 rfl (Nat.le_of_ble_eq_true rfl) rfl (AMi.mono k (fun r12 M12 k => ?_))
    refine z_if_ne 20 dX2_follow_15 (by decide) ⟨fun h2 => ?_, fun h2 => ?_⟩
    · replace k := k.1 h2
      refine z_aload_n dX2_follow_20 rfl rfl ?_
      refine z_iload_n dX2_follow_21 rfl rfl ?_
      refine z_iload_n dX2_follow_22 rfl rfl ?_
      refine z_calli (I := m_X2_follow) (I2 := m_X0_across) (st := []) [.int x3, .int x2] dX2_follow_23 ml_X2_87 rfl (by decide) lo0_3 rfl (Nat.le_of_ble_eq_true rfl) rfl (AMi.mono k (fun r23 M23 k => ?_))
      refine z_istore dX2_follow_26 (by decide) rfl ?_
      refine z_aload_n dX2_follow_28 rfl rfl ?_
      refine z_getr dX2_follow_29 fl_X2_9 lo0_25 rfl ?_
      refine z_iload dX2_follow_32 rfl ?_
      refine z_iald dX2_follow_34 lo0_26 ⟨k.1, ?_⟩
      replace k := k.2
      refine z_if_ne 49 dX2_follow_35 (by decide) ⟨fun h3 => ?_, fun h3 => ?_⟩
      · replace k := k.1 h3
        refine z_aload_n dX2_follow_49 rfl rfl ?_
        refine z_getr dX2_follow_50 fl_X2_15 lo0_25 rfl ?_
        refine z_iload_n dX2_follow_53 rfl rfl ?_
        refine z_aload_n dX2_follow_54 rfl rfl ?_
        refine z_getr dX2_follow_55 fl_X2_15 lo0_25 rfl ?_
        refine z_iload_n dX2_follow_58 rfl rfl ?_
        refine z_iald dX2_follow_59 lo0_27 ⟨k.1, ?_⟩
        replace k := k.2
        refine z_aload_n dX2_follow_60 rfl rfl ?_
        refine z_getr dX2_follow_61 fl_X2_9 lo0_25 rfl ?_
        refine z_iload dX2_follow_64 rfl ?_
        refine z_iald dX2_follow_66 lo0_26 ⟨k.1, ?_⟩
        replace k := k.2
        refine z_mini dX2_follow_67 mn_X2_91 mn_st_i mn_in mn_cd_i (by decide) (Nat.le_of_ble_eq_true rfl) ?_
        refine z_iast dX2_follow_70 lo0_27 ⟨k.1, ?_⟩
        replace k := k.2
        refine z_iload_n dX2_follow_71 rfl rfl ?_
        exact z_ireturn (st := []) rfl dX2_follow_72 ⟨_, rfl, k⟩
      · replace k := k.2 h3
        refine z_aload_n dX2_follow_38 rfl rfl ?_
        refine z_aload_n dX2_follow_39 rfl rfl ?_
        refine z_iload dX2_follow_40 rfl ?_
        refine z_iload_n dX2_follow_42 rfl rfl ?_
        refine z_callv (I := m_X2_follow) (I2 := m_X2_enter) (st := []) [.ref 3, .int r23, .int x3] dX2_follow_43 ml_X2_63 rfl (by decide) lo0_25 rfl (Nat.le_of_ble_eq_true rfl) rfl (AMv.mono k (fun M43 k => ?_))
        refine z_iload dX2_follow_46 rfl ?_
        exact z_ireturn (st := []) rfl dX2_follow_48 ⟨_, rfl, k⟩
    · replace k := k.2 h2
      refine z_iload_n dX2_follow_18 rfl rfl ?_
      exact z_ireturn (st := []) rfl dX2_follow_19 ⟨_, rfl, k⟩

set_option maxRecDepth 100000 in
set_option maxHeartbeats 4000000 in
theorem r_X2_leave_0 {P : Int32 → zM → Prop} (x2 : Int32) (F : Nat → Int32) (I : Nat → Nat → Int32) (J : Nat → Nat → Int64)
  (k : vp_in x2 100 ∧ ((¬ (I 20 (zn x2)) = (-1) → vp_in x2 100 ∧ AMi m_X0_across [.ref 3, .int (I 20 (zn x2)), .int x2] (F, I, J) (fun r20 M20 => vp_in r20 100 ∧ vp_in x2 100 ∧ vp_in r20 100 ∧ vp_in x2 100 ∧ vp_in x2 100 ∧ ((¬ ((upd (M20.2.1 19) (zn r20) (if (M20.2.1 19 (zn x2)) < (M20.2.1 19 (zn r20)) then (M20.2.1 19 (zn x2)) else (M20.2.1 19 (zn r20)))) (zn x2)) = (M20.2.1 18 (zn x2)) → AW m_X2_leave (z_pi P) 70 [some (.ref 25), none, some (.int x2), some (.int r20)] [] (M20.1, z_ui M20.2.1 19 (zn r20) (if (M20.2.1 19 (zn x2)) < (M20.2.1 19 (zn r20)) then (M20.2.1 19 (zn x2)) else (M20.2.1 19 (zn r20))), M20.2.2)) ∧ (((upd (M20.2.1 19) (zn r20) (if (M20.2.1 19 (zn x2)) < (M20.2.1 19 (zn r20)) then (M20.2.1 19 (zn x2)) else (M20.2.1 19 (zn r20)))) (zn x2)) = (M20.2.1 18 (zn x2)) → AW m_X2_leave (z_pi P) 70 [some (.ref 25), none, some (.int x2), some (.int r20)] [] (upd M20.1 11 ((M20.1 11) + 1), z_ui M20.2.1 19 (zn r20) (if (M20.2.1 19 (zn x2)) < (M20.2.1 19 (zn r20)) then (M20.2.1 19 (zn x2)) else (M20.2.1 19 (zn r20))), M20.2.2))))) ∧ ((I 20 (zn x2)) = (-1) → P (-1) (F, I, J)))) :
  AMi m_X2_leave [.ref 25, .ref 3, .int x2] (F, I, J) P := by
  refine z_entry (pad := 1) [some (.ref 25), some (.ref 3), some (.int x2), none] (by decide) rfl rfl (fun _ => Nat.le_of_ble_eq_true rfl) ?_
  refine z_aload_n dX2_leave_0 rfl rfl ?_
  refine z_getr dX2_leave_1 fl_X2_18 lo0_25 rfl ?_
  refine z_iload_n dX2_leave_4 rfl rfl ?_
  refine z_iald dX2_leave_5 lo0_28 ⟨k.1, ?_⟩
  replace k := k.2
  refine z_iconst (v := (-1)) dX2_leave_6 (by decide) ?_
  refine z_icmp_ne 12 dX2_leave_7 (by decide) ⟨fun h1 => ?_, fun h1 => ?_⟩
  · replace k := k.1 h1
    refine z_aload_n dX2_leave_12 rfl rfl ?_
    refine z_aload_n dX2_leave_13 rfl rfl ?_
    refine z_getr dX2_leave_14 fl_X2_18 lo0_25 rfl ?_
    refine z_iload_n dX2_leave_17 rfl rfl ?_
    refine z_iald dX2_leave_18 lo0_28 ⟨k.1, ?_⟩
    replace k := k.2
    refine z_iload_n dX2_leave_19 rfl rfl ?_
    refine z_calli (I := m_X2_leave) (I2 := m_X0_across) (st := []) [.int (I 20 (zn x2)), .int x2] dX2_leave_20 ml_X2_87 rfl (by decide) lo0_3 rfl (Nat.le_of_ble_eq_true rfl) rfl (AMi.mono k (fun r20 M20 k => ?_))
    refine z_istore_n dX2_leave_23 rfl (by decide) rfl ?_
    refine z_aload_n dX2_leave_24 rfl rfl ?_
    refine z_getr dX2_leave_25 fl_X2_15 lo0_25 rfl ?_
    refine z_iload_n dX2_leave_28 rfl rfl ?_
    refine z_aload_n dX2_leave_29 rfl rfl ?_
    refine z_getr dX2_leave_30 fl_X2_15 lo0_25 rfl ?_
    refine z_iload_n dX2_leave_33 rfl rfl ?_
    refine z_iald dX2_leave_34 lo0_27 ⟨k.1, ?_⟩
    replace k := k.2
    refine z_aload_n dX2_leave_35 rfl rfl ?_
    refine z_getr dX2_leave_36 fl_X2_15 lo0_25 rfl ?_
    refine z_iload_n dX2_leave_39 rfl rfl ?_
    refine z_iald dX2_leave_40 lo0_27 ⟨k.1, ?_⟩
    replace k := k.2
    refine z_mini dX2_leave_41 mn_X2_91 mn_st_i mn_in mn_cd_i (by decide) (Nat.le_of_ble_eq_true rfl) ?_
    refine z_iast dX2_leave_44 lo0_27 ⟨k.1, ?_⟩
    replace k := k.2
    refine z_aload_n dX2_leave_45 rfl rfl ?_
    refine z_getr dX2_leave_46 fl_X2_15 lo0_25 rfl ?_
    refine z_iload_n dX2_leave_49 rfl rfl ?_
    refine z_iald dX2_leave_50 lo0_27 ⟨k.1, ?_⟩
    replace k := k.2
    refine z_aload_n dX2_leave_51 rfl rfl ?_
    refine z_getr dX2_leave_52 fl_X2_9 lo0_25 rfl ?_
    refine z_iload_n dX2_leave_55 rfl rfl ?_
    refine z_iald dX2_leave_56 lo0_26 ⟨k.1, ?_⟩
    replace k := k.2
    refine z_icmp_ne 70 dX2_leave_57 (by decide) ⟨fun h2 => ?_, fun h2 => ?_⟩
    · replace k := k.1 h2
      refine z_wk [some (.ref 25), none, some (.int x2), some (.int r20)] (z_le_some (z_le_none (z_le_some (z_le_some z_le_nil)))) ?_
      exact k
    · replace k := k.2 h2
      refine z_aload_n dX2_leave_60 rfl rfl ?_
      refine z_dup dX2_leave_61 rfl ?_
      refine z_geti dX2_leave_62 fl_X2_38 lo0_25 rfl ?_
      refine z_iconst (v := 1) dX2_leave_65 (by decide) ?_
      refine z_iadd dX2_leave_66 ?_
      refine z_puti dX2_leave_67 fw_X2_38 lo0_25 rfl ?_
      refine z_wk [some (.ref 25), none, some (.int x2), some (.int r20)] (z_le_some (z_le_none (z_le_some (z_le_some z_le_nil)))) ?_
      exact k
  · replace k := k.2 h1
    refine z_iconst (v := (-1)) dX2_leave_10 (by decide) ?_
    exact z_ireturn (st := []) rfl dX2_leave_11 ⟨_, rfl, k⟩

set_option maxRecDepth 100000 in
set_option maxHeartbeats 4000000 in
theorem r_X2_leave_70 {P : Int32 → zM → Prop} (x2 : Int32) (x3 : Int32) (F : Nat → Int32) (I : Nat → Nat → Int32) (J : Nat → Nat → Int64)
  (k : vp_in x3 100 ∧ ((¬ (I 20 (zn x3)) = (-1) → vp_in x2 100 ∧ vp_in x3 100 ∧ (((I 19 (zn x2)) < (I 18 (zn x3)) → P x3 (F, I, J)) ∧ (¬ (I 19 (zn x2)) < (I 18 (zn x3)) → AMv m_X2_markCutKnot [.ref 25, .int x3] (F, I, J) (fun M110 => P x3 M110)))) ∧ ((I 20 (zn x3)) = (-1) → P x3 (upd F 10 ((F 10) + 1), I, J)))) :
  AW m_X2_leave (z_pi P) 70 [some (.ref 25), none, some (.int x2), some (.int x3)] [] (F, I, J) := by
  refine z_aload_n dX2_leave_70 rfl rfl ?_
  refine z_getr dX2_leave_71 fl_X2_18 lo0_25 rfl ?_
  refine z_iload_n dX2_leave_74 rfl rfl ?_
  refine z_iald dX2_leave_75 lo0_28 ⟨k.1, ?_⟩
  replace k := k.2
  refine z_iconst (v := (-1)) dX2_leave_76 (by decide) ?_
  refine z_icmp_ne 93 dX2_leave_77 (by decide) ⟨fun h1 => ?_, fun h1 => ?_⟩
  · replace k := k.1 h1
    refine z_aload_n dX2_leave_93 rfl rfl ?_
    refine z_getr dX2_leave_94 fl_X2_15 lo0_25 rfl ?_
    refine z_iload_n dX2_leave_97 rfl rfl ?_
    refine z_iald dX2_leave_98 lo0_27 ⟨k.1, ?_⟩
    replace k := k.2
    refine z_aload_n dX2_leave_99 rfl rfl ?_
    refine z_getr dX2_leave_100 fl_X2_9 lo0_25 rfl ?_
    refine z_iload_n dX2_leave_103 rfl rfl ?_
    refine z_iald dX2_leave_104 lo0_26 ⟨k.1, ?_⟩
    replace k := k.2
    refine z_icmp_lt 113 dX2_leave_105 (by decide) ⟨fun h2 => ?_, fun h2 => ?_⟩
    · replace k := k.1 h2
      refine z_iload_n dX2_leave_113 rfl rfl ?_
      exact z_ireturn (st := []) rfl dX2_leave_114 ⟨_, rfl, k⟩
    · replace k := k.2 h2
      refine z_aload_n dX2_leave_108 rfl rfl ?_
      refine z_iload_n dX2_leave_109 rfl rfl ?_
      refine z_callv (I := m_X2_leave) (I2 := m_X2_markCutKnot) (st := []) [.int x3] dX2_leave_110 ml_X2_76 rfl (by decide) lo0_25 rfl (Nat.le_of_ble_eq_true rfl) rfl (AMv.mono k (fun M110 k => ?_))
      refine z_iload_n dX2_leave_113 rfl rfl ?_
      exact z_ireturn (st := []) rfl dX2_leave_114 ⟨_, rfl, k⟩
  · replace k := k.2 h1
    refine z_aload_n dX2_leave_80 rfl rfl ?_
    refine z_dup dX2_leave_81 rfl ?_
    refine z_geti dX2_leave_82 fl_X2_60 lo0_25 rfl ?_
    refine z_iconst (v := 1) dX2_leave_85 (by decide) ?_
    refine z_iadd dX2_leave_86 ?_
    refine z_puti dX2_leave_87 fw_X2_60 lo0_25 rfl ?_
    refine z_goto 113 dX2_leave_90 (by decide) ?_
    refine z_iload_n dX2_leave_113 rfl rfl ?_
    exact z_ireturn (st := []) rfl dX2_leave_114 ⟨_, rfl, k⟩

set_option maxRecDepth 100000 in
set_option maxHeartbeats 4000000 in
theorem r_X2_markCutKnot_0 {P : zM → Prop} (x1 : Int32) (F : Nat → Int32) (I : Nat → Nat → Int32) (J : Nat → Nat → Int64)
  (k : vp_in x1 100 ∧ ((¬ (I 22 (zn x1)) = 0 → P (F, I, J)) ∧ ((I 22 (zn x1)) = 0 → vp_in x1 100 ∧ P (upd F 12 ((F 12) + 1), z_ui I 22 (zn x1) 1, J)))) :
  AMv m_X2_markCutKnot [.ref 25, .int x1] (F, I, J) P := by
  refine z_entry (pad := 0) [some (.ref 25), some (.int x1)] (by decide) rfl rfl (fun _ => Nat.le_of_ble_eq_true rfl) ?_
  refine z_aload_n dX2_markCutKnot_0 rfl rfl ?_
  refine z_getr dX2_markCutKnot_1 fl_X2_24 lo0_25 rfl ?_
  refine z_iload_n dX2_markCutKnot_4 rfl rfl ?_
  refine z_zald dX2_markCutKnot_5 lo0_30 ⟨k.1, ?_⟩
  replace k := k.2
  refine z_if_ne 26 dX2_markCutKnot_6 (by decide) ⟨fun h1 => ?_, fun h1 => ?_⟩
  · replace k := k.1 h1
    exact z_return (st := []) rfl dX2_markCutKnot_26 ⟨rfl, k⟩
  · replace k := k.2 h1
    refine z_aload_n dX2_markCutKnot_9 rfl rfl ?_
    refine z_getr dX2_markCutKnot_10 fl_X2_24 lo0_25 rfl ?_
    refine z_iload_n dX2_markCutKnot_13 rfl rfl ?_
    refine z_iconst (v := 1) dX2_markCutKnot_14 (by decide) ?_
    refine z_zast (x2 := 1) rfl dX2_markCutKnot_15 lo0_30 ⟨k.1, ?_⟩
    replace k := k.2
    refine z_aload_n dX2_markCutKnot_16 rfl rfl ?_
    refine z_dup dX2_markCutKnot_17 rfl ?_
    refine z_geti dX2_markCutKnot_18 fl_X2_41 lo0_25 rfl ?_
    refine z_iconst (v := 1) dX2_markCutKnot_21 (by decide) ?_
    refine z_iadd dX2_markCutKnot_22 ?_
    refine z_puti dX2_markCutKnot_23 fw_X2_41 lo0_25 rfl ?_
    exact z_return (st := []) rfl dX2_markCutKnot_26 ⟨rfl, k⟩

set_option maxRecDepth 100000 in
set_option maxHeartbeats 4000000 in
theorem r_X3_note_0 {P : zM → Prop} (x1 : Int32) (x2 : Int32) (x3 : Int32) (l4 : Int64) (F : Nat → Int32) (I : Nat → Nat → Int32) (J : Nat → Nat → Int64)
  (k : ((¬ (F 14) = 20 → AW m_X3_note (z_pv P) 32 [some (.ref 31), some (.int x1), some (.int x2), some (.int x3), some (.long l4), none, none] [] (F, I, J)) ∧ ((F 14) = 20 → AW m_X3_note (z_pv P) 32 [some (.ref 31), some (.int x1), some (.int x2), some (.int x3), some (.long l4), none, none] [] (upd (upd F 13 (((F 13) + 1) - ((F 13) + 1) / 20 * 20)) 14 ((F 14) - 1), I, J)))) :
  AMv m_X3_note [.ref 31, .int x1, .int x2, .int x3, .long l4] (F, I, J) P := by
  refine z_entry (pad := 1) [some (.ref 31), some (.int x1), some (.int x2), some (.int x3), some (.long l4), none, none] (by decide) rfl rfl (fun _ => Nat.le_of_ble_eq_true rfl) ?_
  refine z_aload_n dX3_note_0 rfl rfl ?_
  refine z_geti dX3_note_1 fl_X3_25 lo0_31 rfl ?_
  refine z_bipush (v := 20) dX3_note_4 (by decide) ?_
  refine z_icmp_ne 32 dX3_note_6 (by decide) ⟨fun h1 => ?_, fun h1 => ?_⟩
  · replace k := k.1 h1
    exact k
  · replace k := k.2 h1
    refine z_aload_n dX3_note_9 rfl rfl ?_
    refine z_aload_n dX3_note_10 rfl rfl ?_
    refine z_geti dX3_note_11 fl_X3_29 lo0_31 rfl ?_
    refine z_iconst (v := 1) dX3_note_14 (by decide) ?_
    refine z_iadd dX3_note_15 ?_
    refine z_bipush (v := 20) dX3_note_16 (by decide) ?_
    refine z_irem dX3_note_18 (by decide) ?_
    refine z_puti dX3_note_19 fw_X3_29 lo0_31 rfl ?_
    refine z_aload_n dX3_note_22 rfl rfl ?_
    refine z_dup dX3_note_23 rfl ?_
    refine z_geti dX3_note_24 fl_X3_25 lo0_31 rfl ?_
    refine z_iconst (v := 1) dX3_note_27 (by decide) ?_
    refine z_isub dX3_note_28 ?_
    refine z_puti dX3_note_29 fw_X3_25 lo0_31 rfl ?_
    exact k

set_option maxRecDepth 100000 in
set_option maxHeartbeats 4000000 in
theorem r_X3_note_32 {P : zM → Prop} (x1 : Int32) (x2 : Int32) (x3 : Int32) (l4 : Int64) (F : Nat → Int32) (I : Nat → Nat → Int32) (J : Nat → Nat → Int64)
  (k : vp_in (((F 13) + (F 14)) - ((F 13) + (F 14)) / 20 * 20) 20 ∧ vp_in (((F 13) + (F 14)) - ((F 13) + (F 14)) / 20 * 20) 20 ∧ vp_in (((F 13) + (F 14)) - ((F 13) + (F 14)) / 20 * 20) 20 ∧ vp_in (((F 13) + (F 14)) - ((F 13) + (F 14)) / 20 * 20) 20 ∧ P (upd F 14 ((F 14) + 1), z_ui (z_ui (z_ui I 23 (zn (((F 13) + (F 14)) - ((F 13) + (F 14)) / 20 * 20)) x1) 24 (zn (((F 13) + (F 14)) - ((F 13) + (F 14)) / 20 * 20)) x2) 25 (zn (((F 13) + (F 14)) - ((F 13) + (F 14)) / 20 * 20)) x3, z_ul J 2 (zn (((F 13) + (F 14)) - ((F 13) + (F 14)) / 20 * 20)) l4)) :
  AW m_X3_note (z_pv P) 32 [some (.ref 31), some (.int x1), some (.int x2), some (.int x3), some (.long l4), none, none] [] (F, I, J) := by
  refine z_aload_n dX3_note_32 rfl rfl ?_
  refine z_geti dX3_note_33 fl_X3_29 lo0_31 rfl ?_
  refine z_aload_n dX3_note_36 rfl rfl ?_
  refine z_geti dX3_note_37 fl_X3_25 lo0_31 rfl ?_
  refine z_iadd dX3_note_40 ?_
  refine z_bipush (v := 20) dX3_note_41 (by decide) ?_
  refine z_irem dX3_note_43 (by decide) ?_
  refine z_istore dX3_note_44 (by decide) rfl ?_
  refine z_aload_n dX3_note_46 rfl rfl ?_
  refine z_getr dX3_note_47 fl_X3_9 lo0_31 rfl ?_
  refine z_iload dX3_note_50 rfl ?_
  refine z_iload_n dX3_note_52 rfl rfl ?_
  refine z_iast dX3_note_53 lo0_32 ⟨k.1, ?_⟩
  replace k := k.2
  refine z_aload_n dX3_note_54 rfl rfl ?_
  refine z_getr dX3_note_55 fl_X3_15 lo0_31 rfl ?_
  refine z_iload dX3_note_58 rfl ?_
  refine z_iload_n dX3_note_60 rfl rfl ?_
  refine z_iast dX3_note_61 lo0_33 ⟨k.1, ?_⟩
  replace k := k.2
  refine z_aload_n dX3_note_62 rfl rfl ?_
  refine z_getr dX3_note_63 fl_X3_18 lo0_31 rfl ?_
  refine z_iload dX3_note_66 rfl ?_
  refine z_iload_n dX3_note_68 rfl rfl ?_
  refine z_iast dX3_note_69 lo0_34 ⟨k.1, ?_⟩
  replace k := k.2
  refine z_aload_n dX3_note_70 rfl rfl ?_
  refine z_getr dX3_note_71 fl_X3_21 lo0_31 rfl ?_
  refine z_iload dX3_note_74 rfl ?_
  refine z_lload dX3_note_76 rfl ?_
  refine z_last dX3_note_78 lo0_35 ⟨k.1, ?_⟩
  replace k := k.2
  refine z_aload_n dX3_note_79 rfl rfl ?_
  refine z_dup dX3_note_80 rfl ?_
  refine z_geti dX3_note_81 fl_X3_25 lo0_31 rfl ?_
  refine z_iconst (v := 1) dX3_note_84 (by decide) ?_
  refine z_iadd dX3_note_85 ?_
  refine z_puti dX3_note_86 fw_X3_25 lo0_31 rfl ?_
  exact z_return (st := []) rfl dX3_note_89 ⟨rfl, k⟩

set_option maxRecDepth 100000 in
set_option maxHeartbeats 4000000 in
theorem r_X3_takeLatest_0 {P : Int32 → zM → Prop}  (F : Nat → Int32) (I : Nat → Nat → Int32) (J : Nat → Nat → Int64)
  (k : ((¬ (F 14) = 0 → P (((F 13) + ((F 14) - 1)) - ((F 13) + ((F 14) - 1)) / 20 * 20) (upd F 14 ((F 14) - 1), I, J)) ∧ ((F 14) = 0 → P (-1) (F, I, J)))) :
  AMi m_X3_takeLatest [.ref 31] (F, I, J) P := by
  refine z_entry (pad := 0) [some (.ref 31)] (by decide) rfl rfl (fun _ => Nat.le_of_ble_eq_true rfl) ?_
  refine z_aload_n dX3_takeLatest_0 rfl rfl ?_
  refine z_geti dX3_takeLatest_1 fl_X3_25 lo0_31 rfl ?_
  refine z_if_ne 9 dX3_takeLatest_4 (by decide) ⟨fun h1 => ?_, fun h1 => ?_⟩
  · replace k := k.1 h1
    refine z_aload_n dX3_takeLatest_9 rfl rfl ?_
    refine z_dup dX3_takeLatest_10 rfl ?_
    refine z_geti dX3_takeLatest_11 fl_X3_25 lo0_31 rfl ?_
    refine z_iconst (v := 1) dX3_takeLatest_14 (by decide) ?_
    refine z_isub dX3_takeLatest_15 ?_
    refine z_puti dX3_takeLatest_16 fw_X3_25 lo0_31 rfl ?_
    refine z_aload_n dX3_takeLatest_19 rfl rfl ?_
    refine z_geti dX3_takeLatest_20 fl_X3_29 lo0_31 rfl ?_
    refine z_aload_n dX3_takeLatest_23 rfl rfl ?_
    refine z_geti dX3_takeLatest_24 fl_X3_25 lo0_31 rfl ?_
    refine z_iadd dX3_takeLatest_27 ?_
    refine z_bipush (v := 20) dX3_takeLatest_28 (by decide) ?_
    refine z_irem dX3_takeLatest_30 (by decide) ?_
    exact z_ireturn (st := []) rfl dX3_takeLatest_31 ⟨_, rfl, k⟩
  · replace k := k.2 h1
    refine z_iconst (v := (-1)) dX3_takeLatest_7 (by decide) ?_
    exact z_ireturn (st := []) rfl dX3_takeLatest_8 ⟨_, rfl, k⟩

set_option maxRecDepth 100000 in
set_option maxHeartbeats 4000000 in
theorem r_X3_forget_0 {P : zM → Prop}  (F : Nat → Int32) (I : Nat → Nat → Int32) (J : Nat → Nat → Int64)
  (k : P (upd F 14 0, I, J)) :
  AMv m_X3_forget [.ref 31] (F, I, J) P := by
  refine z_entry (pad := 0) [some (.ref 31)] (by decide) rfl rfl (fun _ => Nat.le_of_ble_eq_true rfl) ?_
  refine z_aload_n dX3_forget_0 rfl rfl ?_
  refine z_iconst (v := 0) dX3_forget_1 (by decide) ?_
  refine z_puti dX3_forget_2 fw_X3_25 lo0_31 rfl ?_
  exact z_return (st := []) rfl dX3_forget_5 ⟨rfl, k⟩

set_option maxRecDepth 100000 in
set_option maxHeartbeats 4000000 in
theorem r_X4_begin_0 {P : zM → Prop} (t : Nat) (ht : t < 6) (x1 : Int32) (F : Nat → Int32) (I : Nat → Nat → Int32) (J : Nat → Nat → Int64)
  (k : P (upd (upd F (15 + t) x1) (21 + t) 0, I, J)) :
  AMv m_X4_begin [.ref (37 + 2 * t), .int x1] (F, I, J) P := by
  refine z_entry (pad := 0) [some (.ref (37 + 2 * t)), some (.int x1)] (by decide) rfl rfl (fun _ => Nat.le_of_ble_eq_true rfl) ?_
  refine z_aload_n dX4_begin_0 rfl rfl ?_
  refine z_iload_n dX4_begin_1 rfl rfl ?_
  refine z_puti dX4_begin_2 fw_X4_15 (z_trayC ht) rfl ?_
  refine z_aload_n dX4_begin_5 rfl rfl ?_
  refine z_iconst (v := 0) dX4_begin_6 (by decide) ?_
  refine z_puti dX4_begin_7 fw_X4_19 (z_trayC ht) rfl ?_
  exact z_return (st := []) rfl dX4_begin_10 ⟨rfl, k⟩

set_option maxRecDepth 100000 in
set_option maxHeartbeats 4000000 in
theorem r_X4_lay_0 {P : zM → Prop} (t : Nat) (ht : t < 6) (l1 : Int64) (F : Nat → Int32) (I : Nat → Nat → Int32) (J : Nat → Nat → Int64)
  (k : ((100 ≤ (F (21 + t)) → P (F, I, J)) ∧ (¬ 100 ≤ (F (21 + t)) → vp_in (F (21 + t)) 100 ∧ P (upd F (21 + t) ((F (21 + t)) + 1), I, z_ul J (3 + t) (zn (F (21 + t))) l1)))) :
  AMv m_X4_lay [.ref (37 + 2 * t), .long l1] (F, I, J) P := by
  refine z_entry (pad := 0) [some (.ref (37 + 2 * t)), some (.long l1), none] (by decide) rfl rfl (fun _ => Nat.le_of_ble_eq_true rfl) ?_
  refine z_aload_n dX4_lay_0 rfl rfl ?_
  refine z_geti dX4_lay_1 fl_X4_19 (z_trayC ht) rfl ?_
  refine z_aload_n dX4_lay_4 rfl rfl ?_
  refine z_getr dX4_lay_5 fl_X4_9 (z_trayC ht) rfl ?_
  refine z_alen (v := 100) dX4_lay_8 (z_rowC ht) (by decide) rfl ?_
  refine z_icmp_ge 32 dX4_lay_9 (by decide) ⟨fun h1 => ?_, fun h1 => ?_⟩
  · replace k := k.1 h1
    exact z_return (st := []) rfl dX4_lay_32 ⟨rfl, k⟩
  · replace k := k.2 h1
    refine z_aload_n dX4_lay_12 rfl rfl ?_
    refine z_getr dX4_lay_13 fl_X4_9 (z_trayC ht) rfl ?_
    refine z_aload_n dX4_lay_16 rfl rfl ?_
    refine z_geti dX4_lay_17 fl_X4_19 (z_trayC ht) rfl ?_
    refine z_lload_n dX4_lay_20 rfl rfl ?_
    refine z_last dX4_lay_21 (z_rowC ht) ⟨k.1, ?_⟩
    replace k := k.2
    refine z_aload_n dX4_lay_22 rfl rfl ?_
    refine z_dup dX4_lay_23 rfl ?_
    refine z_geti dX4_lay_24 fl_X4_19 (z_trayC ht) rfl ?_
    refine z_iconst (v := 1) dX4_lay_27 (by decide) ?_
    refine z_iadd dX4_lay_28 ?_
    refine z_puti dX4_lay_29 fw_X4_19 (z_trayC ht) rfl ?_
    exact z_return (st := []) rfl dX4_lay_32 ⟨rfl, k⟩

set_option maxRecDepth 100000 in
set_option maxHeartbeats 4000000 in
theorem r_X5_lay_0 {P : zM → Prop} (x3 : Int32) (F : Nat → Int32) (I : Nat → Nat → Int32) (J : Nat → Nat → Int64)
  (k : vp_in x3 100 ∧ ((¬ (I 11 (zn x3)) = 0 → vp_in x3 100 ∧ AW m_X5_lay (z_pv P) 31 [some (.ref 22), some (.ref 3), some (.ref 12), none, some (.int x3), some (.int 0)] [] (upd F 8 (I 9 (zn x3)), I, J)) ∧ ((I 11 (zn x3)) = 0 → P (upd F 8 (-1), I, J)))) :
  AMv m_X5_lay [.ref 22, .ref 3, .ref 12, .int x3] (F, I, J) P := by
  refine z_entry (pad := 2) [some (.ref 22), some (.ref 3), some (.ref 12), some (.int x3), none, none] (by decide) rfl rfl (fun _ => Nat.le_of_ble_eq_true rfl) ?_
  refine z_aload_n dX5_lay_0 rfl rfl ?_
  refine z_getr dX5_lay_1 fl_X5_22 lo0_12 rfl ?_
  refine z_iload_n dX5_lay_4 rfl rfl ?_
  refine z_zald dX5_lay_5 lo0_16 ⟨k.1, ?_⟩
  replace k := k.2
  refine z_if_ne 15 dX5_lay_6 (by decide) ⟨fun h1 => ?_, fun h1 => ?_⟩
  · replace k := k.1 h1
    refine z_aload_n dX5_lay_15 rfl rfl ?_
    refine z_aload_n dX5_lay_16 rfl rfl ?_
    refine z_getr dX5_lay_17 fl_X5_28 lo0_12 rfl ?_
    refine z_iload_n dX5_lay_20 rfl rfl ?_
    refine z_iald dX5_lay_21 lo0_14 ⟨k.1, ?_⟩
    replace k := k.2
    refine z_puti dX5_lay_22 fw_X5_18 lo0_22 rfl ?_
    refine z_iload_n dX5_lay_25 rfl rfl ?_
    refine z_istore dX5_lay_26 (by decide) rfl ?_
    refine z_iconst (v := 0) dX5_lay_28 (by decide) ?_
    refine z_istore dX5_lay_29 (by decide) rfl ?_
    refine z_wk [some (.ref 22), some (.ref 3), some (.ref 12), none, some (.int x3), some (.int 0)] (z_le_some (z_le_some (z_le_some (z_le_none (z_le_some (z_le_some z_le_nil)))))) ?_
    exact k
  · replace k := k.2 h1
    refine z_aload_n dX5_lay_9 rfl rfl ?_
    refine z_iconst (v := (-1)) dX5_lay_10 (by decide) ?_
    refine z_puti dX5_lay_11 fw_X5_18 lo0_22 rfl ?_
    exact z_return (st := []) rfl dX5_lay_14 ⟨rfl, k⟩

set_option maxRecDepth 100000 in
set_option maxHeartbeats 4000000 in
theorem r_X5_lay_31 {P : zM → Prop} (x4 : Int32) (x5 : Int32) (F : Nat → Int32) (I : Nat → Nat → Int32) (J : Nat → Nat → Int64)
  (k : (((F 8) ≤ x5 → vp_in (F 8) 100 ∧ P (F, z_ui I 16 (zn (F 8)) x4, J)) ∧ (¬ (F 8) ≤ x5 → vp_in x5 100 ∧ vp_in x4 100 ∧ vp_in x5 100 ∧ AMi m_X1_before [.ref 12, .ref 3, .int x4] (F, z_ui (z_ui I 16 (zn x5) x4) 17 (zn x5) (I 10 (zn x4)), J) (fun r67 M67 => AW m_X5_lay (z_pv P) 31 [some (.ref 22), some (.ref 3), some (.ref 12), none, some (.int r67), some (.int (x5 + 1))] [] M67)))) :
  AW m_X5_lay (z_pv P) 31 [some (.ref 22), some (.ref 3), some (.ref 12), none, some (.int x4), some (.int x5)] [] (F, I, J) := by
  refine z_iload dX5_lay_31 rfl ?_
  refine z_aload_n dX5_lay_33 rfl rfl ?_
  refine z_geti dX5_lay_34 fl_X5_18 lo0_22 rfl ?_
  refine z_icmp_ge 78 dX5_lay_37 (by decide) ⟨fun h1 => ?_, fun h1 => ?_⟩
  · replace k := k.1 h1
    refine z_aload_n dX5_lay_78 rfl rfl ?_
    refine z_getr dX5_lay_79 fl_X5_9 lo0_22 rfl ?_
    refine z_aload_n dX5_lay_82 rfl rfl ?_
    refine z_geti dX5_lay_83 fl_X5_18 lo0_22 rfl ?_
    refine z_iload dX5_lay_86 rfl ?_
    refine z_iast dX5_lay_88 lo0_23 ⟨k.1, ?_⟩
    replace k := k.2
    exact z_return (st := []) rfl dX5_lay_89 ⟨rfl, k⟩
  · replace k := k.2 h1
    refine z_aload_n dX5_lay_40 rfl rfl ?_
    refine z_getr dX5_lay_41 fl_X5_9 lo0_22 rfl ?_
    refine z_iload dX5_lay_44 rfl ?_
    refine z_iload dX5_lay_46 rfl ?_
    refine z_iast dX5_lay_48 lo0_23 ⟨k.1, ?_⟩
    replace k := k.2
    refine z_aload_n dX5_lay_49 rfl rfl ?_
    refine z_getr dX5_lay_50 fl_X5_15 lo0_22 rfl ?_
    refine z_iload dX5_lay_53 rfl ?_
    refine z_aload_n dX5_lay_55 rfl rfl ?_
    refine z_getr dX5_lay_56 fl_X5_31 lo0_12 rfl ?_
    refine z_iload dX5_lay_59 rfl ?_
    refine z_iald dX5_lay_61 lo0_15 ⟨k.1, ?_⟩
    replace k := k.2
    refine z_iast dX5_lay_62 lo0_24 ⟨k.1, ?_⟩
    replace k := k.2
    refine z_aload_n dX5_lay_63 rfl rfl ?_
    refine z_aload_n dX5_lay_64 rfl rfl ?_
    refine z_iload dX5_lay_65 rfl ?_
    refine z_calli (I := m_X5_lay) (I2 := m_X1_before) (st := []) [.ref 3, .int x4] dX5_lay_67 ml_X5_34 rfl (by decide) lo0_12 rfl (Nat.le_of_ble_eq_true rfl) rfl (AMi.mono k (fun r67 M67 k => ?_))
    refine z_istore dX5_lay_70 (by decide) rfl ?_
    refine z_iinc (v := (x5 + 1)) dX5_lay_72 rfl rfl (by decide) rfl ?_
    refine z_goto 31 dX5_lay_75 (by decide) ?_
    exact k

set_option maxRecDepth 100000 in
set_option maxHeartbeats 4000000 in
theorem r_X5_heaviestOf_0 {P : Int32 → zM → Prop}  (F : Nat → Int32) (I : Nat → Nat → Int32) (J : Nat → Nat → Int64)
  (k : AW m_X5_heaviestOf (z_pi P) 4 [some (.ref 22), some (.ref 3), some (.int (-1)), some (.int 0)] [] (F, I, J)) :
  AMi m_X5_heaviestOf [.ref 22, .ref 3] (F, I, J) P := by
  refine z_entry (pad := 2) [some (.ref 22), some (.ref 3), none, none] (by decide) rfl rfl (fun _ => Nat.le_of_ble_eq_true rfl) ?_
  refine z_iconst (v := (-1)) dX5_heaviestOf_0 (by decide) ?_
  refine z_istore_n dX5_heaviestOf_1 rfl (by decide) rfl ?_
  refine z_iconst (v := 0) dX5_heaviestOf_2 (by decide) ?_
  refine z_istore_n dX5_heaviestOf_3 rfl (by decide) rfl ?_
  exact k

set_option maxRecDepth 100000 in
set_option maxHeartbeats 4000000 in
theorem r_X5_heaviestOf_4 {P : Int32 → zM → Prop} (x2 : Int32) (x3 : Int32) (F : Nat → Int32) (I : Nat → Nat → Int32) (J : Nat → Nat → Int64)
  (k : (((F 8) ≤ x3 → P x2 (F, I, J)) ∧ (¬ (F 8) ≤ x3 → ((x2 = (-1) → vp_in x3 100 ∧ AW m_X5_heaviestOf (z_pi P) 4 [some (.ref 22), some (.ref 3), some (.int (I 17 (zn x3))), some (.int (x3 + 1))] [] (F, I, J)) ∧ (¬ x2 = (-1) → vp_in x3 100 ∧ AMi m_X0_isHeavier [.ref 3, .int (I 17 (zn x3)), .int x2] (F, I, J) (fun r25 M25 => ((r25 = 0 → AW m_X5_heaviestOf (z_pi P) 4 [some (.ref 22), some (.ref 3), some (.int x2), some (.int (x3 + 1))] [] M25) ∧ (¬ r25 = 0 → vp_in x3 100 ∧ AW m_X5_heaviestOf (z_pi P) 4 [some (.ref 22), some (.ref 3), some (.int (M25.2.1 17 (zn x3))), some (.int (x3 + 1))] [] M25)))))))) :
  AW m_X5_heaviestOf (z_pi P) 4 [some (.ref 22), some (.ref 3), some (.int x2), some (.int x3)] [] (F, I, J) := by
  refine z_iload_n dX5_heaviestOf_4 rfl rfl ?_
  refine z_aload_n dX5_heaviestOf_5 rfl rfl ?_
  refine z_geti dX5_heaviestOf_6 fl_X5_18 lo0_22 rfl ?_
  refine z_icmp_ge 44 dX5_heaviestOf_9 (by decide) ⟨fun h1 => ?_, fun h1 => ?_⟩
  · replace k := k.1 h1
    refine z_iload_n dX5_heaviestOf_44 rfl rfl ?_
    exact z_ireturn (st := []) rfl dX5_heaviestOf_45 ⟨_, rfl, k⟩
  · replace k := k.2 h1
    refine z_iload_n dX5_heaviestOf_12 rfl rfl ?_
    refine z_iconst (v := (-1)) dX5_heaviestOf_13 (by decide) ?_
    refine z_icmp_eq 31 dX5_heaviestOf_14 (by decide) ⟨fun h2 => ?_, fun h2 => ?_⟩
    · replace k := k.1 h2
      refine z_aload_n dX5_heaviestOf_31 rfl rfl ?_
      refine z_getr dX5_heaviestOf_32 fl_X5_15 lo0_22 rfl ?_
      refine z_iload_n dX5_heaviestOf_35 rfl rfl ?_
      refine z_iald dX5_heaviestOf_36 lo0_24 ⟨k.1, ?_⟩
      replace k := k.2
      refine z_istore_n dX5_heaviestOf_37 rfl (by decide) rfl ?_
      refine z_iinc (v := (x3 + 1)) dX5_heaviestOf_38 rfl rfl (by decide) rfl ?_
      refine z_goto 4 dX5_heaviestOf_41 (by decide) ?_
      exact k
    · replace k := k.2 h2
      refine z_aload_n dX5_heaviestOf_17 rfl rfl ?_
      refine z_aload_n dX5_heaviestOf_18 rfl rfl ?_
      refine z_getr dX5_heaviestOf_19 fl_X5_15 lo0_22 rfl ?_
      refine z_iload_n dX5_heaviestOf_22 rfl rfl ?_
      refine z_iald dX5_heaviestOf_23 lo0_24 ⟨k.1, ?_⟩
      replace k := k.2
      refine z_iload_n dX5_heaviestOf_24 rfl rfl ?_
      refine z_calli (I := m_X5_heaviestOf) (I2 := m_X0_isHeavier) (st := []) [.int (I 17 (zn x3)), .int x2] dX5_heaviestOf_25 ml_X5_38 rfl (by decide) lo0_3 rfl (Nat.le_of_ble_eq_true rfl) rfl (AMi.mono k (fun r25 M25 k => ?_))
      refine z_if_eq 38 dX5_heaviestOf_28 (by decide) ⟨fun h3 => ?_, fun h3 => ?_⟩
      · replace k := k.1 h3
        refine z_iinc (v := (x3 + 1)) dX5_heaviestOf_38 rfl rfl (by decide) rfl ?_
        refine z_goto 4 dX5_heaviestOf_41 (by decide) ?_
        exact k
      · replace k := k.2 h3
        refine z_aload_n dX5_heaviestOf_31 rfl rfl ?_
        refine z_getr dX5_heaviestOf_32 fl_X5_15 lo0_22 rfl ?_
        refine z_iload_n dX5_heaviestOf_35 rfl rfl ?_
        refine z_iald dX5_heaviestOf_36 lo0_24 ⟨k.1, ?_⟩
        replace k := k.2
        refine z_istore_n dX5_heaviestOf_37 rfl (by decide) rfl ?_
        refine z_iinc (v := (x3 + 1)) dX5_heaviestOf_38 rfl rfl (by decide) rfl ?_
        refine z_goto 4 dX5_heaviestOf_41 (by decide) ?_
        exact k

set_option maxRecDepth 100000 in
set_option maxHeartbeats 4000000 in
theorem r_J7_fill_53178_0 {P : zM → Prop} (x1 : Int32) (F : Nat → Int32) (I : Nat → Nat → Int32) (J : Nat → Nat → Int64)
  (k : AW m_J7_fill_53178 (z_pv P) 5 [some (.ref 26), some (.int x1), some (.int 0), some (.int 100)] [] (F, I, J)) :
  AMv m_J7_fill_53178 [.ref 26, .int x1] (F, I, J) P := by
  refine z_entry (pad := 2) [some (.ref 26), some (.int x1), none, none] (by decide) rfl rfl (fun _ => Nat.le_of_ble_eq_true rfl) ?_
  refine z_iconst (v := 0) dJ7_fill_53178_0 (by decide) ?_
  refine z_istore_n dJ7_fill_53178_1 rfl (by decide) rfl ?_
  refine z_aload_n dJ7_fill_53178_2 rfl rfl ?_
  refine z_alen (v := 100) dJ7_fill_53178_3 lo0_26 (by decide) rfl ?_
  refine z_istore_n dJ7_fill_53178_4 rfl (by decide) rfl ?_
  exact k

set_option maxRecDepth 100000 in
set_option maxHeartbeats 4000000 in
theorem r_J7_fill_53178_5 {P : zM → Prop} (x1 : Int32) (x2 : Int32) (x3 : Int32) (F : Nat → Int32) (I : Nat → Nat → Int32) (J : Nat → Nat → Int64)
  (k : ((x3 ≤ x2 → P (F, I, J)) ∧ (¬ x3 ≤ x2 → vp_in x2 100 ∧ AW m_J7_fill_53178 (z_pv P) 5 [some (.ref 26), some (.int x1), some (.int (x2 + 1)), some (.int x3)] [] (F, z_ui I 18 (zn x2) x1, J)))) :
  AW m_J7_fill_53178 (z_pv P) 5 [some (.ref 26), some (.int x1), some (.int x2), some (.int x3)] [] (F, I, J) := by
  refine z_iload_n dJ7_fill_53178_5 rfl rfl ?_
  refine z_iload_n dJ7_fill_53178_6 rfl rfl ?_
  refine z_icmp_ge 20 dJ7_fill_53178_7 (by decide) ⟨fun h1 => ?_, fun h1 => ?_⟩
  · replace k := k.1 h1
    exact z_return (st := []) rfl dJ7_fill_53178_20 ⟨rfl, k⟩
  · replace k := k.2 h1
    refine z_aload_n dJ7_fill_53178_10 rfl rfl ?_
    refine z_iload_n dJ7_fill_53178_11 rfl rfl ?_
    refine z_iload_n dJ7_fill_53178_12 rfl rfl ?_
    refine z_iast dJ7_fill_53178_13 lo0_26 ⟨k.1, ?_⟩
    replace k := k.2
    refine z_iinc (v := (x2 + 1)) dJ7_fill_53178_14 rfl rfl (by decide) rfl ?_
    refine z_goto 5 dJ7_fill_53178_17 (by decide) ?_
    exact k
