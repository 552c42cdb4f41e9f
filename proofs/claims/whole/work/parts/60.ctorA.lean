def wX1 (cA : Nat → ClassId) (ad : Nat → Nat) : va_W := [(ad 0, .inr (1, [.ref (ad 1), .ref (ad 2), .ref (ad 3), .ref (ad 4), .int 0])), (ad 1, .inl (cA 0, 100, .inl (fun _ => 0))), (ad 2, .inl (cA 0, 100, .inl (fun _ => 0))), (ad 3, .inl (cA 0, 100, .inl (fun _ => 0))), (ad 4, .inl (cA 1, 100, .inl (fun _ => 0)))]
set_option maxHeartbeats 8000000 in
set_option maxRecDepth 100000 in
theorem k_X1_init (l : Launch) (D : va_G) (cA : Nat → ClassId) (h0 sz : Nat) : Met l yX1_init (k_ws yX1_init cX1_init 1) ({ frames := 1, cells := 4, slots := 400, locals := 32 }) (va_Pc [.ref h0] (fun U => U.heap.size = sz ∧ va_P D zcl [(h0, .inr (1, [.null, .null, .null, .null, .int 0]))] U.heap ∧ va_K D zcl (z_tys cA) U ∧ va_D (fun _ => True) [(h0, .inr (1, [.null, .null, .null, .null, .int 0]))]))
    (va_Qv (fun ad : Nat → Nat => ad 0 = h0) (fun ad t => va_P D zcl (wX1 cA ad) t.heap ∧ va_K D zcl (z_tys cA) t ∧ va_D (va_A [(h0, .inr (1, [.null, .null, .null, .null, .int 0]))] sz) (wX1 cA ad)) (va_A [(h0, .inr (1, [.null, .null, .null, .null, .int 0]))] sz)) 4 400 (va_A [(h0, .inr (1, [.null, .null, .null, .null, .int 0]))] sz) := by
  refine Met.ofW (cc := cX1_init) (maxL := 1) (ret := none) (by decide) rfl ?_
  intro p e s m args below meth c s₁ B hml hv
  obtain ⟨rfl, hsz, hP, hK, hD0⟩ := hv
  have hx := B.exec
  have hb := B.bytes
  have hr := B.returns
  have hts := atoms_spec (ws := k_ws yX1_init cX1_init 1) B.pre
  have hz : ∀ w ∈ zgw, w.before #[Value.ref h0] s = true := fun w h => hts w (List.mem_cons_of_mem _ h)
  have hown : s.vm.findClass RX1 = some m.cls := findClass_of_methodNamed B.named
  have hin : meth.name = "<init>" := (name_of_methodNamed B.named B.method).1
  subst hsz
  have hD := hD0.self (sz := s.heap.size)
  generalize hAe : va_A [(h0, .inr (1, [.null, .null, .null, .null, .int 0]))] s.heap.size = A at hD ⊢
  have hA : ∀ q : Nat, s.heap.size ≤ q → A q := fun q h => by rw [← hAe]; exact Or.inr h
  have hS : va_S A s.heap s.heap [] := va_S.rf
  have hl := lv_entry ([.ref h0]) (n := 1) (Nat.le_of_ble_eq_true rfl)
  rw [lg_entry_eq]
  generalize (lg_sl ([.ref h0]) ++ List.replicate (1 - (lg_sl ([.ref h0])).length) Slot.unset).toArray = ls at hl ⊢
  have hl : lv_has ls 1 [(0, .ref h0)] := hl
  refine lv_aload_n hx hb dX1_init_0 rfl (lv_at hl 0 rfl) ?_
  refine W.objInit hx hb hown (hz _ kw_0) (hz _ kw_1) (hz _ kw_2) rfl (by rw [hml]; exact hl.1) rfl dX1_init_1 (Nat.le_of_ble_eq_true rfl) (Nat.le_of_ble_eq_true rfl) ?_
  refine W.eq (g2 := F0 m 4 ls []) rfl ?_
  refine lv_aload_n hx hb dX1_init_4 rfl (lv_at hl 0 rfl) ?_
  refine lv_bipush (v := 100) hx hb dX1_init_5 (by decide) ?_
  refine z_newa (atype := .int) (a0 := (100, .inl (fun _ => 0))) hx hb (hz _ kw_3) rfl hK 0 rfl hP hD hS hA (fun _ => rfl) (by decide) (N' := 100) (by decide) (by decide) (Nat.le_of_ble_eq_true rfl) (Nat.le_of_ble_eq_true rfl) dX1_init_7 (fun q0 H hP hD hS => ?_)
  have hP : va_P D zcl [(h0, .inr (1, [.null, .null, .null, .null, .int 0])), (q0, .inl (cA 0, 100, .inl (fun _ => 0)))] H := hP
  have hD : va_D A [(h0, .inr (1, [.null, .null, .null, .null, .int 0])), (q0, .inl (cA 0, 100, .inl (fun _ => 0)))] := hD
  refine W.widen (k := 1) (n := 100) (by omega) (by omega) ?_
  refine va_putF (D := D) (ci := 1) (v := .ref q0) (ty := tyX1 0) (C := RX1) (T := TX1) (N := 5) hx hb hz uw_X1 tyX1 tyX1_ok nmX1 hown hK hP hD hS 0 rfl rfl 0 (by decide) (hz _ kw_4) (fun _ h9 => h9) rfl hin rfl (tyX1_ok 0 (by decide)) rfl rfl (Nat.le_of_ble_eq_true rfl) dX1_init_9 (fun H locs hP hD hS => ?_)
  have hP : va_P D zcl [(h0, .inr (1, [.ref q0, .null, .null, .null, .int 0])), (q0, .inl (cA 0, 100, .inl (fun _ => 0)))] H := hP
  have hD : va_D A [(h0, .inr (1, [.ref q0, .null, .null, .null, .int 0])), (q0, .inl (cA 0, 100, .inl (fun _ => 0)))] := hD
  refine lv_aload_n hx hb dX1_init_12 rfl (lv_at hl 0 rfl) ?_
  refine lv_bipush (v := 100) hx hb dX1_init_13 (by decide) ?_
  refine z_newa (atype := .int) (a0 := (100, .inl (fun _ => 0))) hx hb (hz _ kw_3) rfl hK 0 rfl hP hD hS hA (fun _ => rfl) (by decide) (N' := 100) (by decide) (by decide) (Nat.le_of_ble_eq_true rfl) (Nat.le_of_ble_eq_true rfl) dX1_init_15 (fun q1 H hP hD hS => ?_)
  have hP : va_P D zcl [(h0, .inr (1, [.ref q0, .null, .null, .null, .int 0])), (q0, .inl (cA 0, 100, .inl (fun _ => 0))), (q1, .inl (cA 0, 100, .inl (fun _ => 0)))] H := hP
  have hD : va_D A [(h0, .inr (1, [.ref q0, .null, .null, .null, .int 0])), (q0, .inl (cA 0, 100, .inl (fun _ => 0))), (q1, .inl (cA 0, 100, .inl (fun _ => 0)))] := hD
  refine W.widen (k := 2) (n := 200) (by omega) (by omega) ?_
  refine va_putF (D := D) (ci := 1) (v := .ref q1) (ty := tyX1 1) (C := RX1) (T := TX1) (N := 5) hx hb hz uw_X1 tyX1 tyX1_ok nmX1 hown hK hP hD hS 0 rfl rfl 1 (by decide) (hz _ kw_5) (fun _ h9 => h9) rfl hin rfl (tyX1_ok 1 (by decide)) rfl rfl (Nat.le_of_ble_eq_true rfl) dX1_init_17 (fun H locs hP hD hS => ?_)
  have hP : va_P D zcl [(h0, .inr (1, [.ref q0, .ref q1, .null, .null, .int 0])), (q0, .inl (cA 0, 100, .inl (fun _ => 0))), (q1, .inl (cA 0, 100, .inl (fun _ => 0)))] H := hP
  have hD : va_D A [(h0, .inr (1, [.ref q0, .ref q1, .null, .null, .int 0])), (q0, .inl (cA 0, 100, .inl (fun _ => 0))), (q1, .inl (cA 0, 100, .inl (fun _ => 0)))] := hD
  refine lv_aload_n hx hb dX1_init_20 rfl (lv_at hl 0 rfl) ?_
  refine lv_bipush (v := 100) hx hb dX1_init_21 (by decide) ?_
  refine z_newa (atype := .int) (a0 := (100, .inl (fun _ => 0))) hx hb (hz _ kw_3) rfl hK 0 rfl hP hD hS hA (fun _ => rfl) (by decide) (N' := 100) (by decide) (by decide) (Nat.le_of_ble_eq_true rfl) (Nat.le_of_ble_eq_true rfl) dX1_init_23 (fun q2 H hP hD hS => ?_)
  have hP : va_P D zcl [(h0, .inr (1, [.ref q0, .ref q1, .null, .null, .int 0])), (q0, .inl (cA 0, 100, .inl (fun _ => 0))), (q1, .inl (cA 0, 100, .inl (fun _ => 0))), (q2, .inl (cA 0, 100, .inl (fun _ => 0)))] H := hP
  have hD : va_D A [(h0, .inr (1, [.ref q0, .ref q1, .null, .null, .int 0])), (q0, .inl (cA 0, 100, .inl (fun _ => 0))), (q1, .inl (cA 0, 100, .inl (fun _ => 0))), (q2, .inl (cA 0, 100, .inl (fun _ => 0)))] := hD
  refine W.widen (k := 3) (n := 300) (by omega) (by omega) ?_
  refine va_putF (D := D) (ci := 1) (v := .ref q2) (ty := tyX1 2) (C := RX1) (T := TX1) (N := 5) hx hb hz uw_X1 tyX1 tyX1_ok nmX1 hown hK hP hD hS 0 rfl rfl 2 (by decide) (hz _ kw_6) (fun _ h9 => h9) rfl hin rfl (tyX1_ok 2 (by decide)) rfl rfl (Nat.le_of_ble_eq_true rfl) dX1_init_25 (fun H locs hP hD hS => ?_)
  have hP : va_P D zcl [(h0, .inr (1, [.ref q0, .ref q1, .ref q2, .null, .int 0])), (q0, .inl (cA 0, 100, .inl (fun _ => 0))), (q1, .inl (cA 0, 100, .inl (fun _ => 0))), (q2, .inl (cA 0, 100, .inl (fun _ => 0)))] H := hP
  have hD : va_D A [(h0, .inr (1, [.ref q0, .ref q1, .ref q2, .null, .int 0])), (q0, .inl (cA 0, 100, .inl (fun _ => 0))), (q1, .inl (cA 0, 100, .inl (fun _ => 0))), (q2, .inl (cA 0, 100, .inl (fun _ => 0)))] := hD
  refine lv_aload_n hx hb dX1_init_28 rfl (lv_at hl 0 rfl) ?_
  refine lv_bipush (v := 100) hx hb dX1_init_29 (by decide) ?_
  refine z_newa (atype := .boolean) (a0 := (100, .inl (fun _ => 0))) hx hb (hz _ kw_7) rfl hK 1 rfl hP hD hS hA (fun _ => rfl) (by decide) (N' := 100) (by decide) (by decide) (Nat.le_of_ble_eq_true rfl) (Nat.le_of_ble_eq_true rfl) dX1_init_31 (fun q3 H hP hD hS => ?_)
  have hP : va_P D zcl [(h0, .inr (1, [.ref q0, .ref q1, .ref q2, .null, .int 0])), (q0, .inl (cA 0, 100, .inl (fun _ => 0))), (q1, .inl (cA 0, 100, .inl (fun _ => 0))), (q2, .inl (cA 0, 100, .inl (fun _ => 0))), (q3, .inl (cA 1, 100, .inl (fun _ => 0)))] H := hP
  have hD : va_D A [(h0, .inr (1, [.ref q0, .ref q1, .ref q2, .null, .int 0])), (q0, .inl (cA 0, 100, .inl (fun _ => 0))), (q1, .inl (cA 0, 100, .inl (fun _ => 0))), (q2, .inl (cA 0, 100, .inl (fun _ => 0))), (q3, .inl (cA 1, 100, .inl (fun _ => 0)))] := hD
  refine W.widen (k := 4) (n := 400) (by omega) (by omega) ?_
  refine va_putF (D := D) (ci := 1) (v := .ref q3) (ty := tyX1 3) (C := RX1) (T := TX1) (N := 5) hx hb hz uw_X1 tyX1 tyX1_ok nmX1 hown hK hP hD hS 0 rfl rfl 3 (by decide) (hz _ kw_8) (fun _ h9 => h9) rfl hin rfl (tyX1_ok 3 (by decide)) rfl rfl (Nat.le_of_ble_eq_true rfl) dX1_init_33 (fun H locs hP hD hS => ?_)
  have hP : va_P D zcl [(h0, .inr (1, [.ref q0, .ref q1, .ref q2, .ref q3, .int 0])), (q0, .inl (cA 0, 100, .inl (fun _ => 0))), (q1, .inl (cA 0, 100, .inl (fun _ => 0))), (q2, .inl (cA 0, 100, .inl (fun _ => 0))), (q3, .inl (cA 1, 100, .inl (fun _ => 0)))] H := hP
  have hD : va_D A [(h0, .inr (1, [.ref q0, .ref q1, .ref q2, .ref q3, .int 0])), (q0, .inl (cA 0, 100, .inl (fun _ => 0))), (q1, .inl (cA 0, 100, .inl (fun _ => 0))), (q2, .inl (cA 0, 100, .inl (fun _ => 0))), (q3, .inl (cA 1, 100, .inl (fun _ => 0)))] := hD
  have hP9 : va_P D zcl (wX1 cA (fun i => ([h0, q0, q1, q2, q3] : List Nat).getD i 0)) H := hP.sub [0, 1, 2, 3, 4] rfl
  have hD9 : va_D A (wX1 cA (fun i => ([h0, q0, q1, q2, q3] : List Nat).getD i 0)) := hD.sub [0, 1, 2, 3, 4] (by decide) rfl
  exact W.vret hx hb hr (fun t ht hW => ⟨⟨_, rfl, rfl, by rw [ht]; exact hP9, va_K.moved hW.alike hK, hD9⟩, hS.F ht⟩) hS.2.2 dX1_init_36
def wX5 (cA : Nat → ClassId) (ad : Nat → Nat) : va_W := [(ad 0, .inr (5, [.ref (ad 1), .ref (ad 2), .int (-1)])), (ad 1, .inl (cA 0, 100, .inl (fun _ => 0))), (ad 2, .inl (cA 0, 100, .inl (fun _ => 0)))]
set_option maxHeartbeats 8000000 in
set_option maxRecDepth 100000 in
theorem k_X5_init (l : Launch) (D : va_G) (cA : Nat → ClassId) (h0 sz : Nat) : Met l yX5_init (k_ws yX5_init cX5_init 1) ({ frames := 1, cells := 2, slots := 200, locals := 32 }) (va_Pc [.ref h0] (fun U => U.heap.size = sz ∧ va_P D zcl [(h0, .inr (5, [.null, .null, .int 0]))] U.heap ∧ va_K D zcl (z_tys cA) U ∧ va_D (fun _ => True) [(h0, .inr (5, [.null, .null, .int 0]))]))
    (va_Qv (fun ad : Nat → Nat => ad 0 = h0) (fun ad t => va_P D zcl (wX5 cA ad) t.heap ∧ va_K D zcl (z_tys cA) t ∧ va_D (va_A [(h0, .inr (5, [.null, .null, .int 0]))] sz) (wX5 cA ad)) (va_A [(h0, .inr (5, [.null, .null, .int 0]))] sz)) 2 200 (va_A [(h0, .inr (5, [.null, .null, .int 0]))] sz) := by
  refine Met.ofW (cc := cX5_init) (maxL := 1) (ret := none) (by decide) rfl ?_
  intro p e s m args below meth c s₁ B hml hv
  obtain ⟨rfl, hsz, hP, hK, hD0⟩ := hv
  have hx := B.exec
  have hb := B.bytes
  have hr := B.returns
  have hts := atoms_spec (ws := k_ws yX5_init cX5_init 1) B.pre
  have hz : ∀ w ∈ zgw, w.before #[Value.ref h0] s = true := fun w h => hts w (List.mem_cons_of_mem _ h)
  have hown : s.vm.findClass RX5 = some m.cls := findClass_of_methodNamed B.named
  have hin : meth.name = "<init>" := (name_of_methodNamed B.named B.method).1
  subst hsz
  have hD := hD0.self (sz := s.heap.size)
  generalize hAe : va_A [(h0, .inr (5, [.null, .null, .int 0]))] s.heap.size = A at hD ⊢
  have hA : ∀ q : Nat, s.heap.size ≤ q → A q := fun q h => by rw [← hAe]; exact Or.inr h
  have hS : va_S A s.heap s.heap [] := va_S.rf
  have hl := lv_entry ([.ref h0]) (n := 1) (Nat.le_of_ble_eq_true rfl)
  rw [lg_entry_eq]
  generalize (lg_sl ([.ref h0]) ++ List.replicate (1 - (lg_sl ([.ref h0])).length) Slot.unset).toArray = ls at hl ⊢
  have hl : lv_has ls 1 [(0, .ref h0)] := hl
  refine lv_aload_n hx hb dX5_init_0 rfl (lv_at hl 0 rfl) ?_
  refine W.objInit hx hb hown (hz _ kw_9) (hz _ kw_1) (hz _ kw_2) rfl (by rw [hml]; exact hl.1) rfl dX5_init_1 (Nat.le_of_ble_eq_true rfl) (Nat.le_of_ble_eq_true rfl) ?_
  refine W.eq (g2 := F0 m 4 ls []) rfl ?_
  refine lv_aload_n hx hb dX5_init_4 rfl (lv_at hl 0 rfl) ?_
  refine lv_bipush (v := 100) hx hb dX5_init_5 (by decide) ?_
  refine z_newa (atype := .int) (a0 := (100, .inl (fun _ => 0))) hx hb (hz _ kw_3) rfl hK 0 rfl hP hD hS hA (fun _ => rfl) (by decide) (N' := 100) (by decide) (by decide) (Nat.le_of_ble_eq_true rfl) (Nat.le_of_ble_eq_true rfl) dX5_init_7 (fun q0 H hP hD hS => ?_)
  have hP : va_P D zcl [(h0, .inr (5, [.null, .null, .int 0])), (q0, .inl (cA 0, 100, .inl (fun _ => 0)))] H := hP
  have hD : va_D A [(h0, .inr (5, [.null, .null, .int 0])), (q0, .inl (cA 0, 100, .inl (fun _ => 0)))] := hD
  refine W.widen (k := 1) (n := 100) (by omega) (by omega) ?_
  refine va_putF (D := D) (ci := 5) (v := .ref q0) (ty := tyX5 0) (C := RX5) (T := TX5) (N := 3) hx hb hz uw_X5 tyX5 tyX5_ok nmX5 hown hK hP hD hS 0 rfl rfl 0 (by decide) (hz _ kw_10) (fun _ h9 => h9) rfl hin rfl (tyX5_ok 0 (by decide)) rfl rfl (Nat.le_of_ble_eq_true rfl) dX5_init_9 (fun H locs hP hD hS => ?_)
  have hP : va_P D zcl [(h0, .inr (5, [.ref q0, .null, .int 0])), (q0, .inl (cA 0, 100, .inl (fun _ => 0)))] H := hP
  have hD : va_D A [(h0, .inr (5, [.ref q0, .null, .int 0])), (q0, .inl (cA 0, 100, .inl (fun _ => 0)))] := hD
  refine lv_aload_n hx hb dX5_init_12 rfl (lv_at hl 0 rfl) ?_
  refine lv_bipush (v := 100) hx hb dX5_init_13 (by decide) ?_
  refine z_newa (atype := .int) (a0 := (100, .inl (fun _ => 0))) hx hb (hz _ kw_3) rfl hK 0 rfl hP hD hS hA (fun _ => rfl) (by decide) (N' := 100) (by decide) (by decide) (Nat.le_of_ble_eq_true rfl) (Nat.le_of_ble_eq_true rfl) dX5_init_15 (fun q1 H hP hD hS => ?_)
  have hP : va_P D zcl [(h0, .inr (5, [.ref q0, .null, .int 0])), (q0, .inl (cA 0, 100, .inl (fun _ => 0))), (q1, .inl (cA 0, 100, .inl (fun _ => 0)))] H := hP
  have hD : va_D A [(h0, .inr (5, [.ref q0, .null, .int 0])), (q0, .inl (cA 0, 100, .inl (fun _ => 0))), (q1, .inl (cA 0, 100, .inl (fun _ => 0)))] := hD
  refine W.widen (k := 2) (n := 200) (by omega) (by omega) ?_
  refine va_putF (D := D) (ci := 5) (v := .ref q1) (ty := tyX5 1) (C := RX5) (T := TX5) (N := 3) hx hb hz uw_X5 tyX5 tyX5_ok nmX5 hown hK hP hD hS 0 rfl rfl 1 (by decide) (hz _ kw_11) (fun _ h9 => h9) rfl hin rfl (tyX5_ok 1 (by decide)) rfl rfl (Nat.le_of_ble_eq_true rfl) dX5_init_17 (fun H locs hP hD hS => ?_)
  have hP : va_P D zcl [(h0, .inr (5, [.ref q0, .ref q1, .int 0])), (q0, .inl (cA 0, 100, .inl (fun _ => 0))), (q1, .inl (cA 0, 100, .inl (fun _ => 0)))] H := hP
  have hD : va_D A [(h0, .inr (5, [.ref q0, .ref q1, .int 0])), (q0, .inl (cA 0, 100, .inl (fun _ => 0))), (q1, .inl (cA 0, 100, .inl (fun _ => 0)))] := hD
  refine lv_aload_n hx hb dX5_init_20 rfl (lv_at hl 0 rfl) ?_
  refine lv_iconst (v := (-1)) hx hb dX5_init_21 (by decide) ?_
  refine va_put (D := D) (ci := 5) (v := .int (-1)) (ty := tyX5 2) (C := RX5) (T := TX5) (N := 3) hx hb hz uw_X5 tyX5 tyX5_ok nmX5 hown hK hP hD hS 0 rfl rfl 2 (by decide) (hz _ kw_12) (fun _ h9 => h9) rfl (tyX5_ok 2 (by decide)) rfl rfl (Nat.le_of_ble_eq_true rfl) dX5_init_22 (fun H locs hP hD hS => ?_)
  have hP : va_P D zcl [(h0, .inr (5, [.ref q0, .ref q1, .int (-1)])), (q0, .inl (cA 0, 100, .inl (fun _ => 0))), (q1, .inl (cA 0, 100, .inl (fun _ => 0)))] H := hP
  have hD : va_D A [(h0, .inr (5, [.ref q0, .ref q1, .int (-1)])), (q0, .inl (cA 0, 100, .inl (fun _ => 0))), (q1, .inl (cA 0, 100, .inl (fun _ => 0)))] := hD
  have hP9 : va_P D zcl (wX5 cA (fun i => ([h0, q0, q1] : List Nat).getD i 0)) H := hP.sub [0, 1, 2] rfl
  have hD9 : va_D A (wX5 cA (fun i => ([h0, q0, q1] : List Nat).getD i 0)) := hD.sub [0, 1, 2] (by decide) rfl
  exact W.vret hx hb hr (fun t ht hW => ⟨⟨_, rfl, rfl, by rw [ht]; exact hP9, va_K.moved hW.alike hK, hD9⟩, hS.F ht⟩) hS.2.2 dX5_init_25
def wX2 (cA : Nat → ClassId) (ad : Nat → Nat) : va_W := [(ad 0, .inr (2, [.ref (ad 1), .ref (ad 2), .ref (ad 3), .ref (ad 4), .ref (ad 5), .int 0, .int 0, .int 0, .int 0])), (ad 1, .inl (cA 0, 100, .inl (fun _ => 0))), (ad 2, .inl (cA 0, 100, .inl (fun _ => 0))), (ad 3, .inl (cA 0, 100, .inl (fun _ => 0))), (ad 4, .inl (cA 0, 100, .inl (fun _ => 0))), (ad 5, .inl (cA 1, 100, .inl (fun _ => 0)))]
set_option maxHeartbeats 8000000 in
set_option maxRecDepth 100000 in
theorem k_X2_init (l : Launch) (D : va_G) (cA : Nat → ClassId) (h0 sz : Nat) : Met l yX2_init (k_ws yX2_init cX2_init 1) ({ frames := 1, cells := 5, slots := 500, locals := 32 }) (va_Pc [.ref h0] (fun U => U.heap.size = sz ∧ va_P D zcl [(h0, .inr (2, [.null, .null, .null, .null, .null, .int 0, .int 0, .int 0, .int 0]))] U.heap ∧ va_K D zcl (z_tys cA) U ∧ va_D (fun _ => True) [(h0, .inr (2, [.null, .null, .null, .null, .null, .int 0, .int 0, .int 0, .int 0]))]))
    (va_Qv (fun ad : Nat → Nat => ad 0 = h0) (fun ad t => va_P D zcl (wX2 cA ad) t.heap ∧ va_K D zcl (z_tys cA) t ∧ va_D (va_A [(h0, .inr (2, [.null, .null, .null, .null, .null, .int 0, .int 0, .int 0, .int 0]))] sz) (wX2 cA ad)) (va_A [(h0, .inr (2, [.null, .null, .null, .null, .null, .int 0, .int 0, .int 0, .int 0]))] sz)) 5 500 (va_A [(h0, .inr (2, [.null, .null, .null, .null, .null, .int 0, .int 0, .int 0, .int 0]))] sz) := by
  refine Met.ofW (cc := cX2_init) (maxL := 1) (ret := none) (by decide) rfl ?_
  intro p e s m args below meth c s₁ B hml hv
  obtain ⟨rfl, hsz, hP, hK, hD0⟩ := hv
  have hx := B.exec
  have hb := B.bytes
  have hr := B.returns
  have hts := atoms_spec (ws := k_ws yX2_init cX2_init 1) B.pre
  have hz : ∀ w ∈ zgw, w.before #[Value.ref h0] s = true := fun w h => hts w (List.mem_cons_of_mem _ h)
  have hown : s.vm.findClass RX2 = some m.cls := findClass_of_methodNamed B.named
  have hin : meth.name = "<init>" := (name_of_methodNamed B.named B.method).1
  subst hsz
  have hD := hD0.self (sz := s.heap.size)
  generalize hAe : va_A [(h0, .inr (2, [.null, .null, .null, .null, .null, .int 0, .int 0, .int 0, .int 0]))] s.heap.size = A at hD ⊢
  have hA : ∀ q : Nat, s.heap.size ≤ q → A q := fun q h => by rw [← hAe]; exact Or.inr h
  have hS : va_S A s.heap s.heap [] := va_S.rf
  have hl := lv_entry ([.ref h0]) (n := 1) (Nat.le_of_ble_eq_true rfl)
  rw [lg_entry_eq]
  generalize (lg_sl ([.ref h0]) ++ List.replicate (1 - (lg_sl ([.ref h0])).length) Slot.unset).toArray = ls at hl ⊢
  have hl : lv_has ls 1 [(0, .ref h0)] := hl
  refine lv_aload_n hx hb dX2_init_0 rfl (lv_at hl 0 rfl) ?_
  refine W.objInit hx hb hown (hz _ kw_13) (hz _ kw_1) (hz _ kw_2) rfl (by rw [hml]; exact hl.1) rfl dX2_init_1 (Nat.le_of_ble_eq_true rfl) (Nat.le_of_ble_eq_true rfl) ?_
  refine W.eq (g2 := F0 m 4 ls []) rfl ?_
  refine lv_aload_n hx hb dX2_init_4 rfl (lv_at hl 0 rfl) ?_
  refine lv_bipush (v := 100) hx hb dX2_init_5 (by decide) ?_
  refine z_newa (atype := .int) (a0 := (100, .inl (fun _ => 0))) hx hb (hz _ kw_3) rfl hK 0 rfl hP hD hS hA (fun _ => rfl) (by decide) (N' := 100) (by decide) (by decide) (Nat.le_of_ble_eq_true rfl) (Nat.le_of_ble_eq_true rfl) dX2_init_7 (fun q0 H hP hD hS => ?_)
  have hP : va_P D zcl [(h0, .inr (2, [.null, .null, .null, .null, .null, .int 0, .int 0, .int 0, .int 0])), (q0, .inl (cA 0, 100, .inl (fun _ => 0)))] H := hP
  have hD : va_D A [(h0, .inr (2, [.null, .null, .null, .null, .null, .int 0, .int 0, .int 0, .int 0])), (q0, .inl (cA 0, 100, .inl (fun _ => 0)))] := hD
  refine W.widen (k := 1) (n := 100) (by omega) (by omega) ?_
  refine va_putF (D := D) (ci := 2) (v := .ref q0) (ty := tyX2 0) (C := RX2) (T := TX2) (N := 9) hx hb hz uw_X2 tyX2 tyX2_ok nmX2 hown hK hP hD hS 0 rfl rfl 0 (by decide) (hz _ kw_14) (fun _ h9 => h9) rfl hin rfl (tyX2_ok 0 (by decide)) rfl rfl (Nat.le_of_ble_eq_true rfl) dX2_init_9 (fun H locs hP hD hS => ?_)
  have hP : va_P D zcl [(h0, .inr (2, [.ref q0, .null, .null, .null, .null, .int 0, .int 0, .int 0, .int 0])), (q0, .inl (cA 0, 100, .inl (fun _ => 0)))] H := hP
  have hD : va_D A [(h0, .inr (2, [.ref q0, .null, .null, .null, .null, .int 0, .int 0, .int 0, .int 0])), (q0, .inl (cA 0, 100, .inl (fun _ => 0)))] := hD
  refine lv_aload_n hx hb dX2_init_12 rfl (lv_at hl 0 rfl) ?_
  refine lv_bipush (v := 100) hx hb dX2_init_13 (by decide) ?_
  refine z_newa (atype := .int) (a0 := (100, .inl (fun _ => 0))) hx hb (hz _ kw_3) rfl hK 0 rfl hP hD hS hA (fun _ => rfl) (by decide) (N' := 100) (by decide) (by decide) (Nat.le_of_ble_eq_true rfl) (Nat.le_of_ble_eq_true rfl) dX2_init_15 (fun q1 H hP hD hS => ?_)
  have hP : va_P D zcl [(h0, .inr (2, [.ref q0, .null, .null, .null, .null, .int 0, .int 0, .int 0, .int 0])), (q0, .inl (cA 0, 100, .inl (fun _ => 0))), (q1, .inl (cA 0, 100, .inl (fun _ => 0)))] H := hP
  have hD : va_D A [(h0, .inr (2, [.ref q0, .null, .null, .null, .null, .int 0, .int 0, .int 0, .int 0])), (q0, .inl (cA 0, 100, .inl (fun _ => 0))), (q1, .inl (cA 0, 100, .inl (fun _ => 0)))] := hD
  refine W.widen (k := 2) (n := 200) (by omega) (by omega) ?_
  refine va_putF (D := D) (ci := 2) (v := .ref q1) (ty := tyX2 1) (C := RX2) (T := TX2) (N := 9) hx hb hz uw_X2 tyX2 tyX2_ok nmX2 hown hK hP hD hS 0 rfl rfl 1 (by decide) (hz _ kw_15) (fun _ h9 => h9) rfl hin rfl (tyX2_ok 1 (by decide)) rfl rfl (Nat.le_of_ble_eq_true rfl) dX2_init_17 (fun H locs hP hD hS => ?_)
  have hP : va_P D zcl [(h0, .inr (2, [.ref q0, .ref q1, .null, .null, .null, .int 0, .int 0, .int 0, .int 0])), (q0, .inl (cA 0, 100, .inl (fun _ => 0))), (q1, .inl (cA 0, 100, .inl (fun _ => 0)))] H := hP
  have hD : va_D A [(h0, .inr (2, [.ref q0, .ref q1, .null, .null, .null, .int 0, .int 0, .int 0, .int 0])), (q0, .inl (cA 0, 100, .inl (fun _ => 0))), (q1, .inl (cA 0, 100, .inl (fun _ => 0)))] := hD
  refine lv_aload_n hx hb dX2_init_20 rfl (lv_at hl 0 rfl) ?_
  refine lv_bipush (v := 100) hx hb dX2_init_21 (by decide) ?_
  refine z_newa (atype := .int) (a0 := (100, .inl (fun _ => 0))) hx hb (hz _ kw_3) rfl hK 0 rfl hP hD hS hA (fun _ => rfl) (by decide) (N' := 100) (by decide) (by decide) (Nat.le_of_ble_eq_true rfl) (Nat.le_of_ble_eq_true rfl) dX2_init_23 (fun q2 H hP hD hS => ?_)
  have hP : va_P D zcl [(h0, .inr (2, [.ref q0, .ref q1, .null, .null, .null, .int 0, .int 0, .int 0, .int 0])), (q0, .inl (cA 0, 100, .inl (fun _ => 0))), (q1, .inl (cA 0, 100, .inl (fun _ => 0))), (q2, .inl (cA 0, 100, .inl (fun _ => 0)))] H := hP
  have hD : va_D A [(h0, .inr (2, [.ref q0, .ref q1, .null, .null, .null, .int 0, .int 0, .int 0, .int 0])), (q0, .inl (cA 0, 100, .inl (fun _ => 0))), (q1, .inl (cA 0, 100, .inl (fun _ => 0))), (q2, .inl (cA 0, 100, .inl (fun _ => 0)))] := hD
  refine W.widen (k := 3) (n := 300) (by omega) (by omega) ?_
  refine va_putF (D := D) (ci := 2) (v := .ref q2) (ty := tyX2 2) (C := RX2) (T := TX2) (N := 9) hx hb hz uw_X2 tyX2 tyX2_ok nmX2 hown hK hP hD hS 0 rfl rfl 2 (by decide) (hz _ kw_16) (fun _ h9 => h9) rfl hin rfl (tyX2_ok 2 (by decide)) rfl rfl (Nat.le_of_ble_eq_true rfl) dX2_init_25 (fun H locs hP hD hS => ?_)
  have hP : va_P D zcl [(h0, .inr (2, [.ref q0, .ref q1, .ref q2, .null, .null, .int 0, .int 0, .int 0, .int 0])), (q0, .inl (cA 0, 100, .inl (fun _ => 0))), (q1, .inl (cA 0, 100, .inl (fun _ => 0))), (q2, .inl (cA 0, 100, .inl (fun _ => 0)))] H := hP
  have hD : va_D A [(h0, .inr (2, [.ref q0, .ref q1, .ref q2, .null, .null, .int 0, .int 0, .int 0, .int 0])), (q0, .inl (cA 0, 100, .inl (fun _ => 0))), (q1, .inl (cA 0, 100, .inl (fun _ => 0))), (q2, .inl (cA 0, 100, .inl (fun _ => 0)))] := hD
  refine lv_aload_n hx hb dX2_init_28 rfl (lv_at hl 0 rfl) ?_
  refine lv_bipush (v := 100) hx hb dX2_init_29 (by decide) ?_
  refine z_newa (atype := .int) (a0 := (100, .inl (fun _ => 0))) hx hb (hz _ kw_3) rfl hK 0 rfl hP hD hS hA (fun _ => rfl) (by decide) (N' := 100) (by decide) (by decide) (Nat.le_of_ble_eq_true rfl) (Nat.le_of_ble_eq_true rfl) dX2_init_31 (fun q3 H hP hD hS => ?_)
  have hP : va_P D zcl [(h0, .inr (2, [.ref q0, .ref q1, .ref q2, .null, .null, .int 0, .int 0, .int 0, .int 0])), (q0, .inl (cA 0, 100, .inl (fun _ => 0))), (q1, .inl (cA 0, 100, .inl (fun _ => 0))), (q2, .inl (cA 0, 100, .inl (fun _ => 0))), (q3, .inl (cA 0, 100, .inl (fun _ => 0)))] H := hP
  have hD : va_D A [(h0, .inr (2, [.ref q0, .ref q1, .ref q2, .null, .null, .int 0, .int 0, .int 0, .int 0])), (q0, .inl (cA 0, 100, .inl (fun _ => 0))), (q1, .inl (cA 0, 100, .inl (fun _ => 0))), (q2, .inl (cA 0, 100, .inl (fun _ => 0))), (q3, .inl (cA 0, 100, .inl (fun _ => 0)))] := hD
  refine W.widen (k := 4) (n := 400) (by omega) (by omega) ?_
  refine va_putF (D := D) (ci := 2) (v := .ref q3) (ty := tyX2 3) (C := RX2) (T := TX2) (N := 9) hx hb hz uw_X2 tyX2 tyX2_ok nmX2 hown hK hP hD hS 0 rfl rfl 3 (by decide) (hz _ kw_17) (fun _ h9 => h9) rfl hin rfl (tyX2_ok 3 (by decide)) rfl rfl (Nat.le_of_ble_eq_true rfl) dX2_init_33 (fun H locs hP hD hS => ?_)
  have hP : va_P D zcl [(h0, .inr (2, [.ref q0, .ref q1, .ref q2, .ref q3, .null, .int 0, .int 0, .int 0, .int 0])), (q0, .inl (cA 0, 100, .inl (fun _ => 0))), (q1, .inl (cA 0, 100, .inl (fun _ => 0))), (q2, .inl (cA 0, 100, .inl (fun _ => 0))), (q3, .inl (cA 0, 100, .inl (fun _ => 0)))] H := hP
  have hD : va_D A [(h0, .inr (2, [.ref q0, .ref q1, .ref q2, .ref q3, .null, .int 0, .int 0, .int 0, .int 0])), (q0, .inl (cA 0, 100, .inl (fun _ => 0))), (q1, .inl (cA 0, 100, .inl (fun _ => 0))), (q2, .inl (cA 0, 100, .inl (fun _ => 0))), (q3, .inl (cA 0, 100, .inl (fun _ => 0)))] := hD
  refine lv_aload_n hx hb dX2_init_36 rfl (lv_at hl 0 rfl) ?_
  refine lv_bipush (v := 100) hx hb dX2_init_37 (by decide) ?_
  refine z_newa (atype := .boolean) (a0 := (100, .inl (fun _ => 0))) hx hb (hz _ kw_7) rfl hK 1 rfl hP hD hS hA (fun _ => rfl) (by decide) (N' := 100) (by decide) (by decide) (Nat.le_of_ble_eq_true rfl) (Nat.le_of_ble_eq_true rfl) dX2_init_39 (fun q4 H hP hD hS => ?_)
  have hP : va_P D zcl [(h0, .inr (2, [.ref q0, .ref q1, .ref q2, .ref q3, .null, .int 0, .int 0, .int 0, .int 0])), (q0, .inl (cA 0, 100, .inl (fun _ => 0))), (q1, .inl (cA 0, 100, .inl (fun _ => 0))), (q2, .inl (cA 0, 100, .inl (fun _ => 0))), (q3, .inl (cA 0, 100, .inl (fun _ => 0))), (q4, .inl (cA 1, 100, .inl (fun _ => 0)))] H := hP
  have hD : va_D A [(h0, .inr (2, [.ref q0, .ref q1, .ref q2, .ref q3, .null, .int 0, .int 0, .int 0, .int 0])), (q0, .inl (cA 0, 100, .inl (fun _ => 0))), (q1, .inl (cA 0, 100, .inl (fun _ => 0))), (q2, .inl (cA 0, 100, .inl (fun _ => 0))), (q3, .inl (cA 0, 100, .inl (fun _ => 0))), (q4, .inl (cA 1, 100, .inl (fun _ => 0)))] := hD
  refine W.widen (k := 5) (n := 500) (by omega) (by omega) ?_
  refine va_putF (D := D) (ci := 2) (v := .ref q4) (ty := tyX2 4) (C := RX2) (T := TX2) (N := 9) hx hb hz uw_X2 tyX2 tyX2_ok nmX2 hown hK hP hD hS 0 rfl rfl 4 (by decide) (hz _ kw_18) (fun _ h9 => h9) rfl hin rfl (tyX2_ok 4 (by decide)) rfl rfl (Nat.le_of_ble_eq_true rfl) dX2_init_41 (fun H locs hP hD hS => ?_)
  have hP : va_P D zcl [(h0, .inr (2, [.ref q0, .ref q1, .ref q2, .ref q3, .ref q4, .int 0, .int 0, .int 0, .int 0])), (q0, .inl (cA 0, 100, .inl (fun _ => 0))), (q1, .inl (cA 0, 100, .inl (fun _ => 0))), (q2, .inl (cA 0, 100, .inl (fun _ => 0))), (q3, .inl (cA 0, 100, .inl (fun _ => 0))), (q4, .inl (cA 1, 100, .inl (fun _ => 0)))] H := hP
  have hD : va_D A [(h0, .inr (2, [.ref q0, .ref q1, .ref q2, .ref q3, .ref q4, .int 0, .int 0, .int 0, .int 0])), (q0, .inl (cA 0, 100, .inl (fun _ => 0))), (q1, .inl (cA 0, 100, .inl (fun _ => 0))), (q2, .inl (cA 0, 100, .inl (fun _ => 0))), (q3, .inl (cA 0, 100, .inl (fun _ => 0))), (q4, .inl (cA 1, 100, .inl (fun _ => 0)))] := hD
  have hP9 : va_P D zcl (wX2 cA (fun i => ([h0, q0, q1, q2, q3, q4] : List Nat).getD i 0)) H := hP.sub [0, 1, 2, 3, 4, 5] rfl
  have hD9 : va_D A (wX2 cA (fun i => ([h0, q0, q1, q2, q3, q4] : List Nat).getD i 0)) := hD.sub [0, 1, 2, 3, 4, 5] (by decide) rfl
  exact W.vret hx hb hr (fun t ht hW => ⟨⟨_, rfl, rfl, by rw [ht]; exact hP9, va_K.moved hW.alike hK, hD9⟩, hS.F ht⟩) hS.2.2 dX2_init_44
def wX3 (cA : Nat → ClassId) (ad : Nat → Nat) : va_W := [(ad 0, .inr (3, [.ref (ad 1), .ref (ad 2), .ref (ad 3), .ref (ad 4), .int 0, .int 0])), (ad 1, .inl (cA 0, 20, .inl (fun _ => 0))), (ad 2, .inl (cA 0, 20, .inl (fun _ => 0))), (ad 3, .inl (cA 0, 20, .inl (fun _ => 0))), (ad 4, .inl (cA 2, 20, .inr (.inl (fun _ => 0))))]
set_option maxHeartbeats 8000000 in
set_option maxRecDepth 100000 in
theorem k_X3_init (l : Launch) (D : va_G) (cA : Nat → ClassId) (h0 sz : Nat) : Met l yX3_init (k_ws yX3_init cX3_init 1) ({ frames := 1, cells := 4, slots := 80, locals := 32 }) (va_Pc [.ref h0] (fun U => U.heap.size = sz ∧ va_P D zcl [(h0, .inr (3, [.null, .null, .null, .null, .int 0, .int 0]))] U.heap ∧ va_K D zcl (z_tys cA) U ∧ va_D (fun _ => True) [(h0, .inr (3, [.null, .null, .null, .null, .int 0, .int 0]))]))
    (va_Qv (fun ad : Nat → Nat => ad 0 = h0) (fun ad t => va_P D zcl (wX3 cA ad) t.heap ∧ va_K D zcl (z_tys cA) t ∧ va_D (va_A [(h0, .inr (3, [.null, .null, .null, .null, .int 0, .int 0]))] sz) (wX3 cA ad)) (va_A [(h0, .inr (3, [.null, .null, .null, .null, .int 0, .int 0]))] sz)) 4 80 (va_A [(h0, .inr (3, [.null, .null, .null, .null, .int 0, .int 0]))] sz) := by
  refine Met.ofW (cc := cX3_init) (maxL := 1) (ret := none) (by decide) rfl ?_
  intro p e s m args below meth c s₁ B hml hv
  obtain ⟨rfl, hsz, hP, hK, hD0⟩ := hv
  have hx := B.exec
  have hb := B.bytes
  have hr := B.returns
  have hts := atoms_spec (ws := k_ws yX3_init cX3_init 1) B.pre
  have hz : ∀ w ∈ zgw, w.before #[Value.ref h0] s = true := fun w h => hts w (List.mem_cons_of_mem _ h)
  have hown : s.vm.findClass RX3 = some m.cls := findClass_of_methodNamed B.named
  have hin : meth.name = "<init>" := (name_of_methodNamed B.named B.method).1
  subst hsz
  have hD := hD0.self (sz := s.heap.size)
  generalize hAe : va_A [(h0, .inr (3, [.null, .null, .null, .null, .int 0, .int 0]))] s.heap.size = A at hD ⊢
  have hA : ∀ q : Nat, s.heap.size ≤ q → A q := fun q h => by rw [← hAe]; exact Or.inr h
  have hS : va_S A s.heap s.heap [] := va_S.rf
  have hl := lv_entry ([.ref h0]) (n := 1) (Nat.le_of_ble_eq_true rfl)
  rw [lg_entry_eq]
  generalize (lg_sl ([.ref h0]) ++ List.replicate (1 - (lg_sl ([.ref h0])).length) Slot.unset).toArray = ls at hl ⊢
  have hl : lv_has ls 1 [(0, .ref h0)] := hl
  refine lv_aload_n hx hb dX3_init_0 rfl (lv_at hl 0 rfl) ?_
  refine W.objInit hx hb hown (hz _ kw_19) (hz _ kw_1) (hz _ kw_2) rfl (by rw [hml]; exact hl.1) rfl dX3_init_1 (Nat.le_of_ble_eq_true rfl) (Nat.le_of_ble_eq_true rfl) ?_
  refine W.eq (g2 := F0 m 4 ls []) rfl ?_
  refine lv_aload_n hx hb dX3_init_4 rfl (lv_at hl 0 rfl) ?_
  refine lv_bipush (v := 20) hx hb dX3_init_5 (by decide) ?_
  refine z_newa (atype := .int) (a0 := (20, .inl (fun _ => 0))) hx hb (hz _ kw_3) rfl hK 0 rfl hP hD hS hA (fun _ => rfl) (by decide) (N' := 20) (by decide) (by decide) (Nat.le_of_ble_eq_true rfl) (Nat.le_of_ble_eq_true rfl) dX3_init_7 (fun q0 H hP hD hS => ?_)
  have hP : va_P D zcl [(h0, .inr (3, [.null, .null, .null, .null, .int 0, .int 0])), (q0, .inl (cA 0, 20, .inl (fun _ => 0)))] H := hP
  have hD : va_D A [(h0, .inr (3, [.null, .null, .null, .null, .int 0, .int 0])), (q0, .inl (cA 0, 20, .inl (fun _ => 0)))] := hD
  refine W.widen (k := 1) (n := 20) (by omega) (by omega) ?_
  refine va_putF (D := D) (ci := 3) (v := .ref q0) (ty := tyX3 0) (C := RX3) (T := TX3) (N := 6) hx hb hz uw_X3 tyX3 tyX3_ok nmX3 hown hK hP hD hS 0 rfl rfl 0 (by decide) (hz _ kw_20) (fun _ h9 => h9) rfl hin rfl (tyX3_ok 0 (by decide)) rfl rfl (Nat.le_of_ble_eq_true rfl) dX3_init_9 (fun H locs hP hD hS => ?_)
  have hP : va_P D zcl [(h0, .inr (3, [.ref q0, .null, .null, .null, .int 0, .int 0])), (q0, .inl (cA 0, 20, .inl (fun _ => 0)))] H := hP
  have hD : va_D A [(h0, .inr (3, [.ref q0, .null, .null, .null, .int 0, .int 0])), (q0, .inl (cA 0, 20, .inl (fun _ => 0)))] := hD
  refine lv_aload_n hx hb dX3_init_12 rfl (lv_at hl 0 rfl) ?_
  refine lv_bipush (v := 20) hx hb dX3_init_13 (by decide) ?_
  refine z_newa (atype := .int) (a0 := (20, .inl (fun _ => 0))) hx hb (hz _ kw_3) rfl hK 0 rfl hP hD hS hA (fun _ => rfl) (by decide) (N' := 20) (by decide) (by decide) (Nat.le_of_ble_eq_true rfl) (Nat.le_of_ble_eq_true rfl) dX3_init_15 (fun q1 H hP hD hS => ?_)
  have hP : va_P D zcl [(h0, .inr (3, [.ref q0, .null, .null, .null, .int 0, .int 0])), (q0, .inl (cA 0, 20, .inl (fun _ => 0))), (q1, .inl (cA 0, 20, .inl (fun _ => 0)))] H := hP
  have hD : va_D A [(h0, .inr (3, [.ref q0, .null, .null, .null, .int 0, .int 0])), (q0, .inl (cA 0, 20, .inl (fun _ => 0))), (q1, .inl (cA 0, 20, .inl (fun _ => 0)))] := hD
  refine W.widen (k := 2) (n := 40) (by omega) (by omega) ?_
  refine va_putF (D := D) (ci := 3) (v := .ref q1) (ty := tyX3 1) (C := RX3) (T := TX3) (N := 6) hx hb hz uw_X3 tyX3 tyX3_ok nmX3 hown hK hP hD hS 0 rfl rfl 1 (by decide) (hz _ kw_21) (fun _ h9 => h9) rfl hin rfl (tyX3_ok 1 (by decide)) rfl rfl (Nat.le_of_ble_eq_true rfl) dX3_init_17 (fun H locs hP hD hS => ?_)
  have hP : va_P D zcl [(h0, .inr (3, [.ref q0, .ref q1, .null, .null, .int 0, .int 0])), (q0, .inl (cA 0, 20, .inl (fun _ => 0))), (q1, .inl (cA 0, 20, .inl (fun _ => 0)))] H := hP
  have hD : va_D A [(h0, .inr (3, [.ref q0, .ref q1, .null, .null, .int 0, .int 0])), (q0, .inl (cA 0, 20, .inl (fun _ => 0))), (q1, .inl (cA 0, 20, .inl (fun _ => 0)))] := hD
  refine lv_aload_n hx hb dX3_init_20 rfl (lv_at hl 0 rfl) ?_
  refine lv_bipush (v := 20) hx hb dX3_init_21 (by decide) ?_
  refine z_newa (atype := .int) (a0 := (20, .inl (fun _ => 0))) hx hb (hz _ kw_3) rfl hK 0 rfl hP hD hS hA (fun _ => rfl) (by decide) (N' := 20) (by decide) (by decide) (Nat.le_of_ble_eq_true rfl) (Nat.le_of_ble_eq_true rfl) dX3_init_23 (fun q2 H hP hD hS => ?_)
  have hP : va_P D zcl [(h0, .inr (3, [.ref q0, .ref q1, .null, .null, .int 0, .int 0])), (q0, .inl (cA 0, 20, .inl (fun _ => 0))), (q1, .inl (cA 0, 20, .inl (fun _ => 0))), (q2, .inl (cA 0, 20, .inl (fun _ => 0)))] H := hP
  have hD : va_D A [(h0, .inr (3, [.ref q0, .ref q1, .null, .null, .int 0, .int 0])), (q0, .inl (cA 0, 20, .inl (fun _ => 0))), (q1, .inl (cA 0, 20, .inl (fun _ => 0))), (q2, .inl (cA 0, 20, .inl (fun _ => 0)))] := hD
  refine W.widen (k := 3) (n := 60) (by omega) (by omega) ?_
  refine va_putF (D := D) (ci := 3) (v := .ref q2) (ty := tyX3 2) (C := RX3) (T := TX3) (N := 6) hx hb hz uw_X3 tyX3 tyX3_ok nmX3 hown hK hP hD hS 0 rfl rfl 2 (by decide) (hz _ kw_22) (fun _ h9 => h9) rfl hin rfl (tyX3_ok 2 (by decide)) rfl rfl (Nat.le_of_ble_eq_true rfl) dX3_init_25 (fun H locs hP hD hS => ?_)
  have hP : va_P D zcl [(h0, .inr (3, [.ref q0, .ref q1, .ref q2, .null, .int 0, .int 0])), (q0, .inl (cA 0, 20, .inl (fun _ => 0))), (q1, .inl (cA 0, 20, .inl (fun _ => 0))), (q2, .inl (cA 0, 20, .inl (fun _ => 0)))] H := hP
  have hD : va_D A [(h0, .inr (3, [.ref q0, .ref q1, .ref q2, .null, .int 0, .int 0])), (q0, .inl (cA 0, 20, .inl (fun _ => 0))), (q1, .inl (cA 0, 20, .inl (fun _ => 0))), (q2, .inl (cA 0, 20, .inl (fun _ => 0)))] := hD
  refine lv_aload_n hx hb dX3_init_28 rfl (lv_at hl 0 rfl) ?_
  refine lv_bipush (v := 20) hx hb dX3_init_29 (by decide) ?_
  refine z_newa (atype := .long) (a0 := (20, .inr (.inl (fun _ => 0)))) hx hb (hz _ kw_23) rfl hK 2 rfl hP hD hS hA (fun _ => rfl) (by decide) (N' := 20) (by decide) (by decide) (Nat.le_of_ble_eq_true rfl) (Nat.le_of_ble_eq_true rfl) dX3_init_31 (fun q3 H hP hD hS => ?_)
  have hP : va_P D zcl [(h0, .inr (3, [.ref q0, .ref q1, .ref q2, .null, .int 0, .int 0])), (q0, .inl (cA 0, 20, .inl (fun _ => 0))), (q1, .inl (cA 0, 20, .inl (fun _ => 0))), (q2, .inl (cA 0, 20, .inl (fun _ => 0))), (q3, .inl (cA 2, 20, .inr (.inl (fun _ => 0))))] H := hP
  have hD : va_D A [(h0, .inr (3, [.ref q0, .ref q1, .ref q2, .null, .int 0, .int 0])), (q0, .inl (cA 0, 20, .inl (fun _ => 0))), (q1, .inl (cA 0, 20, .inl (fun _ => 0))), (q2, .inl (cA 0, 20, .inl (fun _ => 0))), (q3, .inl (cA 2, 20, .inr (.inl (fun _ => 0))))] := hD
  refine W.widen (k := 4) (n := 80) (by omega) (by omega) ?_
  refine va_putF (D := D) (ci := 3) (v := .ref q3) (ty := tyX3 3) (C := RX3) (T := TX3) (N := 6) hx hb hz uw_X3 tyX3 tyX3_ok nmX3 hown hK hP hD hS 0 rfl rfl 3 (by decide) (hz _ kw_24) (fun _ h9 => h9) rfl hin rfl (tyX3_ok 3 (by decide)) rfl rfl (Nat.le_of_ble_eq_true rfl) dX3_init_33 (fun H locs hP hD hS => ?_)
  have hP : va_P D zcl [(h0, .inr (3, [.ref q0, .ref q1, .ref q2, .ref q3, .int 0, .int 0])), (q0, .inl (cA 0, 20, .inl (fun _ => 0))), (q1, .inl (cA 0, 20, .inl (fun _ => 0))), (q2, .inl (cA 0, 20, .inl (fun _ => 0))), (q3, .inl (cA 2, 20, .inr (.inl (fun _ => 0))))] H := hP
  have hD : va_D A [(h0, .inr (3, [.ref q0, .ref q1, .ref q2, .ref q3, .int 0, .int 0])), (q0, .inl (cA 0, 20, .inl (fun _ => 0))), (q1, .inl (cA 0, 20, .inl (fun _ => 0))), (q2, .inl (cA 0, 20, .inl (fun _ => 0))), (q3, .inl (cA 2, 20, .inr (.inl (fun _ => 0))))] := hD
  have hP9 : va_P D zcl (wX3 cA (fun i => ([h0, q0, q1, q2, q3] : List Nat).getD i 0)) H := hP.sub [0, 1, 2, 3, 4] rfl
  have hD9 : va_D A (wX3 cA (fun i => ([h0, q0, q1, q2, q3] : List Nat).getD i 0)) := hD.sub [0, 1, 2, 3, 4] (by decide) rfl
  exact W.vret hx hb hr (fun t ht hW => ⟨⟨_, rfl, rfl, by rw [ht]; exact hP9, va_K.moved hW.alike hK, hD9⟩, hS.F ht⟩) hS.2.2 dX3_init_36
def wX4 (cA : Nat → ClassId) (ad : Nat → Nat) : va_W := [(ad 0, .inr (4, [.ref (ad 1), .int 0, .int 0])), (ad 1, .inl (cA 2, 100, .inr (.inl (fun _ => 0))))]
set_option maxHeartbeats 8000000 in
set_option maxRecDepth 100000 in
theorem k_X4_init (l : Launch) (D : va_G) (cA : Nat → ClassId) (h0 sz : Nat) : Met l yX4_init (k_ws yX4_init cX4_init 1) ({ frames := 1, cells := 1, slots := 100, locals := 32 }) (va_Pc [.ref h0] (fun U => U.heap.size = sz ∧ va_P D zcl [(h0, .inr (4, [.null, .int 0, .int 0]))] U.heap ∧ va_K D zcl (z_tys cA) U ∧ va_D (fun _ => True) [(h0, .inr (4, [.null, .int 0, .int 0]))]))
    (va_Qv (fun ad : Nat → Nat => ad 0 = h0) (fun ad t => va_P D zcl (wX4 cA ad) t.heap ∧ va_K D zcl (z_tys cA) t ∧ va_D (va_A [(h0, .inr (4, [.null, .int 0, .int 0]))] sz) (wX4 cA ad)) (va_A [(h0, .inr (4, [.null, .int 0, .int 0]))] sz)) 1 100 (va_A [(h0, .inr (4, [.null, .int 0, .int 0]))] sz) := by
  refine Met.ofW (cc := cX4_init) (maxL := 1) (ret := none) (by decide) rfl ?_
  intro p e s m args below meth c s₁ B hml hv
  obtain ⟨rfl, hsz, hP, hK, hD0⟩ := hv
  have hx := B.exec
  have hb := B.bytes
  have hr := B.returns
  have hts := atoms_spec (ws := k_ws yX4_init cX4_init 1) B.pre
  have hz : ∀ w ∈ zgw, w.before #[Value.ref h0] s = true := fun w h => hts w (List.mem_cons_of_mem _ h)
  have hown : s.vm.findClass RX4 = some m.cls := findClass_of_methodNamed B.named
  have hin : meth.name = "<init>" := (name_of_methodNamed B.named B.method).1
  subst hsz
  have hD := hD0.self (sz := s.heap.size)
  generalize hAe : va_A [(h0, .inr (4, [.null, .int 0, .int 0]))] s.heap.size = A at hD ⊢
  have hA : ∀ q : Nat, s.heap.size ≤ q → A q := fun q h => by rw [← hAe]; exact Or.inr h
  have hS : va_S A s.heap s.heap [] := va_S.rf
  have hl := lv_entry ([.ref h0]) (n := 1) (Nat.le_of_ble_eq_true rfl)
  rw [lg_entry_eq]
  generalize (lg_sl ([.ref h0]) ++ List.replicate (1 - (lg_sl ([.ref h0])).length) Slot.unset).toArray = ls at hl ⊢
  have hl : lv_has ls 1 [(0, .ref h0)] := hl
  refine lv_aload_n hx hb dX4_init_0 rfl (lv_at hl 0 rfl) ?_
  refine W.objInit hx hb hown (hz _ kw_25) (hz _ kw_1) (hz _ kw_2) rfl (by rw [hml]; exact hl.1) rfl dX4_init_1 (Nat.le_of_ble_eq_true rfl) (Nat.le_of_ble_eq_true rfl) ?_
  refine W.eq (g2 := F0 m 4 ls []) rfl ?_
  refine lv_aload_n hx hb dX4_init_4 rfl (lv_at hl 0 rfl) ?_
  refine lv_bipush (v := 100) hx hb dX4_init_5 (by decide) ?_
  refine z_newa (atype := .long) (a0 := (100, .inr (.inl (fun _ => 0)))) hx hb (hz _ kw_23) rfl hK 2 rfl hP hD hS hA (fun _ => rfl) (by decide) (N' := 100) (by decide) (by decide) (Nat.le_of_ble_eq_true rfl) (Nat.le_of_ble_eq_true rfl) dX4_init_7 (fun q0 H hP hD hS => ?_)
  have hP : va_P D zcl [(h0, .inr (4, [.null, .int 0, .int 0])), (q0, .inl (cA 2, 100, .inr (.inl (fun _ => 0))))] H := hP
  have hD : va_D A [(h0, .inr (4, [.null, .int 0, .int 0])), (q0, .inl (cA 2, 100, .inr (.inl (fun _ => 0))))] := hD
  refine W.widen (k := 1) (n := 100) (by omega) (by omega) ?_
  refine va_putF (D := D) (ci := 4) (v := .ref q0) (ty := tyX4 0) (C := RX4) (T := TX4) (N := 3) hx hb hz uw_X4 tyX4 tyX4_ok nmX4 hown hK hP hD hS 0 rfl rfl 0 (by decide) (hz _ kw_26) (fun _ h9 => h9) rfl hin rfl (tyX4_ok 0 (by decide)) rfl rfl (Nat.le_of_ble_eq_true rfl) dX4_init_9 (fun H locs hP hD hS => ?_)
  have hP : va_P D zcl [(h0, .inr (4, [.ref q0, .int 0, .int 0])), (q0, .inl (cA 2, 100, .inr (.inl (fun _ => 0))))] H := hP
  have hD : va_D A [(h0, .inr (4, [.ref q0, .int 0, .int 0])), (q0, .inl (cA 2, 100, .inr (.inl (fun _ => 0))))] := hD
  refine lv_aload_n hx hb dX4_init_12 rfl (lv_at hl 0 rfl) ?_
  refine lv_iconst (v := 0) hx hb dX4_init_13 (by decide) ?_
  refine va_put (D := D) (ci := 4) (v := .int 0) (ty := tyX4 1) (C := RX4) (T := TX4) (N := 3) hx hb hz uw_X4 tyX4 tyX4_ok nmX4 hown hK hP hD hS 0 rfl rfl 1 (by decide) (hz _ kw_27) (fun _ h9 => h9) rfl (tyX4_ok 1 (by decide)) rfl rfl (Nat.le_of_ble_eq_true rfl) dX4_init_14 (fun H locs hP hD hS => ?_)
  have hP : va_P D zcl [(h0, .inr (4, [.ref q0, .int 0, .int 0])), (q0, .inl (cA 2, 100, .inr (.inl (fun _ => 0))))] H := hP
  have hD : va_D A [(h0, .inr (4, [.ref q0, .int 0, .int 0])), (q0, .inl (cA 2, 100, .inr (.inl (fun _ => 0))))] := hD
  have hP9 : va_P D zcl (wX4 cA (fun i => ([h0, q0] : List Nat).getD i 0)) H := hP.sub [0, 1] rfl
  have hD9 : va_D A (wX4 cA (fun i => ([h0, q0] : List Nat).getD i 0)) := hD.sub [0, 1] (by decide) rfl
  exact W.vret hx hb hr (fun t ht hW => ⟨⟨_, rfl, rfl, by rw [ht]; exact hP9, va_K.moved hW.alike hK, hD9⟩, hS.F ht⟩) hS.2.2 dX4_init_17
def wX0 (cA : Nat → ClassId) (ad : Nat → Nat) : va_W := [(ad 0, .inr (0, [.ref (ad 1), .ref (ad 2), .ref (ad 3), .ref (ad 4), .ref (ad 5), .ref (ad 6), .ref (ad 7), .ref (ad 8), .int 0, .int 0])), (ad 1, .inl (cA 0, 300, .inl (fun _ => 0))), (ad 2, .inl (cA 0, 300, .inl (fun _ => 0))), (ad 3, .inl (cA 2, 300, .inr (.inl (fun _ => 0)))), (ad 4, .inl (cA 0, 300, .inl (fun _ => 0))), (ad 5, .inl (cA 0, 300, .inl (fun _ => 0))), (ad 6, .inl (cA 0, 100, .inl (fun _ => (-1)))), (ad 7, .inl (cA 0, 600, .inl (fun _ => 0))), (ad 8, .inl (cA 0, 1500, .inl (fun _ => 0)))]
set_option maxHeartbeats 8000000 in
set_option maxRecDepth 100000 in
theorem k_X0_init (l : Launch) (D : va_G) (cA : Nat → ClassId) (h0 sz : Nat) : Met l yX0_init (k_ws yX0_init cX0_init 1) ({ frames := 1, cells := 8, slots := 3700, locals := 32 }) (va_Pc [.ref h0] (fun U => U.heap.size = sz ∧ va_P D zcl [(h0, .inr (0, [.null, .null, .null, .null, .null, .null, .null, .null, .int 0, .int 0]))] U.heap ∧ va_K D zcl (z_tys cA) U ∧ va_D (fun _ => True) [(h0, .inr (0, [.null, .null, .null, .null, .null, .null, .null, .null, .int 0, .int 0]))]))
    (va_Qv (fun ad : Nat → Nat => ad 0 = h0) (fun ad t => va_P D zcl (wX0 cA ad) t.heap ∧ va_K D zcl (z_tys cA) t ∧ va_D (va_A [(h0, .inr (0, [.null, .null, .null, .null, .null, .null, .null, .null, .int 0, .int 0]))] sz) (wX0 cA ad)) (va_A [(h0, .inr (0, [.null, .null, .null, .null, .null, .null, .null, .null, .int 0, .int 0]))] sz)) 8 3700 (va_A [(h0, .inr (0, [.null, .null, .null, .null, .null, .null, .null, .null, .int 0, .int 0]))] sz) := by
  refine Met.ofW (cc := cX0_init) (maxL := 1) (ret := none) (by decide) rfl ?_
  intro p e s m args below meth c s₁ B hml hv
  obtain ⟨rfl, hsz, hP, hK, hD0⟩ := hv
  have hx := B.exec
  have hb := B.bytes
  have hr := B.returns
  have hts := atoms_spec (ws := k_ws yX0_init cX0_init 1) B.pre
  have hz : ∀ w ∈ zgw, w.before #[Value.ref h0] s = true := fun w h => hts w (List.mem_cons_of_mem _ h)
  have hown : s.vm.findClass RX0 = some m.cls := findClass_of_methodNamed B.named
  have hin : meth.name = "<init>" := (name_of_methodNamed B.named B.method).1
  subst hsz
  have hD := hD0.self (sz := s.heap.size)
  generalize hAe : va_A [(h0, .inr (0, [.null, .null, .null, .null, .null, .null, .null, .null, .int 0, .int 0]))] s.heap.size = A at hD ⊢
  have hA : ∀ q : Nat, s.heap.size ≤ q → A q := fun q h => by rw [← hAe]; exact Or.inr h
  have hS : va_S A s.heap s.heap [] := va_S.rf
  have hl := lv_entry ([.ref h0]) (n := 1) (Nat.le_of_ble_eq_true rfl)
  rw [lg_entry_eq]
  generalize (lg_sl ([.ref h0]) ++ List.replicate (1 - (lg_sl ([.ref h0])).length) Slot.unset).toArray = ls at hl ⊢
  have hl : lv_has ls 1 [(0, .ref h0)] := hl
  refine lv_aload_n hx hb dX0_init_0 rfl (lv_at hl 0 rfl) ?_
  refine W.objInit hx hb hown (hz _ kw_28) (hz _ kw_1) (hz _ kw_2) rfl (by rw [hml]; exact hl.1) rfl dX0_init_1 (Nat.le_of_ble_eq_true rfl) (Nat.le_of_ble_eq_true rfl) ?_
  refine W.eq (g2 := F0 m 4 ls []) rfl ?_
  refine lv_aload_n hx hb dX0_init_4 rfl (lv_at hl 0 rfl) ?_
  refine lv_sipush (v := 300) hx hb dX0_init_5 (by decide) ?_
  refine z_newa (atype := .int) (a0 := (300, .inl (fun _ => 0))) hx hb (hz _ kw_3) rfl hK 0 rfl hP hD hS hA (fun _ => rfl) (by decide) (N' := 300) (by decide) (by decide) (Nat.le_of_ble_eq_true rfl) (Nat.le_of_ble_eq_true rfl) dX0_init_8 (fun q0 H hP hD hS => ?_)
  have hP : va_P D zcl [(h0, .inr (0, [.null, .null, .null, .null, .null, .null, .null, .null, .int 0, .int 0])), (q0, .inl (cA 0, 300, .inl (fun _ => 0)))] H := hP
  have hD : va_D A [(h0, .inr (0, [.null, .null, .null, .null, .null, .null, .null, .null, .int 0, .int 0])), (q0, .inl (cA 0, 300, .inl (fun _ => 0)))] := hD
  refine W.widen (k := 1) (n := 300) (by omega) (by omega) ?_
  refine va_putF (D := D) (ci := 0) (v := .ref q0) (ty := tyX0 0) (C := RX0) (T := TX0) (N := 10) hx hb hz uw_X0 tyX0 tyX0_ok nmX0 hown hK hP hD hS 0 rfl rfl 0 (by decide) (hz _ kw_29) (fun _ h9 => h9) rfl hin rfl (tyX0_ok 0 (by decide)) rfl rfl (Nat.le_of_ble_eq_true rfl) dX0_init_10 (fun H locs hP hD hS => ?_)
  have hP : va_P D zcl [(h0, .inr (0, [.ref q0, .null, .null, .null, .null, .null, .null, .null, .int 0, .int 0])), (q0, .inl (cA 0, 300, .inl (fun _ => 0)))] H := hP
  have hD : va_D A [(h0, .inr (0, [.ref q0, .null, .null, .null, .null, .null, .null, .null, .int 0, .int 0])), (q0, .inl (cA 0, 300, .inl (fun _ => 0)))] := hD
  refine lv_aload_n hx hb dX0_init_13 rfl (lv_at hl 0 rfl) ?_
  refine lv_sipush (v := 300) hx hb dX0_init_14 (by decide) ?_
  refine z_newa (atype := .int) (a0 := (300, .inl (fun _ => 0))) hx hb (hz _ kw_3) rfl hK 0 rfl hP hD hS hA (fun _ => rfl) (by decide) (N' := 300) (by decide) (by decide) (Nat.le_of_ble_eq_true rfl) (Nat.le_of_ble_eq_true rfl) dX0_init_17 (fun q1 H hP hD hS => ?_)
  have hP : va_P D zcl [(h0, .inr (0, [.ref q0, .null, .null, .null, .null, .null, .null, .null, .int 0, .int 0])), (q0, .inl (cA 0, 300, .inl (fun _ => 0))), (q1, .inl (cA 0, 300, .inl (fun _ => 0)))] H := hP
  have hD : va_D A [(h0, .inr (0, [.ref q0, .null, .null, .null, .null, .null, .null, .null, .int 0, .int 0])), (q0, .inl (cA 0, 300, .inl (fun _ => 0))), (q1, .inl (cA 0, 300, .inl (fun _ => 0)))] := hD
  refine W.widen (k := 2) (n := 600) (by omega) (by omega) ?_
  refine va_putF (D := D) (ci := 0) (v := .ref q1) (ty := tyX0 1) (C := RX0) (T := TX0) (N := 10) hx hb hz uw_X0 tyX0 tyX0_ok nmX0 hown hK hP hD hS 0 rfl rfl 1 (by decide) (hz _ kw_30) (fun _ h9 => h9) rfl hin rfl (tyX0_ok 1 (by decide)) rfl rfl (Nat.le_of_ble_eq_true rfl) dX0_init_19 (fun H locs hP hD hS => ?_)
  have hP : va_P D zcl [(h0, .inr (0, [.ref q0, .ref q1, .null, .null, .null, .null, .null, .null, .int 0, .int 0])), (q0, .inl (cA 0, 300, .inl (fun _ => 0))), (q1, .inl (cA 0, 300, .inl (fun _ => 0)))] H := hP
  have hD : va_D A [(h0, .inr (0, [.ref q0, .ref q1, .null, .null, .null, .null, .null, .null, .int 0, .int 0])), (q0, .inl (cA 0, 300, .inl (fun _ => 0))), (q1, .inl (cA 0, 300, .inl (fun _ => 0)))] := hD
  refine lv_aload_n hx hb dX0_init_22 rfl (lv_at hl 0 rfl) ?_
  refine lv_sipush (v := 300) hx hb dX0_init_23 (by decide) ?_
  refine z_newa (atype := .long) (a0 := (300, .inr (.inl (fun _ => 0)))) hx hb (hz _ kw_23) rfl hK 2 rfl hP hD hS hA (fun _ => rfl) (by decide) (N' := 300) (by decide) (by decide) (Nat.le_of_ble_eq_true rfl) (Nat.le_of_ble_eq_true rfl) dX0_init_26 (fun q2 H hP hD hS => ?_)
  have hP : va_P D zcl [(h0, .inr (0, [.ref q0, .ref q1, .null, .null, .null, .null, .null, .null, .int 0, .int 0])), (q0, .inl (cA 0, 300, .inl (fun _ => 0))), (q1, .inl (cA 0, 300, .inl (fun _ => 0))), (q2, .inl (cA 2, 300, .inr (.inl (fun _ => 0))))] H := hP
  have hD : va_D A [(h0, .inr (0, [.ref q0, .ref q1, .null, .null, .null, .null, .null, .null, .int 0, .int 0])), (q0, .inl (cA 0, 300, .inl (fun _ => 0))), (q1, .inl (cA 0, 300, .inl (fun _ => 0))), (q2, .inl (cA 2, 300, .inr (.inl (fun _ => 0))))] := hD
  refine W.widen (k := 3) (n := 900) (by omega) (by omega) ?_
  refine va_putF (D := D) (ci := 0) (v := .ref q2) (ty := tyX0 2) (C := RX0) (T := TX0) (N := 10) hx hb hz uw_X0 tyX0 tyX0_ok nmX0 hown hK hP hD hS 0 rfl rfl 2 (by decide) (hz _ kw_31) (fun _ h9 => h9) rfl hin rfl (tyX0_ok 2 (by decide)) rfl rfl (Nat.le_of_ble_eq_true rfl) dX0_init_28 (fun H locs hP hD hS => ?_)
  have hP : va_P D zcl [(h0, .inr (0, [.ref q0, .ref q1, .ref q2, .null, .null, .null, .null, .null, .int 0, .int 0])), (q0, .inl (cA 0, 300, .inl (fun _ => 0))), (q1, .inl (cA 0, 300, .inl (fun _ => 0))), (q2, .inl (cA 2, 300, .inr (.inl (fun _ => 0))))] H := hP
  have hD : va_D A [(h0, .inr (0, [.ref q0, .ref q1, .ref q2, .null, .null, .null, .null, .null, .int 0, .int 0])), (q0, .inl (cA 0, 300, .inl (fun _ => 0))), (q1, .inl (cA 0, 300, .inl (fun _ => 0))), (q2, .inl (cA 2, 300, .inr (.inl (fun _ => 0))))] := hD
  refine lv_aload_n hx hb dX0_init_31 rfl (lv_at hl 0 rfl) ?_
  refine lv_sipush (v := 300) hx hb dX0_init_32 (by decide) ?_
  refine z_newa (atype := .int) (a0 := (300, .inl (fun _ => 0))) hx hb (hz _ kw_3) rfl hK 0 rfl hP hD hS hA (fun _ => rfl) (by decide) (N' := 300) (by decide) (by decide) (Nat.le_of_ble_eq_true rfl) (Nat.le_of_ble_eq_true rfl) dX0_init_35 (fun q3 H hP hD hS => ?_)
  have hP : va_P D zcl [(h0, .inr (0, [.ref q0, .ref q1, .ref q2, .null, .null, .null, .null, .null, .int 0, .int 0])), (q0, .inl (cA 0, 300, .inl (fun _ => 0))), (q1, .inl (cA 0, 300, .inl (fun _ => 0))), (q2, .inl (cA 2, 300, .inr (.inl (fun _ => 0)))), (q3, .inl (cA 0, 300, .inl (fun _ => 0)))] H := hP
  have hD : va_D A [(h0, .inr (0, [.ref q0, .ref q1, .ref q2, .null, .null, .null, .null, .null, .int 0, .int 0])), (q0, .inl (cA 0, 300, .inl (fun _ => 0))), (q1, .inl (cA 0, 300, .inl (fun _ => 0))), (q2, .inl (cA 2, 300, .inr (.inl (fun _ => 0)))), (q3, .inl (cA 0, 300, .inl (fun _ => 0)))] := hD
  refine W.widen (k := 4) (n := 1200) (by omega) (by omega) ?_
  refine va_putF (D := D) (ci := 0) (v := .ref q3) (ty := tyX0 3) (C := RX0) (T := TX0) (N := 10) hx hb hz uw_X0 tyX0 tyX0_ok nmX0 hown hK hP hD hS 0 rfl rfl 3 (by decide) (hz _ kw_32) (fun _ h9 => h9) rfl hin rfl (tyX0_ok 3 (by decide)) rfl rfl (Nat.le_of_ble_eq_true rfl) dX0_init_37 (fun H locs hP hD hS => ?_)
  have hP : va_P D zcl [(h0, .inr (0, [.ref q0, .ref q1, .ref q2, .ref q3, .null, .null, .null, .null, .int 0, .int 0])), (q0, .inl (cA 0, 300, .inl (fun _ => 0))), (q1, .inl (cA 0, 300, .inl (fun _ => 0))), (q2, .inl (cA 2, 300, .inr (.inl (fun _ => 0)))), (q3, .inl (cA 0, 300, .inl (fun _ => 0)))] H := hP
  have hD : va_D A [(h0, .inr (0, [.ref q0, .ref q1, .ref q2, .ref q3, .null, .null, .null, .null, .int 0, .int 0])), (q0, .inl (cA 0, 300, .inl (fun _ => 0))), (q1, .inl (cA 0, 300, .inl (fun _ => 0))), (q2, .inl (cA 2, 300, .inr (.inl (fun _ => 0)))), (q3, .inl (cA 0, 300, .inl (fun _ => 0)))] := hD
  refine lv_aload_n hx hb dX0_init_40 rfl (lv_at hl 0 rfl) ?_
  refine lv_sipush (v := 300) hx hb dX0_init_41 (by decide) ?_
  refine z_newa (atype := .int) (a0 := (300, .inl (fun _ => 0))) hx hb (hz _ kw_3) rfl hK 0 rfl hP hD hS hA (fun _ => rfl) (by decide) (N' := 300) (by decide) (by decide) (Nat.le_of_ble_eq_true rfl) (Nat.le_of_ble_eq_true rfl) dX0_init_44 (fun q4 H hP hD hS => ?_)
  have hP : va_P D zcl [(h0, .inr (0, [.ref q0, .ref q1, .ref q2, .ref q3, .null, .null, .null, .null, .int 0, .int 0])), (q0, .inl (cA 0, 300, .inl (fun _ => 0))), (q1, .inl (cA 0, 300, .inl (fun _ => 0))), (q2, .inl (cA 2, 300, .inr (.inl (fun _ => 0)))), (q3, .inl (cA 0, 300, .inl (fun _ => 0))), (q4, .inl (cA 0, 300, .inl (fun _ => 0)))] H := hP
  have hD : va_D A [(h0, .inr (0, [.ref q0, .ref q1, .ref q2, .ref q3, .null, .null, .null, .null, .int 0, .int 0])), (q0, .inl (cA 0, 300, .inl (fun _ => 0))), (q1, .inl (cA 0, 300, .inl (fun _ => 0))), (q2, .inl (cA 2, 300, .inr (.inl (fun _ => 0)))), (q3, .inl (cA 0, 300, .inl (fun _ => 0))), (q4, .inl (cA 0, 300, .inl (fun _ => 0)))] := hD
  refine W.widen (k := 5) (n := 1500) (by omega) (by omega) ?_
  refine va_putF (D := D) (ci := 0) (v := .ref q4) (ty := tyX0 4) (C := RX0) (T := TX0) (N := 10) hx hb hz uw_X0 tyX0 tyX0_ok nmX0 hown hK hP hD hS 0 rfl rfl 4 (by decide) (hz _ kw_33) (fun _ h9 => h9) rfl hin rfl (tyX0_ok 4 (by decide)) rfl rfl (Nat.le_of_ble_eq_true rfl) dX0_init_46 (fun H locs hP hD hS => ?_)
  have hP : va_P D zcl [(h0, .inr (0, [.ref q0, .ref q1, .ref q2, .ref q3, .ref q4, .null, .null, .null, .int 0, .int 0])), (q0, .inl (cA 0, 300, .inl (fun _ => 0))), (q1, .inl (cA 0, 300, .inl (fun _ => 0))), (q2, .inl (cA 2, 300, .inr (.inl (fun _ => 0)))), (q3, .inl (cA 0, 300, .inl (fun _ => 0))), (q4, .inl (cA 0, 300, .inl (fun _ => 0)))] H := hP
  have hD : va_D A [(h0, .inr (0, [.ref q0, .ref q1, .ref q2, .ref q3, .ref q4, .null, .null, .null, .int 0, .int 0])), (q0, .inl (cA 0, 300, .inl (fun _ => 0))), (q1, .inl (cA 0, 300, .inl (fun _ => 0))), (q2, .inl (cA 2, 300, .inr (.inl (fun _ => 0)))), (q3, .inl (cA 0, 300, .inl (fun _ => 0))), (q4, .inl (cA 0, 300, .inl (fun _ => 0)))] := hD
  refine lv_aload_n hx hb dX0_init_49 rfl (lv_at hl 0 rfl) ?_
  refine lv_bipush (v := 100) hx hb dX0_init_50 (by decide) ?_
  refine z_newa (atype := .int) (a0 := (100, .inl (fun _ => 0))) hx hb (hz _ kw_3) rfl hK 0 rfl hP hD hS hA (fun _ => rfl) (by decide) (N' := 100) (by decide) (by decide) (Nat.le_of_ble_eq_true rfl) (Nat.le_of_ble_eq_true rfl) dX0_init_52 (fun q5 H hP hD hS => ?_)
  have hP : va_P D zcl [(h0, .inr (0, [.ref q0, .ref q1, .ref q2, .ref q3, .ref q4, .null, .null, .null, .int 0, .int 0])), (q0, .inl (cA 0, 300, .inl (fun _ => 0))), (q1, .inl (cA 0, 300, .inl (fun _ => 0))), (q2, .inl (cA 2, 300, .inr (.inl (fun _ => 0)))), (q3, .inl (cA 0, 300, .inl (fun _ => 0))), (q4, .inl (cA 0, 300, .inl (fun _ => 0))), (q5, .inl (cA 0, 100, .inl (fun _ => 0)))] H := hP
  have hD : va_D A [(h0, .inr (0, [.ref q0, .ref q1, .ref q2, .ref q3, .ref q4, .null, .null, .null, .int 0, .int 0])), (q0, .inl (cA 0, 300, .inl (fun _ => 0))), (q1, .inl (cA 0, 300, .inl (fun _ => 0))), (q2, .inl (cA 2, 300, .inr (.inl (fun _ => 0)))), (q3, .inl (cA 0, 300, .inl (fun _ => 0))), (q4, .inl (cA 0, 300, .inl (fun _ => 0))), (q5, .inl (cA 0, 100, .inl (fun _ => 0)))] := hD
  refine W.widen (k := 6) (n := 1600) (by omega) (by omega) ?_
  refine va_putF (D := D) (ci := 0) (v := .ref q5) (ty := tyX0 5) (C := RX0) (T := TX0) (N := 10) hx hb hz uw_X0 tyX0 tyX0_ok nmX0 hown hK hP hD hS 0 rfl rfl 5 (by decide) (hz _ kw_34) (fun _ h9 => h9) rfl hin rfl (tyX0_ok 5 (by decide)) rfl rfl (Nat.le_of_ble_eq_true rfl) dX0_init_54 (fun H locs hP hD hS => ?_)
  have hP : va_P D zcl [(h0, .inr (0, [.ref q0, .ref q1, .ref q2, .ref q3, .ref q4, .ref q5, .null, .null, .int 0, .int 0])), (q0, .inl (cA 0, 300, .inl (fun _ => 0))), (q1, .inl (cA 0, 300, .inl (fun _ => 0))), (q2, .inl (cA 2, 300, .inr (.inl (fun _ => 0)))), (q3, .inl (cA 0, 300, .inl (fun _ => 0))), (q4, .inl (cA 0, 300, .inl (fun _ => 0))), (q5, .inl (cA 0, 100, .inl (fun _ => 0)))] H := hP
  have hD : va_D A [(h0, .inr (0, [.ref q0, .ref q1, .ref q2, .ref q3, .ref q4, .ref q5, .null, .null, .int 0, .int 0])), (q0, .inl (cA 0, 300, .inl (fun _ => 0))), (q1, .inl (cA 0, 300, .inl (fun _ => 0))), (q2, .inl (cA 2, 300, .inr (.inl (fun _ => 0)))), (q3, .inl (cA 0, 300, .inl (fun _ => 0))), (q4, .inl (cA 0, 300, .inl (fun _ => 0))), (q5, .inl (cA 0, 100, .inl (fun _ => 0)))] := hD
  refine lv_aload_n hx hb dX0_init_57 rfl (lv_at hl 0 rfl) ?_
  refine lv_sipush (v := 600) hx hb dX0_init_58 (by decide) ?_
  refine z_newa (atype := .int) (a0 := (600, .inl (fun _ => 0))) hx hb (hz _ kw_3) rfl hK 0 rfl hP hD hS hA (fun _ => rfl) (by decide) (N' := 600) (by decide) (by decide) (Nat.le_of_ble_eq_true rfl) (Nat.le_of_ble_eq_true rfl) dX0_init_61 (fun q6 H hP hD hS => ?_)
  have hP : va_P D zcl [(h0, .inr (0, [.ref q0, .ref q1, .ref q2, .ref q3, .ref q4, .ref q5, .null, .null, .int 0, .int 0])), (q0, .inl (cA 0, 300, .inl (fun _ => 0))), (q1, .inl (cA 0, 300, .inl (fun _ => 0))), (q2, .inl (cA 2, 300, .inr (.inl (fun _ => 0)))), (q3, .inl (cA 0, 300, .inl (fun _ => 0))), (q4, .inl (cA 0, 300, .inl (fun _ => 0))), (q5, .inl (cA 0, 100, .inl (fun _ => 0))), (q6, .inl (cA 0, 600, .inl (fun _ => 0)))] H := hP
  have hD : va_D A [(h0, .inr (0, [.ref q0, .ref q1, .ref q2, .ref q3, .ref q4, .ref q5, .null, .null, .int 0, .int 0])), (q0, .inl (cA 0, 300, .inl (fun _ => 0))), (q1, .inl (cA 0, 300, .inl (fun _ => 0))), (q2, .inl (cA 2, 300, .inr (.inl (fun _ => 0)))), (q3, .inl (cA 0, 300, .inl (fun _ => 0))), (q4, .inl (cA 0, 300, .inl (fun _ => 0))), (q5, .inl (cA 0, 100, .inl (fun _ => 0))), (q6, .inl (cA 0, 600, .inl (fun _ => 0)))] := hD
  refine W.widen (k := 7) (n := 2200) (by omega) (by omega) ?_
  refine va_putF (D := D) (ci := 0) (v := .ref q6) (ty := tyX0 6) (C := RX0) (T := TX0) (N := 10) hx hb hz uw_X0 tyX0 tyX0_ok nmX0 hown hK hP hD hS 0 rfl rfl 6 (by decide) (hz _ kw_35) (fun _ h9 => h9) rfl hin rfl (tyX0_ok 6 (by decide)) rfl rfl (Nat.le_of_ble_eq_true rfl) dX0_init_63 (fun H locs hP hD hS => ?_)
  have hP : va_P D zcl [(h0, .inr (0, [.ref q0, .ref q1, .ref q2, .ref q3, .ref q4, .ref q5, .ref q6, .null, .int 0, .int 0])), (q0, .inl (cA 0, 300, .inl (fun _ => 0))), (q1, .inl (cA 0, 300, .inl (fun _ => 0))), (q2, .inl (cA 2, 300, .inr (.inl (fun _ => 0)))), (q3, .inl (cA 0, 300, .inl (fun _ => 0))), (q4, .inl (cA 0, 300, .inl (fun _ => 0))), (q5, .inl (cA 0, 100, .inl (fun _ => 0))), (q6, .inl (cA 0, 600, .inl (fun _ => 0)))] H := hP
  have hD : va_D A [(h0, .inr (0, [.ref q0, .ref q1, .ref q2, .ref q3, .ref q4, .ref q5, .ref q6, .null, .int 0, .int 0])), (q0, .inl (cA 0, 300, .inl (fun _ => 0))), (q1, .inl (cA 0, 300, .inl (fun _ => 0))), (q2, .inl (cA 2, 300, .inr (.inl (fun _ => 0)))), (q3, .inl (cA 0, 300, .inl (fun _ => 0))), (q4, .inl (cA 0, 300, .inl (fun _ => 0))), (q5, .inl (cA 0, 100, .inl (fun _ => 0))), (q6, .inl (cA 0, 600, .inl (fun _ => 0)))] := hD
  refine lv_aload_n hx hb dX0_init_66 rfl (lv_at hl 0 rfl) ?_
  refine lv_sipush (v := 1500) hx hb dX0_init_67 (by decide) ?_
  refine z_newa (atype := .int) (a0 := (1500, .inl (fun _ => 0))) hx hb (hz _ kw_3) rfl hK 0 rfl hP hD hS hA (fun _ => rfl) (by decide) (N' := 1500) (by decide) (by decide) (Nat.le_of_ble_eq_true rfl) (Nat.le_of_ble_eq_true rfl) dX0_init_70 (fun q7 H hP hD hS => ?_)
  have hP : va_P D zcl [(h0, .inr (0, [.ref q0, .ref q1, .ref q2, .ref q3, .ref q4, .ref q5, .ref q6, .null, .int 0, .int 0])), (q0, .inl (cA 0, 300, .inl (fun _ => 0))), (q1, .inl (cA 0, 300, .inl (fun _ => 0))), (q2, .inl (cA 2, 300, .inr (.inl (fun _ => 0)))), (q3, .inl (cA 0, 300, .inl (fun _ => 0))), (q4, .inl (cA 0, 300, .inl (fun _ => 0))), (q5, .inl (cA 0, 100, .inl (fun _ => 0))), (q6, .inl (cA 0, 600, .inl (fun _ => 0))), (q7, .inl (cA 0, 1500, .inl (fun _ => 0)))] H := hP
  have hD : va_D A [(h0, .inr (0, [.ref q0, .ref q1, .ref q2, .ref q3, .ref q4, .ref q5, .ref q6, .null, .int 0, .int 0])), (q0, .inl (cA 0, 300, .inl (fun _ => 0))), (q1, .inl (cA 0, 300, .inl (fun _ => 0))), (q2, .inl (cA 2, 300, .inr (.inl (fun _ => 0)))), (q3, .inl (cA 0, 300, .inl (fun _ => 0))), (q4, .inl (cA 0, 300, .inl (fun _ => 0))), (q5, .inl (cA 0, 100, .inl (fun _ => 0))), (q6, .inl (cA 0, 600, .inl (fun _ => 0))), (q7, .inl (cA 0, 1500, .inl (fun _ => 0)))] := hD
  refine W.widen (k := 8) (n := 3700) (by omega) (by omega) ?_
  refine va_putF (D := D) (ci := 0) (v := .ref q7) (ty := tyX0 7) (C := RX0) (T := TX0) (N := 10) hx hb hz uw_X0 tyX0 tyX0_ok nmX0 hown hK hP hD hS 0 rfl rfl 7 (by decide) (hz _ kw_36) (fun _ h9 => h9) rfl hin rfl (tyX0_ok 7 (by decide)) rfl rfl (Nat.le_of_ble_eq_true rfl) dX0_init_72 (fun H locs hP hD hS => ?_)
  have hP : va_P D zcl [(h0, .inr (0, [.ref q0, .ref q1, .ref q2, .ref q3, .ref q4, .ref q5, .ref q6, .ref q7, .int 0, .int 0])), (q0, .inl (cA 0, 300, .inl (fun _ => 0))), (q1, .inl (cA 0, 300, .inl (fun _ => 0))), (q2, .inl (cA 2, 300, .inr (.inl (fun _ => 0)))), (q3, .inl (cA 0, 300, .inl (fun _ => 0))), (q4, .inl (cA 0, 300, .inl (fun _ => 0))), (q5, .inl (cA 0, 100, .inl (fun _ => 0))), (q6, .inl (cA 0, 600, .inl (fun _ => 0))), (q7, .inl (cA 0, 1500, .inl (fun _ => 0)))] H := hP
  have hD : va_D A [(h0, .inr (0, [.ref q0, .ref q1, .ref q2, .ref q3, .ref q4, .ref q5, .ref q6, .ref q7, .int 0, .int 0])), (q0, .inl (cA 0, 300, .inl (fun _ => 0))), (q1, .inl (cA 0, 300, .inl (fun _ => 0))), (q2, .inl (cA 2, 300, .inr (.inl (fun _ => 0)))), (q3, .inl (cA 0, 300, .inl (fun _ => 0))), (q4, .inl (cA 0, 300, .inl (fun _ => 0))), (q5, .inl (cA 0, 100, .inl (fun _ => 0))), (q6, .inl (cA 0, 600, .inl (fun _ => 0))), (q7, .inl (cA 0, 1500, .inl (fun _ => 0)))] := hD
  refine lv_aload_n hx hb dX0_init_75 rfl (lv_at hl 0 rfl) ?_
  refine va_get (D := D) (ci := 0) (v := .ref q5) (C := RX0) (T := TX0) (N := 10) hx hb hz uw_X0 hown hK hP 0 rfl rfl 5 (by decide) (hz _ kw_34) (fun _ h9 => h9) rfl dX0_init_76 ?_
  refine lv_iconst (v := (-1)) hx hb dX0_init_79 (by decide) ?_
  have hPc := hP.sub (ws' := [(q5, .inl (cA 0, 100, .inl (fun _ => 0)))]) [6] rfl
  have hDc := hD.sub (ws' := [(q5, .inl (cA 0, 100, .inl (fun _ => 0)))]) [6] (by decide) rfl
  have hFc := va_free (wc := [(q5, .inl (cA 0, 100, .inl (fun _ => 0)))]) hD hS hA [6] rfl
  refine va_callv (va_runS (As := [.ref q5, .int (-1)]) (rest := []) ⟨hx, hb, hml, hown, hz⟩ (k_fill l D cA q5 100 H.size (fun _ => 0) (-1) (by decide)) (va_cwS 2 hz k_good_fill rfl rfl rfl (by decide +kernel) ⟨Nat.le_of_ble_eq_true rfl, Nat.le_of_ble_eq_true rfl⟩) ⟨z_blind, fun U hU hW => ⟨rfl, by rw [hU], by rw [hU]; exact hPc, va_K.moved hW.alike hK, hDc.weaken (fun _ _ _ _ => trivial)⟩⟩ rfl rfl hl.1 rfl (lv_room (Nat.le_of_ble_eq_true rfl)) dX0_init_80 ⟨Nat.le_of_ble_eq_true rfl, Nat.le_of_ble_eq_true rfl⟩) hS (fun q _ h => hFc q h) hFc (fun u t H1 locs ht hvm hw hB hz1 hk1 hS => ?_)
  obtain ⟨hP1, hK1, hD1⟩ := hB
  rw [ht] at hP1
  obtain ⟨hP, hD⟩ := va_join (wr := [(h0, .inr (0, [.ref q0, .ref q1, .ref q2, .ref q3, .ref q4, .ref q5, .ref q6, .ref q7, .int 0, .int 0])), (q0, .inl (cA 0, 300, .inl (fun _ => 0))), (q1, .inl (cA 0, 300, .inl (fun _ => 0))), (q2, .inl (cA 2, 300, .inr (.inl (fun _ => 0)))), (q3, .inl (cA 0, 300, .inl (fun _ => 0))), (q4, .inl (cA 0, 300, .inl (fun _ => 0))), (q6, .inl (cA 0, 600, .inl (fun _ => 0))), (q7, .inl (cA 0, 1500, .inl (fun _ => 0)))]) (w1 := [(q5, .inl (cA 0, 100, .inl (fun _ => (-1))))]) hP hD [6] [0, 1, 2, 3, 4, 5, 7, 8] rfl rfl (by decide) (by decide) hk1 hFc hP1 hD1
  generalize H1 = H at hP hS ⊢
  have hP : va_P D zcl [(h0, .inr (0, [.ref q0, .ref q1, .ref q2, .ref q3, .ref q4, .ref q5, .ref q6, .ref q7, .int 0, .int 0])), (q0, .inl (cA 0, 300, .inl (fun _ => 0))), (q1, .inl (cA 0, 300, .inl (fun _ => 0))), (q2, .inl (cA 2, 300, .inr (.inl (fun _ => 0)))), (q3, .inl (cA 0, 300, .inl (fun _ => 0))), (q4, .inl (cA 0, 300, .inl (fun _ => 0))), (q6, .inl (cA 0, 600, .inl (fun _ => 0))), (q7, .inl (cA 0, 1500, .inl (fun _ => 0))), (q5, .inl (cA 0, 100, .inl (fun _ => (-1))))] H := hP
  have hD : va_D A [(h0, .inr (0, [.ref q0, .ref q1, .ref q2, .ref q3, .ref q4, .ref q5, .ref q6, .ref q7, .int 0, .int 0])), (q0, .inl (cA 0, 300, .inl (fun _ => 0))), (q1, .inl (cA 0, 300, .inl (fun _ => 0))), (q2, .inl (cA 2, 300, .inr (.inl (fun _ => 0)))), (q3, .inl (cA 0, 300, .inl (fun _ => 0))), (q4, .inl (cA 0, 300, .inl (fun _ => 0))), (q6, .inl (cA 0, 600, .inl (fun _ => 0))), (q7, .inl (cA 0, 1500, .inl (fun _ => 0))), (q5, .inl (cA 0, 100, .inl (fun _ => (-1))))] := hD
  have hP9 : va_P D zcl (wX0 cA (fun i => ([h0, q0, q1, q2, q3, q4, q5, q6, q7] : List Nat).getD i 0)) H := hP.sub [0, 1, 2, 3, 4, 5, 8, 6, 7] rfl
  have hD9 : va_D A (wX0 cA (fun i => ([h0, q0, q1, q2, q3, q4, q5, q6, q7] : List Nat).getD i 0)) := hD.sub [0, 1, 2, 3, 4, 5, 8, 6, 7] (by decide) rfl
  exact W.vret hx hb hr (fun t ht hW => ⟨⟨_, rfl, rfl, by rw [ht]; exact hP9, va_K.moved hW.alike hK, hD9⟩, hS.F ht⟩) hS.2.2 dX0_init_83
