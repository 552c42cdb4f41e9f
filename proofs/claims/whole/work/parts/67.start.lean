/-! the law from its entry -/
theorem kv_in0 : Cond.instantiable RX0 10 ∈ zgw := List.mem_filter.mpr (by decide +kernel)
theorem kv_in1 : Cond.instantiable RX1 5 ∈ zgw := List.mem_filter.mpr (by decide +kernel)
theorem kv_in2 : Cond.instantiable RX2 9 ∈ zgw := List.mem_filter.mpr (by decide +kernel)
theorem kv_in3 : Cond.instantiable RX3 6 ∈ zgw := List.mem_filter.mpr (by decide +kernel)
theorem kv_in4 : Cond.instantiable RX4 3 ∈ zgw := List.mem_filter.mpr (by decide +kernel)
theorem kv_in5 : Cond.instantiable RX5 3 ∈ zgw := List.mem_filter.mpr (by decide +kernel)
theorem kv_in6 : Cond.instantiable RX6 13 ∈ zgw := List.mem_filter.mpr (by decide +kernel)
theorem kv_in7 : Cond.instantiable RX7 32 ∈ zgw := List.mem_filter.mpr (by decide +kernel)
theorem kv_cl6 : Cond.classLink RL 7 RX6 ∈ zgw := List.mem_filter.mpr (by decide +kernel)
theorem kv_iz6 : Cond.initialized RX6 ∈ zgw := List.mem_filter.mpr (by decide +kernel)
theorem kv_ml6 : Cond.methodLink RL 9 yX6_init ∈ zgw := List.mem_filter.mpr (by decide +kernel)
theorem kv_im6 : Cond.instanceMethod yX6_init ∈ zgw := List.mem_filter.mpr (by decide +kernel)
theorem kv_cd6 : Cond.code yX6_init cX6_init 2 none ∈ zgw := List.mem_filter.mpr (by decide +kernel)
theorem kv_cl7 : Cond.classLink RL 10 RX7 ∈ zgw := List.mem_filter.mpr (by decide +kernel)
theorem kv_iz7 : Cond.initialized RX7 ∈ zgw := List.mem_filter.mpr (by decide +kernel)
theorem kv_ml7 : Cond.methodLink RL 12 yX7_init ∈ zgw := List.mem_filter.mpr (by decide +kernel)
theorem kv_im7 : Cond.instanceMethod yX7_init ∈ zgw := List.mem_filter.mpr (by decide +kernel)
theorem kv_cd7 : Cond.code yX7_init cX7_init 1 none ∈ zgw := List.mem_filter.mpr (by decide +kernel)
theorem kv_ar_int : Cond.arrayClass .int ∈ zgw := List.mem_filter.mpr (by decide +kernel)
theorem kv_ar_boolean : Cond.arrayClass .boolean ∈ zgw := List.mem_filter.mpr (by decide +kernel)
theorem kv_ar_long : Cond.arrayClass .long ∈ zgw := List.mem_filter.mpr (by decide +kernel)
theorem kv_ao : Cond.arrayOver (.object RX4) ∈ lw_tbl := by decide +kernel
theorem kv_ne0 : Cond.methodLinkNest RX6 26 yX1_init RX6 ∈ lw_tbl := by decide +kernel
theorem kv_ne1 : Cond.methodLinkNest RX6 36 yX5_init RX6 ∈ lw_tbl := by decide +kernel
theorem kv_ne2 : Cond.methodLinkNest RX6 43 yX2_init RX6 ∈ lw_tbl := by decide +kernel
theorem kv_ne3 : Cond.methodLinkNest RX6 50 yX3_init RX6 ∈ lw_tbl := by decide +kernel
theorem kv_ne4 : Cond.methodLinkNest RX6 68 yX4_init RX6 ∈ lw_tbl := by decide +kernel
theorem k_goodL {y : MethodName} {cc : ByteArray} {n : Nat} (h : Cond.code y cc n none ∈ zgw) : GoodIn lw_tbl (k_ws y cc n) := fun w hw => ⟨zgw_tbl (k_good h w hw).1, (k_good h w hw).2⟩
theorem k_known {s : State} {args : Array Value} (hts : ∀ w ∈ lw_tbl, w.before args s = true) : (∃ (D : va_G) (cA : Nat → ClassId), va_K D zcl (z_tys cA) s) ∧ k_xw s := by
  obtain ⟨c0, i0, h0⟩ := u_known (C := RX0) (T := TX0) (N := 10) (n := 10) hts (fun w h => zgw_tbl (uw_X0 w h)) (hts _ (zgw_tbl kv_in0))
  obtain ⟨c1, i1, h1⟩ := u_known (C := RX1) (T := TX1) (N := 5) (n := 5) hts (fun w h => zgw_tbl (uw_X1 w h)) (hts _ (zgw_tbl kv_in1))
  obtain ⟨c2, i2, h2⟩ := u_known (C := RX2) (T := TX2) (N := 9) (n := 9) hts (fun w h => zgw_tbl (uw_X2 w h)) (hts _ (zgw_tbl kv_in2))
  obtain ⟨c3, i3, h3⟩ := u_known (C := RX3) (T := TX3) (N := 6) (n := 6) hts (fun w h => zgw_tbl (uw_X3 w h)) (hts _ (zgw_tbl kv_in3))
  obtain ⟨c4, i4, h4⟩ := u_known (C := RX4) (T := TX4) (N := 3) (n := 3) hts (fun w h => zgw_tbl (uw_X4 w h)) (hts _ (zgw_tbl kv_in4))
  obtain ⟨c5, i5, h5⟩ := u_known (C := RX5) (T := TX5) (N := 3) (n := 3) hts (fun w h => zgw_tbl (uw_X5 w h)) (hts _ (zgw_tbl kv_in5))
  obtain ⟨c6, i6, h6⟩ := u_known (C := RX6) (T := TX6) (N := 13) (n := 13) hts (fun w h => zgw_tbl (uw_X6 w h)) (hts _ (zgw_tbl kv_in6))
  obtain ⟨c7, i7, h7⟩ := u_known (C := RX7) (T := TX7) (N := 32) (n := 32) hts (fun w h => zgw_tbl (uw_X7 w h)) (hts _ (zgw_tbl kv_in7))
  obtain ⟨a0, k0, p0, f0, g0, e0⟩ := Cond.arrayClass_spec (hts _ (zgw_tbl kv_ar_int))
  obtain ⟨a1, k1, p1, f1, g1, e1⟩ := Cond.arrayClass_spec (hts _ (zgw_tbl kv_ar_boolean))
  obtain ⟨a2, k2, p2, f2, g2, e2⟩ := Cond.arrayClass_spec (hts _ (zgw_tbl kv_ar_long))
  obtain ⟨p3, a3, k3, f3, -, g3, e3, d3⟩ := Cond.arrayOver_spec (hts _ kv_ao)
  refine ⟨⟨(fun k => ([c0, c1, c2, c3, c4, c5, c6, c7] : List ClassId).getD k c0, fun k => ([i0, i1, i2, i3, i4, i5, i6, i7] : List (Nat → Nat)).getD k i0), fun k => ([a0, a1, a2, a3] : List ClassId).getD k a0, fun k q hq => ?_, fun k q hq => ?_⟩, va_AO.of (hts _ kv_ao), va_Nw.of rfl (hts _ kv_ne0), va_Nw.of rfl (hts _ kv_ne1), va_Nw.of rfl (hts _ kv_ne2), va_Nw.of rfl (hts _ kv_ne3), va_Nw.of rfl (hts _ kv_ne4)⟩
  · match k, hq with
    | 0, hq => cases hq; exact h0
    | 1, hq => cases hq; exact h1
    | 2, hq => cases hq; exact h2
    | 3, hq => cases hq; exact h3
    | 4, hq => cases hq; exact h4
    | 5, hq => cases hq; exact h5
    | 6, hq => cases hq; exact h6
    | 7, hq => cases hq; exact h7
    | k + 8, hq => simp [zcl] at hq
  · match k, hq with
    | 0, hq => cases hq; exact ⟨fun n z => ⟨fun k h => (by cases h), k0, g0, p0, e0⟩, f0⟩
    | 1, hq => cases hq; exact ⟨fun n z => ⟨fun k h => (by cases h), k1, g1, p1, e1⟩, f1⟩
    | 2, hq => cases hq; exact ⟨fun n z => ⟨fun k h => (by cases h), k2, g2, p2, e2⟩, f2⟩
    | 3, hq => cases hq; exact ⟨fun n z => ⟨fun k h => (by cases h), k3, g3, p3, e3⟩, k3, p3, g3, e3, f3, d3⟩
    | k + 4, hq => simp [z_tys] at hq
theorem va_P_l {D : va_G} {cl : List vw_C} {w1 w2 : va_W} {H : Heap} (h : va_P D cl (w1 ++ w2) H) : va_P D cl w1 H := fun k q hk => h k q (by rw [List.getElem?_append_left (List.getElem?_eq_some_iff.mp hk).1]; exact hk)
theorem va_P_r {D : va_G} {cl : List vw_C} {w1 w2 : va_W} {H : Heap} (h : va_P D cl (w1 ++ w2) H) : va_P D cl w2 H := fun k q hk => h (w1.length + k) q (by rw [List.getElem?_append_right (by omega), Nat.add_sub_cancel_left]; exact hk)
theorem va_D_l {A : Nat → Prop} {w1 w2 : va_W} (h : va_D A (w1 ++ w2)) : va_D A w1 :=
  ⟨fun i j p q hi hj e => h.1 i j p q (by rw [List.getElem?_append_left (List.getElem?_eq_some_iff.mp hi).1]; exact hi) (by rw [List.getElem?_append_left (List.getElem?_eq_some_iff.mp hj).1]; exact hj) e, fun k q hk => h.2 k q (by rw [List.getElem?_append_left (List.getElem?_eq_some_iff.mp hk).1]; exact hk)⟩
theorem va_D_r {A : Nat → Prop} {w1 w2 : va_W} (h : va_D A (w1 ++ w2)) : va_D A w2 :=
  ⟨fun i j p q hi hj e => by
    have := h.1 (w1.length + i) (w1.length + j) p q (by rw [List.getElem?_append_right (by omega), Nat.add_sub_cancel_left]; exact hi) (by rw [List.getElem?_append_right (by omega), Nat.add_sub_cancel_left]; exact hj) e
    omega, fun k q hk => h.2 (w1.length + k) q (by rw [List.getElem?_append_right (by omega), Nat.add_sub_cancel_left]; exact hk)⟩
theorem va_D_x {A : Nat → Prop} {w1 w2 : va_W} (h : va_D A (w1 ++ w2)) {i j : Nat} {x y : Nat × va_E} (hx : w1[i]? = some x) (hy : w2[j]? = some y) : x.1 ≠ y.1 := fun e => by
  have hl := (List.getElem?_eq_some_iff.mp hx).1
  have := h.1 i (w1.length + j) x y (by rw [List.getElem?_append_left hl]; exact hx) (by rw [List.getElem?_append_right (by omega), Nat.add_sub_cancel_left]; exact hy) e
  omega
set_option maxHeartbeats 8000000 in
set_option maxRecDepth 100000 in
theorem whole_start {p : Program} {e : Env} {s : State} {m : MethodId} {below : List Frame} {meth : Method} {c : Code} (l : Launch) {b L : Nat} {xs : Nat → Int32} (hL : L ≤ 2560) (C0 : lw_At p s m meth c b L xs) : W p l e room_1 s m #[Value.ref b] below meth c s.heap [] 0 0 (lw_Z below #[Value.ref b] s) (entryFrame m ([Value.ref b] : List Value).toArray 4) := by
  obtain ⟨hx, hb, hr, hml, hown, hts, hX, hbl, hlocks, hgv⟩ := id C0
  obtain ⟨⟨D, cA, hK⟩, hxw⟩ := k_known hts
  have hA : ∀ q : Nat, s.heap.size ≤ q → (fun q : Nat => s.heap.size ≤ q) q := fun _ h => h
  have hS : va_S (fun q : Nat => s.heap.size ≤ q) s.heap s.heap [] := va_S.rf
  have hP : va_P D zcl [] s.heap := fun k q h => by simp at h
  have hD : va_D (fun q : Nat => s.heap.size ≤ q) [] := ⟨fun i j p q h => by simp at h, fun k q h => by simp at h⟩
  have hl := lv_entry ([.ref b]) (n := 4) (Nat.le_of_ble_eq_true rfl)
  rw [lg_entry_eq]
  generalize (lg_sl ([.ref b]) ++ List.replicate (4 - (lg_sl ([.ref b])).length) Slot.unset).toArray = ls at hl ⊢
  have hl : lv_has ls 4 [(0, .ref b)] := hl
  refine va_new (ci := 6) (fs := [.null, .null, .null, .null, .null, .null, .null, .null, .null, .int 0, .int 0, .int 0, .int 0]) (C := RX6) (T := TX6) (N := 13) hx hb hts (fun w h => zgw_tbl (uw_X6 w h)) tyX6 tyX6_ok hown (hts _ (zgw_tbl kv_cl6)) (hts _ (zgw_tbl kv_in6)) (hts _ (zgw_tbl kv_iz6)) hK hP hD hS hA rfl (fun j hj => by rcases (show j = 0 ∨ j = 1 ∨ j = 2 ∨ j = 3 ∨ j = 4 ∨ j = 5 ∨ j = 6 ∨ j = 7 ∨ j = 8 ∨ j = 9 ∨ j = 10 ∨ j = 11 ∨ j = 12 by omega) with rfl | rfl | rfl | rfl | rfl | rfl | rfl | rfl | rfl | rfl | rfl | rfl | rfl <;> rfl) (Nat.le_of_ble_eq_true rfl) (Nat.le_of_ble_eq_true rfl) dL_law_0 (fun q0 H hP hD hS => ?_)
  have hPc : va_P D zcl [(q0, .inr (6, [.null, .null, .null, .null, .null, .null, .null, .null, .null, .int 0, .int 0, .int 0, .int 0]))] H := hP
  have hDc : va_D (fun q : Nat => s.heap.size ≤ q) [(q0, .inr (6, [.null, .null, .null, .null, .null, .null, .null, .null, .null, .int 0, .int 0, .int 0, .int 0]))] := hD
  refine W.widen (k := 1) (n := 13) (by omega) (by omega) ?_
  refine lv_dup hx hb dL_law_3 rfl ?_
  have hFc := va_free (wc := [(q0, .inr (6, [.null, .null, .null, .null, .null, .null, .null, .null, .null, .int 0, .int 0, .int 0, .int 0]))]) hDc hS hA [0] rfl
  refine va_callv (va_runI (As := []) (rest := [.ref q0]) ⟨hx, hb, hml, hown, hts⟩ (k_X6_init l D cA q0 H.size) (cwI 0 hts (k_goodL kv_cd6) rfl rfl rfl (hts _ (zgw_tbl kv_iz6)) (hts _ (zgw_tbl kv_ml6)) (hts _ (zgw_tbl kv_im6)) rfl (by decide +kernel) ⟨Nat.le_of_ble_eq_true rfl, Nat.le_of_ble_eq_true rfl⟩) ⟨fun a U g mk q => by obtain ⟨q0, q1, qP, qK, qD, qx⟩ := q; exact ⟨q0, q1, qP, va_K.moved (u := U) (U := U.calling g mk a) (Vm.Alike.refl U.vm) qK, qD, k_xw_same rfl qx⟩, fun U hU hW => ⟨rfl, by rw [hU], by rw [hU]; exact hPc, va_K.moved hW.alike hK, hDc.weaken (fun _ _ _ _ => trivial), k_xw_warm hW hxw⟩⟩ rfl rfl hl.1 rfl (lv_room (Nat.le_of_ble_eq_true rfl)) dL_law_4 ⟨Nat.le_of_ble_eq_true rfl, Nat.le_of_ble_eq_true rfl⟩) hS (fun q _ h => hFc q h) hFc (fun u t H1 locs ht hvm hw hB hz1 hk1 hS => ?_)
  subst hw
  obtain ⟨hP1, hK1, hD1⟩ := hB
  rw [ht] at hP1
  have hPC : va_P D zcl (z_w z_layC cA u kM0) H1 := hP1
  have hDC : va_D (fun q : Nat => s.heap.size ≤ q) (z_w z_layC cA u kM0) := hD1.weaken (fun _ q _ h => hFc q.1 h)
  clear hP hD hPc hDc hFc hP1 hD1 hk1 hz1
  refine W.widen (k := 49) (n := 6155) (by omega) (by omega) ?_
  refine lv_astore_n (lv' := [(1, .ref (u 0)), (0, .ref b)]) hx hb dL_law_7 rfl hl (by decide) rfl (fun ls hl => ?_)
  refine va_new (ci := 7) (fs := [.int 0, .int 0, .int 0, .int 0, .int 0, .null, .null, .null, .null, .null, .null, .null, .int 0, .null, .null, .null, .null, .null, .null, .null, .null, .null, .null, .null, .null, .null, .int 0, .null, .null, .null, .null, .int 0]) (C := RX7) (T := TX7) (N := 32) hx hb hts (fun w h => zgw_tbl (uw_X7 w h)) tyX7 tyX7_ok hown (hts _ (zgw_tbl kv_cl7)) (hts _ (zgw_tbl kv_in7)) (hts _ (zgw_tbl kv_iz7)) hK hPC hDC hS hA rfl (fun j hj => by rcases (show j = 0 ∨ j = 1 ∨ j = 2 ∨ j = 3 ∨ j = 4 ∨ j = 5 ∨ j = 6 ∨ j = 7 ∨ j = 8 ∨ j = 9 ∨ j = 10 ∨ j = 11 ∨ j = 12 ∨ j = 13 ∨ j = 14 ∨ j = 15 ∨ j = 16 ∨ j = 17 ∨ j = 18 ∨ j = 19 ∨ j = 20 ∨ j = 21 ∨ j = 22 ∨ j = 23 ∨ j = 24 ∨ j = 25 ∨ j = 26 ∨ j = 27 ∨ j = 28 ∨ j = 29 ∨ j = 30 ∨ j = 31 by omega) with rfl | rfl | rfl | rfl | rfl | rfl | rfl | rfl | rfl | rfl | rfl | rfl | rfl | rfl | rfl | rfl | rfl | rfl | rfl | rfl | rfl | rfl | rfl | rfl | rfl | rfl | rfl | rfl | rfl | rfl | rfl | rfl <;> rfl) (Nat.le_of_ble_eq_true rfl) (Nat.le_of_ble_eq_true rfl) dL_law_8 (fun q1 H2 hP hD hS => ?_)
  have hPC2 : va_P D zcl (z_w z_layC cA u kM0) H2 := va_P_l hP
  have hPc : va_P D zcl [(q1, .inr (7, [.int 0, .int 0, .int 0, .int 0, .int 0, .null, .null, .null, .null, .null, .null, .null, .int 0, .null, .null, .null, .null, .null, .null, .null, .null, .null, .null, .null, .null, .null, .int 0, .null, .null, .null, .null, .int 0]))] H2 := va_P_r hP
  have hDC2 := va_D_l hD
  have hDc : va_D (fun q : Nat => s.heap.size ≤ q) [(q1, .inr (7, [.int 0, .int 0, .int 0, .int 0, .int 0, .null, .null, .null, .null, .null, .null, .null, .int 0, .null, .null, .null, .null, .null, .null, .null, .null, .null, .null, .null, .null, .null, .int 0, .null, .null, .null, .null, .int 0]))] := va_D_r hD
  refine W.widen (k := 50) (n := 6187) (by omega) (by omega) ?_
  refine lv_dup hx hb dL_law_11 rfl ?_
  have hFc := va_free (wc := [(q1, .inr (7, [.int 0, .int 0, .int 0, .int 0, .int 0, .null, .null, .null, .null, .null, .null, .null, .int 0, .null, .null, .null, .null, .null, .null, .null, .null, .null, .null, .null, .null, .null, .int 0, .null, .null, .null, .null, .int 0]))]) hDc hS hA [0] rfl
  refine va_callv (va_runI (As := []) (rest := [.ref q1]) ⟨hx, hb, hml, hown, hts⟩ (k_X7_init l D cA q1 H2.size) (cwI 0 hts (k_goodL kv_cd7) rfl rfl rfl (hts _ (zgw_tbl kv_iz7)) (hts _ (zgw_tbl kv_ml7)) (hts _ (zgw_tbl kv_im7)) rfl (by decide +kernel) ⟨Nat.le_of_ble_eq_true rfl, Nat.le_of_ble_eq_true rfl⟩) ⟨z_blind, fun U hU hW => ⟨rfl, by rw [hU], by rw [hU]; exact hPc, va_K.moved hW.alike hK, hDc.weaken (fun _ _ _ _ => trivial)⟩⟩ rfl rfl hl.1 rfl (lv_room (Nat.le_of_ble_eq_true rfl)) dL_law_12 ⟨Nat.le_of_ble_eq_true rfl, Nat.le_of_ble_eq_true rfl⟩) hS (fun q _ h => hFc q h) hFc (fun u2 t H3 locs ht hvm hw hB hz1 hk1 hS => ?_)
  subst hw
  obtain ⟨hP1, hK1, hD1⟩ := hB
  rw [ht] at hP1
  have apart : ∀ (i : Nat) (x : Nat × va_E), (z_w z_layC cA u kM0)[i]? = some x → x.1 < H2.size ∧ ¬ va_A [(u2 0, .inr (7, [.int 0, .int 0, .int 0, .int 0, .int 0, .null, .null, .null, .null, .null, .null, .null, .int 0, .null, .null, .null, .null, .null, .null, .null, .null, .null, .null, .null, .null, .null, .int 0, .null, .null, .null, .null, .int 0]))] H2.size x.1 := by
    intro i x hx
    have hlt := (hPC2 i x hx).lt
    refine ⟨hlt, fun h => ?_⟩
    rcases h with ⟨j, e, hy⟩ | h
    · exact va_D_x hD hx hy rfl
    · omega
  have hPC3 : va_P D zcl (z_w z_layC cA u kM0) H3 := fun i x hx => (hPC2 i x hx).kept (hk1 x.1 (apart i x hx).1 (apart i x hx).2)
  have hPM : va_P D zcl (z_w z_layM cA u2 kM1) H3 := hP1
  have hDM : va_D (fun q : Nat => s.heap.size ≤ q) (z_w z_layM cA u2 kM1) := hD1.weaken (fun _ q _ h => hFc q.1 h)
  have hdis : ∀ (i j : Nat) (x y : Nat × va_E), (z_w z_layC cA u kM0)[i]? = some x → (z_w z_layM cA u2 kM1)[j]? = some y → x.1 ≠ y.1 := fun i j x y hx hy hxy => (apart i x hx).2 (by rw [hxy]; exact hD1.2 j y hy)
  refine W.widen (k := 100) (n := 30000) (by omega) (by omega) ?_
  refine lv_astore_n (lv' := [(2, .ref (u2 0)), (1, .ref (u 0)), (0, .ref b)]) hx hb dL_law_15 rfl hl (by decide) rfl (fun ls hl => ?_)
  refine lv_iconst (v := 0) hx hb dL_law_16 (by decide) ?_
  refine lv_istore_n (lv' := [(3, .int 0), (2, .ref (u2 0)), (1, .ref (u 0)), (0, .ref b)]) hx hb dL_law_17 rfl hl (by decide) rfl (fun ls hl => ?_)
  refine l_loop hL 513 0 kM0 kM1 rfl (Nat.zero_le _) Rel_init p l e s m below meth c D cA u u2 b C0 hK H3 locs ls hPC3 hPM hDC2 hDM hdis hS ⟨hl.1, hl.2.1, fun i v hi => ?_⟩
  match i, hi with
  | 0, hi => cases hi; exact hl.2.2 (0, .ref b) (List.mem_of_getElem? (i := 3) rfl)
  | 1, hi => cases hi; exact hl.2.2 (1, .ref (u 0)) (List.mem_of_getElem? (i := 2) rfl)
  | 2, hi => cases hi; exact hl.2.2 (2, .ref (u2 0)) (List.mem_of_getElem? (i := 1) rfl)
  | 3, hi => cases hi; exact hl.2.2 (3, .int 0) (List.mem_of_getElem? (i := 0) rfl)
  | i + 4, hi => simp at hi
