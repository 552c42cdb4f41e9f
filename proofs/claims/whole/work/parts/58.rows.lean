/-! rows for the constructors: array classes known ahead, one class a kind -/
theorem z_cls_one {D : va_G} {cl : List vw_C} {tys : List (ClassId × FieldType)} {s : State} {i j : Nat} {c1 c2 : ClassId} {ty : FieldType} (hK : va_K D cl tys s) (h1 : tys[i]? = some (c1, ty)) (h2 : tys[j]? = some (c2, ty)) : c1 = c2 := by
  have a := (hK.2 i _ h1).2
  have b := (hK.2 j _ h2).2
  cases ty with
  | object C =>
    obtain ⟨_, _, -, -, -, a⟩ := a
    obtain ⟨_, _, -, -, -, b⟩ := b
    exact Option.some.inj (a.symm.trans b)
  | _ => exact Option.some.inj (Eq.trans (Eq.symm a) b)
section
variable {p : Program} {l : Launch} {e : Env} {R : Room} {s : State} {m : MethodId} {args : Array Value} {below : List Frame} {meth : Method} {c : Code} {H : Heap} {locs : List Loc} {cells slots : Nat} {Q : State → Prop}
variable {cc : ByteArray} {pc : Nat} {ls : Array Slot} {rest : List Value} {D : va_G} {cl : List vw_C} {A : Nat → Prop} {cA : Nat → ClassId} {ws : va_W} {H0 : Heap}
theorem z_newa (hexec : p.tables.exec = Jvm.exec) (hb : c.code = cc) {atype : ArrayType} (harr : (Cond.arrayClass (newarray.typeOf atype)).before args s = true) {ty : FieldType} (hty : newarray.typeOf atype = ty) (hK : va_K D cl (z_tys cA) s) (t0 : Nat) {c1 : ClassId} (ht : (z_tys cA)[t0]? = some (c1, ty)) (hP : va_P D cl ws H) (hD : va_D A ws) (hS : va_S A H0 H locs) (hA : ∀ q, H0.size ≤ q → A q)
    {n : Int32} {N' : Nat} {a0 : vp_A} (ha : ∀ cA : ClassId, vp_cell cA a0 = arrV cA N' (fun _ => defaultValue ty)) (hn : ¬ n < 0) (hN : n.toNatClampNeg = N') (hbytes : N' * componentBytes ty ≤ 536870912) (hcells : cells + 1 ≤ R.cells) (hslots : slots + N' ≤ R.slots) (hdg : decode cc pc = .ok (.newarray atype, 2))
    (kk : ∀ (q : Nat) (H1 : Heap), va_P D cl (ws ++ [(q, .inl (c1, a0))]) H1 → va_D A (ws ++ [(q, .inl (c1, a0))]) → va_S A H0 H1 locs →
      W p l e R s m args below meth c H1 locs (cells + 1) (slots + N') Q (F0 m (pc + 2) ls (.ref q :: rest))) : W p l e R s m args below meth c H locs cells slots Q (F0 m pc ls (.int n :: rest)) := by
  refine va_newa hexec hb harr hty hK hP hD hS hA ha hn hN hbytes hcells hslots hdg (fun q c2 H1 hK2 hP2 hD2 hS2 => ?_)
  have hl := (List.getElem?_eq_some_iff.mp ht).1
  have e : c2 = c1 := z_cls_one (ty := ty) hK2 (i := (z_tys cA).length) (j := t0) (by simp) (by rw [List.getElem?_append_left hl]; exact ht)
  subst e
  exact kk q H1 hP2 hD2 hS2
theorem z_newq (hexec : p.tables.exec = Jvm.exec) (hb : c.code = cc) {own C : String} {index : Nat} (hown : s.vm.findClass own = some m.cls) (hclink : (Cond.classLink own index C).before args s = true) (hover : va_AO C s) (hK : va_K D cl (z_tys cA) s) (t0 : Nat) {c1 : ClassId} (ht : (z_tys cA)[t0]? = some (c1, .object C)) (hP : va_P D cl ws H) (hD : va_D A ws) (hS : va_S A H0 H locs) (hA : ∀ q, H0.size ≤ q → A q)
    {n : Int32} {N' : Nat} (hn : ¬ n < 0) (hN : n.toNatClampNeg = N') (hbytes : N' * 4 ≤ 536870912) (hcells : cells + 1 ≤ R.cells) (hslots : slots + N' ≤ R.slots) (hdg : decode cc pc = .ok (.anewarray index, 3))
    (kk : ∀ (q : Nat) (H1 : Heap), va_P D cl (ws ++ [(q, .inl (c1, N', .inr (.inr (.inr (.inr (fun _ => none))))))]) H1 → va_D A (ws ++ [(q, .inl (c1, N', .inr (.inr (.inr (.inr (fun _ => none))))))]) → va_S A H0 H1 locs →
      W p l e R s m args below meth c H1 locs (cells + 1) (slots + N') Q (F0 m (pc + 3) ls (.ref q :: rest))) : W p l e R s m args below meth c H locs cells slots Q (F0 m pc ls (.int n :: rest)) := by
  refine va_newq hexec hb hown hclink hover hK hP hD hS hA hn hN hbytes hcells hslots hdg (fun q c2 H1 hK2 hP2 hD2 hS2 => ?_)
  have hl := (List.getElem?_eq_some_iff.mp ht).1
  have e : c2 = c1 := z_cls_one (ty := .object C) hK2 (i := (z_tys cA).length) (j := t0) (by simp) (by rw [List.getElem?_append_left hl]; exact ht)
  subst e
  exact kk q H1 hP2 hD2 hS2
end
theorem z_cell_eq (c : ClassId) {n : Nat} {f g : Nat → Int32} (h : ∀ j, j < n → f j = g j) : vp_cell c (n, .inl f) = vp_cell c (n, .inl g) := by
  rw [vp_cell_i, vp_cell_i]
  unfold arrV
  congr 2
  funext j
  show Value.int (f j.val) = Value.int (g j.val)
  rw [h j.val j.isLt]
/-- the words of a constructor: its own code, and all good ones -/
def k_ws (y : MethodName) (cc : ByteArray) (n : Nat) : List Cond := .code y cc n none :: zgw
theorem k_good {y : MethodName} {cc : ByteArray} {n : Nat} (h : Cond.code y cc n none ∈ zgw) : GoodIn zgw (k_ws y cc n) := zgw_good (fun w hw => by
  rcases List.mem_cons.mp hw with q | q
  · rw [q]; exact h
  · exact q)
set_option maxHeartbeats 4000000 in
set_option maxRecDepth 100000 in
/-- Arrays.fill(row, v) -/
theorem k_fill (l : Launch) (D : va_G) (cA : Nat → ClassId) (a n sz : Nat) (f : Nat → Int32) (v : Int32) (hn : n < 2147483648) : Met l yJ7_fill_53178 (k_ws yJ7_fill_53178 cJ7_fill_53178 4) ({ frames := 0, cells := 0, slots := 0, locals := 0 }) (va_Pc [.ref a, .int v] (fun U => U.heap.size = sz ∧ va_P D zcl [(a, .inl (cA 0, n, .inl f))] U.heap ∧ va_K D zcl (z_tys cA) U ∧ va_D (fun _ => True) [(a, .inl (cA 0, n, .inl f))]))
    (va_Qv (fun _ : Unit => True) (fun _ t => va_P D zcl [(a, .inl (cA 0, n, .inl (fun _ => v)))] t.heap ∧ va_K D zcl (z_tys cA) t ∧ va_D (va_A [(a, .inl (cA 0, n, .inl f))] sz) [(a, .inl (cA 0, n, .inl (fun _ => v)))]) (va_A [(a, .inl (cA 0, n, .inl f))] sz)) 0 0 (va_A [(a, .inl (cA 0, n, .inl f))] sz) := by
  refine Met.ofW (cc := cJ7_fill_53178) (maxL := 4) (ret := none) (by decide) rfl ?_
  intro p e s m args below meth c s₁ B hml hv
  obtain ⟨rfl, hsz, hP, hK, hD0⟩ := hv
  have hx := B.exec
  have hb := B.bytes
  have hr := B.returns
  subst hsz
  have hD := hD0.self (sz := s.heap.size)
  generalize hAe : va_A [(a, .inl (cA 0, n, .inl f))] s.heap.size = A at hD ⊢
  have hS : va_S A s.heap s.heap [] := va_S.rf
  have lp : ∀ d i f2 H locs ls, i + d = n → (∀ j, j < i → f2 j = v) → va_P D zcl [(a, .inl (cA 0, n, .inl f2))] H → va_D A [(a, .inl (cA 0, n, .inl f2))] → va_S A s.heap H locs → lv_has ls 4 [(0, .ref a), (1, .int v), (2, .int (nI i)), (3, .int (nI n))] → W p l e ({ frames := 0, cells := 0, slots := 0, locals := 0 }) s m #[Value.ref a, Value.int v] below meth c H locs 0 0 (MQ below (va_Qv (fun _ : Unit => True) (fun _ t => va_P D zcl [(a, .inl (cA 0, n, .inl (fun _ => v)))] t.heap ∧ va_K D zcl (z_tys cA) t ∧ va_D A [(a, .inl (cA 0, n, .inl (fun _ => v)))]) A) #[Value.ref a, Value.int v] s 0 0 A) (F0 m 5 ls []) := by
    intro d
    induction d with
    | zero =>
      intro i f2 H locs ls hi hf hP hD hS hl
      refine lv_iload_n hx hb dJ7_fill_53178_5 rfl (lv_at hl 2 rfl) ?_
      refine lv_iload_n hx hb dJ7_fill_53178_6 rfl (lv_at hl 3 rfl) ?_
      refine lv_icmp_ge (tgt := 20) hx hb dJ7_fill_53178_7 (by decide) (fun _ => ?_) (fun z => absurd (by rw [show i = n by omega]; exact Int32.le_refl _) z)
      have hP9 : va_P D zcl [(a, .inl (cA 0, n, .inl (fun _ => v)))] H := by
        intro k q hk
        match k, hk with
        | 0, hk =>
          cases hk
          have h1 : H[a]? = some (vp_cell (cA 0) (n, .inl f2)) := hP 0 _ rfl
          show H[a]? = some (vp_cell (cA 0) (n, .inl (fun _ => v)))
          rw [h1, z_cell_eq (cA 0) (g := fun _ => v) (fun j hj => hf j (by omega))]
        | k + 1, hk => simp at hk
      have hD9 : va_D A [(a, .inl (cA 0, n, .inl (fun _ => v)))] := ⟨fun i j x y h1 h2 _ => by
        have h1l := (List.getElem?_eq_some_iff.mp h1).1
        have h2l := (List.getElem?_eq_some_iff.mp h2).1
        simp at h1l h2l
        omega, fun k q hk => by
        match k, hk with
        | 0, hk => cases hk; exact hD.2 0 (a, .inl (cA 0, n, .inl f2)) rfl
        | k + 1, hk => simp at hk⟩
      exact W.vret hx hb hr (fun t ht hW => ⟨⟨(), rfl, trivial, by rw [ht]; exact hP9, va_K.moved hW.alike hK, hD9⟩, hS.F ht⟩) hS.2.2 dJ7_fill_53178_20
    | succ d ih =>
      intro i f2 H locs ls hi hf hP hD hS hl
      refine lv_iload_n hx hb dJ7_fill_53178_5 rfl (lv_at hl 2 rfl) ?_
      refine lv_iload_n hx hb dJ7_fill_53178_6 rfl (lv_at hl 3 rfl) ?_
      refine lv_icmp_ge (tgt := 20) hx hb dJ7_fill_53178_7 (by decide) (fun z => ?_) (fun _ => ?_)
      · rw [nLe (by omega) (by omega)] at z; omega
      refine lv_aload_n hx hb dJ7_fill_53178_10 rfl (lv_at hl 0 rfl) ?_
      refine lv_iload_n hx hb dJ7_fill_53178_11 rfl (lv_at hl 2 rfl) ?_
      refine lv_iload_n hx hb dJ7_fill_53178_12 rfl (lv_at hl 1 rfl) ?_
      refine va_iast hx hb hK hP hD hS 0 0 rfl rfl (nIn (show i < n by omega) (by omega)) dJ7_fill_53178_13 (fun H1 locs1 hP1 hD1 hS1 => ?_)
      refine lv_iinc (v := nI (i + 1)) (lv' := [(2, .int (nI (i + 1))), (0, .ref a), (1, .int v), (3, .int (nI n))]) hx hb dJ7_fill_53178_14 hl (k := 2) rfl (nI_1 i) (by decide) rfl (fun ls hl => ?_)
      refine lv_goto (tgt := 5) hx hb dJ7_fill_53178_17 (by decide) ?_
      refine ih (i + 1) (upd f2 (zn (nI i)) v) H1 locs1 ls (by omega) (fun j hj => ?_) hP1 hD1 hS1 (lv_sub hl [1, 2, 0, 3] rfl)
      rw [zN (show i < 2147483648 by omega)]
      by_cases e : j = i
      · rw [e, upd_self]
      · rw [upd_ne _ e]; exact hf j (by omega)
  have hl := lv_entry ([.ref a, .int v]) (n := 4) (Nat.le_of_ble_eq_true rfl)
  rw [lg_entry_eq]
  generalize (lg_sl ([.ref a, .int v]) ++ List.replicate (4 - (lg_sl ([.ref a, .int v])).length) Slot.unset).toArray = ls at hl ⊢
  have hl : lv_has ls 4 [(0, .ref a), (1, .int v)] := hl
  refine lv_iconst (v := 0) hx hb dJ7_fill_53178_0 (by decide) ?_
  refine lv_istore_n (lv' := [(2, .int 0), (0, .ref a), (1, .int v)]) hx hb dJ7_fill_53178_1 rfl hl (by decide) rfl (fun ls hl => ?_)
  refine lv_aload_n hx hb dJ7_fill_53178_2 rfl (lv_at hl 1 rfl) ?_
  refine va_alen (v := nI n) hx hb hK hP 0 0 rfl rfl rfl dJ7_fill_53178_3 ?_
  refine lv_istore_n (lv' := [(3, .int (nI n)), (2, .int 0), (0, .ref a), (1, .int v)]) hx hb dJ7_fill_53178_4 rfl hl (by decide) rfl (fun ls hl => ?_)
  exact lp n 0 f s.heap [] ls (by omega) (fun j hj => by omega) hP hD hS (lv_sub hl [2, 3, 1, 0] rfl)
