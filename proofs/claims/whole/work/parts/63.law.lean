/-! THE CLAIM OUT OF ONE WALK OF THE LAW'S BODY. Your part is whole_start (and what it stands on); all else here is the same for every law, but numbers. -/
def R_law : String := "ForestKeeperLaw"
def lw_P (b : Addr) (xs : List Int32) (args : Array Value) (s : State) : Prop := args = #[.ref b] ∧ s.IntsAt b xs ∧ xs.length ≤ 2560 ∧ (Jvm.Cond.and given_1 narrow_1).before args s = true
def lw_Q (_ : Array Value) (s : State) (o : Outcome) (t : State) : Prop := o = .returned (some (.int 1)) ∧ Framed s o t [] 600000 7302250
def lw_Z (below : List Frame) (a : Array Value) (s : State) : State → Prop := fun t => ∃ o, t.status = .running ∧ Ended t below o ∧ lw_Q a s o t
/-- the law's own end, with 1 on the stack, nothing written that was there before, its room as the claim has it -/
theorem lw_ret {p : Program} {l : Launch} {e : Env} {s : State} {m : MethodId} {below : List Frame} {meth : Method} {c : Code} {b : Nat} (hx : p.tables.exec = Jvm.exec) (hb : c.code = code) (hr : meth.sig.returnType = ret) (hlocks : meth.locks = false) {pc : Nat} {H : Heap} {ls : Array Slot} (hdg : decode code pc = .ok (.ireturn, 1)) : W p l e room_1 s m #[Value.ref b] below meth c H [] 600000 7302250 (lw_Z below #[Value.ref b] s) (F0 m pc ls [.int 1]) := by
  intro T hT X
  obtain ⟨fs, hret, hrun, hended, hW, hframe⟩ := X.leave (v := some (.int 1)) (hlocks := hlocks) (fun h => by rw [hr] at h; cases h)
  have hmeth' : T.vm.method? m = some meth := X.method'
  refine ⟨T.setFrames fs, ?_, .returned (some (.int 1)), hrun, hended, rfl, ⟨_, rfl⟩, hW, hframe⟩
  jvm_step X.here [X.here.top, hx, hb, hdg, hmeth', hr, ret, narrow_b1]
  (try refine ⟨rfl, ?_⟩); (try refine ⟨rfl, ?_⟩)
  first | (intro acts; rw [hret _ acts rfl rfl rfl]) | rw [hret _ _ rfl rfl rfl]
  exact Steps.refl _
/-- what holds at the law's entry: the machine, the code, the tables' words (any of lw_tbl by 'hts w (by decide +kernel)'), the script of L ints xs at the cell b, what the Statement gives of the start (any of its parts by flat_of_before) -/
def lw_At (p : Program) (s : State) (m : MethodId) (meth : Method) (c : Code) (b L : Nat) (xs : Nat → Int32) : Prop :=
  p.tables.exec = Jvm.exec ∧ c.code = code ∧ meth.sig.returnType = ret ∧ c.maxLocals = 4 ∧ s.vm.findClass R_law = some m.cls ∧ (∀ w ∈ lw_tbl, w.before #[Value.ref b] s = true) ∧ va_X b L xs s s.heap ∧ b < s.heap.size ∧ meth.locks = false ∧ (Jvm.Cond.and given_1 narrow_1).before #[Value.ref b] s = true
/-! the law's own judgement: both memories, the script -/
def adL (b : Nat) (adC adM : Nat → Nat) : Nat → Nat := fun i => if i = 0 then b else if i = 1 then adC 0 else adM 0
def LW (xs : Nat → Int32) (n pc : Nat) (L : List (Option Value)) (st : List Value) (C M : zM) : Prop :=
  ∀ (p : Program) (l : Launch) (e : Env) (s : State) (m : MethodId) (below : List Frame) (meth : Method) (c : Code) (D : va_G) (cA : Nat → ClassId) (adC adM : Nat → Nat) (b : Nat), lw_At p s m meth c b n xs → va_K D zcl (z_tys cA) s →
    ∀ (H : Heap) (locs : List Loc) (ls : Array Slot), va_P D zcl (z_w z_layC cA adC C) H → va_P D zcl (z_w z_layM cA adM M) H → va_D (fun q => s.heap.size ≤ q) (z_w z_layC cA adC C) → va_D (fun q => s.heap.size ≤ q) (z_w z_layM cA adM M) → (∀ (i j : Nat) (x y : Nat × va_E), (z_w z_layC cA adC C)[i]? = some x → (z_w z_layM cA adM M)[j]? = some y → x.1 ≠ y.1) → va_S (fun q => s.heap.size ≤ q) s.heap H locs → z_lv ls 4 (adL b adC adM) L →
      W p l e room_1 s m #[Value.ref b] below meth c H locs 100 30000 (lw_Z below #[Value.ref b] s) (F0 m pc ls (st.map (z_v (adL b adC adM))))
theorem l_iconst {xs : Nat → Int32} {n pc : Nat} {L : List (Option Value)} {st : List Value} {C M : zM} {z : Int} {v : Int32} (hd : decode code pc = .ok (.iconst z, 1)) (hv : Int32.ofInt z = v) (k : LW xs n (pc + 1) L (.int v :: st) C M) : LW xs n pc L st C M := by
  intro p l e s m below meth c D cA adC adM b C0 hK H locs ls hPC hPM hDC hDM hdis hS hl
  exact lv_iconst C0.1 C0.2.1 hd hv (k p l e s m below meth c D cA adC adM b C0 hK H locs ls hPC hPM hDC hDM hdis hS hl)
theorem l_bipush {xs : Nat → Int32} {n pc : Nat} {L : List (Option Value)} {st : List Value} {C M : zM} {z : Int} {v : Int32} (hd : decode code pc = .ok (.bipush z, 2)) (hv : (Int8.ofInt z).toInt32 = v) (k : LW xs n (pc + 2) L (.int v :: st) C M) : LW xs n pc L st C M := by
  intro p l e s m below meth c D cA adC adM b C0 hK H locs ls hPC hPM hDC hDM hdis hS hl
  exact lv_bipush C0.1 C0.2.1 hd hv (k p l e s m below meth c D cA adC adM b C0 hK H locs ls hPC hPM hDC hDM hdis hS hl)
theorem l_iload_n {xs : Nat → Int32} {n pc : Nat} {L : List (Option Value)} {st : List Value} {C M : zM} {z : Fin 4} {i : Nat} {x : Int32} (hd : decode code pc = .ok (.iload_n z, 1)) (hi : (z : Nat) = i) (hL : L[i]? = some (some (.int x))) (k : LW xs n (pc + 1) L (.int x :: st) C M) : LW xs n pc L st C M := by
  intro p l e s m below meth c D cA adC adM b C0 hK H locs ls hPC hPM hDC hDM hdis hS hl
  exact lv_iload_n C0.1 C0.2.1 hd hi (hl.2.2 i _ hL) (k p l e s m below meth c D cA adC adM b C0 hK H locs ls hPC hPM hDC hDM hdis hS hl)
theorem l_aload_n {xs : Nat → Int32} {n pc : Nat} {L : List (Option Value)} {st : List Value} {C M : zM} {z : Fin 4} {i : Nat} {x : Nat} (hd : decode code pc = .ok (.aload_n z, 1)) (hi : (z : Nat) = i) (hL : L[i]? = some (some (.ref x))) (k : LW xs n (pc + 1) L (.ref x :: st) C M) : LW xs n pc L st C M := by
  intro p l e s m below meth c D cA adC adM b C0 hK H locs ls hPC hPM hDC hDM hdis hS hl
  exact lv_aload_n C0.1 C0.2.1 hd hi (hl.2.2 i _ hL) (k p l e s m below meth c D cA adC adM b C0 hK H locs ls hPC hPM hDC hDM hdis hS hl)
theorem l_iadd {xs : Nat → Int32} {n pc : Nat} {L : List (Option Value)} {st : List Value} {C M : zM} {x y : Int32} (hd : decode code pc = .ok (.iadd, 1)) (k : LW xs n (pc + 1) L (.int (x + y) :: st) C M) : LW xs n pc L (.int y :: .int x :: st) C M := by
  intro p l e s m below meth c D cA adC adM b C0 hK H locs ls hPC hPM hDC hDM hdis hS hl
  exact lv_iadd C0.1 C0.2.1 hd (k p l e s m below meth c D cA adC adM b C0 hK H locs ls hPC hPM hDC hDM hdis hS hl)
theorem l_isub {xs : Nat → Int32} {n pc : Nat} {L : List (Option Value)} {st : List Value} {C M : zM} {x y : Int32} (hd : decode code pc = .ok (.isub, 1)) (k : LW xs n (pc + 1) L (.int (x - y) :: st) C M) : LW xs n pc L (.int y :: .int x :: st) C M := by
  intro p l e s m below meth c D cA adC adM b C0 hK H locs ls hPC hPM hDC hDM hdis hS hl
  exact lv_isub C0.1 C0.2.1 hd (k p l e s m below meth c D cA adC adM b C0 hK H locs ls hPC hPM hDC hDM hdis hS hl)
theorem l_iand {xs : Nat → Int32} {n pc : Nat} {L : List (Option Value)} {st : List Value} {C M : zM} {x y : Int32} (hd : decode code pc = .ok (.iand, 1)) (k : LW xs n (pc + 1) L (.int (x &&& y) :: st) C M) : LW xs n pc L (.int y :: .int x :: st) C M := by
  intro p l e s m below meth c D cA adC adM b C0 hK H locs ls hPC hPM hDC hDM hdis hS hl
  exact lv_iand C0.1 C0.2.1 hd (k p l e s m below meth c D cA adC adM b C0 hK H locs ls hPC hPM hDC hDM hdis hS hl)
theorem l_land {xs : Nat → Int32} {n pc : Nat} {L : List (Option Value)} {st : List Value} {C M : zM} {x y : Int64} (hd : decode code pc = .ok (.land, 1)) (k : LW xs n (pc + 1) L (.long (x &&& y) :: st) C M) : LW xs n pc L (.long y :: .long x :: st) C M := by
  intro p l e s m below meth c D cA adC adM b C0 hK H locs ls hPC hPM hDC hDM hdis hS hl
  exact lv_land C0.1 C0.2.1 hd (k p l e s m below meth c D cA adC adM b C0 hK H locs ls hPC hPM hDC hDM hdis hS hl)
theorem l_lor {xs : Nat → Int32} {n pc : Nat} {L : List (Option Value)} {st : List Value} {C M : zM} {x y : Int64} (hd : decode code pc = .ok (.lor, 1)) (k : LW xs n (pc + 1) L (.long (x ||| y) :: st) C M) : LW xs n pc L (.long y :: .long x :: st) C M := by
  intro p l e s m below meth c D cA adC adM b C0 hK H locs ls hPC hPM hDC hDM hdis hS hl
  exact lv_lor C0.1 C0.2.1 hd (k p l e s m below meth c D cA adC adM b C0 hK H locs ls hPC hPM hDC hDM hdis hS hl)
theorem l_i2l {xs : Nat → Int32} {n pc : Nat} {L : List (Option Value)} {st : List Value} {C M : zM} {x : Int32} (hd : decode code pc = .ok (.i2l, 1)) (k : LW xs n (pc + 1) L (.long x.toInt64 :: st) C M) : LW xs n pc L (.int x :: st) C M := by
  intro p l e s m below meth c D cA adC adM b C0 hK H locs ls hPC hPM hDC hDM hdis hS hl
  exact lv_i2l C0.1 C0.2.1 hd rfl (k p l e s m below meth c D cA adC adM b C0 hK H locs ls hPC hPM hDC hDM hdis hS hl)
theorem l_lshl {xs : Nat → Int32} {n pc : Nat} {L : List (Option Value)} {st : List Value} {C M : zM} {x : Int64} {y : Int32} (hd : decode code pc = .ok (.lshl, 1)) (k : LW xs n (pc + 1) L (.long (x <<< (y.toInt64 &&& 63)) :: st) C M) : LW xs n pc L (.int y :: .long x :: st) C M := by
  intro p l e s m below meth c D cA adC adM b C0 hK H locs ls hPC hPM hDC hDM hdis hS hl
  exact lv_lshl C0.1 C0.2.1 hd rfl (k p l e s m below meth c D cA adC adM b C0 hK H locs ls hPC hPM hDC hDM hdis hS hl)
theorem l_ldc2 {xs : Nat → Int32} {n pc : Nat} {L : List (Option Value)} {st : List Value} {C M : zM} {idx : Nat} {v : Int64} (hd : decode code pc = .ok (.ldc2_w idx, 3)) (hv : Jvm.Cond.constantLong RL idx v ∈ zgw) (k : LW xs n (pc + 3) L (.long v :: st) C M) : LW xs n pc L st C M := by
  intro p l e s m below meth c D cA adC adM b C0 hK H locs ls hPC hPM hDC hDM hdis hS hl
  exact lv_ldc2 (own := RL) C0.1 C0.2.1 C0.2.2.2.2.1 (C0.2.2.2.2.2.1 _ (zgw_tbl hv)) hd (k p l e s m below meth c D cA adC adM b C0 hK H locs ls hPC hPM hDC hDM hdis hS hl)
theorem l_sld {xs : Nat → Int32} {n pc : Nat} {L : List (Option Value)} {st : List Value} {C M : zM} {i : Int32} (hi : vp_in i n) (hd : decode code pc = .ok (.iaload, 1)) (k : LW xs n (pc + 1) L (.int (xs (zn i)) :: st) C M) : LW xs n pc L (.int i :: .ref 0 :: st) C M := by
  intro p l e s m below meth c D cA adC adM b C0 hK H locs ls hPC hPM hDC hDM hdis hS hl
  have hbl := C0.2.2.2.2.2.2.2.1
  exact va_sld C0.1 C0.2.1 C0.2.2.2.2.2.2.1 hbl (Nat.not_le.mpr hbl) hS hi hd (k p l e s m below meth c D cA adC adM b C0 hK H locs ls hPC hPM hDC hDM hdis hS hl)
theorem l_slen {xs : Nat → Int32} {n pc : Nat} {L : List (Option Value)} {st : List Value} {C M : zM}  (hd : decode code pc = .ok (.arraylength, 1)) (k : LW xs n (pc + 1) L (.int (nI n) :: st) C M) : LW xs n pc L (.ref 0 :: st) C M := by
  intro p l e s m below meth c D cA adC adM b C0 hK H locs ls hPC hPM hDC hDM hdis hS hl
  have hbl := C0.2.2.2.2.2.2.2.1
  exact va_slen C0.1 C0.2.1 C0.2.2.2.2.2.2.1 hbl (Nat.not_le.mpr hbl) hS hd (k p l e s m below meth c D cA adC adM b C0 hK H locs ls hPC hPM hDC hDM hdis hS hl)
theorem l_lcmp {xs : Nat → Int32} {n pc : Nat} {L : List (Option Value)} {st : List Value} {C M : zM} {x y : Int64} (hd : decode code pc = .ok (.lcmp, 1)) (k : LW xs n (pc + 1) L (.int (lg_cmp x y) :: st) C M) : LW xs n pc L (.long y :: .long x :: st) C M := by
  intro p l e s m below meth c D cA adC adM b C0 hK H locs ls hPC hPM hDC hDM hdis hS hl
  exact W.lcmp C0.1 C0.2.1 hd (k p l e s m below meth c D cA adC adM b C0 hK H locs ls hPC hPM hDC hDM hdis hS hl)
theorem l_if_eq {xs : Nat → Int32} {n pc : Nat} {L : List (Option Value)} {st : List Value} {C M : zM} {x : Int32} {off : Int} (tgt : Nat) (hd : decode code pc = .ok (.ifCond .eq off, 3)) (ht : (pc : Int) + off = (tgt : Int)) (k : (x = 0 → LW xs n tgt L st C M) ∧ (¬ x = 0 → LW xs n (pc + 3) L st C M)) : LW xs n pc L (.int x :: st) C M := by
  intro p l e s m below meth c D cA adC adM b C0 hK H locs ls hPC hPM hDC hDM hdis hS hl
  exact lv_if_eq C0.1 C0.2.1 hd ht (fun q => k.1 q p l e s m below meth c D cA adC adM b C0 hK H locs ls hPC hPM hDC hDM hdis hS hl) (fun q => k.2 q p l e s m below meth c D cA adC adM b C0 hK H locs ls hPC hPM hDC hDM hdis hS hl)
theorem l_icmp_eq {xs : Nat → Int32} {n pc : Nat} {L : List (Option Value)} {st : List Value} {C M : zM} {x y : Int32} {off : Int} (tgt : Nat) (hd : decode code pc = .ok (.if_icmp .eq off, 3)) (ht : (pc : Int) + off = (tgt : Int)) (k : (x = y → LW xs n tgt L st C M) ∧ (¬ x = y → LW xs n (pc + 3) L st C M)) : LW xs n pc L (.int y :: .int x :: st) C M := by
  intro p l e s m below meth c D cA adC adM b C0 hK H locs ls hPC hPM hDC hDM hdis hS hl
  exact lv_icmp_eq C0.1 C0.2.1 hd ht (fun q => k.1 q p l e s m below meth c D cA adC adM b C0 hK H locs ls hPC hPM hDC hDM hdis hS hl) (fun q => k.2 q p l e s m below meth c D cA adC adM b C0 hK H locs ls hPC hPM hDC hDM hdis hS hl)
theorem l_icmp_gt {xs : Nat → Int32} {n pc : Nat} {L : List (Option Value)} {st : List Value} {C M : zM} {x y : Int32} {off : Int} (tgt : Nat) (hd : decode code pc = .ok (.if_icmp .gt off, 3)) (ht : (pc : Int) + off = (tgt : Int)) (k : (y < x → LW xs n tgt L st C M) ∧ (¬ y < x → LW xs n (pc + 3) L st C M)) : LW xs n pc L (.int y :: .int x :: st) C M := by
  intro p l e s m below meth c D cA adC adM b C0 hK H locs ls hPC hPM hDC hDM hdis hS hl
  exact lv_icmp_gt C0.1 C0.2.1 hd ht (fun q => k.1 q p l e s m below meth c D cA adC adM b C0 hK H locs ls hPC hPM hDC hDM hdis hS hl) (fun q => k.2 q p l e s m below meth c D cA adC adM b C0 hK H locs ls hPC hPM hDC hDM hdis hS hl)
theorem l_goto {xs : Nat → Int32} {n pc : Nat} {L : List (Option Value)} {st : List Value} {C M : zM} {off : Int} (tgt : Nat) (hd : decode code pc = .ok (.goto off, 3)) (ht : (pc : Int) + off = (tgt : Int)) (k : LW xs n tgt L st C M) : LW xs n pc L st C M := by
  intro p l e s m below meth c D cA adC adM b C0 hK H locs ls hPC hPM hDC hDM hdis hS hl
  exact lv_goto C0.1 C0.2.1 hd ht (k p l e s m below meth c D cA adC adM b C0 hK H locs ls hPC hPM hDC hDM hdis hS hl)
theorem l_tin {xs : Nat → Int32} {n pc : Nat} {L : List (Option Value)} {st : List Value} {C M : zM} {dflt lo hi : Int} {offs : Array Int} {len : Nat} {x : Int32} {off : Int} (tgt : Nat) (hd : decode code pc = .ok (.tableswitch dflt lo hi offs, len)) (h1 : ¬ x.toInt < lo) (h2 : ¬ hi < x.toInt) (ho : offs[(x.toInt - lo).toNat]? = some off) (ht : (pc : Int) + off = (tgt : Int)) (k : LW xs n tgt L st C M) : LW xs n pc L (.int x :: st) C M := by
  intro p l e s m below meth c D cA adC adM b C0 hK H locs ls hPC hPM hDC hDM hdis hS hl
  exact lv_tableIn C0.1 C0.2.1 hd h1 h2 ho ht (k p l e s m below meth c D cA adC adM b C0 hK H locs ls hPC hPM hDC hDM hdis hS hl)
theorem l_tout {xs : Nat → Int32} {n pc : Nat} {L : List (Option Value)} {st : List Value} {C M : zM} {dflt lo hi : Int} {offs : Array Int} {len : Nat} {x : Int32} (tgt : Nat) (hd : decode code pc = .ok (.tableswitch dflt lo hi offs, len)) (h : x.toInt < lo ∨ hi < x.toInt) (ht : (pc : Int) + dflt = (tgt : Int)) (k : LW xs n tgt L st C M) : LW xs n pc L (.int x :: st) C M := by
  intro p l e s m below meth c D cA adC adM b C0 hK H locs ls hPC hPM hDC hDM hdis hS hl
  exact lv_tableOut C0.1 C0.2.1 hd h ht (k p l e s m below meth c D cA adC adM b C0 hK H locs ls hPC hPM hDC hDM hdis hS hl)
theorem l_iinc {xs : Nat → Int32} {n pc : Nat} {L : List (Option Value)} {st : List Value} {C M : zM} {i : Nat} {z : Int} {x v : Int32} {L2 : List (Option Value)} (hd : decode code pc = .ok (.iinc i z, 3)) (hx : L[i]? = some (some (.int x))) (hv : x + Int32.ofInt z = v) (hn : i < 4) (hL : z_s1 L i (.int v) = L2) (k : LW xs n (pc + 3) L2 st C M) : LW xs n pc L st C M := by
  intro p l e s m below meth c D cA adC adM b C0 hK H locs ls hPC hPM hDC hDM hdis hS hl
  obtain ⟨q, hq⟩ := List.getElem?_of_mem ((z_prs_mem (adL b adC adM) L 0 (i, .int x)).mpr ⟨i, _, hx, by simp [z_v]⟩)
  exact lv_iinc C0.1 C0.2.1 hd (z_lv_has hl) hq hv hn rfl (fun ls' hl' => k p l e s m below meth c D cA adC adM b C0 hK H locs ls' hPC hPM hDC hDM hdis hS (by rw [← hL]; exact z_lv_s1 (v := .int v) hl'))
theorem l_ret {xs : Nat → Int32} {n pc : Nat} {L : List (Option Value)} {st : List Value} {C M : zM}  (hd : decode code pc = .ok (.ireturn, 1)) : LW xs n pc L [.int 1] C M := by
  intro p l e s m below meth c D cA adC adM b C0 hK H locs ls hPC hPM hDC hDM hdis hS hl
  exact va_forget hS.2.2 (W.widen (k := 600000) (n := 7302250) (by omega) (by omega) (lw_ret C0.1 C0.2.1 C0.2.2.1 C0.2.2.2.2.2.2.2.2.1 hd))
theorem l_callC {I2 : zI} {idx nn : Nat} {xs : Nat → Int32} {n pc : Nat} {L : List (Option Value)} {st : List Value} {C M : zM} {post : Option Value → zM → Prop} (As : List Value) (hd : decode code pc = .ok (.invokevirtual idx, 3)) (hm : z_ml RL idx I2 6 nn) (hw : z_lay I2 = z_layC) (hr : I2.2.2.2.2.2.1 ≤ 8) (hn : As.length = nn) (hst : (st.map fun v => v.category).sum ≤ 8) (hA : ∀ ad, As.map (z_v ad) = As)
    (k : AMet I2 (.ref 0 :: As) C post) (hpost : ∀ r X, post r X → (∀ ad ad' : Nat → Nat, r.map (z_v ad) = r.map (z_v ad')) ∧ LW xs n (pc + 3) L (r.toList ++ st) X M) : LW xs n pc L (As.reverse ++ .ref 1 :: st) C M := by
  intro p l e s m below meth c D cA adC adM b C0 hK H locs ls hPC hPM hDC hDM hdis hS hl
  obtain ⟨m1, ⟨T2, N2, m2⟩, m3, m4, m5, m6⟩ := hm
  obtain ⟨hx, hb, hret, hml, hown, hts, hX, hbl, hlocks, hgv⟩ := id C0
  have hM := k _ (fun _ _ q => q) l D cA adC H.size
  rw [hw] at hM
  have hg : GoodIn lw_tbl (wsV RL idx I2.1.cls I2.1 (z_ws I2)) := fun w h => by
    have h1 : w ∈ zgw := by
      rcases List.mem_append.mp h with h | h
      · exact m1 w (List.mem_append_left _ h)
      · rcases List.mem_cons.mp h with h | h
        · exact m1 w (List.mem_append_right _ (by rw [h]; exact List.mem_cons_self))
        · exact h
    exact ⟨zgw_tbl h1, good_of_word (List.mem_filter.mp h1).2⟩
  have hR : (z_rm I2).frames + 1 ≤ room_1.frames ∧ 8 + (I2.2.2.1 + 11) + (z_rm I2).locals ≤ room_1.locals := by
    refine ⟨?_, ?_⟩
    · show I2.2.2.2.2.2.1 + 1 ≤ 9
      omega
    · show 8 + (I2.2.2.1 + 11) + 32 * I2.2.2.2.2.2.1 ≤ 342
      omega
  have cw := cwV (own := RL) (index := idx) (C := I2.1.cls) nn hts hg rfl rfl rfl ⟨rfl, m3, m4, m5⟩ hR
  have hst2 : ((st.map (z_v (adL b adC adM))).map fun v => v.category).sum ≤ 8 := by rw [z_csum]; exact hst
  have hsk : (As.reverse ++ .ref 1 :: st).map (z_v (adL b adC adM)) = As.reverse ++ .ref (adC 0) :: st.map (z_v (adL b adC adM)) := by
    rw [List.map_append, List.map_reverse, hA]
    rfl
  rw [hsk]
  have run := va_runV (As := As) (rest := st.map (z_v (adL b adC adM))) (b := adC 0) (p := p) (l := l) (e := e) (R := room_1) (s := s) (m := m) (args := #[Value.ref b]) (below := below) (meth := meth) (c := c) (H := H) (locs := locs) (cells := 100) (slots := 30000) (g := F0 m pc ls (As.reverse ++ .ref (adC 0) :: st.map (z_v (adL b adC adM)))) ⟨hx, hb, hml, hown, hts⟩ hM cw ⟨z_blind, va_recv hK hPC m2 (z_w_at lo0_0), fun U hU hW => ⟨by show _ = (Value.ref (adC 0) :: As.map (z_v adC)).toArray; rw [hA], by rw [hU], by rw [hU]; exact hPC, va_K.moved hW.alike hK, hDC.weaken (fun _ _ _ _ => trivial)⟩⟩ rfl hn hl.1 rfl (lv_room hst2) hd ⟨Nat.le_of_ble_eq_true rfl, Nat.le_of_ble_eq_true rfl⟩
  have hF : ∀ q, va_A (z_w z_layC cA adC C) H.size q → s.heap.size ≤ q := by
    intro q h
    rcases h with ⟨k, e, hk⟩ | h
    · exact hDC.2 k _ hk
    · exact Nat.le_trans hS.1 h
  have apart : ∀ (j : Nat) (y : Nat × va_E), (z_w z_layM cA adM M)[j]? = some y → y.1 < H.size ∧ ¬ va_A (z_w z_layC cA adC C) H.size y.1 := by
    intro j y hy
    have hlt := (hPM j y hy).lt
    refine ⟨hlt, fun h => ?_⟩
    rcases h with ⟨i, e, hx⟩ | h
    · exact (hdis i j _ _ hx hy) rfl
    · omega
  intro T hT X
  obtain ⟨v, st₀, t, T', L', h0, X', hL, e1, e2, ⟨⟨r, N1, hp1, hv, hP1, hK1, hD1⟩, hz, hk⟩, st'⟩ := run T hT X
  rw [hw] at hP1 hD1
  have hv' : v = r.map (z_v adC) := by cases hv; rfl
  subst hv'
  rw [h0] at hz hk
  obtain ⟨hrm, hgo⟩ := hpost r N1 hp1
  have hS2 : va_S (fun q => s.heap.size ≤ q) s.heap T'.heap (locs ++ L') := ⟨Nat.le_trans hS.1 (by rw [e1]; exact hz), fun q h1 h2 => by rw [e1, hk q (Nat.lt_of_lt_of_le h1 hS.1) (fun z => h2 (hF q z))]; exact hS.2.1 q h1 h2, fun q hq => by
      rcases List.mem_append.mp hq with h | h
      · exact hS.2.2 q h
      · exact hF _ (hL q h)⟩
  have hQ1 : va_P D zcl (z_w z_layC cA adC N1) T'.heap := by rw [e1]; exact hP1
  have hQ2 : va_P D zcl (z_w z_layM cA adM M) T'.heap := fun j y hy => (hPM j y hy).kept (by rw [e1]; exact hk y.1 (apart j y hy).1 (apart j y hy).2)
  have hE1 : va_D (fun q => s.heap.size ≤ q) (z_w z_layC cA adC N1) := hD1.weaken (fun k q _ h => hF q.1 h)
  obtain ⟨t2, a1, b1⟩ := hgo p l e s m below meth c D cA adC adM b C0 hK T'.heap (locs ++ L') ls hQ1 hQ2 hE1 hDM (fun i j x y hx hy hxy => (apart j y hy).2 (by rw [← hxy]; exact hD1.2 i x hx)) hS2 hl T' rfl X'
  refine ⟨t2, st' t2 ?_, b1⟩
  have e3 : List.map (z_v (adL b adC adM)) (r.toList ++ st) = (r.map (z_v adC)).toList ++ List.map (z_v (adL b adC adM)) st := by
    rw [List.map_append, hrm adC (adL b adC adM)]
    cases r <;> rfl
  rw [e3] at a1
  exact a1
theorem l_callM {I2 : zI} {idx nn : Nat} {xs : Nat → Int32} {n pc : Nat} {L : List (Option Value)} {st : List Value} {C M : zM} {post : Option Value → zM → Prop} (As : List Value) (hd : decode code pc = .ok (.invokevirtual idx, 3)) (hm : z_ml RL idx I2 7 nn) (hw : z_lay I2 = z_layM) (hr : I2.2.2.2.2.2.1 ≤ 8) (hn : As.length = nn) (hst : (st.map fun v => v.category).sum ≤ 8) (hA : ∀ ad, As.map (z_v ad) = As)
    (k : AMet I2 (.ref 0 :: As) M post) (hpost : ∀ r X, post r X → (∀ ad ad' : Nat → Nat, r.map (z_v ad) = r.map (z_v ad')) ∧ LW xs n (pc + 3) L (r.toList ++ st) C X) : LW xs n pc L (As.reverse ++ .ref 2 :: st) C M := by
  intro p l e s m below meth c D cA adC adM b C0 hK H locs ls hPC hPM hDC hDM hdis hS hl
  obtain ⟨m1, ⟨T2, N2, m2⟩, m3, m4, m5, m6⟩ := hm
  obtain ⟨hx, hb, hret, hml, hown, hts, hX, hbl, hlocks, hgv⟩ := id C0
  have hM := k _ (fun _ _ q => q) l D cA adM H.size
  rw [hw] at hM
  have hg : GoodIn lw_tbl (wsV RL idx I2.1.cls I2.1 (z_ws I2)) := fun w h => by
    have h1 : w ∈ zgw := by
      rcases List.mem_append.mp h with h | h
      · exact m1 w (List.mem_append_left _ h)
      · rcases List.mem_cons.mp h with h | h
        · exact m1 w (List.mem_append_right _ (by rw [h]; exact List.mem_cons_self))
        · exact h
    exact ⟨zgw_tbl h1, good_of_word (List.mem_filter.mp h1).2⟩
  have hR : (z_rm I2).frames + 1 ≤ room_1.frames ∧ 8 + (I2.2.2.1 + 11) + (z_rm I2).locals ≤ room_1.locals := by
    refine ⟨?_, ?_⟩
    · show I2.2.2.2.2.2.1 + 1 ≤ 9
      omega
    · show 8 + (I2.2.2.1 + 11) + 32 * I2.2.2.2.2.2.1 ≤ 342
      omega
  have cw := cwV (own := RL) (index := idx) (C := I2.1.cls) nn hts hg rfl rfl rfl ⟨rfl, m3, m4, m5⟩ hR
  have hst2 : ((st.map (z_v (adL b adC adM))).map fun v => v.category).sum ≤ 8 := by rw [z_csum]; exact hst
  have hsk : (As.reverse ++ .ref 2 :: st).map (z_v (adL b adC adM)) = As.reverse ++ .ref (adM 0) :: st.map (z_v (adL b adC adM)) := by
    rw [List.map_append, List.map_reverse, hA]
    rfl
  rw [hsk]
  have run := va_runV (As := As) (rest := st.map (z_v (adL b adC adM))) (b := adM 0) (p := p) (l := l) (e := e) (R := room_1) (s := s) (m := m) (args := #[Value.ref b]) (below := below) (meth := meth) (c := c) (H := H) (locs := locs) (cells := 100) (slots := 30000) (g := F0 m pc ls (As.reverse ++ .ref (adM 0) :: st.map (z_v (adL b adC adM)))) ⟨hx, hb, hml, hown, hts⟩ hM cw ⟨z_blind, va_recv hK hPM m2 (z_w_at lo1_0), fun U hU hW => ⟨by show _ = (Value.ref (adM 0) :: As.map (z_v adM)).toArray; rw [hA], by rw [hU], by rw [hU]; exact hPM, va_K.moved hW.alike hK, hDM.weaken (fun _ _ _ _ => trivial)⟩⟩ rfl hn hl.1 rfl (lv_room hst2) hd ⟨Nat.le_of_ble_eq_true rfl, Nat.le_of_ble_eq_true rfl⟩
  have hF : ∀ q, va_A (z_w z_layM cA adM M) H.size q → s.heap.size ≤ q := by
    intro q h
    rcases h with ⟨k, e, hk⟩ | h
    · exact hDM.2 k _ hk
    · exact Nat.le_trans hS.1 h
  have apart : ∀ (j : Nat) (y : Nat × va_E), (z_w z_layC cA adC C)[j]? = some y → y.1 < H.size ∧ ¬ va_A (z_w z_layM cA adM M) H.size y.1 := by
    intro j y hy
    have hlt := (hPC j y hy).lt
    refine ⟨hlt, fun h => ?_⟩
    rcases h with ⟨i, e, hx⟩ | h
    · exact ((hdis j i _ _ hy hx).symm) rfl
    · omega
  intro T hT X
  obtain ⟨v, st₀, t, T', L', h0, X', hL, e1, e2, ⟨⟨r, N1, hp1, hv, hP1, hK1, hD1⟩, hz, hk⟩, st'⟩ := run T hT X
  rw [hw] at hP1 hD1
  have hv' : v = r.map (z_v adM) := by cases hv; rfl
  subst hv'
  rw [h0] at hz hk
  obtain ⟨hrm, hgo⟩ := hpost r N1 hp1
  have hS2 : va_S (fun q => s.heap.size ≤ q) s.heap T'.heap (locs ++ L') := ⟨Nat.le_trans hS.1 (by rw [e1]; exact hz), fun q h1 h2 => by rw [e1, hk q (Nat.lt_of_lt_of_le h1 hS.1) (fun z => h2 (hF q z))]; exact hS.2.1 q h1 h2, fun q hq => by
      rcases List.mem_append.mp hq with h | h
      · exact hS.2.2 q h
      · exact hF _ (hL q h)⟩
  have hQ1 : va_P D zcl (z_w z_layM cA adM N1) T'.heap := by rw [e1]; exact hP1
  have hQ2 : va_P D zcl (z_w z_layC cA adC C) T'.heap := fun j y hy => (hPC j y hy).kept (by rw [e1]; exact hk y.1 (apart j y hy).1 (apart j y hy).2)
  have hE1 : va_D (fun q => s.heap.size ≤ q) (z_w z_layM cA adM N1) := hD1.weaken (fun k q _ h => hF q.1 h)
  obtain ⟨t2, a1, b1⟩ := hgo p l e s m below meth c D cA adC adM b C0 hK T'.heap (locs ++ L') ls hQ2 hQ1 hDC hE1 (fun i j x y hx hy hxy => (apart i x hx).2 (by rw [hxy]; exact hD1.2 j y hy)) hS2 hl T' rfl X'
  refine ⟨t2, st' t2 ?_, b1⟩
  have e3 : List.map (z_v (adL b adC adM)) (r.toList ++ st) = (r.map (z_v adM)).toList ++ List.map (z_v (adL b adC adM)) st := by
    rw [List.map_append, hrm adM (adL b adC adM)]
    cases r <;> rfl
  rw [e3] at a1
  exact a1
