/-! NUMBERS -/
theorem zN {k : Nat} (h : k < 2147483648) : zn (nI k) = k := zn_nI (by omega)
theorem nEq {x y : Nat} (hx : x < 2147483648) (hy : y < 2147483648) : (nI x = nI y) = (x = y) := propext (nI_eq (by omega) (by omega))
theorem nLe {x y : Nat} (hx : x < 2147483648) (hy : y < 2147483648) : (nI x ≤ nI y) = (x ≤ y) := propext (nI_leI (by omega) (by omega))
theorem nLt {x y : Nat} (hx : x < 2147483648) (hy : y < 2147483648) : (nI x < nI y) = (x < y) := propext (nI_ltI (by omega) (by omega))
theorem nIn {k N : Nat} (h : k < N) (hN : N < 2147483648) : vp_in (nI k) N := vp_in_nI h (by omega)
theorem nToI {k : Nat} (h : k < 2147483648) : (nI k).toInt = (k : Int) := nI_toInt (by omega)
theorem nNe {k : Nat} (h : k < 2147483648) : (nI k = -1) = False := by
  apply propext
  refine ⟨fun e => ?_, False.elim⟩
  have := congrArg Int32.toInt e
  rw [nToI h] at this
  have h2 : (-1 : Int32).toInt = -1 := by decide
  omega
theorem nNe' {k : Nat} (h : k < 2147483648) : (-1 = nI k) = False := by
  rw [← nNe h]
  exact propext eq_comm
theorem nNeg {k : Nat} (h : k < 2147483648) : (nI k < 0) = False := by
  apply propext
  exact ⟨fun e => nI_pos (by omega) e, False.elim⟩
theorem n0 : (0 : Int32) = nI 0 := rfl
theorem n1 : (1 : Int32) = nI 1 := rfl
theorem n2 : (2 : Int32) = nI 2 := rfl
theorem n3 : (3 : Int32) = nI 3 := rfl
theorem n20 : (20 : Int32) = nI 20 := rfl
theorem n100 : (100 : Int32) = nI 100 := rfl
theorem n300 : (300 : Int32) = nI 300 := rfl
theorem n800 : (800 : Int32) = nI 800 := rfl
theorem n1500 : (1500 : Int32) = nI 1500 := rfl
theorem nAdd (x y : Nat) : nI x + nI y = nI (x + y) := nI_add x y
theorem nMul (x y : Nat) : nI x * nI y = nI (x * y) := pk_mul x y
theorem nSub {x y : Nat} (h : y ≤ x) : nI x - nI y = nI (x - y) := pk_sub h
theorem nDiv {x d : Nat} (hx : x < 2147483648) (h0 : 0 < d) (hd : d < 2147483648) : nI x / nI d = nI (x / d) := pk_div (by omega) h0 (by omega)
theorem nAm1 (x : Nat) : nI (x + 1) + (-1) = nI x := pk_m1 x
theorem upd_self (f : Nat → Int32) (k : Nat) (x : Int32) : upd f k x k = x := pk_us
theorem upd_ne {f : Nat → Int32} {k j : Nat} (x : Int32) (h : j ≠ k) : upd f k x j = f j := pk_un h
theorem ui_self (I : Nat → Nat → Int32) (id j : Nat) (x : Int32) : z_ui I id j x id = upd (I id) j x := if_pos rfl
theorem ui_ne {I : Nat → Nat → Int32} {id i2 : Nat} (j : Nat) (x : Int32) (h : i2 ≠ id) : z_ui I id j x i2 = I i2 := if_neg h
theorem ul_self (J : Nat → Nat → Int64) (id j : Nat) (x : Int64) : z_ul J id j x id = vp_updL (J id) j x := if_pos rfl
theorem ul_ne {J : Nat → Nat → Int64} {id i2 : Nat} (j : Nat) (x : Int64) (h : i2 ≠ id) : z_ul J id j x i2 = J i2 := if_neg h
theorem updL_self (f : Nat → Int64) (k : Nat) (x : Int64) : vp_updL f k x k = x := pk_uLs
theorem updL_ne {f : Nat → Int64} {k j : Nat} (x : Int64) (h : j ≠ k) : vp_updL f k x j = f j := pk_uLn h
