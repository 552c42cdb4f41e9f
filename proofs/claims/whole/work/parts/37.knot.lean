/-! knot -/
theorem LvI_knot {n m : Nat} {a b s v : Nat → Nat} (hab : ∀ e, e < m → a e < n ∧ b e < n) (h : LvI n m a b s v) : LvI (n + 1) m a b s v := by
  obtain ⟨h1, h2, h3⟩ := h
  refine ⟨h1, fun i k hk hc => ?_, h3⟩
  have alone : ∀ y, cn m a b (Tg s v i) n y → y = n := fun y hy => cn_ind (P := fun y => y = n) rfl (fun x y _ hx hst => by
    obtain ⟨e, e1, -, e2⟩ := hst
    have := hab e e1
    rcases e2 with ⟨q1, q2⟩ | ⟨q1, q2⟩ <;> omega) hy
  by_cases ek : k = n
  · exfalso
    subst ek
    have := ctp_self k (k + 1)
    have := ctp_mono (p := cn m a b (Tg s v i) k) (q := fun x => x = k) (n := k + 1) (fun y _ hy => alone y hy)
    omega
  · have e : ctp (cn m a b (Tg s v i) k) (n + 1) = ctp (cn m a b (Tg s v i) k) n := by
      show ctp (cn m a b (Tg s v i) k) n + zif (cn m a b (Tg s v i) k n) 1 0 = _
      rw [zif_neg (fun w => ek (alone k (cn_symm w)))]
      rfl
    rw [e] at hc ⊢
    exact h2 i k (by omega) hc
section
variable {t : Nat} {K : Nat → zK} {u o kd N : Nat} {F : Nat → Int32} {I : Nat → Nat → Int32} {J : Nat → Nat → Int64} {F' : Nat → Int32} {I' : Nat → Nat → Int32} {J' : Nat → Nat → Int64}
def gK (g : zG) : zG := (gn g + 1, g.2)
theorem kI_knot {k : zK} {v : Int64} (h : kI kd k) (hn : gn (kg k) < 100) : kI kd (gK (kg k), un (kc k) (gn (kg k)) 0, un (km k) (gn (kg k)) 0, kr k, un (kv k) (gn (kg k)) v) := by
  obtain ⟨h1, h2, h3, h4, h5, h6, h7, h8⟩ := h
  have hab : ∀ e, e < gm (kg k) → ga (kg k) e < gn (kg k) ∧ gb (kg k) e < gn (kg k) := fun e he => ⟨(h1.2.2 e he).1, (h1.2.2 e he).2.1⟩
  have ec : ∀ i, un (kc k) (gn (kg k)) 0 i = if i = gn (kg k) then 0 else kc k i := fun _ => rfl
  have em : ∀ i, un (km k) (gn (kg k)) 0 i = if i = gn (kg k) then 0 else km k i := fun _ => rfl
  refine ⟨⟨hn, h1.2.1, fun e he => ?_⟩, h2, fun z => LvI_knot hab (h3 z), h4, h5, fun i j hi hj => ?_, fun i hi => ?_, fun i hi => ?_⟩
  · have := h1.2.2 e he
    exact ⟨Nat.lt_succ_of_lt this.1, Nat.lt_succ_of_lt this.2.1, this.2.2⟩
  · have hi2 : i < gn (kg k) + 1 := hi
    have hj2 : j < gn (kg k) + 1 := hj
    show un (kc k) (gn (kg k)) 0 i < un (kc k) (gn (kg k)) 0 j ↔ un (km k) (gn (kg k)) 0 i < un (km k) (gn (kg k)) 0 j
    rw [ec, ec, em, em]
    by_cases e1 : i = gn (kg k)
    · by_cases e2 : j = gn (kg k)
      · rw [if_pos e1, if_pos e2, if_pos e1, if_pos e2]
      · rw [if_pos e1, if_neg e2, if_pos e1, if_neg e2]
        have := h7 j (by omega)
        omega
    · by_cases e2 : j = gn (kg k)
      · rw [if_neg e1, if_pos e2, if_neg e1, if_pos e2]; omega
      · rw [if_neg e1, if_neg e2, if_neg e1, if_neg e2]; exact h6 i j (by omega) (by omega)
  · have hi2 : i < gn (kg k) + 1 := hi
    show un (kc k) (gn (kg k)) 0 i = 0 ↔ un (km k) (gn (kg k)) 0 i = 0
    rw [ec, em]
    by_cases e1 : i = gn (kg k)
    · rw [if_pos e1, if_pos e1]
    · rw [if_neg e1, if_neg e1]; exact h7 i (by omega)
  · have hi2 : i < gn (kg k) + 1 := hi
    show un (km k) (gn (kg k)) 0 i ≤ kr k
    rw [em]
    by_cases e1 : i = gn (kg k)
    · rw [if_pos e1]; omega
    · rw [if_neg e1]; exact h8 i (by omega)
theorem s_knot {v : Int64} (h : RK t K u o kd N F I J F' I' J') : AMi m_X6_knot [.ref 0, .long v] (F, I, J) (fun r C => AMi m_X7_knot [.ref 0, .long v] (F', I', J') (fun r' M => r' = r ∧ Rel (t + 1) C M)) := by
  have hc := h.1.1
  have hm := h.2.1.1
  have hn := hc.1.1
  have h3 := h.2.2.1 u (Nat.le_refl _)
  have h6 := h.2.2.2.2.2.1
  have h7 := h.2.2.2.2.2.2.1
  refine r_X6_knot_0 _ F I J ?_
  rw [hc.2.1, n100, nLt (by omega) (by omega)]
  refine ⟨fun z => ⟨nIn (by omega) (by omega), r_X3_forget_0 _ _ _ ?_⟩, fun z => ?_⟩
  · refine r_X7_knot_0 _ F' I' J' ?_
    rw [hm.2.1, n100, nEq (by omega) (by omega)]
    refine ⟨fun _ => ⟨nIn (by omega) (by omega), nIn (by omega) (by omega), ?_, ?_⟩, fun w => by omega⟩
    · show nI (gn (kg (K u))) = upd F 14 0 0
      rw [upd_ne _ (by decide), hc.2.1]
    · dsimp only
      rw [zN (show gn (kg (K u)) < 2147483648 by omega), nI_1]
      have e0 : upd F 14 0 0 + 1 = nI (gn (kg (K u)) + 1) := by rw [upd_ne _ (by decide), hc.2.1]; exact nI_1 _
      rw [e0]
      refine ⟨fun _ => (gK (kg (K u)), un (kc (K u)) (gn (kg (K u))) 0, un (km (K u)) (gn (kg (K u))) 0, kr (K u), un (kv (K u)) (gn (kg (K u))) v), 0, o, kd, N, ⟨⟨?_, ?_, ?_, hc.2.2.2.1, hc.2.2.2.2.1, ?_, ?_⟩, fun i hi => ⟨?_, ?_⟩, ?_⟩, ⟨⟨?_, ?_, ?_, ?_⟩, fun i hi => ⟨?_, ?_⟩, ?_, ?_⟩, fun j _ => ⟨kI_knot h3.1 z, Nat.le_succ_of_le h3.2.1, fun i hi => ?_⟩, ⟨h.2.2.2.1.1, ?_, ?_⟩, fun e he => ?_, ⟨by omega, ?_, fun i hi hi2 => ?_⟩, ⟨?_, ?_, ?_, h7.2.2.2.1, by omega, fun j hj => by omega⟩, ?_, ?_⟩
      · exact (kI_knot (v := v) h3.1 z).1
      · show upd (upd F 14 0) 0 (nI (gn (kg (K u)) + 1)) 0 = _
        rw [upd_self]; rfl
      · show upd (upd F 14 0) 0 (nI (gn (kg (K u)) + 1)) 4 = _
        rw [upd_ne _ (by decide), upd_ne _ (by decide)]; exact hc.2.2.1
      · exact fcl_eq hc.2.2.2.2.2.1 (by show upd (upd F 14 0) 0 (nI (gn (kg (K u)) + 1)) 6 = _; rw [upd_ne _ (by decide), upd_ne _ (by decide)]) rfl rfl
      · exact fcl_eq hc.2.2.2.2.2.2 (by show upd (upd F 14 0) 0 (nI (gn (kg (K u)) + 1)) 7 = _; rw [upd_ne _ (by decide), upd_ne _ (by decide)]) rfl rfl
      · have hi2 : i < gn (kg (K u)) + 1 := hi
        show I 0 i = nI (un (kc (K u)) (gn (kg (K u))) 0 i)
        by_cases e : i = gn (kg (K u))
        · rw [e, un_self]; exact h6.2.2 _ (Nat.le_refl _) z
        · rw [un_ne _ _ e]; exact (h.1.2.1 i (by omega)).1
      · have hi2 : i < gn (kg (K u)) + 1 := hi
        show z_ul J 0 (gn (kg (K u))) v 0 i = un (kv (K u)) (gn (kg (K u))) v i
        rw [ul_self]
        by_cases e : i = gn (kg (K u))
        · rw [e, un_self, updL_self]
        · rw [un_ne _ _ e, updL_ne _ e]; exact (h.1.2.1 i (by omega)).2
      · show upd (upd F 14 0) 0 (nI (gn (kg (K u)) + 1)) 5 = _
        rw [upd_ne _ (by decide), upd_ne _ (by decide)]; exact h.1.2.2
      · exact (kI_knot (v := v) h3.1 z).1
      · show upd (upd F' 5 0) 0 (nI (gn (kg (K u)) + 1)) 0 = _
        rw [upd_self]; rfl
      · show upd (upd F' 5 0) 0 (nI (gn (kg (K u)) + 1)) 1 = _
        rw [upd_ne _ (by decide), upd_ne _ (by decide)]; exact hm.2.2.1
      · intro e he
        show z_ui I' 0 (gn (kg (K u))) 0 1 e = _ ∧ z_ui I' 0 (gn (kg (K u))) 0 2 e = _ ∧ z_ui I' 0 (gn (kg (K u))) 0 3 e = _ ∧ z_ui I' 0 (gn (kg (K u))) 0 4 e = _
        rw [ui_ne _ _ (by decide), ui_ne _ _ (by decide), ui_ne _ _ (by decide), ui_ne _ _ (by decide)]; exact hm.2.2.2 e he
      · have hi2 : i < gn (kg (K u)) + 1 := hi
        show z_ui I' 0 (gn (kg (K u))) 0 0 i = nI (un (km (K u)) (gn (kg (K u))) 0 i)
        rw [ui_self]
        by_cases e : i = gn (kg (K u))
        · rw [e, un_self, upd_self]; rfl
        · rw [un_ne _ _ e, upd_ne _ e]; exact (h.2.1.2.1 i (by omega)).1
      · have hi2 : i < gn (kg (K u)) + 1 := hi
        show z_ul J' 0 (gn (kg (K u))) v 0 i = un (kv (K u)) (gn (kg (K u))) v i
        rw [ul_self]
        by_cases e : i = gn (kg (K u))
        · rw [e, un_self, updL_self]
        · rw [un_ne _ _ e, updL_ne _ e]; exact (h.2.1.2.1 i (by omega)).2
      · show upd (upd F' 5 0) 0 (nI (gn (kg (K u)) + 1)) 4 = _
        rw [upd_ne _ (by decide), upd_ne _ (by decide)]; exact h.2.1.2.2.1
      · show upd (upd F' 5 0) 0 (nI (gn (kg (K u)) + 1)) 3 = _
        rw [upd_ne _ (by decide), upd_ne _ (by decide)]; exact h.2.1.2.2.2
      · have hi2 : i < gn (kg (K u)) + 1 := hi
        show un (kc (K u)) (gn (kg (K u))) 0 i ≤ N
        by_cases e : i = gn (kg (K u))
        · rw [e, un_self]; omega
        · rw [un_ne _ _ e]; exact h3.2.2 i (by omega)
      · show upd (upd F 14 0) 0 (nI (gn (kg (K u)) + 1)) 2 = _
        rw [upd_ne _ (by decide), upd_ne _ (by decide)]; exact h.2.2.2.1.2.1
      · show upd (upd F' 5 0) 0 (nI (gn (kg (K u)) + 1)) 2 = _
        rw [upd_ne _ (by decide), upd_ne _ (by decide)]; exact h.2.2.2.1.2.2
      · show z_ul J' 0 (gn (kg (K u))) v 1 e = z_ul J 0 (gn (kg (K u))) v 1 e
        rw [ul_ne _ _ (by decide), ul_ne _ _ (by decide)]; exact h.2.2.2.2.1 e he
      · show upd (upd F 14 0) 0 (nI (gn (kg (K u)) + 1)) 1 = _
        rw [upd_ne _ (by decide), upd_ne _ (by decide)]; exact h6.2.1
      · have hi3 : gn (kg (K u)) + 1 ≤ i := hi
        exact h6.2.2 i (by omega) hi2
      · show upd (upd F 14 0) 0 (nI (gn (kg (K u)) + 1)) 13 = _
        rw [upd_ne _ (by decide), upd_ne _ (by decide)]; exact h7.1
      · show upd (upd F 14 0) 0 (nI (gn (kg (K u)) + 1)) 14 = _
        rw [upd_ne _ (by decide), upd_self]; rfl
      · show upd (upd F' 5 0) 0 (nI (gn (kg (K u)) + 1)) 5 = _
        rw [upd_ne _ (by decide), upd_self]; rfl
      · show upd (upd F' 5 0) 0 (nI (gn (kg (K u)) + 1)) 7 = upd (upd F 14 0) 0 (nI (gn (kg (K u)) + 1)) 3
        rw [upd_ne _ (by decide), upd_ne _ (by decide), upd_ne _ (by decide), upd_ne _ (by decide)]; exact h.2.2.2.2.2.2.2.1
      · intro s hs
        obtain ⟨th, L, a1, a2, a3, a4, a5, a6, a7, a8, a9⟩ := h.2.2.2.2.2.2.2.2 s hs
        refine ⟨th, L, ?_, ?_, a3, a4, ?_, fun w => ⟨(a6 w).1, ?_⟩, fun w => ?_, fun w i hi => ?_, fun w i hi => ?_⟩
        · show upd (upd F 14 0) 0 (nI (gn (kg (K u)) + 1)) (15 + s) = _
          rw [upd_ne _ (by omega), upd_ne _ (by omega)]; exact a1
        · show z_ui I' 0 (gn (kg (K u))) 0 17 s = _
          rw [ui_ne _ _ (by decide)]; exact a2
        · show upd (upd F 14 0) 0 (nI (gn (kg (K u)) + 1)) (21 + s) = _
          rw [upd_ne _ (by omega), upd_ne _ (by omega)]; exact a5
        · show z_ul J 0 (gn (kg (K u))) v (3 + s) 0 = (z_ui I' 0 (gn (kg (K u))) 0 19 (100 * s)).toInt64
          rw [ul_ne _ _ (by omega), ui_ne _ _ (by decide)]; exact (a6 w).2
        · show z_ui I' 0 (gn (kg (K u))) 0 18 s = _
          rw [ui_ne _ _ (by decide)]; exact a7 w
        · show z_ul J 0 (gn (kg (K u))) v (3 + s) i = (z_ui I' 0 (gn (kg (K u))) 0 19 (100 * s + i)).toInt64
          rw [ul_ne _ _ (by omega), ui_ne _ _ (by decide)]; exact a8 w i hi
        · show z_ul J 0 (gn (kg (K u))) v (3 + s) i = z_ul J' 0 (gn (kg (K u))) v 3 (100 * s + i)
          rw [ul_ne _ _ (by omega), ul_ne _ _ (by decide)]; exact a9 w i hi
  · refine r_X7_knot_0 _ F' I' J' ?_
    rw [hm.2.1, n100, nEq (by omega) (by omega)]
    exact ⟨fun w => absurd (show gn (kg (K u)) = 100 by omega) w, fun _ => ⟨rfl, Rel_0 h⟩⟩
end
