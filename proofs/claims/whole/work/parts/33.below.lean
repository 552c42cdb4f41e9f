/-! count, kind, below, meet -/
section
variable {t : Nat} {K : Nat → zK} {u o kd N : Nat} {F : Nat → Int32} {I : Nat → Nat → Int32} {J : Nat → Nat → Int64} {F' : Nat → Int32} {I' : Nat → Nat → Int32} {J' : Nat → Nat → Int64}
theorem s_count {x : Int32} (h : RK t K u o kd N F I J F' I' J') : AMi m_X6_count [.ref 0, .int x] (F, I, J) (fun r C => AMi m_X7_count [.ref 0, .int x] (F', I', J') (fun r' M => r' = r ∧ Rel (t + 1) C M)) := by
  have hc := h.1.1
  have hm := h.2.1.1
  have hn := hc.1.1
  have hmm := hc.1.2.1
  have ge : ∀ {a b : Int32}, a ≠ b → x = a → ¬ x = b := fun hab h1 h2 => hab (h1.symm.trans h2)
  refine r_X6_count_0 _ F I J ?_
  refine ⟨fun z => ?_, fun z0 => ⟨fun z => ?_, fun z1 => ⟨fun z => ?_, fun z2 => ⟨fun z => ?_, fun z3 => ⟨fun z => ?_, fun z4 => ⟨fun z => ?_, fun z5 => ⟨fun z => ?_, fun z6 => ⟨fun z => ?_, fun z7 => ⟨fun z => ?_, fun z8 => ?_⟩⟩⟩⟩⟩⟩⟩⟩⟩
  · refine r_X7_count_0 _ F' I' J' ⟨fun _ => ⟨by rw [hc.2.1, hm.2.1], Rel_0 h⟩, fun w => absurd z w⟩
  · refine r_X7_count_0 _ F' I' J' ⟨fun w => absurd w z0, fun _ => ⟨fun _ => ⟨by rw [hc.2.2.1, hm.2.2.1], Rel_0 h⟩, fun w => absurd z w⟩⟩
  · rw [n1]
    refine c_howMany hc.1 hc.2.2.1 hc.2.2.2.1 (by omega) ?_
    refine r_X7_count_0 _ F' I' J' ⟨fun w => absurd w z0, fun _ => ⟨fun w => absurd w z1, fun _ => ⟨fun _ => ?_, fun w => absurd z w⟩⟩⟩
    exact m_count_64 hc.1 hm.2.2.1 hm.2.2.2 (s := 1) (by omega) (by rw [z]; rfl) ⟨rfl, Rel_0 h⟩ (gm (kg (K u))) 0 (by omega)
  · rw [n2]
    refine c_howMany hc.1 hc.2.2.1 hc.2.2.2.1 (by omega) ?_
    refine r_X7_count_0 _ F' I' J' ⟨fun w => absurd w z0, fun _ => ⟨fun w => absurd w z1, fun _ => ⟨fun w => absurd w z2, fun _ => ⟨fun _ => ?_, fun w => absurd z w⟩⟩⟩⟩
    exact m_count_64 hc.1 hm.2.2.1 hm.2.2.2 (s := 2) (by omega) (by rw [z]; rfl) ⟨rfl, Rel_0 h⟩ (gm (kg (K u))) 0 (by omega)
  · rw [n1]
    refine c_howMany hc.1 hc.2.2.1 hc.2.2.2.1 (by omega) ?_
    refine r_X7_count_0 _ F' I' J' ⟨fun w => absurd w z0, fun _ => ⟨fun w => absurd w z1, fun _ => ⟨fun w => absurd w z2, fun _ => ⟨fun w => absurd w z3, fun _ => ⟨fun _ => ?_, fun w => absurd z w⟩⟩⟩⟩⟩
    refine m_parts hm (fun I3 q1 q2 => ⟨?_, K, u, o, kd, N, RK_q h hc frC_refl q1 q2⟩)
    have e := low_parts hc.1 (RK_fo h)
    rw [hc.2.1, nSub (by omega)]
    congr 1
    omega
  · rw [hc.2.1]
    refine c_find hc (fun F2 I2 hfd hQ hfr => ?_)
    refine r_X7_count_0 _ F' I' J' ⟨fun w => absurd w z0, fun _ => ⟨fun w => absurd w z1, fun _ => ⟨fun w => absurd w z2, fun _ => ⟨fun w => absurd w z3, fun _ => ⟨fun w => absurd w z4, fun _ => ⟨fun _ => ?_, fun w => absurd z w⟩⟩⟩⟩⟩⟩
    exact m_count_102 hm (fun I3 q1 q2 => ⟨hfd.2.2.1.symm, K, u, o, kd, N, RK_q h hQ hfr q1 q2⟩) (gm (kg (K u))) 0 I' (by omega) hm frM_refl
  · rw [hc.2.1]
    refine c_find hc (fun F2 I2 hfd hQ hfr => ?_)
    refine r_X7_count_0 _ F' I' J' ⟨fun w => absurd w z0, fun _ => ⟨fun w => absurd w z1, fun _ => ⟨fun w => absurd w z2, fun _ => ⟨fun w => absurd w z3, fun _ => ⟨fun w => absurd w z4, fun _ => ⟨fun w => absurd w z5, fun _ => ⟨fun _ => ?_, fun w => absurd z w⟩⟩⟩⟩⟩⟩⟩
    exact m_count_140 hm (fun I3 q1 q2 => ⟨hfd.2.2.2.symm, K, u, o, kd, N, RK_q h hQ hfr q1 q2⟩) (gn (kg (K u))) 0 I' (by omega) hm frM_refl
  · refine r_X7_count_0 _ F' I' J' ⟨fun w => absurd w z0, fun _ => ⟨fun w => absurd w z1, fun _ => ⟨fun w => absurd w z2, fun _ => ⟨fun w => absurd w z3, fun _ => ⟨fun w => absurd w z4, fun _ => ⟨fun w => absurd w z5, fun _ => ⟨fun w => absurd w z6, fun _ => ⟨fun _ => ?_, fun w => absurd z w⟩⟩⟩⟩⟩⟩⟩⟩
    exact ⟨by rw [h.2.2.2.2.2.2.1.2.1, h.2.2.2.2.2.2.1.2.2.1], Rel_0 h⟩
  · refine r_X7_count_0 _ F' I' J' ⟨fun w => absurd w z0, fun _ => ⟨fun w => absurd w z1, fun _ => ⟨fun w => absurd w z2, fun _ => ⟨fun w => absurd w z3, fun _ => ⟨fun w => absurd w z4, fun _ => ⟨fun w => absurd w z5, fun _ => ⟨fun w => absurd w z6, fun _ => ⟨fun w => absurd w z7, fun _ => ⟨fun _ => ?_, fun w => absurd z w⟩⟩⟩⟩⟩⟩⟩⟩⟩
    exact ⟨by rw [h.1.2.2, h.2.1.2.2.1], Rel_0 h⟩
  · refine r_X7_count_0 _ F' I' J' ⟨fun w => absurd w z0, fun _ => ⟨fun w => absurd w z1, fun _ => ⟨fun w => absurd w z2, fun _ => ⟨fun w => absurd w z3, fun _ => ⟨fun w => absurd w z4, fun _ => ⟨fun w => absurd w z5, fun _ => ⟨fun w => absurd w z6, fun _ => ⟨fun w => absurd w z7, fun _ => ⟨fun w => absurd w z8, fun _ => ⟨rfl, Rel_0 h⟩⟩⟩⟩⟩⟩⟩⟩⟩⟩
/-- the class's and the reference's way to the root are one -/
theorem s_below {x y : Int32} (ht : t < 512) (h : RK t K u o kd N F I J F' I' J') : AMi m_X6_below [.ref 0, .int x, .int y] (F, I, J) (fun r C => AMi m_X7_below [.ref 0, .int x, .int y] (F', I', J') (fun r' M => r' = r ∧ Rel (t + 1) C M)) := by
  have hc := h.1.1
  have hm := h.2.1.1
  have hn := hc.1.1
  refine r_X6_below_0 _ _ F I J ?_
  refine c_isKnot hn hc.2.1 (fun a ha hx => ⟨fun _ => ?_, fun z => absurd z (by decide)⟩) (fun hx => ⟨fun z => absurd rfl z, fun _ => ?_⟩)
  · subst hx
    have ref : ∀ {r : Int32} {C : zM}, (y < 0 ∨ ¬ y ≤ 4 → r = -2 ∧ Rel (t + 1) C (F', I', J')) → (¬ y < 0 → y ≤ 4 → ∀ r0 I3, isRt (kg (K u)) (km (K u)) a r0 → mQ (kg (K u)) F' I3 → frM F' I' F' I3 → ((y = 0 → r = nI r0 ∧ Rel (t + 1) C (F', I3, J')) ∧ (¬ y = 0 → ((y = 1 → AMi m_X7_finds [.ref 0, .int (nI a), .int (nI r0)] (F', I3, J') (fun r61 M61 => (((M61.1 6) ≤ 1 → r = -1 ∧ Rel (t + 1) C M61) ∧ (¬ (M61.1 6) ≤ 1 → vp_in 1 100 ∧ (M61.2.1 15 (zn 1) = r ∧ Rel (t + 1) C M61))))) ∧ (¬ y = 1 → ((y = 2 → AMi m_X7_finds [.ref 0, .int (nI a), .int (nI r0)] (F', I3, J') (fun r87 M87 => (M87.1 6) - 1 = r ∧ Rel (t + 1) C M87)) ∧ (¬ y = 2 → ((y = 3 → AMi m_X7_marksBelow [.ref 0, .int (nI a)] (F', I3, J') (fun r100 M100 => r100 = r ∧ Rel (t + 1) C M100)) ∧ (¬ y = 3 → AMi m_X7_isCut [.ref 0, .int (nI a)] (F', I3, J') (fun r106 M106 => ((r106 = 0 → r = 0 ∧ Rel (t + 1) C M106) ∧ (¬ r106 = 0 → r = 1 ∧ Rel (t + 1) C M106)))))))))))) →
        AMi m_X7_below [.ref 0, .int (nI a), .int y] (F', I', J') (fun r' M => r' = r ∧ Rel (t + 1) C M) := by
      intro r C h1 h2
      refine r_X7_below_0 _ _ F' I' J' (m_one_ok hm ha ?_)
      refine ⟨fun z => ⟨(h1 (Or.inl z)).1.symm, (h1 (Or.inl z)).2⟩, fun z => ⟨fun z2 => ?_, fun z2 => ⟨(h1 (Or.inr z2)).1.symm, (h1 (Or.inr z2)).2⟩⟩⟩
      refine m_rootOf hm (RK_mN h ht) ha (fun r0 I3 hr q1 q2 _ => ?_)
      obtain ⟨a0, a1⟩ := h2 z z2 r0 I3 hr q1 q2
      refine ⟨fun w => ⟨(a0 w).1.symm, (a0 w).2⟩, fun w0 => ⟨fun w => ?_, fun w1 => ⟨fun w => ((a1 w0).2 w1).1 w, fun w2 => ⟨fun w => (((a1 w0).2 w1).2 w2).1 w, fun w3 => ?_⟩⟩⟩⟩
      · refine AMi.mono ((a1 w0).1 w) (fun r61 M61 q => ⟨fun w => ⟨(q.1 w).1.symm, (q.1 w).2⟩, q.2⟩)
      · refine AMi.mono ((((a1 w0).2 w1).2 w2).2 w3) (fun r61 M61 q => ⟨fun w => ⟨(q.1 w).1.symm, (q.1 w).2⟩, fun w => ⟨(q.2 w).1.symm, (q.2 w).2⟩⟩)
    have hin : ∀ j, j < 5 → y = nI j → y < 0 ∨ ¬ y ≤ 4 → False := by
      intro j hj e z
      rw [e, nNeg (by omega), show (4 : Int32) = nI 4 from rfl, nLe (by omega) (by omega)] at z
      exact z.elim id (fun w => w (by omega))
    have ge : ∀ {a b : Int32}, a ≠ b → y = a → ¬ y = b := fun hab h1 h2 => hab (h1.symm.trans h2)
    refine ⟨fun z => ?_, fun z0 => ⟨fun z => ?_, fun z1 => ⟨fun z => ?_, fun z2 => ⟨fun z => ?_, fun z3 => ⟨fun z => ?_, fun z4 => ?_⟩⟩⟩⟩⟩
    · refine c_findRoot hc (RK_cN h ht) ha (fun r F2 I2 hr hQ hfr => ref (fun w => (hin 0 (by omega) z w).elim) (fun _ _ r0 I3 hr0 q1 q2 => ⟨fun _ => ⟨by rw [RK_rt h hr hr0], K, u, o, kd, N, RK_q h hQ hfr q1 q2⟩, fun w => absurd z w⟩))
    · refine c_floodFromRoot hc (RK_cN h ht) ha (fun r F2 I2 L q R B dp hr hf hQ hfr hR => ?_)
      have hRa : R a := (hR a).mpr (cn_symm hr.2.1)
      have hwa := bf_way hf.1 hRa
      have hdp := bf_dp_lt hf.1 hRa
      have fin : ∀ r', ((a = r → r' = -1) ∧ (a ≠ r → r' = nI (ot (ga (kg (K u))) (gb (kg (K u))) (B a) a))) → AMi m_X7_below [.ref 0, .int (nI a), .int y] (F', I', J') (fun r2 M => r2 = r' ∧ Rel (t + 1) (F2, I2, J) M) := by
        intro r' hr'
        refine ref (fun w => (hin 1 (by omega) z w).elim) (fun _ _ r0 I3 hr0 q1 q2 => ⟨fun w => absurd w z0, fun _ => ⟨fun _ => ?_, fun w => absurd z w⟩⟩)
        have e := RK_rt h hr hr0
        subst e
        refine m_finds q1 ha hr.1 (fun I4 _ _ w _ => absurd hr.2.1 w) (fun F4 I4 l K4 S4 p1 p2 w hl e6 e15 _ _ => ?_)
        obtain ⟨o1, o2, -⟩ := isW_one (RK_fo h) _ _ _ _ _ _ _ _ w hwa
        have hR4 : Rel (t + 1) (F2, I2, J) (F4, I4, J') := ⟨K, u, o, kd, N, RK_q h hQ hfr p1 (frM_trans q2 p2)⟩
        dsimp only
        rw [e6, n1, nLe (by omega) (by omega), zN (by omega)]
        refine ⟨fun w1 => ⟨hr'.1 ?_, hR4⟩, fun w1 => ⟨nIn (by omega) (by omega), ?_, hR4⟩⟩
        · have : l = 0 := by omega
          subst this
          rw [← w.1, w.2.1]
        · have hl1 : 1 ≤ l := by omega
          rw [(e15 1 hl1).1, o2 1 hl1]
          refine (hr'.2 (fun e => ?_)).symm
          subst e
          rw [hf.1.2.2.2.2.2.2.1] at o1
          omega
      exact c_before hc.1 hQ.2.2.2.1 hf hRa (fun e => fin _ ⟨fun _ => rfl, fun w => absurd e w⟩) (fun e => fin _ ⟨fun w => absurd w e, fun _ => rfl⟩)
    · refine c_floodFromRoot hc (RK_cN h ht) ha (fun r F2 I2 L q R B dp hr hf hQ hfr hR => ?_)
      have hRa : R a := (hR a).mpr (cn_symm hr.2.1)
      have hwa := bf_way hf.1 hRa
      refine ⟨nIn (by omega) (by omega), ?_⟩
      dsimp only
      rw [zN (show a < 2147483648 by omega), hf.2.2.2.2.2.1 a hRa]
      refine ref (fun w => (hin 2 (by omega) z w).elim) (fun _ _ r0 I3 hr0 q1 q2 => ⟨fun w => absurd w z0, fun _ => ⟨fun w => absurd w z1, fun _ => ⟨fun _ => ?_, fun w => absurd z w⟩⟩⟩)
      have e := RK_rt h hr hr0
      subst e
      refine m_finds q1 ha hr.1 (fun I4 _ _ w _ => absurd hr.2.1 w) (fun F4 I4 l K4 S4 p1 p2 w hl e6 e15 _ _ => ?_)
      obtain ⟨o1, o2, -⟩ := isW_one (RK_fo h) _ _ _ _ _ _ _ _ w hwa
      refine ⟨?_, K, u, o, kd, N, RK_q h hQ hfr p1 (frM_trans q2 p2)⟩
      dsimp only
      rw [e6, n1, nSub (by omega), ← o1]
      rfl
    · refine c_floodBelow hc (RK_fo h) (RK_cN h ht) ha (fun r F2 I2 L q hr h6 hL hq hqi hb hQ hfr => ?_)
      refine ref (fun w => (hin 3 (by omega) z w).elim) (fun _ _ r0 I3 hr0 q1 q2 => ⟨fun w => absurd w z0, fun _ => ⟨fun w => absurd w z1, fun _ => ⟨fun w => absurd w z2, fun _ => ⟨fun _ => ?_, fun w => absurd z w⟩⟩⟩⟩)
      refine m_marksBelow q1 (RK_fo h) (nm := km (K u)) (fun k hk => by rw [q2.2 0 (by omega)]; exact RK_mN h ht k hk) ha (fun r2 F4 I4 hr2 p1 p2 hb2 => ⟨?_, K, u, o, kd, N, RK_q h hQ hfr p1 (frM_trans q2 p2)⟩)
      have e := RK_rt h hr hr2
      subst e
      dsimp only
      rw [h6, ctp_enum L (blw (gm (kg (K u))) (ga (kg (K u))) (gb (kg (K u))) (Tr (kg (K u))) r2 a) (fun i hi => (hq i hi).2) hqi hb]
    · dsimp only
      rw [hc.2.1]
      refine c_find hc (fun F2 I2 hfd hQ hfr => ?_)
      refine ⟨nIn (by omega) (by omega), ?_⟩
      dsimp only
      rw [zN (show a < 2147483648 by omega)]
      have fin : ∀ r', ((gCu (kg (K u)) a → r' = 1) ∧ (¬ gCu (kg (K u)) a → r' = 0)) → AMi m_X7_below [.ref 0, .int (nI a), .int y] (F', I', J') (fun r2 M => r2 = r' ∧ Rel (t + 1) (F2, I2, J) M) := by
        intro r' hr'
        refine ref (fun w => (hin 4 (by omega) z w).elim) (fun _ _ r0 I3 hr0 q1 q2 => ⟨fun w => absurd w z0, fun _ => ⟨fun w => absurd w z1, fun _ => ⟨fun w => absurd w z2, fun _ => ⟨fun w => absurd w z3, fun _ => ?_⟩⟩⟩⟩)
        exact m_isCut q1 ha (fun I4 p1 p2 b => ⟨fun w => absurd w (by decide), fun _ => ⟨hr'.1 b, K, u, o, kd, N, RK_q h hQ hfr p1 (frM_trans q2 p2)⟩⟩) (fun I4 p1 p2 b => ⟨fun _ => ⟨hr'.2 b, K, u, o, kd, N, RK_q h hQ hfr p1 (frM_trans q2 p2)⟩, fun w => absurd rfl w⟩)
      obtain ⟨c1, c2⟩ := hfd.2.1 a ha
      refine ⟨fun w => fin 0 ⟨fun b => ?_, fun _ => rfl⟩, fun w => fin 1 ⟨fun _ => rfl, fun b => absurd (c2 b) w⟩⟩
      rw [c1 b] at w
      exact absurd w (by decide)
    · exact ref (fun _ => ⟨rfl, Rel_0 h⟩) (fun w w2 => absurd w2 (x5_out z0 z1 z2 z3 z4 w))
  · exact r_X7_below_0 _ _ F' I' J' (m_one_bad hm hx ⟨rfl, Rel_0 h⟩)
end
