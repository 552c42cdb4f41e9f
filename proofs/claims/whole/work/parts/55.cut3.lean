/-! goes() of the reference; the steps cut() and instead() -/
section
variable {g : zG} {F : Nat → Int32} {I : Nat → Nat → Int32} {J : Nat → Nat → Int64}
theorem m_goes {P : Int32 → zM → Prop} {kd e : Nat} (h : mQ g F I) (hfo : fo (gm g) (ga g) (gb g) (Tr g)) (hL : kd = 1 → gL g) (hsp : kd = 2 → SpI g) (hkd : kd < 3) (h2 : F 2 = nI kd) (h4 : F 4 = nI (rs g)) (he : e < gm g) (hne : gs g e ≠ 0)
    (hP : ∀ F2 I2 oo v2, eGo g (J 1) kd e oo v2 → mQ (gSV g (sG (gs g) e oo) v2) F2 I2 → F2 4 = nI (sumN v2 (gm g)) → (∀ c, c ≠ 4 → c ≠ 6 → F2 c = F c) → (∀ c, c ≠ 3 → c ≠ 4 → (c < 11 ∨ 16 < c) → I2 c = I c) → P (oI oo) (F2, I2, J)) :
    AMi m_X7_goes [.ref 0, .int (nI e)] (F, I, J) P := by
  have hn := h.1.1
  have hmm := h.1.2.1
  have hst3 : ∀ e, e < gm g → gs g e < 3 := fun e he => (h.1.2.2 e he).2.2.2.1
  have b1 : vp_in (nI e) 300 := nIn (by omega) (by omega)
  have hE := h.2.2.2
  have q0 : mQ (gSV g (un (gs g) e 0) (gv g)) F (z_ui I 3 e 0) := mQ_how (s2 := sG (gs g) e none) h (fun c hc => ui_ne _ _ hc) (fun f hf => by rw [ui_self]; exact howG0 (fun f hf => (hE f hf).2.2.1) hst3 f hf)
  refine r_X7_goes_0 _ F I J ⟨b1, fun z => ⟨b1, ?_⟩, fun z => ⟨b1, fun zk => ⟨fun zk2 => ?_, fun zk2 => ?_⟩, fun zk => ?_⟩⟩
  · rw [zN (show e < 2147483648 by omega)] at z ⊢
    rw [(hE e he).2.2.1] at z
    have z2 : gs g e ≠ 1 := fun q => z (by rw [q]; rfl)
    have := hst3 e he
    exact hP F _ none (gv g) (Or.inl ⟨by omega, rfl, rfl⟩) q0 h4 (fun _ _ _ => rfl) (fun c c3 _ _ => ui_ne _ _ c3)
  · rw [zN (show e < 2147483648 by omega)] at z ⊢
    have := hst3 e he
    rw [(hE e he).2.2.1, n1, nEq (by omega) (by omega)] at z
    rw [h2, n0, nEq (by omega) (by omega)] at zk
    rw [h2, n2, nEq (by omega) (by omega)] at zk2
    have hk : kd = 1 := by omega
    refine m_byLevels h.1 q0 hfo (hL hk) he z h4 (fun F2 I2 a1 a2 a3 a4 => ?_) (fun F2 I2 i x a1 a2 a3 a4 => ?_)
    · exact hP F2 I2 none _ (Or.inr (Or.inr (Or.inr ⟨z, hk, Or.inl ⟨a1, rfl, rfl⟩⟩))) a2 a3 (fun c c1 _ => a4.1 c c1) (fun c c1 c2 c3 => by rw [a4.2 c c1 c2 c3, ui_ne _ _ c1])
    · exact hP F2 I2 (some x) _ (Or.inr (Or.inr (Or.inr ⟨z, hk, Or.inr ⟨i, x, a1, rfl, rfl⟩⟩))) a2 a3 (fun c c1 _ => a4.1 c c1) (fun c c1 c2 c3 => by rw [a4.2 c c1 c2 c3, ui_ne _ _ c1])
  · rw [zN (show e < 2147483648 by omega)] at z ⊢
    have := hst3 e he
    rw [(hE e he).2.2.1, n1, nEq (by omega) (by omega)] at z
    rw [h2, n2, nEq (by omega) (by omega)] at zk2
    refine m_lightest h.1 q0 hfo (hsp zk2) he z (fun F2 I2 a1 a2 a3 => ?_) (fun F2 I2 x a1 a2 a3 => ?_)
    · exact hP F2 I2 none (gv g) (Or.inr (Or.inr (Or.inl ⟨z, zk2, a1.symm, rfl⟩))) a2 (by rw [a3.1 4 (by decide)]; exact h4) (fun c _ c2 => a3.1 c c2) (fun c c1 c2 c3 => by rw [a3.2 c c3, ui_ne _ _ c1])
    · refine hP F2 _ (some x) (gv g) (Or.inr (Or.inr (Or.inl ⟨z, zk2, a1.symm, rfl⟩))) (mQ_how (g := gSV g (un (gs g) e 0) (gv g)) (s2 := sG (gs g) e (some x)) a2 (fun c hc => ui_ne _ _ hc) (fun f hf => ?_)) (by rw [a3.1 4 (by decide)]; exact h4) (fun c _ c2 => a3.1 c c2) (fun c c1 c2 c3 => by rw [ui_ne _ _ c1, a3.2 c c3, ui_ne _ _ c1])
      refine ⟨?_, sG_3 f (hst3 f hf)⟩
      rw [ui_self]
      show upd (I2 3) x 1 f = nI (un (un (gs g) e 0) x 1 f)
      by_cases e1 : f = x
      · rw [e1, upd_self, un_self]; rfl
      · rw [upd_ne _ e1, un_ne _ _ e1]; exact (a2.2.2.2 f hf).2.2.1
  · rw [zN (show e < 2147483648 by omega)] at z ⊢
    have := hst3 e he
    rw [(hE e he).2.2.1, n1, nEq (by omega) (by omega)] at z
    rw [h2, n0, nEq (by omega) (by omega)] at zk
    exact hP F _ none (gv g) (Or.inr (Or.inl ⟨z, zk, rfl, rfl⟩)) q0 h4 (fun _ _ _ => rfl) (fun c c3 _ _ => ui_ne _ _ c3)
end
section
variable {t : Nat} {K : Nat → zK} {u o kd N : Nat} {F : Nat → Int32} {I : Nat → Nat → Int32} {J : Nat → Nat → Int64} {F' : Nat → Int32} {I' : Nat → Nat → Int32} {J' : Nat → Nat → Int64}
theorem s_cut {x : Int32} (h : RK t K u o kd N F I J F' I' J') : AMi m_X6_cut [.ref 0, .int x] (F, I, J) (fun r C => AMi m_X7_cut [.ref 0, .int x] (F', I', J') (fun r' M => r' = r ∧ Rel (t + 1) C M)) := by
  have hc := h.1.1
  have hm := h.2.1.1
  have hn := hc.1.1
  have hmm := hc.1.2.1
  have h3 := h.2.2.1 u (Nat.le_refl _)
  have h4 := h.2.2.2.1
  have h6 := h.2.2.2.2.2.1
  have h7 := h.2.2.2.2.2.2.1
  refine c_cut hc h3.1.2.1 h3.1.2.2.1 h3.1.2.2.2.1 h4.1 h4.2.1 h.1.2.2 h7.2.2.2.1 h7.2.2.2.2.1 h7.1 h7.2.1 (fun hx => ?_) (fun e oo v2 he hx hne hN F4 I4 J4 o2 f u1 l1 l2 l3 l4 hQ f5 fF fI fJ c1 c2 c3 c4 f13 f14 c5 e1 e2 e3 e4 => ?_)
  · exact r_X7_cut_0 _ F' I' J' (m_isThere hm (fun e he q z => absurd (hx e he q) z) (fun _ => ⟨fun z => absurd rfl z, fun _ => ⟨rfl, Rel_0 h⟩⟩))
  · subst hx
    refine r_X7_cut_0 _ F' I' J' (m_isThere hm (fun e' he' q z => ⟨fun _ => ?_, fun z => absurd z (by decide)⟩) (fun z => absurd (z e he rfl) hne))
    refine m_changes hn hmm h7.2.2.2.2.1 hm.2.1 hm.2.2.1 h7.2.2.1 (fun I2' J2' f2 u2 d1 d2 d3 dI dJ d4 d5 => ?_)
    have eu : u2 = u1 := by omega
    refine m_goes (g := kg (K u)) (mQ_ch hm dI) h3.1.2.1 h3.1.2.2.1 h3.1.2.2.2.1 h4.1 (by rw [upd_ne _ (by decide)]; exact h4.2.2) (by rw [upd_ne _ (by decide)]; exact h.2.1.2.2.1) he hne (fun F3' I3' oo' v2' hN' hQ' g4 gF gI => ?_)
    rw [dJ 1 (by decide)] at hN'
    obtain ⟨eo, ev⟩ := eGo_one h.2.2.2.2.1 hN hN'
    subst eo; subst ev
    refine ⟨rfl, ?_⟩
    refine RK_end (f := f) (u1 := u1) (o2 := o2) (N2 := N) (k2 := (gSV (kg (K u)) (sG (gs (kg (K u))) e oo') v2', kc (K u), km (K u), kr (K u), kv (K u))) h c1 (kI_cut h3.1 he hN) (Nat.le_succ_of_le h3.2.1) h3.2.2 (Nat.le_refl _) (by omega) ⟨hQ, fun i hi => ⟨?_, ?_⟩, f5⟩ ⟨hQ', fun i hi => ⟨?_, ?_⟩, g4, ?_⟩ (fF 2 (by omega)) ?_ (fun e he => ?_) (by rw [fF 1 (by omega)]; exact h6.2.1) (fun i hi hi2 => ?_) f13 f14 ?_ ?_ ?_ ?_
    · rw [fI]; exact (h.1.2.1 i hi).1
    · rw [fJ 0 (by decide)]; exact (h.1.2.1 i hi).2
    · rw [gI 0 (by decide) (by decide) (by omega), dI 0 (by omega)]; exact (h.2.1.2.1 i hi).1
    · rw [dJ 0 (by decide)]; exact (h.2.1.2.1 i hi).2
    · rw [gF 3 (by decide) (by decide), upd_ne _ (by decide)]; exact h.2.1.2.2.2
    · rw [gF 2 (by decide) (by decide), upd_ne _ (by decide)]
    · rw [fJ 1 (by decide), dJ 1 (by decide)]; exact h.2.2.2.2.1 e he
    · rw [fI]; exact h6.2.2 i hi hi2
    · rw [gF 5 (by decide) (by decide), upd_self, eu]
    · have hPS := PS_fr (I2 := fun c => if c = 7 then I4 7 else I c) (J2 := J) (I2' := I') (J2' := J') h7.2.2.2 (fun p hp => l4 p hp) (fun c hc => if_neg (by omega)) rfl (fun _ _ _ => rfl) rfl
      refine PS_fr (PS_push (I2 := I4) (J2 := J4) hPS (fun j hj => (h.2.2.1 j hj).1.1) h.2.1 c1 c2 c3 c4 (fun j hj => c5 j hj) rfl d1 d2 d3 d4 d5 e1 e2 e3 e4 ?_) (fun _ _ => rfl) (fun _ _ => rfl) rfl (fun c c1 c2 => gI c (by omega) (by omega) (by omega)) rfl
      exact Ent_cut h3.1 he hN l1 l2 l3
    · rw [gF 7 (by decide) (by decide), upd_ne _ (by decide), fF 3 (by omega)]; exact h.2.2.2.2.2.2.2.1
    · intro s hs
      rw [fF (15 + s) (by omega), fF (21 + s) (by omega), gI 17 (by decide) (by decide) (by omega), gI 18 (by decide) (by decide) (by omega), gI 19 (by decide) (by decide) (by omega), dI 17 (by omega), dI 18 (by omega), dI 19 (by omega), fJ (3 + s) (by omega), dJ 3 (by decide)]
      exact h.2.2.2.2.2.2.2.2 s hs
theorem RK_m {F2' : Nat → Int32} {I2' : Nat → Nat → Int32} {J2' : Nat → Nat → Int64} (h : RK t K u o kd N F I J F' I' J') (hm : mM (K u) F2' I2' J2') (f2 : F2' 2 = F' 2) (f5 : F2' 5 = F' 5) (f7 : F2' 7 = F' 7) (hw : J2' 1 = J' 1) (hS : ∀ j, j < u → sEq I' J' j I2' J2' j) (h17 : I2' 17 = I' 17) (h18 : I2' 18 = I' 18) (h19 : I2' 19 = I' 19) (hj3 : J2' 3 = J' 3) : RK t K u o kd N F I J F2' I2' J2' := by
  obtain ⟨a1, a2, a3, a4, a5, a6, a7, a8, a9⟩ := h
  refine ⟨a1, hm, a3, ⟨a4.1, a4.2.1, by rw [f2]; exact a4.2.2⟩, by rw [hw]; exact a5, a6, ⟨a7.1, a7.2.1, by rw [f5]; exact a7.2.2.1, a7.2.2.2.1, a7.2.2.2.2.1, fun j hj => ⟨(a7.2.2.2.2.2 j hj).1, ?_⟩⟩, by rw [f7]; exact a8, ?_⟩
  · exact mS_eq (a3 j (by omega)).1.1 (a7.2.2.2.2.2 j hj).2 (hS j hj)
  · intro s hs
    rw [h17, h18, h19, hj3]
    exact a9 s hs
theorem s_instead {x : Int32} (h : RK t K u o kd N F I J F' I' J') : AMi m_X6_instead [.ref 0, .int x] (F, I, J) (fun r C => AMi m_X7_instead [.ref 0, .int x] (F', I', J') (fun r' M => r' = r ∧ Rel (t + 1) C M)) := by
  have hc := h.1.1
  have hm := h.2.1.1
  have hn := hc.1.1
  have hmm := hc.1.2.1
  have h3 := h.2.2.1 u (Nat.le_refl _)
  have h4 := h.2.2.2.1
  have h7 := h.2.2.2.2.2.2.1
  refine r_X6_instead_0 _ F I J ?_
  refine c_isThere hc.1 hc.2.2.2.1 hc.2.2.1 (fun e he hx hne => ⟨fun _ => ⟨by rw [hx]; exact nIn (by omega) (by omega), ?_⟩, fun z => absurd z (by decide)⟩) (fun hx => ⟨fun z => absurd rfl z, fun _ => ?_⟩)
  · subst hx
    have hs3 := (hc.1.2.2 e he).2.2.2.1
    dsimp only
    rw [zN (show e < 2147483648 by omega), (hc.2.2.2.1 e he).2.2.1]
    refine ⟨fun z => ?_, fun z => ?_⟩
    · have z2 : gs (kg (K u)) e = 2 := by
        have : gs (kg (K u)) e ≠ 1 := fun q => z (by rw [q]; rfl)
        omega
      refine r_X7_instead_0 _ F' I' J' (m_isThere hm (fun e' he' q _ => ⟨fun _ => ⟨nIn (by omega) (by omega), fun w => ?_, fun _ => ⟨rfl, Rel_0 h⟩⟩, fun z => absurd z (by decide)⟩) (fun z => absurd (z e he rfl) hne))
      refine absurd ?_ w
      dsimp only
      rw [zN (show e < 2147483648 by omega), (hm.2.2.2 e he).2.2.1, z2]
      rfl
    · have z2 : gs (kg (K u)) e = 1 := by
        rw [n1, nEq (by omega) (by omega)] at z; exact z
      refine c_heirA hc h4.1 h4.2.1 he z2 (fun F2 I2 oo v2 hN hQ hfr => ?_)
      refine r_X7_instead_0 _ F' I' J' (m_isThere hm (fun e' he' q _ => ⟨fun _ => ⟨nIn (by omega) (by omega), fun _ => ?_, fun w => ?_⟩, fun z => absurd z (by decide)⟩) (fun z => absurd (z e he rfl) hne))
      · refine m_keep_s (t := 20) hn hmm (by omega) hm.2.1 hm.2.2.1 (fun I2' J2' dI dJ d4 d5 => ?_)
        have hm2 : mQ (kg (K u)) F' I2' := ⟨hm.1, hm.2.1, hm.2.2.1, fun e he => by rw [dI 1 (by omega), dI 2 (by omega), dI 3 (by omega), dI 4 (by omega)]; exact hm.2.2.2 e he⟩
        refine m_goes hm2 h3.1.2.1 h3.1.2.2.1 h3.1.2.2.2.1 h4.1 h4.2.2 h.2.1.2.2.1 he hne (fun F3' I3' oo' v2' hN' hQ' g4 gF gI => ?_)
        rw [dJ 1 (by decide)] at hN'
        obtain ⟨eo, ev⟩ := eGo_one h.2.2.2.2.1 hN hN'
        subst eo; subst ev
        have i8 : I3' 8 20 = nI (gm (kg (K u))) := by rw [gI 8 (by decide) (by decide) (by omega), d5.2.2.1]; exact hm.2.2.1
        have i9 : I3' 9 20 = F' 3 := by rw [gI 9 (by decide) (by decide) (by omega)]; exact d5.2.2.2.1
        have i10 : I3' 10 20 = F' 4 := by rw [gI 10 (by decide) (by decide) (by omega)]; exact d5.2.2.2.2
        refine m_back (t := 20) hn hmm (by omega) hQ'.2.1 i8 (fun I5 J5 b1 b2 b3 b4 => ⟨rfl, ?_⟩)
        rw [i9, i10]
        have hR := RK_q h hQ hfr hm frM_refl
        refine ⟨K, u, o, kd, N, RK_m hR ⟨⟨hm.1, ?_, ?_, fun f hf => ?_⟩, fun i hi => ?_, ?_, ?_⟩ ?_ ?_ ?_ ?_ (fun j hj => ?_) ?_ ?_ ?_ ?_⟩
        · show upd (upd (upd F3' 1 (nI (gm (kg (K u))))) 3 (F' 3)) 4 (F' 4) 0 = _
          rw [upd_ne _ (by decide), upd_ne _ (by decide), upd_ne _ (by decide)]; exact hQ'.2.1
        · show upd (upd (upd F3' 1 (nI (gm (kg (K u))))) 3 (F' 3)) 4 (F' 4) 1 = _
          rw [upd_ne _ (by decide), upd_ne _ (by decide), upd_self]
        · have q1 := hQ'.2.2.2 f hf
          have q3 := b4 f hf
          have q4 := d5.2.1 f hf
          have q5 := hm.2.2.2 f hf
          refine ⟨?_, ?_, ?_, ?_⟩
          · show I5 1 f = _
            rw [b1 1 (by decide) (by decide) (by decide)]; exact q1.1
          · show I5 2 f = _
            rw [b1 2 (by decide) (by decide) (by decide)]; exact q1.2.1
          · show I5 3 f = _
            rw [q3.1, gI 6 (by decide) (by decide) (by omega), q4.1]; exact q5.2.2.1
          · show I5 4 f = _
            rw [q3.2, gI 7 (by decide) (by decide) (by omega), q4.2]; exact q5.2.2.2
        · have q3 := b3 i hi
          have q4 := d5.1 i hi
          refine ⟨?_, ?_⟩
          · show I5 0 i = _
            rw [q3.1, gI 5 (by decide) (by decide) (by omega), q4.1]; exact (h.2.1.2.1 i hi).1
          · show J5 0 i = _
            rw [q3.2, q4.2]; exact (h.2.1.2.1 i hi).2
        · show upd (upd (upd F3' 1 (nI (gm (kg (K u))))) 3 (F' 3)) 4 (F' 4) 4 = _
          rw [upd_self]; exact h.2.1.2.2.1
        · show upd (upd (upd F3' 1 (nI (gm (kg (K u))))) 3 (F' 3)) 4 (F' 4) 3 = _
          rw [upd_ne _ (by decide), upd_self]; exact h.2.1.2.2.2
        · show upd (upd (upd F3' 1 (nI (gm (kg (K u))))) 3 (F' 3)) 4 (F' 4) 2 = _
          rw [upd_ne _ (by decide), upd_ne _ (by decide), upd_ne _ (by decide)]; exact gF 2 (by decide) (by decide)
        · show upd (upd (upd F3' 1 (nI (gm (kg (K u))))) 3 (F' 3)) 4 (F' 4) 5 = _
          rw [upd_ne _ (by decide), upd_ne _ (by decide), upd_ne _ (by decide)]; exact gF 5 (by decide) (by decide)
        · show upd (upd (upd F3' 1 (nI (gm (kg (K u))))) 3 (F' 3)) 4 (F' 4) 7 = _
          rw [upd_ne _ (by decide), upd_ne _ (by decide), upd_ne _ (by decide)]; exact gF 7 (by decide) (by decide)
        · show J5 1 = J' 1
          rw [b2 1 (by decide), dJ 1 (by decide)]
        · have := h7.2.2.2.2.1
          exact sEq_fr (I1 := I') (I3 := I2') (J3 := J2') (d4 j (by omega)) (fun _ _ _ => rfl) (fun c c1 c2 => by show I5 c = I2' c; rw [b1 c (by omega) (by omega) (by omega), gI c (by omega) (by omega) (by omega)]) (b2 2 (by decide))
        · show I5 17 = I' 17
          rw [b1 17 (by decide) (by decide) (by decide), gI 17 (by decide) (by decide) (by omega), dI 17 (by omega)]
        · show I5 18 = I' 18
          rw [b1 18 (by decide) (by decide) (by decide), gI 18 (by decide) (by decide) (by omega), dI 18 (by omega)]
        · show I5 19 = I' 19
          rw [b1 19 (by decide) (by decide) (by decide), gI 19 (by decide) (by decide) (by omega), dI 19 (by omega)]
        · show J5 3 = J' 3
          rw [b2 3 (by decide), dJ 3 (by decide)]
      · exfalso
        have w2 : I' 3 (zn (nI e)) = 2 := w
        rw [zN (show e < 2147483648 by omega), (hm.2.2.2 e he).2.2.1, n2, nEq (by omega) (by omega)] at w2
        omega
  · exact r_X7_instead_0 _ F' I' J' (m_isThere hm (fun e he q z => absurd (hx e he q) z) (fun _ => ⟨fun z => absurd rfl z, fun _ => ⟨rfl, Rel_0 h⟩⟩))
end
