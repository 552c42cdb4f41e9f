/-! put of weights; put -/
section
variable {t : Nat} {K : Nat → zK} {u o kd N : Nat} {F : Nat → Int32} {I : Nat → Nat → Int32} {J : Nat → Nat → Int64} {F' : Nat → Int32} {I' : Nat → Nat → Int32} {J' : Nat → Nat → Int64}
theorem s_put_3 {s : Nat} {x3 x4 : Int32} (hs : s < 6) (h : RK t K u o kd N F I J F' I' J') : AMi m_X6_put [.ref 0, .int (nI s), .int 3, .int x3, .int x4] (F, I, J) (fun r C => AMi m_X7_put [.ref 0, .int (nI s), .int 3, .int x3, .int x4] (F', I', J') (fun r' M => r' = r ∧ Rel (t + 1) C M)) := by
  have hc := h.1.1
  have hm := h.2.1.1
  have hn := hc.1.1
  have hmm := hc.1.2.1
  refine r_X6_put_0 _ _ _ _ F I J ?_
  refine c_isTray (fun s2 hs2 _ => ⟨fun z => absurd z (by decide), fun _ => ?_⟩) (fun hb => absurd hb (tray_in hs))
  refine r_X6_canPut_0 _ _ _ F I J ⟨fun z => absurd z (by decide), fun _ => ⟨fun z => absurd z (by decide), fun _ => ⟨fun z => absurd z (by decide), fun _ => ⟨fun _ => ?_, fun z => absurd rfl z⟩⟩⟩⟩
  rw [zN (show s < 2147483648 by omega)]
  refine c_layTrack hc (fun hx => ⟨fun _ => ⟨fun w => absurd rfl w, fun _ => ?_⟩, fun z => absurd (by decide) z⟩) (fun a b F2 I2 ha hb hx hy hno h8 hQ hfr => ⟨fun _ => ⟨fun w => absurd rfl w, fun _ => ?_⟩, fun z => absurd (by decide) z⟩) (fun a b F2 I2 l K2 S ha hb hx hy hw hl h8 hK hS hQ hfr => ⟨fun z => by rw [nNeg (by omega)] at z; exact z.elim, fun _ => ⟨fun _ => ⟨nIn (by omega) (by omega), ?_⟩, fun z => absurd z (by decide)⟩⟩)
  · refine r_X6_refuse_0 _ F I J (m_put_head hm hs (Or.inr (Or.inl rfl)) (fun a ha e => ?_) (fun _ => ⟨rfl, Rel_st h 1⟩))
    refine r_X7_put_50 _ _ _ _ F' I' J' ⟨fun z => absurd rfl z, fun _ => ?_⟩
    exact m_one_bad hm (hx.resolve_left (fun z => z a ha e)) (r_X7_refused_0 _ F' I' J' ⟨rfl, Rel_st h 1⟩)
  · subst hx; subst hy
    refine r_X6_refuse_0 _ F2 I2 J (m_put_head hm hs (Or.inr (Or.inl rfl)) (fun a2 ha2 e => ?_) (fun z => absurd rfl (z a ha)))
    refine r_X7_put_50 _ _ _ _ F' I' J' ⟨fun z => absurd rfl z, fun _ => ?_⟩
    refine m_one_ok hm hb (m_finds hm ha hb (fun I3 q1 q2 _ _ => ⟨fun w => absurd rfl w, fun _ => r_X7_refused_0 _ F' I3 J' ⟨rfl, ?_⟩⟩) (fun F3 I3 l3 K3 S3 _ _ w _ _ _ _ _ => absurd (isW_all w) hno))
    exact Rel_st (RK_fr h hQ hfr q1 q2) 1
  · subst hx; subst hy
    refine ⟨fun z => absurd z (by decide), fun _ => ⟨fun z => absurd z (by decide), fun _ => ⟨fun _ => r_X6_putWeights_0 s hs _ _ F2 I2 J ?_, fun z => absurd rfl z⟩⟩⟩
    refine c_layTrack hQ (fun hx => ?_) (fun a2 b2 F3 I3 ha2 hb2 hx2 hy2 hno _ _ _ => ?_) (fun a2 b2 F3 I3 l2 K3 S2 ha2 hb2 hx2 hy2 hw2 hl2 h82 hK2 hS2 hQ2 hfr2 => r_X4_begin_0 s hs _ F3 I3 J ?_)
    · rcases hx with z | z
      · exact absurd rfl (z a ha)
      · exact absurd rfl (z b hb)
    · rw [nEq (by omega) (by omega)] at hx2 hy2
      subst hx2; subst hy2
      exact absurd (isW_all hw) hno
    · rw [nEq (by omega) (by omega)] at hx2 hy2
      subst hx2; subst hy2
      have hSm : ∀ i, i < l2 → S2 i < gm (kg (K u)) := fun i hi => (hw2.2.2.1 i hi).1
      refine c_putWeights_loop (l := l2) (S := S2) hs (by omega) (fun i hi => ⟨hS2 i hi, by have := hSm i hi; omega⟩) (fun J2 j1 j2 => ?_) l2 0 J (by omega) (fun _ _ => rfl) (fun k hk => by omega) _ (fun _ _ => rfl) (upd_self _ _ _)
      refine m_put_head hm hs (Or.inr (Or.inl rfl)) (fun a3 ha3 e => ?_) (fun z => absurd rfl (z a ha))
      refine r_X7_put_50 _ _ _ _ F' I' J' ⟨fun z => absurd rfl z, fun _ => ?_⟩
      refine m_one_ok hm hb (m_finds hm ha hb (fun I5 q1 q2 z _ => absurd (isW_all hw) z) (fun F5 I5 l5 K5 S5 q1 q2 w w2 e6 e15 e16 _ => ⟨fun _ => m_put_80 hs (by decide) ?_, fun z => absurd z (by decide)⟩))
      obtain ⟨o1, -, o3⟩ := isW_one (RK_fo h) _ _ _ _ _ _ _ _ w hw2
      subst o1
      refine r_X7_put_118 _ _ _ _ _ _ _ ⟨fun z => absurd z (by decide), fun _ => ⟨fun _ => m_put_skip (by decide) (by decide) ?_, fun z => absurd z (by decide)⟩⟩
      refine m_putWeights_loop (l := l5) (S := S5) hs (by omega) e6 (fun i hi => ⟨by rw [ui_ne _ _ (by decide), ui_ne _ _ (by decide)]; exact e16 i hi, by rw [o3 i hi]; have := hSm i hi; omega⟩) (fun I6 J6 p1 p2 p3 p4 p5 p6 => ⟨rfl, ?_⟩) l5 0 _ J' (by omega) (fun _ _ => rfl) (fun _ _ => rfl) (fun _ _ => rfl) (fun _ _ => rfl) (by rw [ui_self, upd_self]; rfl) (fun k hk => by omega)
      refine put_end (s := s) (th := 3) (L := l5) h hs hQ2 (frC_trans hfr hfr2) (fun c c1 c2 c3 => by dsimp only; rw [upd_ne _ c1, upd_ne _ c3, upd_ne _ c3, upd_ne _ c2]) (upd_self _ _ _) j1 (mQ_tray q1 (upd_ne _ (by decide)) (upd_ne _ (by decide)) (fun c hc => by rw [p1 c (by omega), ui_ne _ _ (by omega), ui_ne _ _ (by omega)])) (fun c c1 c2 => by rw [upd_ne _ c2]; exact q2.1 c c1) (upd_self _ _ _) (fun c hc => by rw [p1 c (by omega), ui_ne _ _ (by omega), ui_ne _ _ (by omega)]; exact q2.2 c (by omega)) (fun r hr => ⟨?_, ?_⟩) (fun q hq => ⟨?_, p4 q hq⟩) (fun c hc => p3 c (by omega)) ⟨?_, ?_, by omega, by omega, ?_, fun z => by omega, fun _ => p5, fun z => by omega, fun _ i hi => ?_⟩
      · rw [p1 17 (by decide), ui_ne _ _ (by decide), ui_self, upd_ne _ hr, q2.2 17 (by omega)]
      · rw [p2 r hr, ui_self, upd_ne _ hr, ui_ne _ _ (by decide), q2.2 18 (by omega)]
      · rw [p1 19 (by decide), ui_ne _ _ (by decide), ui_ne _ _ (by decide), q2.2 19 (by omega)]
      · dsimp only; rw [upd_ne _ (by omega), upd_ne _ (by omega), upd_ne _ (by omega), upd_self]; rfl
      · rw [p1 17 (by decide), ui_ne _ _ (by decide), ui_self, upd_self]; rfl
      · dsimp only; rw [upd_ne _ (by omega), upd_self]
      · dsimp only
        rw [j2 i hi, p6 i hi, o3 i hi]
        exact (h.2.2.2.2.1 _ (hSm i hi)).symm
theorem s_put {x1 x2 x3 x4 : Int32} (h : RK t K u o kd N F I J F' I' J') : AMi m_X6_put [.ref 0, .int x1, .int x2, .int x3, .int x4] (F, I, J) (fun r C => AMi m_X7_put [.ref 0, .int x1, .int x2, .int x3, .int x4] (F', I', J') (fun r' M => r' = r ∧ Rel (t + 1) C M)) := by
  have bad : (x1 < 0 ∨ 5 < x1 ∨ x2 < 0 ∨ ¬ x2 ≤ 4) → AMi m_X6_refuse [.ref 0, .int 1] (F, I, J) (fun r C => AMi m_X7_put [.ref 0, .int x1, .int x2, .int x3, .int x4] (F', I', J') (fun r' M => r' = r ∧ Rel (t + 1) C M)) := fun hb => r_X6_refuse_0 _ F I J (m_put_bad hb ⟨rfl, Rel_st h 1⟩)
  by_cases hx1 : x1 < 0 ∨ nI 6 ≤ x1
  · have hb : x1 < 0 ∨ 5 < x1 := hx1.elim Or.inl (fun q => Or.inr (Int32.lt_of_lt_of_le (show (5 : Int32) < nI 6 by decide) q))
    refine r_X6_put_0 _ _ _ _ F I J ?_
    refine c_isTray (fun s hs e => absurd hx1 (by rw [e]; exact tray_in hs)) (fun _ => ⟨fun _ => bad (hb.elim Or.inl (fun q => Or.inr (Or.inl q))), fun z => absurd rfl z⟩)
  · rcases pk_ix x1 (n := 6) (by omega) with q | q | ⟨s, hs, q⟩
    · exact absurd (Or.inl q) hx1
    · exact absurd (Or.inr q) hx1
    · have out : (¬ x2 = 0) → (¬ x2 = 1) → (¬ x2 = 2) → (¬ x2 = 3) → (¬ x2 = 4) → AMi m_X6_put [.ref 0, .int x1, .int x2, .int x3, .int x4] (F, I, J) (fun r C => AMi m_X7_put [.ref 0, .int x1, .int x2, .int x3, .int x4] (F', I', J') (fun r' M => r' = r ∧ Rel (t + 1) C M)) := by
        intro z0 z1 z2 z3 z4
        refine r_X6_put_0 _ _ _ _ F I J ?_
        refine c_isTray (fun s2 hs2 e => ⟨fun z => absurd z (by decide), fun _ => ?_⟩) (fun hb => absurd hb hx1)
        refine r_X6_canPut_0 _ _ _ F I J ⟨fun z => absurd z z0, fun _ => ⟨fun z => absurd z z1, fun _ => ⟨fun z => absurd z z2, fun _ => ⟨fun z => absurd z z3, fun _ => ⟨fun z => absurd z z4, fun _ => ⟨fun w => absurd rfl w, fun _ => bad ?_⟩⟩⟩⟩⟩⟩
        by_cases w : x2 < 0
        · exact Or.inr (Or.inr (Or.inl w))
        · exact Or.inr (Or.inr (Or.inr (x5_out z0 z1 z2 z3 z4 w)))
      subst q
      by_cases z0 : x2 = 0
      · subst z0; exact s_put_0 hs h
      by_cases z1 : x2 = 1
      · subst z1; exact s_put_1 hs h
      by_cases z2 : x2 = 2
      · subst z2; exact s_put_2 hs h
      by_cases z3 : x2 = 3
      · subst z3; exact s_put_3 hs h
      by_cases z4 : x2 = 4
      · subst z4; exact s_put_4 hs h
      exact out z0 z1 z2 z3 z4
end
