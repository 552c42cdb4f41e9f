/-! put of knots and truths -/
section
variable {t : Nat} {K : Nat → zK} {u o kd N : Nat} {F : Nat → Int32} {I : Nat → Nat → Int32} {J : Nat → Nat → Int64} {F' : Nat → Int32} {I' : Nat → Nat → Int32} {J' : Nat → Nat → Int64}
theorem tray_in {s : Nat} (hs : s < 6) : ¬ (nI s < 0 ∨ nI 6 ≤ nI s) := by
  rw [nNeg (by omega), nLe (by omega) (by omega)]
  rintro (q | q)
  · exact q
  · omega
theorem m_put_head {P : Int32 → zM → Prop} {g : zG} {s : Nat} {x2 x3 x4 : Int32} (hm : mQ g F I) (hs : s < 6) (hx : x2 = 2 ∨ x2 = 3 ∨ x2 = 4) (hok : ∀ a, a < gn g → x3 = nI a → AW m_X7_put (z_pi P) 50 [some (.ref 0), some (.int (nI s)), some (.int x2), some (.int x3), some (.int x4), none, none] [] (F, I, J)) (hbad : (∀ a, a < gn g → x3 ≠ nI a) → P (-1) (upd F 7 1, I, J)) : AMi m_X7_put [.ref 0, .int (nI s), .int x2, .int x3, .int x4] (F, I, J) P := by
  refine r_X7_put_0 _ _ _ _ F I J ?_
  have c1 : ¬ x2 < 0 ∧ x2 ≤ 4 ∧ ¬ x2 = 1 ∧ ¬ x2 < 2 := by rcases hx with q | q | q <;> subst q <;> decide
  rw [show (nI s < 0) = False from nNeg (by omega), show (5 < nI s) = False from by rw [show (5 : Int32) = nI 5 from rfl, nLt (by omega) (by omega)]; exact eq_false (by omega)]
  refine ⟨fun z => z.elim, fun _ => ⟨fun z => z.elim, fun _ => ⟨fun z => absurd z c1.1, fun _ => ⟨fun _ => ⟨fun _ => ⟨fun z => absurd z c1.2.2.2, fun _ => ?_⟩, fun z => absurd z c1.2.2.1⟩, fun z => absurd c1.2.1 z⟩⟩⟩⟩
  exact m_isKnot hm.1.1 hm.2.1 (fun a ha e => ⟨fun z => absurd z (by decide), fun _ => hok a ha e⟩) (fun z => ⟨fun _ => r_X7_refused_0 _ F I J (hbad z), fun w => absurd rfl w⟩)
/-- the class's check for knots and truths -/
theorem c_put_kt {P : Int32 → zM → Prop} {g : zG} {s : Nat} {x2 x3 x4 : Int32} (hc : cQ g F I) (hs : s < 6) (hx : x2 = 2 ∨ x2 = 4) (hok : ∀ a, a < gn g → x3 = nI a → (x2 = 2 → AMv m_X6_putKnots [.ref 0, .ref (37 + 2 * s), .int x3] (F, I, J) (fun M92 => P 1 (upd M92.1 3 0, M92.2.1, M92.2.2))) ∧ (x2 = 4 → AMv m_X6_putTruths [.ref 0, .ref (37 + 2 * s), .int x3] (F, I, J) (fun M114 => P 1 (upd M114.1 3 0, M114.2.1, M114.2.2)))) (hbad : (∀ a, a < gn g → x3 ≠ nI a) → P (-1) (upd F 3 1, I, J)) : AMi m_X6_put [.ref 0, .int (nI s), .int x2, .int x3, .int x4] (F, I, J) P := by
  refine r_X6_put_0 _ _ _ _ F I J ?_
  refine c_isTray (fun s2 hs2 _ => ⟨fun z => absurd z (by decide), fun _ => ?_⟩) (fun hb => absurd hb (tray_in hs))
  rw [zN (show s < 2147483648 by omega)]
  have kn : AMi m_X6_isKnot [.ref 0, .int x3] (F, I, J) (fun r13 M13 => narrow .boolean (.int r13) = .int r13 ∧ ((¬ r13 = 0 → vp_in (nI s) 6 ∧ ((x2 = 1 → AMv m_X4_begin [.ref (37 + 2 * s), .int 1] M13 (fun M67 => vp_in x3 300 ∧ AMv m_X4_lay [.ref (37 + 2 * s), .long ((M67.2.1 1 (zn x3)).toInt64)] M67 (fun M82 => P 1 (upd M82.1 3 0, M82.2.1, M82.2.2)))) ∧ (¬ x2 = 1 → ((x2 = 2 → AMv m_X6_putKnots [.ref 0, .ref (37 + 2 * s), .int x3] M13 (fun M92 => P 1 (upd M92.1 3 0, M92.2.1, M92.2.2))) ∧ (¬ x2 = 2 → ((x2 = 3 → AMv m_X6_putWeights [.ref 0, .ref (37 + 2 * s), .int x3, .int x4] M13 (fun M104 => P 1 (upd M104.1 3 0, M104.2.1, M104.2.2))) ∧ (¬ x2 = 3 → ((x2 = 4 → AMv m_X6_putTruths [.ref 0, .ref (37 + 2 * s), .int x3] M13 (fun M114 => P 1 (upd M114.1 3 0, M114.2.1, M114.2.2))) ∧ (¬ x2 = 4 → AMv m_X4_begin [.ref (37 + 2 * s), .int 0] M13 (fun M123 => P 1 (upd M123.1 3 0, M123.2.1, M123.2.2))))))))))) ∧ (r13 = 0 → AMi m_X6_refuse [.ref 0, .int 1] M13 (fun r21 M21 => P r21 M21)))) := by
    refine c_isKnot hc.1.1 hc.2.1 (fun a ha e => ⟨narrow01 (Or.inr rfl), fun _ => ⟨nIn (by omega) (by omega), ?_⟩, fun z => absurd z (by decide)⟩) (fun z => ⟨narrow01 (Or.inl rfl), fun w => absurd rfl w, fun _ => r_X6_refuse_0 _ F I J (hbad z)⟩)
    obtain ⟨k2, k4⟩ := hok a ha e
    refine ⟨fun z => ?_, fun _ => ⟨fun z => k2 z, fun z2 => ⟨fun z => ?_, fun _ => ⟨fun z => k4 z, fun z => ?_⟩⟩⟩⟩
    · rcases hx with q | q <;> (rw [q] at z; exact absurd z (by decide))
    · rcases hx with q | q <;> (rw [q] at z; exact absurd z (by decide))
    · rcases hx with q | q
      · exact absurd q z2
      · exact absurd q z
  refine r_X6_canPut_0 _ _ _ F I J ?_
  rcases hx with q | q
  · exact ⟨fun z => absurd (q.symm.trans z) (by decide), fun _ => ⟨fun z => absurd (q.symm.trans z) (by decide), fun _ => ⟨fun _ => kn, fun z => absurd q z⟩⟩⟩
  · exact ⟨fun z => absurd (q.symm.trans z) (by decide), fun _ => ⟨fun z => absurd (q.symm.trans z) (by decide), fun _ => ⟨fun z => absurd (q.symm.trans z) (by decide), fun _ => ⟨fun z => absurd (q.symm.trans z) (by decide), fun _ => ⟨fun _ => kn, fun z => absurd q z⟩⟩⟩⟩⟩
theorem s_put_2 {s : Nat} {x3 x4 : Int32} (hs : s < 6) (h : RK t K u o kd N F I J F' I' J') : AMi m_X6_put [.ref 0, .int (nI s), .int 2, .int x3, .int x4] (F, I, J) (fun r C => AMi m_X7_put [.ref 0, .int (nI s), .int 2, .int x3, .int x4] (F', I', J') (fun r' M => r' = r ∧ Rel (t + 1) C M)) := by
  have hc := h.1.1
  have hm := h.2.1.1
  have hn := hc.1.1
  refine c_put_kt hc hs (Or.inl rfl) (fun a ha e => ⟨fun _ => ?_, fun z => absurd z (by decide)⟩) (fun hb => m_put_head hm hs (Or.inl rfl) (fun a ha e => absurd e (hb a ha)) (fun _ => ⟨rfl, Rel_st h 1⟩))
  subst e
  refine r_X6_putKnots_0 s hs _ F I J ?_
  refine c_floodPart hc ha (fun F2 I2 L q R B dp hf hQ hfr hR _ => r_X4_begin_0 s hs _ F2 I2 J ?_)
  refine c_putKnots_loop (n := gn (kg (K u))) (p := cn (gm (kg (K u))) (ga (kg (K u))) (gb (kg (K u))) (Tr (kg (K u))) a) hs hn (by rw [upd_ne _ (by omega), upd_ne _ (by omega)]; exact hQ.2.1) (fun k hk => ⟨fun z => (hf.2.2.2.2.2.2 k (by omega)).1 ((hR k).mpr z), fun z => (hf.2.2.2.2.2.2 k (by omega)).2 (fun w => z ((hR k).mp w))⟩) (fun J2 j1 j2 => ?_) (gn (kg (K u))) 0 J (by omega) (fun _ _ => rfl) (fun k hk => by omega) _ (fun _ _ => rfl) (upd_self _ _ _)
  refine m_put_head hm hs (Or.inl rfl) (fun a2 ha2 e2 => ?_) (fun hb => absurd rfl (hb a ha))
  refine r_X7_put_50 _ _ _ _ F' I' J' ⟨fun _ => m_put_80 hs (by decide) ?_, fun z => absurd z (by decide)⟩
  refine r_X7_put_118 _ _ _ _ _ _ _ ⟨fun _ => ?_, fun z => absurd rfl z⟩
  have hm2 : mQ (kg (K u)) F' (z_ui (z_ui I' 17 s 2) 18 s 0) := mQ_tray hm rfl rfl (fun c hc => by rw [ui_ne _ _ (by omega), ui_ne _ _ (by omega)])
  refine m_part hm2 ha (fun I3 L' q' R' B' dp' hf' hQ' hfr' hR' _ => ?_)
  have i17 : I3 17 = z_ui (z_ui I' 17 s 2) 18 s 0 17 := hfr'.2 17 (by omega)
  have i18 : I3 18 = z_ui (z_ui I' 17 s 2) 18 s 0 18 := hfr'.2 18 (by omega)
  have i19 : I3 19 = z_ui (z_ui I' 17 s 2) 18 s 0 19 := hfr'.2 19 (by omega)
  rw [ui_ne _ _ (by decide), ui_self] at i17
  rw [ui_self, ui_ne _ _ (by decide)] at i18
  rw [ui_ne _ _ (by decide), ui_ne _ _ (by decide)] at i19
  refine m_putKnots_loop (n := gn (kg (K u))) (p := cn (gm (kg (K u))) (ga (kg (K u))) (gb (kg (K u))) (Tr (kg (K u))) a) hs hn hQ'.2.1 (fun k hk => ⟨fun z => (hf'.2.2.2.2 k hk).1 ((hR' k).mpr z), fun z => (hf'.2.2.2.2 k hk).2 (fun w => z ((hR' k).mp w))⟩) (fun I4 p1 p2 p3 => ⟨rfl, ?_⟩) (gn (kg (K u))) 0 I3 (by omega) frT_refl (by rw [i18, upd_self]; rfl) (fun k hk => by omega)
  refine put_end (s := s) (th := 2) (L := ctp (cn (gm (kg (K u))) (ga (kg (K u))) (gb (kg (K u))) (Tr (kg (K u))) a) (gn (kg (K u)))) h hs hQ hfr (fun c c1 c2 c3 => by dsimp only; rw [upd_ne _ c1, upd_ne _ c3, upd_ne _ c3, upd_ne _ c2]) (upd_self _ _ _) j1 (mQ_tray hQ' (upd_ne _ (by decide)) (upd_ne _ (by decide)) (fun c hc => p1.1 c (by omega) (by omega))) (fun c _ c2 => upd_ne _ c2) (upd_self _ _ _) (fun c hc => by rw [p1.1 c (by omega) (by omega), hfr'.2 c (by omega), ui_ne _ _ (by omega), ui_ne _ _ (by omega)]) (fun r hr => ⟨by rw [p1.1 17 (by decide) (by decide), i17, upd_ne _ hr], by rw [p1.2.1 r hr, i18, upd_ne _ hr]⟩) (fun q hq => ⟨by rw [p1.2.2 q hq, i19], rfl⟩) (fun _ _ => rfl) ⟨?_, ?_, by omega, ?_, ?_, fun z => by omega, fun _ => p2, fun _ i hi => ?_, fun z => by omega⟩
  · dsimp only; rw [upd_ne _ (by omega), upd_ne _ (by omega), upd_ne _ (by omega), upd_self]; rfl
  · rw [p1.1 17 (by decide) (by decide), i17, upd_self]; rfl
  · have := ctp_le (cn (gm (kg (K u))) (ga (kg (K u))) (gb (kg (K u))) (Tr (kg (K u))) a) (gn (kg (K u))); omega
  · dsimp only; rw [upd_ne _ (by omega), upd_self]
  · obtain ⟨k, k1, k2, k3⟩ := ctp_hit hi
    dsimp only
    rw [← k3, j2 k k1 k2, p3 k k1 k2]
theorem s_put_4 {s : Nat} {x3 x4 : Int32} (hs : s < 6) (h : RK t K u o kd N F I J F' I' J') : AMi m_X6_put [.ref 0, .int (nI s), .int 4, .int x3, .int x4] (F, I, J) (fun r C => AMi m_X7_put [.ref 0, .int (nI s), .int 4, .int x3, .int x4] (F', I', J') (fun r' M => r' = r ∧ Rel (t + 1) C M)) := by
  have hc := h.1.1
  have hm := h.2.1.1
  have hn := hc.1.1
  refine c_put_kt hc hs (Or.inr rfl) (fun a ha e => ⟨fun z => absurd z (by decide), fun _ => ?_⟩) (fun hb => m_put_head hm hs (Or.inr (Or.inr rfl)) (fun a ha e => absurd e (hb a ha)) (fun _ => ⟨rfl, Rel_st h 1⟩))
  subst e
  refine r_X6_putTruths_0 s hs _ F I J ?_
  refine c_floodPart hc ha (fun F2 I2 L q R B dp hf hQ hfr hR _ => r_X4_begin_0 s hs _ F2 I2 J ?_)
  refine c_putTruths_loop (n := gn (kg (K u))) (p := cn (gm (kg (K u))) (ga (kg (K u))) (gb (kg (K u))) (Tr (kg (K u))) a) hs hn (by rw [upd_ne _ (by omega), upd_ne _ (by omega)]; exact hQ.2.1) (fun k hk => ⟨fun z => (hf.2.2.2.2.2.2 k (by omega)).1 ((hR k).mpr z), fun z => (hf.2.2.2.2.2.2 k (by omega)).2 (fun w => z ((hR k).mp w))⟩) (fun J2 j1 j2 => ?_) (gn (kg (K u))) 0 J (by omega) (fun _ _ => rfl) (fun k hk => by omega) _ (fun _ _ => rfl) (upd_self _ _ _)
  refine m_put_head hm hs (Or.inr (Or.inr rfl)) (fun a2 ha2 e2 => ?_) (fun hb => absurd rfl (hb a ha))
  refine r_X7_put_50 _ _ _ _ F' I' J' ⟨fun _ => m_put_80 hs (by decide) ?_, fun z => absurd z (by decide)⟩
  refine r_X7_put_118 _ _ _ _ _ _ _ ⟨fun z => absurd z (by decide), fun _ => ⟨fun z => absurd rfl z, fun _ => ?_⟩⟩
  have hm2 : mQ (kg (K u)) F' (z_ui (z_ui I' 17 s 4) 18 s 0) := mQ_tray hm rfl rfl (fun c hc => by rw [ui_ne _ _ (by omega), ui_ne _ _ (by omega)])
  refine m_part hm2 ha (fun I3 L' q' R' B' dp' hf' hQ' hfr' hR' _ => ?_)
  have i17 : I3 17 = z_ui (z_ui I' 17 s 4) 18 s 0 17 := hfr'.2 17 (by omega)
  have i18 : I3 18 = z_ui (z_ui I' 17 s 4) 18 s 0 18 := hfr'.2 18 (by omega)
  have i19 : I3 19 = z_ui (z_ui I' 17 s 4) 18 s 0 19 := hfr'.2 19 (by omega)
  rw [ui_ne _ _ (by decide), ui_self] at i17
  rw [ui_self, ui_ne _ _ (by decide)] at i18
  rw [ui_ne _ _ (by decide), ui_ne _ _ (by decide)] at i19
  refine m_putTruths_loop (n := gn (kg (K u))) (p := cn (gm (kg (K u))) (ga (kg (K u))) (gb (kg (K u))) (Tr (kg (K u))) a) hs hn hQ'.2.1 (fun k hk => ⟨fun z => (hf'.2.2.2.2 k hk).1 ((hR' k).mpr z), fun z => (hf'.2.2.2.2 k hk).2 (fun w => z ((hR' k).mp w))⟩) (fun I4 p1 p2 p3 => ⟨rfl, ?_⟩) (gn (kg (K u))) 0 I3 (by omega) frT_refl (by rw [i18, upd_self]; rfl) (fun k hk => by omega)
  refine put_end (s := s) (th := 4) (L := gn (kg (K u))) h hs hQ hfr (fun c c1 c2 c3 => by dsimp only; rw [upd_ne _ c1, upd_ne _ c3, upd_ne _ c3, upd_ne _ c2]) (upd_self _ _ _) j1 (mQ_tray hQ' (upd_ne _ (by decide)) (upd_ne _ (by decide)) (fun c hc => p1.1 c (by omega) (by omega))) (fun c _ c2 => upd_ne _ c2) (upd_self _ _ _) (fun c hc => by rw [p1.1 c (by omega) (by omega), hfr'.2 c (by omega), ui_ne _ _ (by omega), ui_ne _ _ (by omega)]) (fun r hr => ⟨by rw [p1.1 17 (by decide) (by decide), i17, upd_ne _ hr], by rw [p1.2.1 r hr, i18, upd_ne _ hr]⟩) (fun q hq => ⟨by rw [p1.2.2 q hq, i19], rfl⟩) (fun _ _ => rfl) ⟨?_, ?_, by omega, by omega, ?_, fun z => by omega, fun _ => p2, fun _ i hi => ?_, fun z => by omega⟩
  · dsimp only; rw [upd_ne _ (by omega), upd_ne _ (by omega), upd_ne _ (by omega), upd_self]; rfl
  · rw [p1.1 17 (by decide) (by decide), i17, upd_self]; rfl
  · dsimp only; rw [upd_ne _ (by omega), upd_self]
  · dsimp only
    rw [j2 i hi, p3 i hi]
    by_cases w : cn (gm (kg (K u))) (ga (kg (K u))) (gb (kg (K u))) (Tr (kg (K u))) a i
    · rw [zif_pos w, zif_pos w]; rfl
    · rw [zif_neg w, zif_neg w]; rfl
end
