/-! put of an edge and of weights; put -/
section
variable {t : Nat} {K : Nat → zK} {u o kd N : Nat} {F : Nat → Int32} {I : Nat → Nat → Int32} {J : Nat → Nat → Int64} {F' : Nat → Int32} {I' : Nat → Nat → Int32} {J' : Nat → Nat → Int64}
theorem s_put_1 {s : Nat} {x3 x4 : Int32} (hs : s < 6) (h : RK t K u o kd N F I J F' I' J') : AMi m_X6_put [.ref 0, .int (nI s), .int 1, .int x3, .int x4] (F, I, J) (fun r C => AMi m_X7_put [.ref 0, .int (nI s), .int 1, .int x3, .int x4] (F', I', J') (fun r' M => r' = r ∧ Rel (t + 1) C M)) := by
  have hc := h.1.1
  have hm := h.2.1.1
  have hmm := hc.1.2.1
  have head : ∀ {P : Int32 → zM → Prop}, AMi m_X7_isThere [.ref 0, .int x3] (F', I', J') (fun r31 M31 => ((r31 = 0 → AMi m_X7_refused [.ref 0, .int 1] M31 (fun r76 M76 => P r76 M76)) ∧ (¬ r31 = 0 → AW m_X7_put (z_pi P) 50 [some (.ref 0), some (.int (nI s)), some (.int 1), some (.int x3), some (.int x4), none, none] [] M31))) → AMi m_X7_put [.ref 0, .int (nI s), .int 1, .int x3, .int x4] (F', I', J') P := by
    intro P hP
    refine r_X7_put_0 _ _ _ _ F' I' J' ?_
    rw [show (nI s < 0) = False from nNeg (by omega), show (5 < nI s) = False from by rw [show (5 : Int32) = nI 5 from rfl, nLt (by omega) (by omega)]; exact eq_false (by omega)]
    refine ⟨fun z => z.elim, fun _ => ⟨fun z => z.elim, fun _ => ⟨fun z => absurd z (by decide), fun _ => ⟨fun _ => ⟨fun z => absurd rfl z, fun _ => AMi.mono hP (fun r M q => ⟨q.1, fun w => ⟨fun _ => q.2 w, fun z => absurd (by decide) z⟩⟩)⟩, fun z => absurd (by decide) z⟩⟩⟩⟩
  refine r_X6_put_0 _ _ _ _ F I J ?_
  refine c_isTray (fun s2 hs2 _ => ⟨fun z => absurd z (by decide), fun _ => ?_⟩) (fun hb => absurd hb (tray_in hs))
  refine r_X6_canPut_0 _ _ _ F I J ⟨fun z => absurd z (by decide), fun _ => ⟨fun _ => ?_, fun z => absurd rfl z⟩⟩
  rw [zN (show s < 2147483648 by omega)]
  refine c_isThere hc.1 hc.2.2.2.1 hc.2.2.1 (fun e he hx hse => ⟨narrow01 (Or.inr rfl), fun _ => ⟨nIn (by omega) (by omega), ?_⟩, fun z => absurd z (by decide)⟩) (fun hb => ⟨narrow01 (Or.inl rfl), fun w => absurd rfl w, fun _ => ?_⟩)
  · refine ⟨fun _ => r_X4_begin_0 s hs _ F I J ⟨by rw [hx]; exact nIn (by omega) (by omega), ?_⟩, fun z => absurd rfl z⟩
    have hw := hc.1.2.2 e he
    refine c_lay1 (L := 0) hs (upd_self _ _ _) (by omega) ?_
    refine head (m_isThere hm (fun e2 he2 hx2 _ => ⟨fun z => absurd z (by decide), fun _ => ?_⟩) (fun z => absurd (z e he hx) hse))
    refine r_X7_put_50 _ _ _ _ F' I' J' ⟨fun _ => r_X7_put_80 _ _ _ F' I' J' ?_, fun z => absurd z (by decide)⟩
    have e3 : (100 : Int32) * nI s = nI (100 * s) := by rw [n100]; exact nMul _ _
    subst hx
    dsimp only
    rw [zN (show s < 2147483648 by omega), e3, zN (show 100 * s < 2147483648 by omega), zN (show e < 2147483648 by omega), (hm.2.2.2 e he).1, (hc.2.2.2.1 e he).1]
    refine ⟨nIn (by omega) (by omega), nIn (by omega) (by omega), fun z => absurd rfl z, fun _ => ⟨nIn (by omega) (by omega), nIn (by omega) (by omega), ?_⟩⟩
    refine r_X7_put_118 _ _ _ _ _ _ _ ⟨fun z => absurd z (by decide), fun _ => ⟨fun _ => m_put_skip (by decide) (by decide) (m_put_end (by decide) ⟨rfl, ?_⟩), fun z => absurd z (by decide)⟩⟩
    refine put_end (s := s) (th := 1) (L := 1) h hs h.1.1 frC_refl (fun c c1 c2 c3 => by rw [upd_ne _ c1, upd_ne _ c3, upd_ne _ c3, upd_ne _ c2]) (upd_self _ _ _) (fun c hc => ul_ne _ _ hc) (mQ_tray hm (upd_ne _ (by decide)) (upd_ne _ (by decide)) (fun c hc => by rw [ui_ne _ _ (by omega), ui_ne _ _ (by omega), ui_ne _ _ (by omega)])) (fun c _ c2 => upd_ne _ c2) (upd_self _ _ _) (fun c hc => by rw [ui_ne _ _ (by omega), ui_ne _ _ (by omega), ui_ne _ _ (by omega)]) (fun r hr => ⟨?_, ?_⟩) (fun q hq => ⟨?_, rfl⟩) (fun _ _ => rfl) ⟨?_, ?_, by omega, by omega, ?_, fun _ => ⟨rfl, ?_⟩, fun z => by omega, fun z => by omega, fun z => by omega⟩
    · rw [ui_ne _ _ (by decide), ui_ne _ _ (by decide), ui_self, upd_ne _ hr]
    · rw [ui_ne _ _ (by decide), ui_self, upd_ne _ hr, ui_ne _ _ (by decide)]
    · rw [ui_self, upd_ne _ (by omega), ui_ne _ _ (by decide), ui_ne _ _ (by decide)]
    · rw [upd_ne _ (by omega), upd_ne _ (by omega), upd_ne _ (by omega), upd_self]; rfl
    · rw [ui_ne _ _ (by decide), ui_ne _ _ (by decide), ui_self, upd_self]; rfl
    · rw [upd_ne _ (by omega), upd_self]
    · rw [ul_self, updL_self, ui_self, upd_self]
  · exact r_X6_refuse_0 _ F I J (head (m_isThere hm (fun e he hx hse => absurd (hb e he hx) hse) (fun _ => ⟨fun _ => r_X7_refused_0 _ F' I' J' ⟨rfl, Rel_st h 1⟩, fun w => absurd rfl w⟩)))
end
