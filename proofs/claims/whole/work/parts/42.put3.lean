/-! put -/
section
variable {t : Nat} {K : Nat → zK} {u o kd N : Nat} {F : Nat → Int32} {I : Nat → Nat → Int32} {J : Nat → Nat → Int64} {F' : Nat → Int32} {I' : Nat → Nat → Int32} {J' : Nat → Nat → Int64}
theorem put_end {s th L : Nat} {Fa Fz Fz' : Nat → Int32} {Ia Iz' : Nat → Nat → Int32} {Jz Jz' : Nat → Nat → Int64} (h : RK t K u o kd N F I J F' I' J') (hs : s < 6) (hc : cQ (kg (K u)) Fa Ia) (hfr : frC F I Fa Ia) (hF : ∀ c, c ≠ 3 → c ≠ 15 + s → c ≠ 21 + s → Fz c = Fa c) (f3 : Fz 3 = 0) (hJ : ∀ c, c ≠ 3 + s → Jz c = J c)
    (hm : mQ (kg (K u)) Fz' Iz') (hF' : ∀ c, c ≠ 6 → c ≠ 7 → Fz' c = F' c) (f7 : Fz' 7 = 0) (hI' : ∀ c, (c < 11 ∨ 19 < c) → Iz' c = I' c) (h17 : ∀ r, r ≠ s → Iz' 17 r = I' 17 r ∧ Iz' 18 r = I' 18 r) (h19 : ∀ q, (q < 100 * s ∨ 100 * s + 100 ≤ q) → Iz' 19 q = I' 19 q ∧ Jz' 3 q = J' 3 q) (hJ' : ∀ c, c < 3 → Jz' c = J' c)
    (hT : Fz (15 + s) = nI th ∧ Iz' 17 s = nI th ∧ th ≤ 4 ∧ L ≤ 100 ∧ Fz (21 + s) = nI L ∧ (th = 1 → L = 1 ∧ Jz (3 + s) 0 = (Iz' 19 (100 * s)).toInt64) ∧ (2 ≤ th → Iz' 18 s = nI L) ∧ (th = 2 ∨ th = 4 → ∀ i, i < L → Jz (3 + s) i = (Iz' 19 (100 * s + i)).toInt64) ∧ (th = 3 → ∀ i, i < L → Jz (3 + s) i = Jz' 3 (100 * s + i))) : Rel (t + 1) (Fz, Ia, Jz) (Fz', Iz', Jz') := by
  refine RK_tray2 h ⟨hc.1, by rw [hF 0 (by omega) (by omega) (by omega)]; exact hc.2.1, by rw [hF 4 (by omega) (by omega) (by omega)]; exact hc.2.2.1, hc.2.2.2.1, hc.2.2.2.2.1, fcl_eq hc.2.2.2.2.2.1 (hF 6 (by omega) (by omega) (by omega)) rfl rfl, fcl_eq hc.2.2.2.2.2.2 (hF 7 (by omega) (by omega) (by omega)) rfl rfl⟩ (fun c c1 c2 c3 => by rw [hF c c1 (by omega) (by omega)]; exact hfr.1 c (by omega)) (fun c hc => hfr.2 c hc) (fun c hc => hJ c (by omega)) hm hF' hI' hJ' (by rw [f7, f3]) ?_
  refine tR_one h.2.2.2.2.2.2.2.2 hs (fun r hr hne => ⟨?_, ?_, hJ (3 + r) (by omega), (h17 r hne).1, (h17 r hne).2, fun i hi => h19 _ (by omega)⟩) hT
  · rw [hF (15 + r) (by omega) (by omega) (by omega)]; exact hfr.1 _ (by omega)
  · rw [hF (21 + r) (by omega) (by omega) (by omega)]; exact hfr.1 _ (by omega)
theorem m_put_80 {P : Int32 → zM → Prop} {s : Nat} {x2 x3 : Int32} (hs : s < 6) (hx : ¬ x2 = 1) (hP : AW m_X7_put (z_pi P) 118 [some (.ref 0), some (.int (nI s)), some (.int x2), some (.int x3), none, some (.int (nI (100 * s))), none] [] (F, z_ui (z_ui I 17 s x2) 18 s 0, J)) : AW m_X7_put (z_pi P) 80 [some (.ref 0), some (.int (nI s)), some (.int x2), some (.int x3), none, none, none] [] (F, I, J) := by
  refine r_X7_put_80 _ _ _ F I J ?_
  have e3 : (100 : Int32) * nI s = nI (100 * s) := by rw [n100]; exact nMul _ _
  rw [zN (show s < 2147483648 by omega), e3]
  exact ⟨nIn (by omega) (by omega), nIn (by omega) (by omega), fun _ => hP, fun z => absurd z hx⟩
theorem m_put_bad {P : Int32 → zM → Prop} {x1 x2 x3 x4 : Int32} (hb : x1 < 0 ∨ 5 < x1 ∨ x2 < 0 ∨ ¬ x2 ≤ 4) (hP : P (-1) (upd F 7 1, I, J)) : AMi m_X7_put [.ref 0, .int x1, .int x2, .int x3, .int x4] (F, I, J) P := by
  refine r_X7_put_0 _ _ _ _ F I J ?_
  have A := r_X7_refused_0 (P := P) 1 F I J hP
  refine ⟨fun _ => A, fun z1 => ⟨fun _ => A, fun z2 => ⟨fun _ => A, fun z3 => ⟨fun z4 => ?_, fun _ => A⟩⟩⟩⟩
  rcases hb with q | q | q | q
  · exact absurd q z1
  · exact absurd q z2
  · exact absurd q z3
  · exact absurd z4 q
theorem mQ_tray {g : zG} {F2 : Nat → Int32} {I2 : Nat → Nat → Int32} (h : mQ g F I) (h0 : F2 0 = F 0) (h1 : F2 1 = F 1) (hI : ∀ c, c < 5 → I2 c = I c) : mQ g F2 I2 := by
  obtain ⟨a1, a2, a3, a4⟩ := h
  refine ⟨a1, by rw [h0]; exact a2, by rw [h1]; exact a3, fun e he => ?_⟩
  rw [hI 1 (by omega), hI 2 (by omega), hI 3 (by omega), hI 4 (by omega)]; exact a4 e he
theorem s_put_0 {s : Nat} {x3 x4 : Int32} (hs : s < 6) (h : RK t K u o kd N F I J F' I' J') : AMi m_X6_put [.ref 0, .int (nI s), .int 0, .int x3, .int x4] (F, I, J) (fun r C => AMi m_X7_put [.ref 0, .int (nI s), .int 0, .int x3, .int x4] (F', I', J') (fun r' M => r' = r ∧ Rel (t + 1) C M)) := by
  refine r_X6_put_0 _ _ _ _ F I J ?_
  refine c_isTray (fun s2 hs2 hx => ⟨fun z => absurd z (by decide), fun _ => ?_⟩) (fun hb => ?_)
  · refine r_X6_canPut_0 _ _ _ F I J ⟨fun _ => ⟨fun _ => ⟨nIn (by omega) (by omega), ?_⟩, fun z => absurd z (by decide)⟩, fun z => absurd rfl z⟩
    rw [zN (show s < 2147483648 by omega)]
    refine ⟨fun z => absurd z (by decide), fun _ => ⟨fun z => absurd z (by decide), fun _ => ⟨fun z => absurd z (by decide), fun _ => ⟨fun z => absurd z (by decide), fun _ => r_X4_begin_0 s hs _ F I J ?_⟩⟩⟩⟩
    refine r_X7_put_0 _ _ _ _ F' I' J' ?_
    rw [show (nI s < 0) = False from nNeg (by omega), show (5 < nI s) = False from by rw [show (5 : Int32) = nI 5 from rfl, nLt (by omega) (by omega)]; exact eq_false (by omega)]
    refine ⟨fun z => z.elim, fun _ => ⟨fun z => z.elim, fun _ => ⟨fun z => absurd z (by decide), fun _ => ⟨fun _ => ⟨fun _ => ⟨fun _ => ?_, fun z => absurd (by decide) z⟩, fun z => absurd z (by decide)⟩, fun z => absurd (by decide) z⟩⟩⟩⟩
    refine r_X7_put_50 _ _ _ _ F' I' J' ⟨fun _ => m_put_80 hs (by decide) ?_, fun z => absurd z (by decide)⟩
    refine r_X7_put_118 _ _ _ _ _ _ _ ⟨fun z => absurd z (by decide), fun _ => ⟨fun _ => m_put_skip (by decide) (by decide) (m_put_end (by decide) ⟨rfl, ?_⟩), fun z => absurd z (by decide)⟩⟩
    refine put_end (s := s) (th := 0) (L := 0) h hs h.1.1 frC_refl (fun c c1 c2 c3 => by dsimp only; rw [upd_ne _ c1, upd_ne _ c3, upd_ne _ c2]) (upd_self _ _ _) (fun _ _ => rfl) (mQ_tray h.2.1.1 (upd_ne _ (by decide)) (upd_ne _ (by decide)) (fun c hc => by rw [ui_ne _ _ (by omega), ui_ne _ _ (by omega)])) (fun c _ c2 => upd_ne _ c2) (upd_self _ _ _) (fun c hc => by rw [ui_ne _ _ (by omega), ui_ne _ _ (by omega)]) (fun r hr => ⟨?_, ?_⟩) (fun q _ => ⟨?_, rfl⟩) (fun _ _ => rfl) ⟨?_, ?_, by omega, by omega, ?_, fun z => by omega, fun z => by omega, fun z => by omega, fun z => by omega⟩
    · rw [ui_ne _ _ (by decide), ui_self, upd_ne _ hr]
    · rw [ui_self, upd_ne _ hr, ui_ne _ _ (by decide)]
    · rw [ui_ne _ _ (by decide), ui_ne _ _ (by decide)]
    · dsimp only; rw [upd_ne _ (by omega), upd_ne _ (by omega), upd_self]; rfl
    · rw [ui_ne _ _ (by decide), ui_self, upd_self]; rfl
    · dsimp only; rw [upd_ne _ (by omega), upd_self]; rfl
  · exfalso
    rcases hb with q | q
    · rw [nNeg (by omega)] at q; exact q
    · rw [nLe (by omega) (by omega)] at q; omega
end
