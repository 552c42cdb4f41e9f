/-! meet and kind -/
section
variable {g : zG} {F : Nat → Int32} {I : Nat → Nat → Int32} {J : Nat → Nat → Int64}
theorem meetAt_of {m : Nat} {a b : Nat → Nat} {T : Nat → Prop} (hf : fo m a b T) {r x y la lb i j : Nat} {Ka Sa Kb Sb : Nat → Nat} (wa : isW m a b T x r la Ka Sa) (wb : isW m a b T y r lb Kb Sb) (hi : i ≤ la) (hj : j ≤ lb) (he : Ka i = Kb j) (hfst : ∀ i2 j2, i2 < i → j2 ≤ lb → Ka i2 ≠ Kb j2) : meetAt m a b T r x y (Ka i) := by
  refine ⟨la, Ka, Sa, lb, Kb, Sb, i, j, wa, wb, hi, hj, rfl, he.symm, fun i2 j2 h1 h2 h3 => ?_⟩
  have hii : i ≤ i2 := by
    rcases Nat.lt_or_ge i2 i with z | z
    · exact absurd h3 (hfst i2 j2 z h2)
    · exact z
  have d1 := isW_drop wa hi
  have d2 := isW_drop wb hj
  rw [← he] at d2
  have e1 := (isW_one hf _ _ _ _ _ _ _ _ d1 d2).1
  have d3 := isW_drop wa h1
  have d4 := isW_drop wb h2
  rw [← h3] at d4
  have e2 := (isW_one hf _ _ _ _ _ _ _ _ d3 d4).1
  omega
/-- the reference's meet, from where the second way is sought -/
theorem m_meet_110 {P : Int32 → zM → Prop} {la lb : Nat} {Ka Kb : Nat → Nat} (hla : la < 100) (h6 : F 6 = nI (la + 1)) (h15 : ∀ i, i ≤ la → I 15 i = nI (Ka i) ∧ Ka i < 100) (h12 : ∀ i, i ≤ la → ((∃ j, j ≤ lb ∧ Kb j = Ka i) → I 12 (Ka i) = 1) ∧ ((¬ ∃ j, j ≤ lb ∧ Kb j = Ka i) → I 12 (Ka i) = 0)) (hl : ∃ j, j ≤ lb ∧ Kb j = Ka la)
    (hP : ∀ i j, i ≤ la → j ≤ lb → Ka i = Kb j → (∀ i2 j2, i2 < i → j2 ≤ lb → Ka i2 ≠ Kb j2) → P (nI (Ka i)) (F, I, J)) :
    ∀ d i, i + d = la → (∀ i2 j2, i2 < i → j2 ≤ lb → Ka i2 ≠ Kb j2) → AW m_X7_meet (z_pi P) 110 [some (.ref 0), none, none, none, some (.int (nI i))] [] (F, I, J) := by
  intro d
  induction d with
  | zero =>
    intro i hd hno
    have hk := h15 i (by omega)
    have e : i = la := by omega
    subst e
    refine r_X7_meet_110 _ F I J ?_
    rw [h6, nLe (by omega) (by omega), zN (show i < 2147483648 by omega), hk.1, zN (show Ka i < 2147483648 by omega), (h12 i (by omega)).1 hl]
    obtain ⟨j, j1, j2⟩ := hl
    exact ⟨fun z => absurd z (by omega), fun _ => ⟨nIn (by omega) (by omega), nIn (by omega) (by omega), fun z => absurd z (by decide), fun _ => ⟨nIn (by omega) (by omega), hP i j (by omega) j1 j2.symm hno⟩⟩⟩
  | succ d ih =>
    intro i hd hno
    have hk := h15 i (by omega)
    refine r_X7_meet_110 _ F I J ?_
    rw [h6, nLe (by omega) (by omega), zN (show i < 2147483648 by omega), hk.1, zN (show Ka i < 2147483648 by omega), nI_1 i]
    refine ⟨fun z => absurd z (by omega), fun _ => ⟨nIn (by omega) (by omega), nIn (by omega) (by omega), fun z => ih (i + 1) (by omega) (fun i2 j2 q1 q2 q3 => ?_), fun z => ⟨nIn (by omega) (by omega), ?_⟩⟩⟩
    · by_cases e : i2 = i
      · subst e
        rw [(h12 i2 (by omega)).1 ⟨j2, q2, q3.symm⟩] at z
        exact absurd z (by decide)
      · exact hno i2 j2 (by omega) q2 q3
    · have : ∃ j, j ≤ lb ∧ Kb j = Ka i := Classical.byContradiction fun w => z ((h12 i (by omega)).2 w)
      obtain ⟨j, j1, j2⟩ := this
      exact hP i j (by omega) j1 j2.symm hno
/-- the reference's meet from where the first way is found -/
theorem m_meet_46 {P : Int32 → zM → Prop} (h : mQ g F I) (hfo : fo (gm g) (ga g) (gb g) (Tr g)) {x y r lb : Nat} {Kb Sb : Nat → Nat} (hx : x < gn g) (hr : r < gn g) (hc : cn (gm g) (ga g) (gb g) (Tr g) x r) (wb : isW (gm g) (ga g) (gb g) (Tr g) y r lb Kb Sb) (hlb : lb < gn g) (h6 : F 6 = nI (lb + 1)) (h15 : ∀ i, i ≤ lb → I 15 i = nI (Kb i) ∧ Kb i < gn g)
    (hP : ∀ F2 I2 z, mQ g F2 I2 → frM F I F2 I2 → meetAt (gm g) (ga g) (gb g) (Tr g) r x y z → P (nI z) (F2, I2, J)) : AW m_X7_meet (z_pi P) 46 [some (.ref 0), some (.int (nI x)), none, some (.int (nI r)), some (.int 0)] [] (F, I, J) := by
  have hn := h.1.1
  have tail : ∀ I2, (∀ c, c ≠ 12 → I2 c = I c) → (∀ k, k < gn g → ((∃ j, j ≤ lb ∧ Kb j = k) → I2 12 k = 1) ∧ ((¬ ∃ j, j ≤ lb ∧ Kb j = k) → I2 12 k = 0)) → AMi m_X7_finds [.ref 0, .int (nI x), .int (nI r)] (F, I2, J) (fun r103 M103 => AW m_X7_meet (z_pi P) 110 [some (.ref 0), none, none, none, some (.int 0)] [] M103) := by
    intro I2 g1 g2
    have hfr : frM F I F I2 := ⟨fun _ _ => rfl, fun j hj => g1 j (by omega)⟩
    refine m_finds (mQ_fr h hfr) hx hr (fun I3 _ _ w _ => absurd hc w) (fun F3 I3 l K3 S3 q1 q2 w hl e6 e15 _ e12 => ?_)
    refine m_meet_110 (la := l) (lb := lb) (Ka := K3) (Kb := Kb) (by omega) e6 (fun i hi => ⟨(e15 i hi).1, by have := (e15 i hi).2; omega⟩) (fun i hi => by rw [e12]; exact g2 _ (e15 i hi).2) ⟨lb, Nat.le_refl _, by rw [wb.2.1, w.2.1]⟩ (fun i j i1 j1 e hno => ?_) l 0 (by omega) (fun i2 j2 hi => by omega)
    exact hP F3 I3 (K3 i) q1 (frM_trans hfr q2) (meetAt_of hfo w wb i1 j1 e hno)
  have lp2 : ∀ d i I2, i + d = lb + 1 → (∀ c, c ≠ 12 → I2 c = I c) → (∀ k, k < gn g → ((∃ j, j < i ∧ Kb j = k) → I2 12 k = 1) ∧ ((¬ ∃ j, j < i ∧ Kb j = k) → I2 12 k = 0)) → AW m_X7_meet (z_pi P) 72 [some (.ref 0), some (.int (nI x)), none, some (.int (nI r)), some (.int (nI i))] [] (F, I2, J) := by
    intro d
    induction d with
    | zero =>
      intro i I2 hd g1 g2
      refine r_X7_meet_72 _ _ _ F I2 J ?_
      rw [h6, nLe (by omega) (by omega)]
      refine ⟨fun _ => tail I2 g1 (fun k hk => ⟨fun ⟨j, j1, j2⟩ => (g2 k hk).1 ⟨j, by omega, j2⟩, fun z => (g2 k hk).2 (fun ⟨j, j1, j2⟩ => z ⟨j, by omega, j2⟩)⟩), fun z => absurd (show lb + 1 ≤ i by omega) z⟩
    | succ d ih =>
      intro i I2 hd g1 g2
      have hk := h15 i (by omega)
      refine r_X7_meet_72 _ _ _ F I2 J ?_
      rw [h6, nLe (by omega) (by omega), zN (show i < 2147483648 by omega), g1 15 (by decide), hk.1, zN (show Kb i < 2147483648 by omega), nI_1 i]
      refine ⟨fun z => absurd z (by omega), fun _ => ⟨nIn (by omega) (by omega), nIn (by omega) (by omega), ih (i + 1) _ (by omega) (fun c hc => by rw [ui_ne _ _ hc]; exact g1 c hc) (fun k hk2 => ?_)⟩⟩
      rw [ui_self]
      by_cases e : k = Kb i
      · subst e
        rw [upd_self]
        exact ⟨fun _ => rfl, fun z => absurd ⟨i, by omega, rfl⟩ z⟩
      · rw [upd_ne _ e]
        refine ⟨fun ⟨j, j1, j2⟩ => (g2 k hk2).1 ⟨j, ?_, j2⟩, fun z => (g2 k hk2).2 (fun ⟨j, j1, j2⟩ => z ⟨j, by omega, j2⟩)⟩
        by_cases e2 : j = i
        · subst e2; exact absurd j2.symm e
        · omega
  have lp1 : ∀ d i I2, i + d = gn g → (∀ c, c ≠ 12 → I2 c = I c) → (∀ k, k < i → I2 12 k = 0) → AW m_X7_meet (z_pi P) 46 [some (.ref 0), some (.int (nI x)), none, some (.int (nI r)), some (.int (nI i))] [] (F, I2, J) := by
    intro d
    induction d with
    | zero =>
      intro i I2 hd g1 g2
      refine r_X7_meet_46 _ _ _ F I2 J ?_
      rw [h.2.1, nLe (by omega) (by omega)]
      refine ⟨fun _ => lp2 (lb + 1) 0 I2 (by omega) g1 (fun k hk => ⟨fun ⟨j, j1, _⟩ => by omega, fun _ => g2 k (by omega)⟩), fun z => absurd (show gn g ≤ i by omega) z⟩
    | succ d ih =>
      intro i I2 hd g1 g2
      refine r_X7_meet_46 _ _ _ F I2 J ?_
      rw [h.2.1, nLe (by omega) (by omega), zN (show i < 2147483648 by omega), nI_1 i]
      refine ⟨fun z => absurd z (by omega), fun _ => ⟨nIn (by omega) (by omega), ih (i + 1) _ (by omega) (fun c hc => by rw [ui_ne _ _ hc]; exact g1 c hc) (fun k hk => ?_)⟩⟩
      rw [ui_self]
      by_cases e : k = i
      · rw [e, upd_self]
      · rw [upd_ne _ e]; exact g2 k (by omega)
  exact lp1 (gn g) 0 I (by omega) (fun _ _ => rfl) (fun k hk => by omega)
end
section
variable {t : Nat} {K : Nat → zK} {u o kd N : Nat} {F : Nat → Int32} {I : Nat → Nat → Int32} {J : Nat → Nat → Int64} {F' : Nat → Int32} {I' : Nat → Nat → Int32} {J' : Nat → Nat → Int64}
theorem s_meet {x y : Int32} (ht : t < 512) (h : RK t K u o kd N F I J F' I' J') : AMi m_X6_meet [.ref 0, .int x, .int y] (F, I, J) (fun r C => AMi m_X7_meet [.ref 0, .int x, .int y] (F', I', J') (fun r' M => r' = r ∧ Rel (t + 1) C M)) := by
  have hc := h.1.1
  have hm := h.2.1.1
  have hn := hc.1.1
  refine r_X6_meet_0 _ _ F I J ?_
  refine c_isKnot hn hc.2.1 (fun a ha hx => ⟨fun z => absurd z (by decide), fun _ => ?_⟩) (fun hx => ⟨fun _ => r_X7_meet_0 _ _ F' I' J' (m_two_bad hm (Or.inl hx) ⟨rfl, Rel_0 h⟩), fun z => absurd rfl z⟩)
  refine c_isKnot hn hc.2.1 (fun b hb hy => ⟨fun _ => ?_, fun z => absurd z (by decide)⟩) (fun hy => ⟨fun z => absurd rfl z, fun _ => r_X7_meet_0 _ _ F' I' J' (m_two_bad hm (Or.inr hy) ⟨rfl, Rel_0 h⟩)⟩)
  subst hx; subst hy
  refine c_floodFromRoot hc (RK_cN h ht) ha (fun r F2 I2 L q R B dp hr hf hQ hfr hR => ?_)
  refine ⟨nIn (by omega) (by omega), ?_⟩
  dsimp only
  rw [zN (show b < 2147483648 by omega)]
  have hRa : R a := (hR a).mpr (cn_symm hr.2.1)
  by_cases hRb : R b
  · rw [(hf.2.2.2.2.2.2 b (by omega)).1 hRb]
    refine ⟨fun _ => ?_, fun z => absurd z (by decide)⟩
    have hrb := (hR b).mp hRb
    have ab : cn (gm (kg (K u))) (ga (kg (K u))) (gb (kg (K u))) (Tr (kg (K u))) a b := cn_trans hr.2.1 hrb
    refine c_meet_loop hQ hf hRa hRb (fun z hz => ?_) (dp a + dp b) 0 0 (by omega) (by omega) (by omega) (fun _ _ _ _ _ => ⟨by omega, by omega⟩)
    refine r_X7_meet_0 _ _ F' I' J' (m_two_ok hm ha hb (m_isTogether hm ha hb (fun I3 q1 q2 _ => ⟨fun _ => ?_, fun z => absurd z (by decide)⟩) (fun I3 _ _ w => absurd ab w)))
    refine m_rootOf q1 (nm := km (K u)) (fun k hk => by rw [q2.2 0 (by omega)]; exact RK_mN h ht k hk) ha (fun r2 I4 hr2 p1 p2 _ => ?_)
    have e := RK_rt h hr hr2
    subst e
    refine m_finds p1 hb hr.1 (fun I5 _ _ w _ => absurd (cn_symm hrb) w) (fun F5 I5 l K5 S5 s1 s2 w hl e6 e15 _ _ => ?_)
    refine m_meet_46 s1 (RK_fo h) ha hr.1 hr.2.1 w hl e6 e15 (fun F6 I6 z2 v1 v2 hz2 => ⟨?_, K, u, o, kd, N, RK_q h hQ hfr v1 (frM_trans q2 (frM_trans p2 (frM_trans s2 v2)))⟩)
    rw [meetAt_one (RK_fo h) hz hz2]
  · rw [(hf.2.2.2.2.2.2 b (by omega)).2 hRb]
    refine ⟨fun z => absurd rfl z, fun _ => ?_⟩
    refine r_X7_meet_0 _ _ F' I' J' (m_two_ok hm ha hb (m_isTogether hm ha hb (fun I3 q1 q2 w => absurd ((hR b).mpr (cn_trans (cn_symm hr.2.1) w)) hRb) (fun I3 q1 q2 _ => ⟨fun z => absurd rfl z, fun _ => ⟨rfl, K, u, o, kd, N, RK_q h hQ hfr q1 q2⟩⟩)))
theorem ctp_self (k : Nat) : ∀ n, ctp (fun x => x = k) n ≤ 1
  | 0 => by exact Nat.zero_le _
  | n + 1 => by
    show ctp (fun x => x = k) n + zif (n = k) 1 0 ≤ 1
    by_cases e : n = k
    · rw [zif_pos e]
      have : ctp (fun x => x = k) n = 0 := by
        have : ∀ m, m ≤ n → ctp (fun x => x = k) m = 0 := by
          intro m
          induction m with
          | zero => intro _; rfl
          | succ m ih =>
            intro hm
            show ctp (fun x => x = k) m + zif (m = k) 1 0 = 0
            rw [ih (by omega), zif_neg (by omega)]
        exact this n (Nat.le_refl _)
      omega
    · rw [zif_neg e]
      exact ctp_self k n
theorem gL_0 {g : zG} (hm : gm g = 0) : gL g := by
  refine ⟨fun f hf => by omega, fun i k hk h2 => ?_, fun f hf => by omega⟩
  exfalso
  have h1 : ctp (cn (gm g) (ga g) (gb g) (Tg (gs g) (gv g) i) k) (gn g) ≤ ctp (fun x => x = k) (gn g) := ctp_mono (fun y _ hy => cn_ind (P := fun y => y = k) rfl (fun x y _ _ hst => by obtain ⟨e, e1, -⟩ := hst; omega) hy)
  have h3 := ctp_self k (gn g)
  omega
theorem s_kind {x : Int32} (h : RK t K u o kd N F I J F' I' J') : AMi m_X6_kind [.ref 0, .int x] (F, I, J) (fun r C => AMi m_X7_kind [.ref 0, .int x] (F', I', J') (fun r' M => r' = r ∧ Rel (t + 1) C M)) := by
  have hc := h.1.1
  have hm := h.2.1.1
  have hmm := hc.1.2.1
  have eF : (F' 1 ≤ 0) = (F 4 ≤ 0) := by rw [hc.2.2.1, hm.2.2.1]
  refine r_X6_kind_0 _ F I J ⟨fun z => r_X7_kind_0 _ F' I' J' ⟨fun _ => ⟨rfl, Rel_0 h⟩, fun w => absurd z w⟩, fun z => ⟨fun z2 => ⟨fun z3 => ?_, fun z3 => ?_⟩, fun z2 => r_X7_kind_0 _ F' I' J' ⟨fun w => absurd w z, fun _ => ⟨fun w => absurd w z2, fun _ => ⟨rfl, Rel_0 h⟩⟩⟩⟩⟩
  · refine r_X7_kind_0 _ F' I' J' ⟨fun w => absurd w z, fun _ => ⟨fun _ => ⟨fun _ => ?_, fun w => absurd (by rw [eF]; exact z3) w⟩, fun w => absurd z2 w⟩⟩
    obtain ⟨h1, h2, h3, h4, h5, h6, h7, h8, h9⟩ := h
    refine ⟨by rw [h4.2.1, h4.2.2], ?_⟩
    obtain ⟨k2, hk2, hx⟩ : ∃ k2, k2 < 3 ∧ x = nI k2 := by
      rcases pk_ix x (n := 3) (by omega) with w | w | ⟨j, hj, w⟩
      · exact absurd w z
      · exact absurd (Int32.le_trans w z2) (by decide)
      · exact ⟨j, hj, w⟩
    rw [hc.2.2.1, n0, nLe (by omega) (by omega)] at z3
    have hz : ∀ j, j ≤ u → gm (kg (K j)) = 0 := by
      intro j hj
      have := (PS_rs h7.2.2.2 (u - j) j (by omega)).2.2.1
      omega
    refine ⟨K, u, o, k2, N, ⟨?_, ?_, fun j hj => ?_, ⟨hk2, ?_, ?_⟩, h5, ?_, ?_, ?_, ?_⟩⟩
    · exact ⟨⟨hc.1, by show upd F 2 x 0 = _; rw [upd_ne _ (by decide)]; exact hc.2.1, by show upd F 2 x 4 = _; rw [upd_ne _ (by decide)]; exact hc.2.2.1, hc.2.2.2.1, hc.2.2.2.2.1, fcl_eq hc.2.2.2.2.2.1 (upd_ne x (show 6 ≠ 2 by decide)) rfl rfl, fcl_eq hc.2.2.2.2.2.2 (upd_ne x (show 7 ≠ 2 by decide)) rfl rfl⟩, h1.2.1, by show upd F 2 x 5 = _; rw [upd_ne _ (by decide)]; exact h1.2.2⟩
    · exact ⟨⟨hm.1, by show upd F' 2 x 0 = _; rw [upd_ne _ (by decide)]; exact hm.2.1, by show upd F' 2 x 1 = _; rw [upd_ne _ (by decide)]; exact hm.2.2.1, hm.2.2.2⟩, h2.2.1, by show upd F' 2 x 4 = _; rw [upd_ne _ (by decide)]; exact h2.2.2.1, by show upd F' 2 x 3 = _; rw [upd_ne _ (by decide)]; exact h2.2.2.2⟩
    · obtain ⟨⟨a1, a2, a3, a4, a5, a6⟩, b, c⟩ := h3 j hj
      have e := hz j hj
      exact ⟨⟨a1, a2, fun _ => gL_0 e, fun _ f hf => by omega, fun _ f hf => by omega, a6⟩, by omega, c⟩
    · show upd F 2 x 2 = _; rw [upd_self]; exact hx
    · show upd F' 2 x 2 = _; rw [upd_self]; exact hx
    · exact ⟨by omega, by show upd F 2 x 1 = _; rw [upd_ne _ (by decide)]; exact h6.2.1, h6.2.2⟩
    · exact ⟨by show upd F 2 x 13 = _; rw [upd_ne _ (by decide)]; exact h7.1, by show upd F 2 x 14 = _; rw [upd_ne _ (by decide)]; exact h7.2.1, by show upd F' 2 x 5 = _; rw [upd_ne _ (by decide)]; exact h7.2.2.1, h7.2.2.2⟩
    · show upd F' 2 x 7 = upd F 2 x 3
      rw [upd_ne _ (by decide), upd_ne _ (by decide)]; exact h8
    · intro s hs
      show ∃ th L, upd F 2 x (15 + s) = nI th ∧ I' 17 s = nI th ∧ th ≤ 4 ∧ L ≤ 100 ∧ upd F 2 x (21 + s) = nI L ∧ _
      rw [upd_ne _ (by omega), upd_ne _ (by omega)]
      exact h9 s hs
  · refine r_X7_kind_0 _ F' I' J' ⟨fun w => absurd w z, fun _ => ⟨fun _ => ⟨fun w => absurd (by rw [eF] at w; exact w) z3, fun _ => ⟨rfl, Rel_0 h⟩⟩, fun w => absurd z2 w⟩⟩
end
