/-! told, count, kind, below, sumBelow -/
theorem x5_out {x : Int32} (h0 : ¬ x = 0) (h1 : ¬ x = 1) (h2 : ¬ x = 2) (h3 : ¬ x = 3) (h4 : ¬ x = 4) (hn : ¬ x < 0) : ¬ x ≤ 4 := by
  rcases pk_ix x (n := 5) (by omega) with z | z | ⟨j, hj, z⟩
  · exact absurd z hn
  · intro q
    have := Int32.le_trans z q
    exact absurd this (by decide)
  · exfalso
    have : j = 0 ∨ j = 1 ∨ j = 2 ∨ j = 3 ∨ j = 4 := by omega
    rcases this with q | q | q | q | q <;> subst q
    · exact h0 z
    · exact h1 z
    · exact h2 z
    · exact h3 z
    · exact h4 z
section
variable {g : zG} {F : Nat → Int32} {I : Nat → Nat → Int32} {J : Nat → Nat → Int64}
theorem m_count_64 {P : Int32 → zM → Prop} (hW : gW g) (hF : F 1 = nI (gm g)) (hE : gE g I) {x : Int32} {s : Nat} (hs : s < 2147483648) (hx : x - 1 = nI s) (hP : P (nI (ctp (fun e => gs g e = s) (gm g))) (F, I, J)) :
    ∀ d i, i + d = gm g → AW m_X7_count (z_pi P) 64 [some (.ref 0), some (.int x), some (.int (nI (ctp (fun e => gs g e = s) i))), some (.int (nI i))] [] (F, I, J) := by
  have hm := hW.2.1
  intro d
  induction d with
  | zero =>
    intro i hd
    refine r_X7_count_64 _ _ _ F I J ?_
    rw [hF, nLe (by omega) (by omega)]
    exact ⟨fun _ => by rw [show i = gm g by omega]; exact hP, fun z => absurd (show gm g ≤ i by omega) z⟩
  | succ d ih =>
    intro i hd
    have hw := hW.2.2 i (by omega)
    have hct : ctp (fun e => gs g e = s) (i + 1) = ctp (fun e => gs g e = s) i + zif (gs g i = s) 1 0 := rfl
    have nxt := ih (i + 1) (by omega)
    refine r_X7_count_64 _ _ _ F I J ?_
    rw [hF, nLe (by omega) (by omega), zN (show i < 2147483648 by omega), (hE i (by omega)).2.2.1, hx, nEq (by omega) (by omega), nI_1 i, nI_1]
    refine ⟨fun z => absurd z (by omega), fun _ => ⟨nIn (by omega) (by omega), fun z => ?_, fun z => ?_⟩⟩
    · rw [zif_neg z] at hct; rw [hct] at nxt; exact nxt
    · rw [zif_pos z] at hct; rw [hct] at nxt; exact nxt
theorem m_count_102 {P : Int32 → zM → Prop} (h : mQ g F I) (hP : ∀ I2, mQ g F I2 → frM F I F I2 → P (nI (ctp (gBr g) (gm g))) (F, I2, J)) :
    ∀ d i I1, i + d = gm g → mQ g F I1 → frM F I F I1 → AW m_X7_count (z_pi P) 102 [some (.ref 0), none, some (.int (nI (ctp (gBr g) i))), some (.int (nI i))] [] (F, I1, J) := by
  have hm := h.1.2.1
  intro d
  induction d with
  | zero =>
    intro i I1 hd hQ hfr
    refine r_X7_count_102 _ _ F I1 J ?_
    rw [h.2.2.1, nLe (by omega) (by omega)]
    exact ⟨fun _ => by rw [show i = gm g by omega]; exact hP I1 hQ hfr, fun z => absurd (show gm g ≤ i by omega) z⟩
  | succ d ih =>
    intro i I1 hd hQ hfr
    have hw := h.1.2.2 i (by omega)
    have hct : ctp (gBr g) (i + 1) = ctp (gBr g) i + zif (gBr g i) 1 0 := rfl
    refine r_X7_count_102 _ _ F I1 J ?_
    rw [h.2.2.1, nLe (by omega) (by omega), zN (show i < 2147483648 by omega), (hQ.2.2.2 i (by omega)).2.2.1, n0, nEq (by omega) (by omega), ← n0, nI_1 i, nI_1]
    refine ⟨fun z => absurd z (by omega), fun _ => ⟨nIn (by omega) (by omega), fun z => ?_, fun z => ?_⟩⟩
    · have nxt := ih (i + 1) I1 (by omega) hQ hfr
      rw [hct, zif_neg (fun w => w.1 z)] at nxt; exact nxt
    · refine m_isBridge hQ (show i < gm g by omega) z (fun I2 q1 q2 b => ⟨fun z => absurd z (by decide), fun _ => ?_⟩) (fun I2 q1 q2 b => ⟨fun _ => ?_, fun z => absurd rfl z⟩)
      · have nxt := ih (i + 1) I2 (by omega) q1 (frM_trans hfr q2)
        rw [hct, zif_pos b] at nxt; exact nxt
      · have nxt := ih (i + 1) I2 (by omega) q1 (frM_trans hfr q2)
        rw [hct, zif_neg b] at nxt; exact nxt
theorem m_count_140 {P : Int32 → zM → Prop} (h : mQ g F I) (hP : ∀ I2, mQ g F I2 → frM F I F I2 → P (nI (ctp (gCu g) (gn g))) (F, I2, J)) :
    ∀ d i I1, i + d = gn g → mQ g F I1 → frM F I F I1 → AW m_X7_count (z_pi P) 140 [some (.ref 0), none, some (.int (nI (ctp (gCu g) i))), some (.int (nI i))] [] (F, I1, J) := by
  have hn := h.1.1
  intro d
  induction d with
  | zero =>
    intro i I1 hd hQ hfr
    refine r_X7_count_140 _ _ F I1 J ?_
    rw [h.2.1, nLe (by omega) (by omega)]
    exact ⟨fun _ => by rw [show i = gn g by omega]; exact hP I1 hQ hfr, fun z => absurd (show gn g ≤ i by omega) z⟩
  | succ d ih =>
    intro i I1 hd hQ hfr
    have hct : ctp (gCu g) (i + 1) = ctp (gCu g) i + zif (gCu g i) 1 0 := rfl
    refine r_X7_count_140 _ _ F I1 J ?_
    rw [h.2.1, nLe (by omega) (by omega), nI_1 i, nI_1]
    refine ⟨fun z => absurd z (by omega), fun _ => ?_⟩
    refine m_isCut hQ (show i < gn g by omega) (fun I2 q1 q2 b => ⟨fun z => absurd z (by decide), fun _ => ?_⟩) (fun I2 q1 q2 b => ⟨fun _ => ?_, fun z => absurd rfl z⟩)
    · have nxt := ih (i + 1) I2 (by omega) q1 (frM_trans hfr q2)
      rw [hct, zif_pos b] at nxt; exact nxt
    · have nxt := ih (i + 1) I2 (by omega) q1 (frM_trans hfr q2)
      rw [hct, zif_neg b] at nxt; exact nxt
theorem c_sumBelow_loop {P : Int64 → zM → Prop} {L : Nat} {q : Nat → Nat} (hL : L ≤ 100) (h6 : F 6 = nI L) (hq : ∀ i, i < L → I 8 i = nI (q i) ∧ q i < 100) (hP : P (sml (fun i => J 0 (q i)) L) (F, I, J)) :
    ∀ d i, i + d = L → AW m_X6_sumBelow (z_pl P) 22 [some (.ref 0), none, some (.long (sml (fun i => J 0 (q i)) i)), none, some (.int (nI i))] [] (F, I, J) := by
  intro d
  induction d with
  | zero =>
    intro i hd
    refine r_X6_sumBelow_22 _ _ F I J ?_
    rw [h6, nLe (by omega) (by omega)]
    exact ⟨fun _ => by rw [show i = L by omega]; exact hP, fun z => absurd (show L ≤ i by omega) z⟩
  | succ d ih =>
    intro i hd
    have hk := hq i (by omega)
    refine r_X6_sumBelow_22 _ _ F I J ?_
    rw [h6, nLe (by omega) (by omega), zN (show i < 2147483648 by omega), hk.1, zN (show q i < 2147483648 by omega), nI_1 i]
    exact ⟨fun z => absurd z (by omega), fun _ => ⟨nIn (by omega) (by omega), nIn (by omega) (by omega), ih (i + 1) (by omega)⟩⟩
theorem m_sumBelow_loop {P : Int64 → zM → Prop} {n : Nat} {p : Nat → Prop} (hn : n ≤ 100) (h0 : F 0 = nI n) (hp : ∀ k, k < n → I 12 k = zif (p k) 1 0) (hP : P (sml (fun k => zif (p k) (J 0 k) 0) n) (F, I, J)) :
    ∀ d i, i + d = n → AW m_X7_sumBelow (z_pl P) 23 [some (.ref 0), none, some (.long (sml (fun k => zif (p k) (J 0 k) 0) i)), none, some (.int (nI i))] [] (F, I, J) := by
  intro d
  induction d with
  | zero =>
    intro i hd
    refine r_X7_sumBelow_23 _ _ F I J ?_
    rw [h0, nLe (by omega) (by omega)]
    exact ⟨fun _ => by rw [show i = n by omega]; exact hP, fun z => absurd (show n ≤ i by omega) z⟩
  | succ d ih =>
    intro i hd
    have nxt := ih (i + 1) (by omega)
    have e : sml (fun k => zif (p k) (J 0 k) 0) (i + 1) = sml (fun k => zif (p k) (J 0 k) 0) i + zif (p i) (J 0 i) 0 := rfl
    refine r_X7_sumBelow_23 _ _ F I J ?_
    rw [h0, nLe (by omega) (by omega), zN (show i < 2147483648 by omega), hp i (by omega), nI_1 i]
    refine ⟨fun z => absurd z (by omega), fun _ => ⟨nIn (by omega) (by omega), fun z => ?_, fun z => ⟨nIn (by omega) (by omega), ?_⟩⟩⟩
    · by_cases w : p i
      · rw [zif_pos w] at z; exact absurd z (by decide)
      · rw [e, zif_neg w, Int64.add_zero] at nxt; exact nxt
    · by_cases w : p i
      · rw [e, zif_pos w] at nxt; exact nxt
      · rw [zif_neg w] at z; exact absurd rfl z
end
section
variable {t : Nat} {K : Nat → zK} {u o kd N : Nat} {F : Nat → Int32} {I : Nat → Nat → Int32} {J : Nat → Nat → Int64} {F' : Nat → Int32} {I' : Nat → Nat → Int32} {J' : Nat → Nat → Int64}
theorem s_sumBelow {x : Int32} (ht : t < 512) (h : RK t K u o kd N F I J F' I' J') : AMl m_X6_sumBelow [.ref 0, .int x] (F, I, J) (fun r C => AMl m_X7_sumBelow [.ref 0, .int x] (F', I', J') (fun r' M => r' = r ∧ Rel (t + 1) C M)) := by
  have hc := h.1.1
  have hm := h.2.1.1
  have hn := hc.1.1
  refine r_X6_sumBelow_0 _ F I J ?_
  refine c_isKnot hn hc.2.1 (fun a ha hx => ⟨fun _ => ?_, fun z => absurd z (by decide)⟩) (fun hx => ⟨fun z => absurd rfl z, fun _ => ?_⟩)
  · subst hx
    refine c_floodBelow hc (RK_fo h) (RK_cN h ht) ha (fun r F2 I2 L q hr h6 hL hq hqi hb hQ hfr => ?_)
    refine c_sumBelow_loop (L := L) (q := q) (by omega) h6 (fun i hi => ⟨(hq i hi).1, by have := (hq i hi).2; omega⟩) ?_ L 0 (by omega)
    refine r_X7_sumBelow_0 _ F' I' J' (m_onf_ok hm ha ?_)
    refine m_marksBelow hm (RK_fo h) (RK_mN h ht) ha (fun r2 F3 I3 hr2 q1 q2 hb2 => ?_)
    have e := RK_rt h hr hr2
    subst e
    refine m_sumBelow_loop (n := gn (kg (K u))) (p := blw (gm (kg (K u))) (ga (kg (K u))) (gb (kg (K u))) (Tr (kg (K u))) r2 a) hn q1.2.1 hb2 ⟨?_, K, u, o, kd, N, RK_q h hQ hfr q1 q2⟩ (gn (kg (K u))) 0 (by omega)
    rw [sml_enum (x := J 0) (n := gn (kg (K u))) L (blw (gm (kg (K u))) (ga (kg (K u))) (gb (kg (K u))) (Tr (kg (K u))) r2 a) (fun i hi => (hq i hi).2) hqi hb]
    exact sml_congr (fun k hk => by rw [(h.1.2.1 k hk).2, (h.2.1.2.1 k hk).2])
  · exact r_X7_sumBelow_0 _ F' I' J' (m_onf_bad hm hx ⟨rfl, Rel_0 h⟩)
theorem s_told {x y : Int32} (h : RK t K u o kd N F I J F' I' J') : AMi m_X6_told [.ref 0, .int x, .int y] (F, I, J) (fun r C => AMi m_X7_told [.ref 0, .int x, .int y] (F', I', J') (fun r' M => r' = r ∧ Rel (t + 1) C M)) := by
  have hc := h.1.1
  have hm := h.2.1.1
  have hn := hc.1.2.1
  refine r_X6_told_0 _ _ F I J ?_
  refine c_hasCome hn hc.2.2.1 (fun e he hx => ⟨fun _ => ?_, fun z => absurd z (by decide)⟩) (fun hx => ⟨fun z => absurd rfl z, fun _ => ?_⟩)
  · subst hx
    have hw := hc.1.2.2 e he
    have hE := hc.2.2.2.1 e he
    have hE' := hm.2.2.2 e he
    have b1 : vp_in (nI e) 300 := nIn (by omega) (by omega)
    dsimp only
    rw [zN (show e < 2147483648 by omega), hc.2.1]
    have go : ∀ {r : Int32} {C : zM}, ((y = 0 → r = nI (gs (kg (K u)) e)) ∧ (y = 1 → r = nI (ga (kg (K u)) e)) ∧ (y = 2 → r = nI (gb (kg (K u)) e)) ∧ (y = 3 → r = nI (gv (kg (K u)) e)) ∧ ((¬ y = 0) → (¬ y = 1) → (¬ y = 2) → (¬ y = 3) → (¬ y = 4) → r = -2)) → ¬ y = 4 → Rel (t + 1) C (F', I', J') → AMi m_X7_told [.ref 0, .int (nI e), .int y] (F', I', J') (fun r' M => r' = r ∧ Rel (t + 1) C M) := by
      intro r C hr hy hR
      refine r_X7_told_0 _ _ F' I' J' ?_
      rw [hm.2.2.1]
      refine in_ok hn he ?_
      rw [zN (show e < 2147483648 by omega), hE'.1, hE'.2.1, hE'.2.2.1, hE'.2.2.2]
      exact ⟨fun z => ⟨b1, (hr.1 z).symm, hR⟩, fun z0 => ⟨fun z => ⟨b1, (hr.2.1 z).symm, hR⟩, fun z1 => ⟨fun z => ⟨b1, (hr.2.2.1 z).symm, hR⟩, fun z2 => ⟨fun z => ⟨b1, (hr.2.2.2.1 z).symm, hR⟩, fun z3 => ⟨fun z => absurd z hy, fun z4 => ⟨(hr.2.2.2.2 z0 z1 z2 z3 z4).symm, hR⟩⟩⟩⟩⟩⟩
    rw [hE.1, hE.2.1, hE.2.2.1, hE.2.2.2]
    have d : ∀ a b : Int32, a ≠ b → y = a → ¬ y = b := fun a b hab h1 h2 => hab (h1.symm.trans h2)
    refine ⟨fun z => ⟨b1, go ⟨fun _ => rfl, fun w => absurd w (d 0 1 (by decide) z), fun w => absurd w (d 0 2 (by decide) z), fun w => absurd w (d 0 3 (by decide) z), fun w => absurd z w⟩ (d 0 4 (by decide) z) (Rel_0 h)⟩, fun z0 => ⟨fun z => ⟨b1, go ⟨fun w => absurd w z0, fun _ => rfl, fun w => absurd w (d 1 2 (by decide) z), fun w => absurd w (d 1 3 (by decide) z), fun _ w => absurd z w⟩ (d 1 4 (by decide) z) (Rel_0 h)⟩, fun z1 => ⟨fun z => ⟨b1, go ⟨fun w => absurd w z0, fun w => absurd w z1, fun _ => rfl, fun w => absurd w (d 2 3 (by decide) z), fun _ _ w => absurd z w⟩ (d 2 4 (by decide) z) (Rel_0 h)⟩, fun z2 => ⟨fun z => ⟨b1, go ⟨fun w => absurd w z0, fun w => absurd w z1, fun w => absurd w z2, fun _ => rfl, fun _ _ _ w => absurd z w⟩ (d 3 4 (by decide) z) (Rel_0 h)⟩, fun z3 => ⟨fun z => ?_, fun z4 => go ⟨fun w => absurd w z0, fun w => absurd w z1, fun w => absurd w z2, fun w => absurd w z3, fun _ _ _ _ _ => rfl⟩ z4 (Rel_0 h)⟩⟩⟩⟩⟩
    refine c_find hc (fun F2 I2 hfd hQ hfr => ?_)
    have go4 : ∀ {r : Int32}, ((gs (kg (K u)) e = 0 → r = 0) ∧ (gs (kg (K u)) e ≠ 0 → gBr (kg (K u)) e → r = 1) ∧ (gs (kg (K u)) e ≠ 0 → ¬ gBr (kg (K u)) e → r = 0)) → AMi m_X7_told [.ref 0, .int (nI e), .int y] (F', I', J') (fun r' M => r' = r ∧ Rel (t + 1) (F2, I2, J) M) := by
      intro r hr
      refine r_X7_told_0 _ _ F' I' J' ?_
      rw [hm.2.2.1]
      refine in_ok hn he ?_
      rw [zN (show e < 2147483648 by omega), hE'.2.2.1]
      have eq0 : (nI (gs (kg (K u)) e) = 0) = (gs (kg (K u)) e = 0) := by rw [n0, nEq (by omega) (by omega)]
      rw [eq0]
      refine ⟨fun w => absurd w z0, fun _ => ⟨fun w => absurd w z1, fun _ => ⟨fun w => absurd w z2, fun _ => ⟨fun w => absurd w z3, fun _ => ⟨fun _ => ⟨b1, fun w => ⟨(hr.1 w).symm, K, u, o, kd, N, RK_q h hQ hfr hm frM_refl⟩, fun w => ?_⟩, fun w => absurd z w⟩⟩⟩⟩⟩
      refine m_isBridge hm he w (fun I3 q1 q2 b => ⟨fun z => absurd z (by decide), fun _ => ⟨(hr.2.1 w b).symm, K, u, o, kd, N, RK_q h hQ hfr q1 q2⟩⟩) (fun I3 q1 q2 b => ⟨fun _ => ⟨(hr.2.2 w b).symm, K, u, o, kd, N, RK_q h hQ hfr q1 q2⟩, fun z => absurd rfl z⟩)
    refine c_isThere hQ.1 hQ.2.2.2.1 hQ.2.2.1 (fun e2 he2 q1 q2 => ⟨fun z => absurd z (by decide), fun _ => ?_⟩) (fun q => ⟨fun _ => go4 ?_, fun z => absurd rfl z⟩)
    · rw [nEq (by omega) (by omega)] at q1
      subst q1
      refine c_isBridge hQ.1 hQ.2.2.2.1 hfd he (fun b => ⟨fun z => absurd z (by decide), fun _ => go4 ⟨fun w => absurd w q2, fun _ _ => rfl, fun _ w => absurd b w⟩⟩) (fun b => ⟨fun _ => go4 ⟨fun w => absurd w q2, fun _ w => absurd w b, fun _ _ => rfl⟩, fun z => absurd rfl z⟩)
    · have q0 := q e he rfl
      exact ⟨fun _ => rfl, fun w => absurd q0 w, fun w => absurd q0 w⟩
  · refine r_X7_told_0 _ _ F' I' J' ?_
    rw [hm.2.2.1]
    exact in_bad hn hx ⟨rfl, Rel_0 h⟩
end
