/-! takeBack, and the step undo() -/
theorem i64_back (x l : Int64) : x + l + -l = x := by
  rw [Int64.add_assoc, ← Int64.sub_eq_add_neg, Int64.sub_self, Int64.add_zero]
section
variable {g g2 : zG} {F : Nat → Int32} {I : Nat → Nat → Int32} {J : Nat → Nat → Int64}
theorem cQ_0 {I2 : Nat → Nat → Int32} (h : cQ g F I) (hI : ∀ c, c ≠ 0 → I2 c = I c) : cQ g F I2 := by
  obtain ⟨a1, a2, a3, a4, a5, a6, a7⟩ := h
  refine ⟨a1, a2, a3, fun e he => ?_, ?_, fcl_eq a6 rfl (hI 8 (by decide)) (hI 11 (by decide)), fcl_eq a7 rfl (hI 12 (by decide)) (hI 15 (by decide))⟩
  · rw [hI 1 (by decide), hI 2 (by decide), hI 3 (by decide), hI 4 (by decide)]; exact a4 e he
  · unfold gC
    rw [hI 5 (by decide), hI 6 (by decide)]; exact a5
theorem c_takeBack {P : zM → Prop} {kd : Nat} {k k2 : zK} {x1 x2 x3 : Int32} {l : Int64} (h : cM k2 F I J) (hk2 : kI kd k2) (hk : kI kd k) (hE : Ent (I 7) k k2 x1 x2 x3 l) (hb : ∀ i, i < gn (kg k) → kc k i < 2147483648)
    (hP : ∀ F2 I2 J2, cM k F2 I2 J2 → (∀ c, (c < 4 ∨ 12 < c) → F2 c = F c) → I2 7 = I 7 → (∀ c, 22 < c → I2 c = I c) → (∀ i, gn (kg k) ≤ i → I2 0 i = I 0 i) → (∀ c, c ≠ 0 → J2 c = J c) → P (F2, I2, J2)) : AMv m_X6_takeBack [.ref 0, .int x1, .int x2, .int x3, .long l] (F, I, J) P := by
  have hn := hk.1.1
  obtain ⟨hX, hr, hE⟩ := hE
  have hnm : cX k k2 → ∀ i, i < gn (kg k) → I 0 i = nI (kc k i) := fun z i hi => by rw [(h.2.1 i (by rw [hX.1]; exact hi)).1, z i hi]
  have hvl : ∀ i, i < gn (kg k) → J 0 i = kv k2 i := fun i hi => (h.2.1 i (by rw [hX.1]; exact hi)).2
  refine r_X6_takeBack_0 _ _ _ _ F I J ?_
  rcases hE with ⟨e1, hg, hcX, a, ha, e2, el, hv⟩ | ⟨e1, hg, hcX, a, b, n, K, S, ha, hb2, e2, e3, hw, hv⟩ | ⟨e1, hg, hcX, a, r, ha, e2, hrt, hv⟩ | ⟨e1, hg, hvX, a, ha, e2, e3, hc⟩ | ⟨e1, hm, hv0, hcX, hvX, hv, o, e2, ho, hs⟩ | ⟨hm, hcX, hvX, el, l1, l2, e, he, e2, e1, o, e3, ho, hs⟩
  · subst e1; subst e2
    have hq : cQ (kg k) F I := by rw [← hg]; exact h.1
    refine ⟨fun _ => ⟨nIn (by omega) (by omega), ?_⟩, fun z => absurd rfl z⟩
    rw [zN (show a < 2147483648 by omega)]
    refine hP F I _ ⟨hq, fun i hi => ⟨hnm hcX i hi, ?_⟩, by rw [← hg]; exact h.2.2⟩ (fun _ _ => rfl) rfl (fun _ _ => rfl) (fun _ _ => rfl) (fun c hc => ul_ne _ _ hc)
    rw [ul_self]
    by_cases e : i = a
    · rw [e, updL_self]; exact el
    · rw [updL_ne _ e, hvl i hi]; exact hv i hi e
  · subst e1; subst e2; subst e3
    have hq : cQ (kg k) F I := by rw [← hg]; exact h.1
    refine ⟨fun z => absurd z (by decide), fun _ => ⟨fun _ => ?_, fun z => absurd rfl z⟩⟩
    refine c_layTrack hq (fun hx => hx.elim (fun z => absurd rfl (z a ha)) (fun z => absurd rfl (z b hb2))) (fun a2 b2 F2 I2 ha2 hb2' hx hy hno h8 hQ hfr => ?_) (fun a2 b2 F2 I2 l2 K2 S2 ha2 hb2' hx hy hw2 hl h8 hK hS hQ hfr => ?_)
    · rw [nEq (by omega) (by omega)] at hx hy
      subst hx; subst hy
      exact absurd (isW_all hw) hno
    · rw [nEq (by omega) (by omega)] at hx hy
      subst hx; subst hy
      obtain ⟨o1, o2, -⟩ := isW_one hk.2.1 _ _ _ _ _ _ _ _ hw hw2
      subst o1
      refine c_addOnTrack (l := n) (K := K2) (-l) (by omega) h8 (fun i hi => ⟨(hK i hi).1, by have := (hK i hi).2; omega⟩) hw2.2.2.2 (fun J2 j1 j2 => ?_)
      refine hP F2 I2 J2 ⟨hQ, fun i hi => ⟨by rw [hfr.2 0 (by omega)]; exact hnm hcX i hi, ?_⟩, by rw [hfr.1 5 (by omega), ← hg]; exact h.2.2⟩ (fun c hc => hfr.1 c (by omega)) (hfr.2 7 (by omega)) (fun c hc => hfr.2 c (by omega)) (fun i _ => by rw [hfr.2 0 (by omega)]) j1
      rw [j2 i, hvl i hi, hv i hi]
      by_cases e : ∃ j, j ≤ n ∧ K j = i
      · have e' : ∃ j, j ≤ n ∧ K2 j = i := e.elim fun j z => ⟨j, z.1, by rw [← o2 j z.1]; exact z.2⟩
        rw [zif_pos e, zif_pos e', i64_back]
      · have e' : ¬ ∃ j, j ≤ n ∧ K2 j = i := fun q => e (q.elim fun j z => ⟨j, z.1, by rw [o2 j z.1]; exact z.2⟩)
        rw [zif_neg e, zif_neg e']
  · subst e1; subst e2
    have hq : cQ (kg k) F I := by rw [← hg]; exact h.1
    refine ⟨fun z => absurd z (by decide), fun _ => ⟨fun z => absurd z (by decide), fun _ => ⟨fun _ => ?_, fun z => absurd rfl z⟩⟩⟩
    refine c_floodBelow (nm := kc k) hq hk.2.1 (fun i hi => ⟨hnm hcX i hi, hb i hi⟩) ha (fun r2 F2 I2 L q a1 a2 a3 a4 a5 a6 hQ hfr => ?_)
    have er := isRt_one hrt a1
    subst er
    refine c_addOnFlood (L := L) (q := q) (-l) (by omega) a2 (fun i hi => ⟨(a4 i hi).1, by have := (a4 i hi).2; omega⟩) a5 (fun J2 j1 j2 => ?_)
    refine hP F2 I2 J2 ⟨hQ, fun i hi => ⟨by rw [hfr.2 0 (by omega)]; exact hnm hcX i hi, ?_⟩, by rw [hfr.1 5 (by omega), ← hg]; exact h.2.2⟩ (fun c hc => hfr.1 c (by omega)) (hfr.2 7 (by omega)) (fun c hc => hfr.2 c (by omega)) (fun i _ => by rw [hfr.2 0 (by omega)]) j1
    rw [j2 i, hvl i hi, hv i hi, zif_congr (a6 i hi).symm]
    by_cases e : blw (gm (kg k)) (ga (kg k)) (gb (kg k)) (Tr (kg k)) r a i
    · rw [zif_pos e, zif_pos e, i64_back]
    · rw [zif_neg e, zif_neg e]
  · subst e1; subst e2; subst e3
    have hq : cQ (kg k) F I := by rw [← hg]; exact h.1
    refine ⟨fun z => absurd z (by decide), fun _ => ⟨fun z => absurd z (by decide), fun _ => ⟨fun z => absurd z (by decide), fun _ => ⟨fun _ => ⟨nIn (by omega) (by omega), ?_⟩, fun z => absurd rfl z⟩⟩⟩⟩
    rw [zN (show a < 2147483648 by omega)]
    refine hP F _ J ⟨cQ_0 hq (fun c hc => ui_ne _ _ hc), fun i hi => ⟨?_, ?_⟩, by rw [← hg]; exact h.2.2⟩ (fun _ _ => rfl) (ui_ne _ _ (by decide)) (fun c hc => ui_ne _ _ (by omega)) (fun i hi => ?_) (fun _ _ => rfl)
    · rw [ui_self]
      by_cases e : i = a
      · rw [e, upd_self]
      · rw [upd_ne _ e, (h.2.1 i (by rw [hX.1]; exact hi)).1, hc i hi e]
    · rw [hvl i hi]; exact hvX i hi
    · rw [ui_self, upd_ne _ (by omega)]
  · subst e1; subst e2
    refine ⟨fun z => absurd z (by decide), fun _ => ⟨fun z => absurd z (by decide), fun _ => ⟨fun z => absurd z (by decide), fun _ => ⟨fun z => absurd z (by decide), fun _ => ⟨fun _ => ?_, fun z => absurd rfl z⟩⟩⟩⟩⟩
    refine c_back4 h hk2 hk hX hm hv0 hcX hvX hv ho hs (fun F2 I2 q1 q2 q3 => ?_)
    exact hP F2 I2 J q1 (fun c hc => q2 c (by omega)) (q3 7 (by decide) (by decide)) (fun c hc => q3 c (by omega) (by omega)) (fun i _ => by rw [q3 0 (by decide) (by decide)]) (fun _ _ => rfl)
  · subst e2; subst e3; subst el
    rw [i64_32]
    have go : ∀ wh, gs (kg k) e = wh → AMv m_X6_takeBackCut [.ref 0, .int (nI e), .int (oI o), .int (nI wh), .int (nI (rs (kg k)))] (F, I, J) (fun M132 => P M132) := fun wh hwh =>
      c_back5 h hk2 hk hX hr hm hcX hvX l1 l2 he hwh ho hs (fun F2 I2 q1 q2 q3 => hP F2 I2 J q1 (fun c hc => q2 c (by omega)) (q3 7 (by decide) (by decide)) (fun c hc => q3 c (by omega) (by omega)) (fun i _ => by rw [q3 0 (by decide) (by decide)]) (fun _ _ => rfl))
    rcases e1 with ⟨e1, hwh⟩ | ⟨e1, hwh⟩
    · subst e1
      exact ⟨fun z => absurd z (by decide), fun _ => ⟨fun z => absurd z (by decide), fun _ => ⟨fun z => absurd z (by decide), fun _ => ⟨fun z => absurd z (by decide), fun _ => ⟨fun z => absurd z (by decide), fun _ => ⟨fun z => absurd rfl z, fun _ => go 1 hwh⟩⟩⟩⟩⟩⟩
    · subst e1
      exact ⟨fun z => absurd z (by decide), fun _ => ⟨fun z => absurd z (by decide), fun _ => ⟨fun z => absurd z (by decide), fun _ => ⟨fun z => absurd z (by decide), fun _ => ⟨fun z => absurd z (by decide), fun _ => ⟨fun _ => go 2 hwh, fun z => absurd z (by decide)⟩⟩⟩⟩⟩⟩
end
section
variable {t : Nat} {K : Nat → zK} {u o kd N : Nat} {F : Nat → Int32} {I : Nat → Nat → Int32} {J : Nat → Nat → Int64} {F' : Nat → Int32} {I' : Nat → Nat → Int32} {J' : Nat → Nat → Int64}
theorem s_undo (h : RK t K u o kd N F I J F' I' J') (ht : t < 512) : AMi m_X6_undo [.ref 0] (F, I, J) (fun r C => AMi m_X7_undo [.ref 0] (F', I', J') (fun r' M => r' = r ∧ Rel (t + 1) C M)) := by
  have h7 := h.2.2.2.2.2.2.1
  have h6 := h.2.2.2.2.2.1
  have hu := h7.2.2.2.2.1
  refine r_X6_undo_0 F I J ?_
  refine c_takeLatest h7.2.2.2.1 hu h7.1 h7.2.1 (fun hu0 => ⟨fun z => absurd rfl z, fun _ => ?_⟩) (fun u1 hu1 => ?_)
  · refine r_X7_undo_0 F' I' J' ⟨fun z => ?_, fun _ => ⟨rfl, Rel_0 h⟩⟩
    rw [h7.2.2.1, hu0] at z
    exact absurd rfl z
  · subst hu1
    obtain ⟨hE, hS⟩ := h7.2.2.2.2.2 u1 (by omega)
    have ho := h7.2.2.2.1
    have h3 := h.2.2.1 u1 (by omega)
    have h3' := h.2.2.1 (u1 + 1) (Nat.le_refl _)
    have hp : (o + u1) % 20 < 20 := Nat.mod_lt _ (by omega)
    have hX := hE.1
    have b1 : vp_in (nI ((o + u1) % 20)) 20 := nIn hp (by omega)
    refine ⟨fun _ => ⟨b1, b1, b1, b1, ?_⟩, fun z => by rw [nNe (by omega)] at z; exact z.elim⟩
    dsimp only
    rw [zN (show (o + u1) % 20 < 2147483648 by omega)]
    have hcM : cM (K (u1 + 1)) (upd F 14 (nI u1)) I J := by
      obtain ⟨⟨a1, a2, a3, a4, a5, a6, a7⟩, a8, a9⟩ := h.1
      exact ⟨⟨a1, by rw [upd_ne _ (by decide)]; exact a2, by rw [upd_ne _ (by decide)]; exact a3, a4, a5, fcl_eq a6 (upd_ne _ (by decide)) rfl rfl, fcl_eq a7 (upd_ne _ (by decide)) rfl rfl⟩, a8, by rw [upd_ne _ (by decide)]; exact a9⟩
    refine c_takeBack hcM h3'.1 h3.1 hE (fun i hi => by have := h3.2.2 i hi; have := h6.1; omega) (fun F2 I2 J2 q1 q2 q3 q4 q5 q6 => ?_)
    have hm := h.2.1.1
    have hn := hm.1.1
    have hmm := h3.1.1.2.1
    refine r_X7_undo_0 F' I' J' ⟨fun _ => ?_, fun z => ?_⟩
    · rw [h7.2.2.1, n1, nSub (by omega), Nat.add_sub_cancel]
      refine m_back (n := gn (kg (K u1))) (m := gm (kg (K u1))) h3.1.1.1 hmm (by omega) (by rw [upd_ne _ (by decide), hm.2.1, hX.1]) hS.2.2.1 (fun I2' J2' c1 c2 c3 c4 => ⟨rfl, ?_⟩)
      have fF : ∀ c, c ≠ 1 → c ≠ 3 → c ≠ 4 → c ≠ 5 → upd (upd (upd (upd F' 5 (nI u1)) 1 (nI (gm (kg (K u1))))) 3 (I' 9 u1)) 4 (I' 10 u1) c = F' c := fun c c1 c3 c4 c5 => by rw [upd_ne _ c4, upd_ne _ c3, upd_ne _ c1, upd_ne _ c5]
      have hPS : PS K u1 o I J I' J' := ⟨h7.2.2.2.1, by omega, fun j hj => h7.2.2.2.2.2 j (by omega)⟩
      refine ⟨K, u1, o, kd, N, q1, ⟨⟨h3.1.1, ?_, ?_, fun f hf => ?_⟩, fun i hi => ⟨?_, ?_⟩, ?_, ?_⟩, fun j hj => ?_, ⟨h.2.2.2.1.1, ?_, ?_⟩, fun e he => ?_, ⟨by omega, ?_, fun i hi hi2 => ?_⟩, ⟨?_, ?_, ?_, ?_⟩, ?_, ?_⟩
      · show upd (upd (upd (upd F' 5 (nI u1)) 1 (nI (gm (kg (K u1))))) 3 (I' 9 u1)) 4 (I' 10 u1) 0 = _
        rw [fF 0 (by decide) (by decide) (by decide) (by decide), hm.2.1, hX.1]
      · show upd (upd (upd (upd F' 5 (nI u1)) 1 (nI (gm (kg (K u1))))) 3 (I' 9 u1)) 4 (I' 10 u1) 1 = _
        rw [upd_ne _ (by decide), upd_ne _ (by decide), upd_self]
      · have z1 := hm.2.2.2 f (by have := hX.2.1; omega)
        have z2 := hX.2.2 f hf
        have z3 := c4 f hf
        have z4 := hS.2.1 f hf
        refine ⟨?_, ?_, ?_, ?_⟩
        · show I2' 1 f = _
          rw [c1 1 (by decide) (by decide) (by decide), z1.1, z2.1]
        · show I2' 2 f = _
          rw [c1 2 (by decide) (by decide) (by decide), z1.2.1, z2.2]
        · show I2' 3 f = _
          rw [z3.1]; exact z4.1
        · show I2' 4 f = _
          rw [z3.2]; exact z4.2
      · show I2' 0 i = _
        rw [(c3 i hi).1]; exact (hS.1 i hi).1
      · show J2' 0 i = _
        rw [(c3 i hi).2]; exact (hS.1 i hi).2
      · show upd (upd (upd (upd F' 5 (nI u1)) 1 (nI (gm (kg (K u1))))) 3 (I' 9 u1)) 4 (I' 10 u1) 4 = _
        rw [upd_self]; exact hS.2.2.2.2
      · show upd (upd (upd (upd F' 5 (nI u1)) 1 (nI (gm (kg (K u1))))) 3 (I' 9 u1)) 4 (I' 10 u1) 3 = _
        rw [upd_ne _ (by decide), upd_self]; exact hS.2.2.2.1
      · obtain ⟨a, b, c⟩ := h.2.2.1 j (by omega)
        exact ⟨a, by omega, c⟩
      · show F2 2 = _
        rw [q2 2 (by omega), upd_ne _ (by decide)]; exact h.2.2.2.1.2.1
      · show upd (upd (upd (upd F' 5 (nI u1)) 1 (nI (gm (kg (K u1))))) 3 (I' 9 u1)) 4 (I' 10 u1) 2 = _
        rw [fF 2 (by decide) (by decide) (by decide) (by decide)]; exact h.2.2.2.1.2.2
      · show J2' 1 e = J2 1 e
        rw [q6 1 (by decide), c2 1 (by decide)]
        exact h.2.2.2.2.1 e (by have := hX.2.1; omega)
      · show F2 1 = _
        rw [q2 1 (by omega), upd_ne _ (by decide)]; exact h6.2.1
      · show I2 0 i = 0
        rw [q5 i hi]
        exact h6.2.2 i (by rw [hX.1]; exact hi) hi2
      · show F2 13 = _
        rw [q2 13 (by omega), upd_ne _ (by decide)]; exact h7.1
      · show F2 14 = _
        rw [q2 14 (by omega), upd_self]
      · show upd (upd (upd (upd F' 5 (nI u1)) 1 (nI (gm (kg (K u1))))) 3 (I' 9 u1)) 4 (I' 10 u1) 5 = _
        rw [upd_ne _ (by decide), upd_ne _ (by decide), upd_ne _ (by decide), upd_self]
      · exact PS_fr hPS (fun p _ => by show I2 7 p = I 7 p; rw [q3]) (fun c hc => q4 c hc) (q6 2 (by decide)) (fun c a1 a2 => c1 c (by omega) (by omega) (by omega)) (c2 2 (by decide))
      · show upd (upd (upd (upd F' 5 (nI u1)) 1 (nI (gm (kg (K u1))))) 3 (I' 9 u1)) 4 (I' 10 u1) 7 = F2 3
        rw [fF 7 (by decide) (by decide) (by decide) (by decide), q2 3 (by omega), upd_ne _ (by decide)]
        exact h.2.2.2.2.2.2.2.1
      · show tR F2 J2 I2' J2'
        intro s hs
        rw [q2 (15 + s) (by omega), q2 (21 + s) (by omega), upd_ne _ (by omega), upd_ne _ (by omega), c1 17 (by decide) (by decide) (by decide), c1 18 (by decide) (by decide) (by decide), c1 19 (by decide) (by decide) (by decide), q6 (3 + s) (by omega), c2 3 (by decide)]
        exact h.2.2.2.2.2.2.2.2 s hs
    · rw [h7.2.2.1, n0, nEq (by omega) (by omega)] at z
      omega
end
