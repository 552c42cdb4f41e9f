/-! addBelow, root, knot -/
section
variable {t : Nat} {K : Nat → zK} {u o kd N : Nat} {F : Nat → Int32} {I : Nat → Nat → Int32} {J : Nat → Nat → Int64} {F' : Nat → Int32} {I' : Nat → Nat → Int32} {J' : Nat → Nat → Int64}
theorem m_addBelow_loop {P : Int32 → zM → Prop} {n : Nat} {p : Nat → Prop} {r : Int32} (v : Int64) (hn : n ≤ 100) (h0 : F 0 = nI n) (hp : ∀ k, k < n → I 12 k = zif (p k) 1 0)
    (hP : ∀ J2 : Nat → Nat → Int64, (∀ j, j ≠ 0 → J2 j = J j) → (∀ k, k < n → J2 0 k = zif (p k) (J 0 k + v) (J 0 k)) → P r (F, I, J2)) :
    ∀ d i J2, i + d = n → (∀ j, j ≠ 0 → J2 j = J j) → (∀ k, J2 0 k = zif (k < i ∧ p k) (J 0 k + v) (J 0 k)) → AW m_X7_addBelow (z_pi P) 25 [some (.ref 0), none, some (.long v), none, some (.int r), some (.int (nI i))] [] (F, I, J2) := by
  intro d
  induction d with
  | zero =>
    intro i J2 hd g1 g2
    refine r_X7_addBelow_25 _ _ _ F I J2 ?_
    rw [h0, nLe (by omega) (by omega)]
    refine ⟨fun _ => hP J2 g1 (fun k hk => by rw [g2 k]; exact zif_congr ⟨fun z => z.2, fun z => ⟨by omega, z⟩⟩ _ _), fun z => absurd (show n ≤ i by omega) z⟩
  | succ d ih =>
    intro i J2 hd g1 g2
    refine r_X7_addBelow_25 _ _ _ F I J2 ?_
    rw [h0, nLe (by omega) (by omega), zN (show i < 2147483648 by omega), hp i (by omega), nI_1 i]
    refine ⟨fun z => absurd z (by omega), fun _ => ⟨nIn (by omega) (by omega), fun z => ?_, fun z => ⟨nIn (by omega) (by omega), nIn (by omega) (by omega), ?_⟩⟩⟩
    · have hp2 : ¬ p i := fun w => by rw [zif_pos w] at z; exact absurd z (by decide)
      refine ih (i + 1) J2 (by omega) g1 (fun k => ?_)
      rw [g2 k]
      refine zif_congr ⟨fun w => ⟨by omega, w.2⟩, fun w => ⟨?_, w.2⟩⟩ _ _
      by_cases e : k = i
      · subst e; exact absurd w.2 hp2
      · omega
    · have hp2 : p i := Classical.byContradiction fun w => z (zif_neg w _ _)
      refine ih (i + 1) _ (by omega) (fun j hj => by rw [ul_ne _ _ hj]; exact g1 j hj) (fun k => ?_)
      rw [ul_self]
      by_cases e : k = i
      · subst e
        rw [updL_self, g2 k, zif_neg (fun w => by omega), zif_pos ⟨by omega, hp2⟩]
      · rw [updL_ne _ e, g2 k]
        exact zif_congr ⟨fun w => ⟨by omega, w.2⟩, fun w => ⟨by omega, w.2⟩⟩ _ _
theorem s_addBelow {x : Int32} {v : Int64} (ht : t < 512) (h : RK t K u o kd N F I J F' I' J') : AMi m_X6_addBelow [.ref 0, .int x, .long v] (F, I, J) (fun r C => AMi m_X7_addBelow [.ref 0, .int x, .long v] (F', I', J') (fun r' M => r' = r ∧ Rel (t + 1) C M)) := by
  have hc := h.1.1
  have hm := h.2.1.1
  have hn := hc.1.1
  have hmm := hc.1.2.1
  have h7 := h.2.2.2.2.2.2.1
  refine r_X6_addBelow_0 _ _ F I J ?_
  refine c_isKnot hn hc.2.1 (fun a ha hx => ⟨fun _ => ?_, fun z => absurd z (by decide)⟩) (fun hx => ⟨fun z => absurd rfl z, fun _ => ?_⟩)
  · subst hx
    refine c_note h7.2.2.2.1 h7.2.2.2.2.1 h7.1 h7.2.1 (fun F2 I2 J2 o2 f u1 c1 c2 c3 c4 f13 f14 cF cI cJ c5 e1 e2 e3 e4 => ?_)
    refine c_floodBelow (cQ_note hc cF cI) (RK_fo h) (nm := kc (K u)) (fun k hk => by rw [cI 0 (by omega)]; exact RK_cN h ht k hk) ha (fun r F3 I3 L q hr h6 hL hq hqi hb hQ hfr => ?_)
    refine c_addOnFlood (L := L) (q := q) v (by omega) h6 (fun i hi => ⟨(hq i hi).1, by have := (hq i hi).2; omega⟩) hqi (fun J4 j1 j2 => ?_)
    refine r_X7_addBelow_0 _ _ F' I' J' (m_onf_ok hm ha ?_)
    refine m_marksBelow hm (RK_fo h) (RK_mN h ht) ha (fun r2 F5 I5 hr2 q1 q2 hb2 => ?_)
    have e := RK_rt h hr hr2
    subst e
    have hR := RK_fr h hc frC_refl q1 q2
    have hR7 := hR.2.2.2.2.2.2.1
    refine m_changes hn hmm h7.2.2.2.2.1 q1.2.1 q1.2.2.1 hR7.2.2.1 (fun I6 J6 f2 u2 d1 d2 d3 dI dJ d4 d5 => ?_)
    have eu : u2 = u1 := by omega
    refine m_addBelow_loop (n := gn (kg (K u))) (p := blw (gm (kg (K u))) (ga (kg (K u))) (gb (kg (K u))) (Tr (kg (K u))) r2 a) v hn (by rw [upd_ne _ (by decide)]; exact q1.2.1) (fun k hk => by rw [dI 12 (by omega)]; exact hb2 k hk) (fun J7 p1 p2 => ⟨?_, ?_⟩) (gn (kg (K u))) 0 J6 (by omega) (fun _ _ => rfl) (fun k => by rw [zif_neg (fun w => by omega)])
    · rw [ctp_enum L (blw (gm (kg (K u))) (ga (kg (K u))) (gb (kg (K u))) (Tr (kg (K u))) r2 a) (fun i hi => (hq i hi).2) hqi hb]
    · refine RK_val (f := f) (u1 := u1) (o2 := o2) (V2 := fun k => zif (blw (gm (kg (K u))) (ga (kg (K u))) (gb (kg (K u))) (Tr (kg (K u))) r2 a k) (kv (K u) k + v) (kv (K u) k)) hR c1 hQ (fun c hc => by rw [hfr.1 c (by omega)]; exact cF c (by omega) (by omega)) (by rw [hfr.2 0 (by omega)]; exact cI 0 (by omega)) (fun c c1 c2 => by rw [j1 c c1]; exact cJ c c2) (fun k hk => ?_) (mQ_ch q1 dI) (fun c c1 c2 => upd_ne _ c1) (fun c hc => dI c (by omega)) (fun c c1 c2 => by rw [p1 c c1]; exact dJ c c2) (fun k hk => ?_) (by rw [hfr.1 13 (by omega)]; exact f13) (by rw [hfr.1 14 (by omega)]; exact f14) (by rw [upd_self, eu]) ?_
      · rw [j2 k, cJ 0 (by decide), (h.1.2.1 k hk).2]
        exact zif_congr (hb k hk).symm _ _
      · rw [p2 k hk, dJ 0 (by decide), (h.2.1.2.1 k hk).2]
      · refine PS_fr (PS_push (k2 := (kg (K u), kc (K u), km (K u), kr (K u), fun k => zif (blw (gm (kg (K u))) (ga (kg (K u))) (gb (kg (K u))) (Tr (kg (K u))) r2 a k) (kv (K u) k + v) (kv (K u) k))) hR7.2.2.2 (fun j hj => (h.2.2.1 j hj).1.1) hR.2.1 c1 c2 c3 c4 c5 (cI 7 (by omega)) d1 d2 d3 d4 d5 e1 e2 e3 e4 ?_) (fun p _ => by rw [hfr.2 7 (by omega)]) (fun c hc => hfr.2 c (by omega)) (j1 2 (by decide)) (fun _ _ _ => rfl) (p1 2 (by decide))
        exact ⟨Ent_gX _, Nat.le_refl _, Or.inr (Or.inr (Or.inl ⟨rfl, rfl, fun _ _ => rfl, a, r2, ha, rfl, hr, fun i _ => rfl⟩))⟩
  · exact r_X7_addBelow_0 _ _ F' I' J' (m_onf_bad hm hx ⟨rfl, Rel_0 h⟩)
theorem kI_name {k : zK} {a N : Nat} (h : kI kd k) (hN : ∀ i, i < gn (kg k) → kc k i ≤ N) : kI kd (kg k, un (kc k) a (N + 1), un (km k) a (kr k + 1), kr k + 1, kv k) := by
  obtain ⟨h1, h2, h3, h4, h5, h6, h7, h8⟩ := h
  have ec : ∀ i, un (kc k) a (N + 1) i = if i = a then N + 1 else kc k i := fun _ => rfl
  have em : ∀ i, un (km k) a (kr k + 1) i = if i = a then kr k + 1 else km k i := fun _ => rfl
  refine ⟨h1, h2, h3, h4, h5, fun i j hi hj => ?_, fun i hi => ?_, fun i hi => ?_⟩
  · show un (kc k) a (N + 1) i < un (kc k) a (N + 1) j ↔ un (km k) a (kr k + 1) i < un (km k) a (kr k + 1) j
    have g1 := h6 i j hi hj
    have g2 := hN i hi
    have g3 := hN j hj
    have g4 := h8 i hi
    have g5 := h8 j hj
    rw [ec, ec, em, em]
    by_cases e1 : i = a
    · by_cases e2 : j = a
      · rw [if_pos e1, if_pos e2, if_pos e1, if_pos e2]; omega
      · rw [if_pos e1, if_neg e2, if_pos e1, if_neg e2]; omega
    · by_cases e2 : j = a
      · rw [if_neg e1, if_pos e2, if_neg e1, if_pos e2]; omega
      · rw [if_neg e1, if_neg e2, if_neg e1, if_neg e2]; exact g1
  · show un (kc k) a (N + 1) i = 0 ↔ un (km k) a (kr k + 1) i = 0
    rw [ec, em]
    by_cases e1 : i = a
    · rw [if_pos e1, if_pos e1]; omega
    · rw [if_neg e1, if_neg e1]; exact h7 i hi
  · show un (km k) a (kr k + 1) i ≤ kr k + 1
    rw [em]
    by_cases e1 : i = a
    · rw [if_pos e1]; omega
    · rw [if_neg e1]; have := h8 i hi; omega
theorem s_root {x : Int32} (ht : t < 512) (h : RK t K u o kd N F I J F' I' J') : AMi m_X6_root [.ref 0, .int x] (F, I, J) (fun r C => AMi m_X7_root [.ref 0, .int x] (F', I', J') (fun r' M => r' = r ∧ Rel (t + 1) C M)) := by
  have hc := h.1.1
  have hm := h.2.1.1
  have hn := hc.1.1
  have hmm := hc.1.2.1
  refine r_X6_root_0 _ F I J ?_
  refine c_isKnot hn hc.2.1 (fun a ha hx => ⟨fun _ => ?_, fun z => absurd z (by decide)⟩) (fun hx => ⟨fun z => absurd rfl z, fun _ => ?_⟩)
  · subst hx
    refine c_findRoot hc (RK_cN h ht) ha (fun r F2 I2 hr hQ hfr => ⟨nIn (by omega) (by omega), ?_⟩)
    have h7 := h.2.2.2.2.2.2.1
    have h6 := h.2.2.2.2.2.1
    have a13 : F2 13 = nI o := by rw [hfr.1 13 (by omega)]; exact h7.1
    have a14 : F2 14 = nI u := by rw [hfr.1 14 (by omega)]; exact h7.2.1
    refine c_note h7.2.2.2.1 h7.2.2.2.2.1 a13 a14 (fun F3 I3 J3 o2 f u1 c1 c2 c3 c4 f13 f14 cF cI cJ c5 e1 e2 e3 e4 => ⟨nIn (by omega) (by omega), ?_⟩)
    refine r_X7_root_0 _ F' I' J' (m_onf_ok hm ha ?_)
    refine m_rootOf hm (RK_mN h ht) ha (fun r2 I5 hr2 q1 q2 _ => ?_)
    have e := RK_rt h hr hr2
    subst e
    have hR := RK_fr h hQ hfr q1 q2
    have hR7 := hR.2.2.2.2.2.2.1
    refine m_changes hn hmm h7.2.2.2.2.1 q1.2.1 q1.2.2.1 hR7.2.2.1 (fun I6 J6 f2 u2 d1 d2 d3 dI dJ d4 d5 => ⟨nIn (by omega) (by omega), rfl, ?_⟩)
    have eu : u2 = u1 := by omega
    have h3 := h.2.2.1 u (Nat.le_refl _)
    dsimp only at e3 ⊢
    rw [zN (show a < 2147483648 by omega)] at e3 ⊢
    have eN : F3 1 + 1 = nI (N + 1) := by rw [cF 1 (by decide) (by decide), hfr.1 1 (by omega), h6.2.1]; exact nI_1 N
    have eM : upd F' 5 (nI (u2 + 1)) 3 + 1 = nI (kr (K u) + 1) := by rw [upd_ne _ (by decide), h.2.1.2.2.2]; exact nI_1 _
    rw [eN, eM]
    have cQ3 := cQ_note hQ cF cI
    refine RK_end (k2 := (kg (K u), un (kc (K u)) a (N + 1), un (km (K u)) a (kr (K u) + 1), kr (K u) + 1, kv (K u))) (f := f) (u1 := u1) (o2 := o2) (N2 := N + 1) h c1 (kI_name h3.1 h3.2.2) (Nat.succ_le_succ h3.2.1) (fun i hi => ?_) (by omega) (by omega) ⟨?_, fun i hi => ⟨?_, ?_⟩, ?_⟩ ⟨?_, fun i hi => ⟨?_, ?_⟩, ?_, ?_⟩ ?_ ?_ (fun e he => ?_) ?_ (fun i hi hi2 => ?_) ?_ ?_ ?_ ?_ ?_ ?_
    · show un (kc (K u)) a (N + 1) i ≤ N + 1
      by_cases e : i = a
      · rw [e, un_self]; exact Nat.le_refl _
      · rw [un_ne _ _ e]; exact Nat.le_succ_of_le (h3.2.2 i hi)
    · refine ⟨cQ3.1, by rw [upd_ne _ (by decide)]; exact cQ3.2.1, by rw [upd_ne _ (by decide)]; exact cQ3.2.2.1, fun e he => ?_, ?_, fcl_eq cQ3.2.2.2.2.2.1 (upd_ne _ (show 6 ≠ 1 by decide)) (ui_ne _ _ (by decide)) (ui_ne _ _ (by decide)), fcl_eq cQ3.2.2.2.2.2.2 (upd_ne _ (show 7 ≠ 1 by decide)) (ui_ne _ _ (by decide)) (ui_ne _ _ (by decide))⟩
      · rw [ui_ne _ _ (by decide), ui_ne _ _ (by decide), ui_ne _ _ (by decide), ui_ne _ _ (by decide)]; exact cQ3.2.2.2.1 e he
      · unfold gC
        rw [ui_ne _ _ (by decide), ui_ne _ _ (by decide)]; exact cQ3.2.2.2.2.1
    · show z_ui I3 0 a (nI (N + 1)) 0 i = nI (un (kc (K u)) a (N + 1) i)
      rw [ui_self]
      by_cases e : i = a
      · rw [e, upd_self, un_self]
      · rw [upd_ne _ e, un_ne _ _ e, cI 0 (by omega), hfr.2 0 (by omega)]; exact (h.1.2.1 i hi).1
    · rw [cJ 0 (by decide)]; exact (h.1.2.1 i hi).2
    · rw [upd_ne _ (by decide), cF 5 (by decide) (by decide), hfr.1 5 (by omega)]; exact h.1.2.2
    · have mq := mQ_ch (x := nI (u2 + 1)) q1 dI
      refine ⟨mq.1, by rw [upd_ne _ (by decide)]; exact mq.2.1, by rw [upd_ne _ (by decide)]; exact mq.2.2.1, fun e he => ?_⟩
      rw [ui_ne _ _ (by decide), ui_ne _ _ (by decide), ui_ne _ _ (by decide), ui_ne _ _ (by decide)]; exact mq.2.2.2 e he
    · show z_ui I6 0 a (nI (kr (K u) + 1)) 0 i = nI (un (km (K u)) a (kr (K u) + 1) i)
      rw [ui_self]
      by_cases e : i = a
      · rw [e, upd_self, un_self]
      · rw [upd_ne _ e, un_ne _ _ e, dI 0 (by omega), q2.2 0 (by omega)]; exact (h.2.1.2.1 i hi).1
    · rw [dJ 0 (by decide)]; exact (h.2.1.2.1 i hi).2
    · rw [upd_ne _ (by decide), upd_ne _ (by decide)]; exact h.2.1.2.2.1
    · rw [upd_self]; rfl
    · rw [upd_ne _ (by decide), cF 2 (by decide) (by decide), hfr.1 2 (by omega)]
    · rw [upd_ne _ (by decide), upd_ne _ (by decide)]
    · rw [cJ 1 (by decide), dJ 1 (by decide)]; exact h.2.2.2.2.1 e he
    · rw [upd_self]
    · have hi3 : gn (kg (K u)) ≤ i := hi
      rw [ui_self, upd_ne _ (by omega), cI 0 (by omega), hfr.2 0 (by omega)]; exact h6.2.2 i hi hi2
    · rw [upd_ne _ (by decide)]; exact f13
    · rw [upd_ne _ (by decide)]; exact f14
    · rw [upd_ne _ (by decide), upd_self, eu]
    · refine PS_fr (PS_push (k2 := (kg (K u), un (kc (K u)) a (N + 1), un (km (K u)) a (kr (K u) + 1), kr (K u) + 1, kv (K u))) hR7.2.2.2 (fun j hj => (h.2.2.1 j hj).1.1) hR.2.1 c1 c2 c3 c4 c5 (cI 7 (by omega)) d1 d2 d3 d4 d5 e1 e2 e3 e4 ?_) (fun p _ => by rw [ui_ne _ _ (by decide)]) (fun c hc => ui_ne _ _ (by omega)) rfl (fun c g1 g2 => ui_ne _ _ (by omega)) rfl
      exact ⟨Ent_gX _, Nat.le_refl _, Or.inr (Or.inr (Or.inr (Or.inl ⟨rfl, rfl, fun _ _ => rfl, a, ha, rfl, by rw [hfr.2 0 (by omega)]; exact (h.1.2.1 a ha).1, fun i _ hne => un_ne _ _ hne⟩)))⟩
    · rw [upd_ne _ (by decide), upd_ne _ (by decide), upd_ne _ (by decide), cF 3 (by decide) (by decide), hfr.1 3 (by omega)]; exact h.2.2.2.2.2.2.2.1
    · intro s hs
      rw [upd_ne _ (show 15 + s ≠ 1 by omega), upd_ne _ (show 21 + s ≠ 1 by omega), cF (15 + s) (by omega) (by omega), cF (21 + s) (by omega) (by omega), hfr.1 (15 + s) (by omega), hfr.1 (21 + s) (by omega), ui_ne _ _ (by decide), ui_ne _ _ (by decide), ui_ne _ _ (by decide), dI 17 (by omega), dI 18 (by omega), dI 19 (by omega), q2.2 17 (by omega), q2.2 18 (by omega), q2.2 19 (by omega), cJ (3 + s) (by omega), dJ 3 (by decide)]
      exact h.2.2.2.2.2.2.2.2 s hs
  · exact r_X7_root_0 _ F' I' J' (m_onf_bad hm hx ⟨rfl, Rel_0 h⟩)
end
