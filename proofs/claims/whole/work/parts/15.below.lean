section
variable {g : zG} {F : Nat → Int32} {I : Nat → Nat → Int32} {J : Nat → Nat → Int64} {nm : Nat → Nat}
theorem m_rootOf_loop {P : Int32 → zM → Prop} {u L : Nat} {q : Nat → Nat} {R : Nat → Prop} {B dp : Nat → Nat} (h : mQ g F I) (hu : u < gn g) (hf : mfl g (Tr g) u 11 L q R B dp I) (hR : ∀ x, R x ↔ cn (gm g) (ga g) (gb g) (Tr g) u x) (hN : ∀ k, k < gn g → I 0 k = nI (nm k) ∧ nm k < 2147483648)
    (hP : ∀ r, isRt g nm u r → P (nI r) (F, I, J)) :
    ∀ d i (x : Int32), i + d = gn g → ((x = -1 ∧ ∀ j, j < i → ¬ R j) ∨ ∃ r, r < i ∧ x = nI r ∧ R r ∧ ∀ j, j < i → R j → nm j < nm r ∨ (nm j = nm r ∧ r ≤ j)) → AW m_X7_rootOf (z_pi P) 10 [some (.ref 0), none, some (.int x), some (.int (nI i))] [] (F, I, J) := by
  have hn := h.1.1
  intro d
  induction d with
  | zero =>
    intro i x hd hi
    refine r_X7_rootOf_10 _ _ F I J ?_
    rw [h.2.1, nLe (by omega) (by omega)]
    refine ⟨fun _ => ?_, fun z => absurd (show gn g ≤ i by omega) z⟩
    rcases hi with ⟨-, z⟩ | ⟨r, z1, z2, z3, z4⟩
    · exact absurd ((hR u).mpr (cn_refl u)) (z u (by omega))
    · rw [z2]
      exact hP r ⟨by omega, (hR r).mp z3, fun k hk hc => z4 k (by omega) ((hR k).mpr hc)⟩
  | succ d ih =>
    intro i x hd hi
    have b1 : vp_in (nI i) 100 := nIn (by omega) (by omega)
    obtain ⟨n1', n2'⟩ := hN i (by omega)
    refine r_X7_rootOf_10 _ _ F I J ?_
    rw [h.2.1, nLe (by omega) (by omega), zN (show i < 2147483648 by omega), nI_1, n1']
    refine ⟨fun z => absurd z (by omega), fun _ => ⟨b1, fun z => ?_, fun z => ?_⟩⟩
    · have hnR : ¬ R i := fun z2 => by rw [(hf.2.2.2.2 i (by omega)).1 z2] at z; exact absurd z (by decide)
      refine ih (i + 1) x (by omega) ?_
      rcases hi with ⟨z1, z2⟩ | ⟨r, z1, z2, z3, z4⟩
      · refine Or.inl ⟨z1, fun j hj => ?_⟩
        rcases Nat.lt_or_ge j i with w | w
        · exact z2 j w
        · rw [show j = i by omega]; exact hnR
      · refine Or.inr ⟨r, by omega, z2, z3, fun j hj hRj => ?_⟩
        rcases Nat.lt_or_ge j i with w | w
        · exact z4 j w hRj
        · rw [show j = i by omega] at hRj; exact absurd hRj hnR
    · have hRi : R i := Classical.byContradiction fun z2 => z ((hf.2.2.2.2 i (by omega)).2 z2)
      rcases hi with ⟨z1, z2⟩ | ⟨r, z1, z2, z3, z4⟩
      · refine ⟨fun _ => ih (i + 1) _ (by omega) (Or.inr ⟨i, by omega, rfl, hRi, fun j hj hRj => ?_⟩), fun z3 => absurd z1 z3⟩
        rcases Nat.lt_or_ge j i with w | w
        · exact absurd hRj (z2 j w)
        · rw [show j = i by omega]; omega
      · obtain ⟨n3', n4'⟩ := hN r (by omega)
        rw [z2, nNe (by omega), zN (show r < 2147483648 by omega), n3', nLe n2' n4']
        refine ⟨fun z => z.elim, fun _ => ⟨b1, nIn (by omega) (by omega), fun z5 => ih (i + 1) _ (by omega) (Or.inr ⟨r, by omega, rfl, z3, fun j hj hRj => ?_⟩), fun z5 => ih (i + 1) _ (by omega) (Or.inr ⟨i, by omega, rfl, hRi, fun j hj hRj => ?_⟩)⟩⟩
        · rcases Nat.lt_or_ge j i with w | w
          · exact z4 j w hRj
          · rw [show j = i by omega]; omega
        · rcases Nat.lt_or_ge j i with w | w
          · have := z4 j w hRj; omega
          · rw [show j = i by omega]; omega
theorem m_rootOf {P : Int32 → zM → Prop} (h : mQ g F I) (hN : ∀ k, k < gn g → I 0 k = nI (nm k) ∧ nm k < 2147483648) {u : Nat} (hu : u < gn g) (hP : ∀ r I2, isRt g nm u r → mQ g F I2 → frM F I F I2 → I2 12 = I 12 → P (nI r) (F, I2, J)) : AMi m_X7_rootOf [.ref 0, .int (nI u)] (F, I, J) P := by
  refine r_X7_rootOf_0 _ F I J ?_
  refine m_part h hu (fun I2 L q R B dp hf hQ hfr hR hI => ?_)
  exact m_rootOf_loop hQ hu hf hR (fun k hk => by rw [hfr.2 0 (by omega)]; exact hN k hk) (fun r hr => hP r I2 hr hQ hfr (hI 12 (by decide) (by decide) (by decide))) (gn g) 0 (-1) (by omega) (Or.inl ⟨rfl, fun j hj => by omega⟩)
/-- the row 12 says for knots below i who is marked -/
theorem m_marksBelow {P : Int32 → zM → Prop} (h : mQ g F I) (hfo : fo (gm g) (ga g) (gb g) (Tr g)) (hN : ∀ k, k < gn g → I 0 k = nI (nm k) ∧ nm k < 2147483648) {u : Nat} (hu : u < gn g)
    (hP : ∀ r F2 I2, isRt g nm u r → mQ g F2 I2 → frM F I F2 I2 → (∀ k, k < gn g → I2 12 k = zif (blw (gm g) (ga g) (gb g) (Tr g) r u k) 1 0) → P (nI (ctp (blw (gm g) (ga g) (gb g) (Tr g) r u) (gn g))) (F2, I2, J)) : AMi m_X7_marksBelow [.ref 0, .int (nI u)] (F, I, J) P := by
  refine r_X7_marksBelow_0 _ F I J ?_
  have hn := h.1.1
  refine m_rootOf h hN hu (fun r I1 hr hQ1 hfr1 _ => ?_)
  have lp : ∀ d i F2 I2, i + d = gn g → mQ g F2 I2 → frM F I F2 I2 → (∀ k, k < i → I2 12 k = zif (blw (gm g) (ga g) (gb g) (Tr g) r u k) 1 0) →
      AW m_X7_marksBelow (z_pi P) 11 [some (.ref 0), some (.int (nI u)), some (.int (nI r)), some (.int (nI (ctp (blw (gm g) (ga g) (gb g) (Tr g) r u) i))), some (.int (nI i)), none] [] (F2, I2, J) := by
    intro d
    induction d with
    | zero =>
      intro i F2 I2 hd hQ hfr hrow
      refine r_X7_marksBelow_11 _ _ _ _ F2 I2 J ?_
      rw [hQ.2.1, nLe (by omega) (by omega)]
      have hi : i = gn g := by omega
      subst hi
      exact ⟨fun _ => hP r F2 I2 hr hQ hfr hrow, fun z => absurd (Nat.le_refl _) z⟩
    | succ d ih =>
      intro i F2 I2 hd hQ hfr hrow
      have hct := ctp_le (blw (gm g) (ga g) (gb g) (Tr g) r u) i
      refine r_X7_marksBelow_11 _ _ _ _ F2 I2 J ?_
      rw [hQ.2.1, nLe (by omega) (by omega), zN (show i < 2147483648 by omega)]
      refine ⟨fun z => absurd z (by omega), fun _ => ⟨nIn (by omega) (by omega), ?_⟩⟩
      have hfr2 : frM F I F2 (z_ui I2 12 i 0) := frM_trans hfr ⟨fun _ _ => rfl, fun j hj => ui_ne _ _ (by omega)⟩
      have hrow2 : ∀ k, k < i → z_ui I2 12 i 0 12 k = zif (blw (gm g) (ga g) (gb g) (Tr g) r u k) 1 0 := fun k hk => by rw [ui_self, upd_ne _ (by omega)]; exact hrow k hk
      have e0 : z_ui I2 12 i 0 12 i = 0 := by rw [ui_self, upd_self]
      refine m_finds (mQ_fr h hfr2) (show i < gn g by omega) hr.1 (fun I3 hQ3 hfr3 hnc h12 => ?_) (fun F3 I3 l K S hQ3 hfr3 hw hl hF6 hK hS h12 => ?_)
      · refine ⟨fun z => absurd rfl z, fun _ => ?_⟩
        have hnb : ¬ blw (gm g) (ga g) (gb g) (Tr g) r u i := fun ⟨l, K, S, j, hw, _, _⟩ => hnc (isW_all hw)
        rw [nI_1]
        have := ih (i + 1) F2 I3 (by omega) hQ3 (frM_trans hfr2 hfr3) (fun k hk => by
          rw [h12]
          by_cases e : k = i
          · rw [e, e0, zif_neg hnb]
          · exact hrow2 k (by omega))
        rw [show ctp (blw (gm g) (ga g) (gb g) (Tr g) r u) (i + 1) = ctp (blw (gm g) (ga g) (gb g) (Tr g) r u) i from by rw [ctp, zif_neg hnb, Nat.add_zero]] at this
        exact this
      · refine ⟨fun _ => ?_, fun z => absurd z (by decide)⟩
        have lp2 : ∀ d2 j (I4 : Nat → Nat → Int32), j + d2 = l + 1 → (∀ c, c ≠ 12 → I4 c = I3 c) → (∀ k, k < i → I4 12 k = zif (blw (gm g) (ga g) (gb g) (Tr g) r u k) 1 0) → I4 12 i = zif (∃ j2, j2 < j ∧ K j2 = u) 1 0 →
            AW m_X7_marksBelow (z_pi P) 44 [some (.ref 0), some (.int (nI u)), some (.int (nI r)), some (.int (nI (ctp (blw (gm g) (ga g) (gb g) (Tr g) r u) i))), some (.int (nI i)), some (.int (nI j))] [] (F3, I4, J) := by
          intro d2
          induction d2 with
          | zero =>
            intro j I4 hd2 h4 h5 h6
            refine r_X7_marksBelow_44 _ _ _ _ _ F3 I4 J ?_
            rw [hF6, nLe (by omega) (by omega), zN (show i < 2147483648 by omega), h6, nI_1, nI_1]
            have hj : j = l + 1 := by omega
            subst hj
            have hbl : blw (gm g) (ga g) (gb g) (Tr g) r u i ↔ ∃ j2, j2 < l + 1 ∧ K j2 = u := by
              constructor
              · rintro ⟨l2, K2, S2, j2, hw2, hj2, hK2⟩
                obtain ⟨e1, e2, e3⟩ := isW_one hfo _ _ _ _ _ _ _ _ hw2 hw
                exact ⟨j2, by omega, by rw [← e2 j2 hj2]; exact hK2⟩
              · rintro ⟨j2, hj2, hK2⟩
                exact ⟨l, K, S, j2, hw, by omega, hK2⟩
            have hfr4 : frM F I F3 I4 := frM_trans (frM_trans hfr2 hfr3) ⟨fun _ _ => rfl, fun c hc => h4 c (by omega)⟩
            have nxt := ih (i + 1) F3 I4 (by omega) (mQ_fr h hfr4) hfr4 (fun k hk => by
              by_cases e : k = i
              · rw [e, h6]; exact zif_congr hbl.symm _ _
              · exact h5 k (by omega))
            refine ⟨fun _ => ⟨nIn (by omega) (by omega), fun z => ?_, fun z => ?_⟩, fun z => absurd (Nat.le_refl _) z⟩
            · have hnb : ¬ blw (gm g) (ga g) (gb g) (Tr g) r u i := fun z2 => by rw [zif_pos (hbl.mp z2)] at z; exact absurd z (by decide)
              rw [show ctp (blw (gm g) (ga g) (gb g) (Tr g) r u) (i + 1) = ctp (blw (gm g) (ga g) (gb g) (Tr g) r u) i from by rw [ctp, zif_neg hnb, Nat.add_zero]] at nxt
              exact nxt
            · have hb : blw (gm g) (ga g) (gb g) (Tr g) r u i := Classical.byContradiction fun z2 => z (zif_neg (fun z3 => z2 (hbl.mpr z3)) _ _)
              rw [show ctp (blw (gm g) (ga g) (gb g) (Tr g) r u) (i + 1) = ctp (blw (gm g) (ga g) (gb g) (Tr g) r u) i + 1 from by rw [ctp, zif_pos hb]] at nxt
              exact nxt
          | succ d2 ih2 =>
            intro j I4 hd2 h4 h5 h6
            obtain ⟨k1, k2⟩ := hK j (by omega)
            refine r_X7_marksBelow_44 _ _ _ _ _ F3 I4 J ?_
            rw [hF6, nLe (by omega) (by omega), zN (show j < 2147483648 by omega), h4 15 (by decide), k1, nEq (by omega) (by omega), zN (show i < 2147483648 by omega), nI_1 j]
            refine ⟨fun z => absurd z (by omega), fun _ => ⟨nIn (by omega) (by omega), fun z => ?_, fun z => ⟨nIn (by omega) (by omega), ?_⟩⟩⟩
            · refine ih2 (j + 1) I4 (by omega) h4 h5 ?_
              rw [h6]
              refine zif_congr ⟨fun ⟨j2, q1, q2⟩ => ⟨j2, by omega, q2⟩, fun ⟨j2, q1, q2⟩ => ⟨j2, ?_, q2⟩⟩ _ _
              rcases Nat.lt_or_ge j2 j with w | w
              · exact w
              · rw [show j2 = j by omega] at q2; exact absurd q2 z
            · refine ih2 (j + 1) _ (by omega) (fun c hc => by rw [ui_ne _ _ hc]; exact h4 c hc) (fun k hk => by rw [ui_self, upd_ne _ (by omega)]; exact h5 k hk) ?_
              rw [ui_self, upd_self, zif_pos ⟨j, by omega, z⟩]
        refine lp2 (l + 1) 0 I3 (by omega) (fun _ _ => rfl) (fun k hk => by rw [h12]; exact hrow2 k hk) ?_
        rw [h12, e0, zif_neg (fun ⟨j2, q, _⟩ => by omega)]
  exact lp (gn g) 0 F I1 (by omega) hQ1 hfr1 (fun k hk => by omega)
theorem c_addOnTrack {P : Int32 → zM → Prop} {l : Nat} {K : Nat → Nat} (v : Int64) (hl : l < 100) (hF : F 8 = nI l) (hK : ∀ i, i ≤ l → I 16 i = nI (K i) ∧ K i < 100) (hi : ∀ i j, i ≤ l → j ≤ l → K i = K j → i = j)
    (hP : ∀ J2 : Nat → Nat → Int64, (∀ j, j ≠ 0 → J2 j = J j) → (∀ k, J2 0 k = zif (∃ i, i ≤ l ∧ K i = k) (J 0 k + v) (J 0 k)) → P (nI (l + 1)) (F, I, J2)) : AMi m_X6_addOnTrack [.ref 0, .long v] (F, I, J) P := by
  refine r_X6_addOnTrack_0 _ F I J ?_
  have lp : ∀ d i (J2 : Nat → Nat → Int64), i + d = l + 1 → (∀ j, j ≠ 0 → J2 j = J j) → (∀ k, J2 0 k = zif (∃ j, j < i ∧ K j = k) (J 0 k + v) (J 0 k)) → AW m_X6_addOnTrack (z_pi P) 2 [some (.ref 0), some (.long v), none, some (.int (nI i))] [] (F, I, J2) := by
    intro d
    induction d with
    | zero =>
      intro i J2 hd h1 h2
      refine r_X6_addOnTrack_2 _ _ F I J2 ?_
      rw [hF, nLt (by omega) (by omega), nI_1]
      refine ⟨fun _ => hP J2 h1 (fun k => by rw [h2 k]; exact zif_congr ⟨fun ⟨j, q1, q2⟩ => ⟨j, by omega, q2⟩, fun ⟨j, q1, q2⟩ => ⟨j, by omega, q2⟩⟩ _ _), fun z => absurd (show l < i by omega) z⟩
    | succ d ih =>
      intro i J2 hd h1 h2
      obtain ⟨k1, k2⟩ := hK i (by omega)
      refine r_X6_addOnTrack_2 _ _ F I J2 ?_
      have b1 : vp_in (nI (K i)) 100 := nIn k2 (by omega)
      rw [hF, nLt (by omega) (by omega), zN (show i < 2147483648 by omega), k1, zN (show K i < 2147483648 by omega), nI_1 i]
      refine ⟨fun z => absurd z (by omega), fun _ => ⟨nIn (by omega) (by omega), b1, b1, ?_⟩⟩
      refine ih (i + 1) _ (by omega) (fun j hj => by rw [ul_ne _ _ hj]; exact h1 j hj) (fun k => ?_)
      rw [ul_self]
      by_cases e : k = K i
      · rw [e, updL_self, h2, zif_neg, zif_pos ⟨i, by omega, rfl⟩]
        rintro ⟨j, q1, q2⟩
        have := hi j i (by omega) (by omega) q2
        omega
      · rw [updL_ne _ e, h2 k]
        refine zif_congr ⟨fun ⟨j, q1, q2⟩ => ⟨j, by omega, q2⟩, fun ⟨j, q1, q2⟩ => ⟨j, ?_, q2⟩⟩ _ _
        rcases Nat.lt_or_ge j i with w | w
        · exact w
        · rw [show j = i by omega] at q2; exact absurd q2.symm e
  exact lp (l + 1) 0 J (by omega) (fun _ _ => rfl) (fun k => by rw [zif_neg (fun ⟨j, q, _⟩ => by omega)])
theorem c_addOnFlood {P : Int32 → zM → Prop} {L : Nat} {q : Nat → Nat} (v : Int64) (hL : L ≤ 100) (hF : F 6 = nI L) (hq : ∀ i, i < L → I 8 i = nI (q i) ∧ q i < 100) (hi : ∀ i j, i < L → j < L → q i = q j → i = j)
    (hP : ∀ J2 : Nat → Nat → Int64, (∀ j, j ≠ 0 → J2 j = J j) → (∀ k, J2 0 k = zif (∃ i, i < L ∧ q i = k) (J 0 k + v) (J 0 k)) → P (nI L) (F, I, J2)) : AMi m_X6_addOnFlood [.ref 0, .long v] (F, I, J) P := by
  refine r_X6_addOnFlood_0 _ F I J ?_
  have lp : ∀ d i (J2 : Nat → Nat → Int64), i + d = L → (∀ j, j ≠ 0 → J2 j = J j) → (∀ k, J2 0 k = zif (∃ j, j < i ∧ q j = k) (J 0 k + v) (J 0 k)) → AW m_X6_addOnFlood (z_pi P) 2 [some (.ref 0), some (.long v), none, some (.int (nI i))] [] (F, I, J2) := by
    intro d
    induction d with
    | zero =>
      intro i J2 hd h1 h2
      refine r_X6_addOnFlood_2 _ _ F I J2 ?_
      rw [hF, nLe (by omega) (by omega)]
      have e : i = L := by omega
      subst e
      exact ⟨fun _ => hP J2 h1 h2, fun z => absurd (Nat.le_refl _) z⟩
    | succ d ih =>
      intro i J2 hd h1 h2
      obtain ⟨k1, k2⟩ := hq i (by omega)
      refine r_X6_addOnFlood_2 _ _ F I J2 ?_
      have b1 : vp_in (nI (q i)) 100 := nIn k2 (by omega)
      rw [hF, nLe (by omega) (by omega), zN (show i < 2147483648 by omega), k1, zN (show q i < 2147483648 by omega), nI_1]
      refine ⟨fun z => absurd z (by omega), fun _ => ⟨nIn (by omega) (by omega), b1, b1, ?_⟩⟩
      refine ih (i + 1) _ (by omega) (fun j hj => by rw [ul_ne _ _ hj]; exact h1 j hj) (fun k => ?_)
      rw [ul_self]
      by_cases e : k = q i
      · rw [e, updL_self, h2, zif_neg, zif_pos ⟨i, by omega, rfl⟩]
        rintro ⟨j, q1, q2⟩
        have := hi j i (by omega) (by omega) q2
        omega
      · rw [updL_ne _ e, h2 k]
        refine zif_congr ⟨fun ⟨j, q1, q2⟩ => ⟨j, by omega, q2⟩, fun ⟨j, q1, q2⟩ => ⟨j, ?_, q2⟩⟩ _ _
        rcases Nat.lt_or_ge j i with w | w
        · exact w
        · rw [show j = i by omega] at q2; exact absurd q2.symm e
  exact lp L 0 J (by omega) (fun _ _ => rfl) (fun k => by rw [zif_neg (fun ⟨j, q, _⟩ => by omega)])
/-- the first knot of u's way that v's way has too: at place i of u's way -/
def meetAt (m : Nat) (a b : Nat → Nat) (T : Nat → Prop) (r u v x : Nat) : Prop :=
  ∃ lu Ku Su lv Kv Sv i j, isW m a b T u r lu Ku Su ∧ isW m a b T v r lv Kv Sv ∧ i ≤ lu ∧ j ≤ lv ∧ Ku i = x ∧ Kv j = x ∧ ∀ i2 j2, i2 ≤ lu → j2 ≤ lv → Ku i2 = Kv j2 → i ≤ i2 ∧ j ≤ j2
theorem meetAt_one {m : Nat} {a b : Nat → Nat} {T : Nat → Prop} (hf : fo m a b T) {r u v x y : Nat} (h : meetAt m a b T r u v x) (h2 : meetAt m a b T r u v y) : x = y := by
  obtain ⟨lu, Ku, Su, lv, Kv, Sv, i, j, w1, w2, q1, q2, q3, q4, q5⟩ := h
  obtain ⟨lu', Ku', Su', lv', Kv', Sv', i', j', w1', w2', q1', q2', q3', q4', q5'⟩ := h2
  obtain ⟨e1, e2, -⟩ := isW_one hf _ _ _ _ _ _ _ _ w1 w1'
  obtain ⟨f1, f2, -⟩ := isW_one hf _ _ _ _ _ _ _ _ w2 w2'
  subst e1; subst f1
  have a1 := q5 i' j' q1' q2' (by rw [e2 i' q1', f2 j' q2', q3', q4'])
  have a2 := q5' i j q1 q2 (by rw [← e2 i q1, ← f2 j q2, q3, q4])
  have : i = i' := by omega
  subst this
  rw [← q3, ← q3', e2 i q1]
theorem c_meet_loop {P : Int32 → zM → Prop} {r L : Nat} {q : Nat → Nat} {R : Nat → Prop} {B dp : Nat → Nat} (h : cQ g F I) (hf : ffl g (Tr g) r 6 8 9 10 11 L q R B dp F I) {u v : Nat} (hu : R u) (hv : R v)
    (hP : ∀ x, meetAt (gm g) (ga g) (gb g) (Tr g) r u v x → P (nI x) (F, I, J)) :
    ∀ d i j, dp u + dp v ≤ i + j + d → i ≤ dp u → j ≤ dp v → (∀ i2 j2, i2 ≤ dp u → j2 ≤ dp v → bk (ga g) (gb g) B u i2 = bk (ga g) (gb g) B v j2 → i ≤ i2 ∧ j ≤ j2) →
      AW m_X6_meet (z_pi P) 46 [some (.ref 0), none, none, some (.int (nI (bk (ga g) (gb g) B u i))), some (.int (nI (bk (ga g) (gb g) B v j))), some (.int (nI (i + j)))] [] (F, I, J) := by
  have hn := h.1.1
  have hdu := bf_dp_lt hf.1 hu
  have hdv := bf_dp_lt hf.1 hv
  have hwu := bf_way hf.1 hu
  have hwv := bf_way hf.1 hv
  have fin : ∀ i j, i ≤ dp u → j ≤ dp v → bk (ga g) (gb g) B u i = bk (ga g) (gb g) B v j → (∀ i2 j2, i2 ≤ dp u → j2 ≤ dp v → bk (ga g) (gb g) B u i2 = bk (ga g) (gb g) B v j2 → i ≤ i2 ∧ j ≤ j2) → P (nI (bk (ga g) (gb g) B u i)) (F, I, J) := fun i j h1 h2 h3 h4 => hP _ ⟨_, _, _, _, _, _, i, j, hwu, hwv, h1, h2, rfl, h3.symm, h4⟩
  intro d
  induction d with
  | zero =>
    intro i j hd hi hj hinv
    obtain ⟨gu, du⟩ := bf_back hf.1 hu i hi
    obtain ⟨gv', dv⟩ := bf_back hf.1 hv j hj
    have e : bk (ga g) (gb g) B u i = bk (ga g) (gb g) B v j := by
      rw [show i = dp u by omega, show j = dp v by omega, hwu.2.1, hwv.2.1]
    refine r_X6_meet_46 _ _ _ F I J ⟨fun _ => fin i j hi hj e hinv, fun z => absurd (by rw [e]) z⟩
  | succ d ih =>
    intro i j hd hi hj hinv
    obtain ⟨gu, du⟩ := bf_back hf.1 hu i hi
    obtain ⟨gv', dv⟩ := bf_back hf.1 hv j hj
    have hun := bf_R hf.1 gu
    have hvn := bf_R hf.1 gv'
    have hdxu := bf_dp_lt hf.1 gu
    have hdxv := bf_dp_lt hf.1 gv'
    refine r_X6_meet_46 _ _ _ F I J ?_
    rw [nEq (by omega) (by omega), show (200 : Int32) = nI 200 from rfl, nLe (by omega) (by omega), zN (show bk (ga g) (gb g) B u i < 2147483648 by omega), zN (show bk (ga g) (gb g) B v j < 2147483648 by omega), hf.2.2.2.2.2.1 _ gu, hf.2.2.2.2.2.1 _ gv', nLt (by omega) (by omega), nI_1]
    refine ⟨fun e => fin i j hi hj e hinv, fun hne => ⟨fun z => by omega, fun _ => ⟨nIn (by omega) (by omega), nIn (by omega) (by omega), fun z => ?_, fun z => ?_⟩⟩⟩
    · refine c_before h.1 h.2.2.2.1 hf gv' (fun z2 => ?_) (fun _ => ?_)
      · rw [z2, hf.1.2.2.2.2.2.2.1] at z; omega
      · refine ih i (j + 1) (by omega) hi (by omega) (fun i2 j2 q1 q2 q3 => ?_)
        obtain ⟨p1, p2⟩ := hinv i2 j2 q1 q2 q3
        refine ⟨p1, ?_⟩
        rcases Nat.lt_or_ge j j2 with w | w
        · exact w
        · have e : j2 = j := by omega
          subst e
          have d2 := (bf_back hf.1 hu i2 q1).2
          rw [q3] at d2
          omega
    · refine c_before h.1 h.2.2.2.1 hf gu (fun z2 => ?_) (fun _ => ?_)
      · rw [z2, hf.1.2.2.2.2.2.2.1] at z
        have hj2 : j = dp v := by omega
        refine absurd ?_ hne
        rw [z2, hj2, hwv.2.1]
      · rw [show i + j + 1 = i + 1 + j by omega]
        have hi2 : i < dp u := by
          rcases Nat.lt_or_ge i (dp u) with w | w
          · exact w
          · exfalso
            have e1 : i = dp u := by omega
            have e2 : j = dp v := by omega
            exact hne (by rw [e1, e2, hwu.2.1, hwv.2.1])
        refine ih (i + 1) j (by omega) (by omega) hj (fun i2 j2 q1 q2 q3 => ?_)
        obtain ⟨p1, p2⟩ := hinv i2 j2 q1 q2 q3
        refine ⟨?_, p2⟩
        rcases Nat.lt_or_ge i i2 with w | w
        · exact w
        · exfalso
          have e : i2 = i := by omega
          subst e
          have d2 := (bf_back hf.1 hv j2 q2).2
          rw [← q3] at d2
          have e3 : j2 = j := by omega
          subst e3
          exact hne q3
end
