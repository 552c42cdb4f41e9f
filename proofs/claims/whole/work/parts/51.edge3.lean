/-! edge() of the class and of the reference -/
section
variable {g : zG} {F : Nat → Int32} {I : Nat → Nat → Int32} {J : Nat → Nat → Int64}
theorem cQ_how {s2 : Nat → Nat} {I2 : Nat → Nat → Int32} (h : cQ g F I) (hI : ∀ c, c ≠ 3 → I2 c = I c) (hs : ∀ e, e < gm g → I2 3 e = nI (s2 e) ∧ s2 e < 3) : cQ (gSV g s2 (gv g)) F I2 := by
  obtain ⟨a1, a2, a3, a4, a5, a6, a7⟩ := h
  refine ⟨⟨a1.1, a1.2.1, fun e he => ⟨(a1.2.2 e he).1, (a1.2.2 e he).2.1, (a1.2.2 e he).2.2.1, (hs e he).2, (a1.2.2 e he).2.2.2.2⟩⟩, a2, a3, fun e he => ?_, ?_, fcl_eq a6 rfl (hI 8 (by decide)) (hI 11 (by decide)), fcl_eq a7 rfl (hI 12 (by decide)) (hI 15 (by decide))⟩
  · show I2 1 e = nI (ga g e) ∧ I2 2 e = nI (gb g e) ∧ I2 3 e = nI (s2 e) ∧ I2 4 e = nI (gv g e)
    rw [hI 1 (by decide), hI 2 (by decide), hI 4 (by decide)]
    exact ⟨(a4 e he).1, (a4 e he).2.1, (hs e he).1, (a4 e he).2.2.2⟩
  · show gC g I2
    unfold gC
    rw [hI 5 (by decide), hI 6 (by decide)]
    exact a5
theorem mQ_how {s2 : Nat → Nat} {I2 : Nat → Nat → Int32} (h : mQ g F I) (hI : ∀ c, c ≠ 3 → I2 c = I c) (hs : ∀ e, e < gm g → I2 3 e = nI (s2 e) ∧ s2 e < 3) : mQ (gSV g s2 (gv g)) F I2 := by
  obtain ⟨a1, a2, a3, a4⟩ := h
  refine ⟨⟨a1.1, a1.2.1, fun e he => ⟨(a1.2.2 e he).1, (a1.2.2 e he).2.1, (a1.2.2 e he).2.2.1, (hs e he).2, (a1.2.2 e he).2.2.2.2⟩⟩, a2, a3, fun e he => ?_⟩
  show I2 1 e = nI (ga g e) ∧ I2 2 e = nI (gb g e) ∧ I2 3 e = nI (s2 e) ∧ I2 4 e = nI (gv g e)
  rw [hI 1 (by decide), hI 2 (by decide), hI 4 (by decide)]
  exact ⟨(a4 e he).1, (a4 e he).2.1, (hs e he).1, (a4 e he).2.2.2⟩
theorem how1 {m st0 st : Nat} {s : Nat → Nat} {r : Nat → Int32} (hr : ∀ e, e < m + 1 → r e = nI (un s m st0 e)) (hs : ∀ e, e < m → s e < 3) (hst : st < 3) : ∀ e, e < m + 1 → upd r m (nI st) e = nI (un s m st e) ∧ un s m st e < 3 := by
  intro e he
  by_cases e1 : e = m
  · rw [e1, upd_self, un_self]; exact ⟨rfl, hst⟩
  · have := hr e he
    rw [un_ne _ _ e1] at this
    rw [upd_ne _ e1, un_ne _ _ e1]
    exact ⟨this, hs e (by omega)⟩
theorem how2 {m st0 d : Nat} {s : Nat → Nat} {r : Nat → Int32} (hr : ∀ e, e < m + 1 → r e = nI (un s m st0 e)) (hs : ∀ e, e < m → s e < 3) : ∀ e, e < m + 1 → upd (upd r d 2) m 1 e = nI (un (un s d 2) m 1 e) ∧ un (un s d 2) m 1 e < 3 := by
  intro e he
  by_cases e1 : e = m
  · rw [e1, upd_self, un_self]; exact ⟨rfl, by omega⟩
  · rw [upd_ne _ e1, un_ne _ _ e1]
    by_cases e2 : e = d
    · rw [e2, upd_self, un_self]; exact ⟨rfl, by omega⟩
    · have := hr e he
      rw [un_ne _ _ e1] at this
      rw [upd_ne _ e2, un_ne _ _ e2]
      exact ⟨this, hs e (by omega)⟩
theorem c_displace {P : Int32 → zM → Prop} {l e d : Nat} {S : Nat → Nat} (hl : l ≤ 100) (h8 : F 8 = nI l) (hS : ∀ i, i < l → I 17 i = nI (S i) ∧ S i < 300) (he : e < 300) (hd : hvs (J 1) S l = some d)
    (h1 : hv (J 1) d e → P (nI d) (F, z_ui (z_ui I 3 d 2) 3 e 1, J)) (h0 : ¬ hv (J 1) d e → P (-1) (F, I, J)) : AMi m_X6_displaceHeavier [.ref 0, .int (nI e)] (F, I, J) P := by
  refine r_X6_displaceHeavier_0 _ F I J (c_heaviestOf hl h8 hS ?_)
  rw [hd]
  obtain ⟨i, hi, hSi⟩ := hvs_mem _ _ _ _ hd
  have hd3 : d < 300 := by rw [← hSi]; exact (hS i hi).2
  refine ⟨fun z => ?_, fun _ => c_isHeavier hd3 he (fun q => ⟨fun _ => ⟨nIn hd3 (by omega), nIn he (by omega), ?_⟩, fun z => absurd z (by decide)⟩) (fun q => ⟨fun z => absurd rfl z, fun _ => h0 q⟩)⟩
  · have z2 : nI d = -1 := z
    rw [nNe (by omega)] at z2; exact z2.elim
  · have e1 : zn (oI (some d)) = d := zN (by omega)
    rw [e1, zN (show e < 2147483648 by omega)]
    exact h1 q
theorem c_edge_tail {P : zM → Prop} {a b o u : Nat} {w : Int64} {F3 : Nat → Int32} {I3 : Nat → Nat → Int32} {s2 : Nat → Nat} {oo : Option Nat} (ho : o < 20) (hu : u ≤ 20) (h13 : F 13 = nI o) (h14 : F 14 = nI u) (hQ2 : cQ (gA2 g a b s2) F3 I3) (fF : ∀ c, (c < 4 ∨ c = 5 ∨ 12 < c) → F3 c = F c) (fI : ∀ c, (c = 0 ∨ c = 7 ∨ 22 < c) → I3 c = I c)
    (hgo : ∀ F4 I4 J4 o2 f u1, cQ (gA2 g a b s2) F4 I4 → (∀ c, (c < 4 ∨ c = 5 ∨ 14 < c) → F4 c = F c) → (∀ c, (c = 0 ∨ c = 7) → I4 c = I c) → (∀ c, c ≠ 1 → c ≠ 2 → J4 c = J c) → J4 1 = vp_updL (J 1) (gm g) w → u = u1 + f → u1 < 20 → (f = 0 ∨ (f = 1 ∧ u = 20)) → o2 < 20 → F4 13 = nI o2 → F4 14 = nI (u1 + 1) → (∀ j, j < u1 → eEq I J ((o + (j + f)) % 20) I4 J4 ((o2 + j) % 20)) → I4 23 ((o2 + u1) % 20) = 4 → I4 24 ((o2 + u1) % 20) = oI oo → I4 25 ((o2 + u1) % 20) = -1 → J4 2 ((o2 + u1) % 20) = 0 → P (F4, I4, J4)) :
    AMv m_X3_note [.ref 31, .int 4, .int (oI oo), .int (-1), .long 0] (F3, I3, z_ul J 1 (gm g) w) P := by
  refine c_note ho hu (by rw [fF 13 (by omega)]; exact h13) (by rw [fF 14 (by omega)]; exact h14) (fun F4 I4 J4 o2 f u1 c1 c2 c3 c4 f13 f14 cF cI cJ c5 e1 e2 e3 e4 => hgo F4 I4 J4 o2 f u1 (cQ_note hQ2 cF cI) (fun c hc => by rw [cF c (by omega) (by omega), fF c (by omega)]) (fun c hc => by rw [cI c (by omega), fI c (by omega)]) (fun c c1 c2 => by rw [cJ c c2, ul_ne _ _ c1]) (by rw [cJ 1 (by decide), ul_self]) c1 c2 c3 c4 f13 f14 (fun j hj => ?_) e1 e2 e3 e4)
  obtain ⟨q1, q2, q3, q4⟩ := c5 j hj
  exact ⟨by rw [q1, fI 23 (by omega)], by rw [q2, fI 24 (by omega)], by rw [q3, fI 25 (by omega)], by rw [q4, ul_ne _ _ (by decide)]⟩
theorem c_edge {P : Int32 → zM → Prop} {x y : Int32} {w : Int64} {kd o u : Nat} (h : cQ g F I) (hkd : kd < 3) (h2 : F 2 = nI kd) (ho : o < 20) (hu : u ≤ 20) (h13 : F 13 = nI o) (h14 : F 14 = nI u)
    (hbad : ((∀ a, a < gn g → x ≠ nI a) ∨ (∀ b, b < gn g → y ≠ nI b) ∨ x = y) → P (-2) (F, I, J))
    (hfull : ∀ a b, a < gn g → b < gn g → x = nI a → y = nI b → a ≠ b → gm g = 300 → P (-4) (F, I, J))
    (hst : ∀ a b F2 I2, a < gn g → b < gn g → x = nI a → y = nI b → a ≠ b → gm g < 300 → kd = 0 → cn (gm g) (ga g) (gb g) (Tr g) a b → cQ g F2 I2 → frC F I F2 I2 → P (-3) (F2, I2, J))
    (hgo : ∀ a b oo s2, a < gn g → b < gn g → x = nI a → y = nI b → a ≠ b → gm g < 300 → eNew g (vp_updL (J 1) (gm g) w) kd a b oo s2 → ∀ F4 I4 J4 o2 f u1, cQ (gA2 g a b s2) F4 I4 → (∀ c, (c < 4 ∨ c = 5 ∨ 14 < c) → F4 c = F c) → (∀ c, (c = 0 ∨ c = 7) → I4 c = I c) → (∀ c, c ≠ 1 → c ≠ 2 → J4 c = J c) → J4 1 = vp_updL (J 1) (gm g) w → u = u1 + f → u1 < 20 → (f = 0 ∨ (f = 1 ∧ u = 20)) → o2 < 20 → F4 13 = nI o2 → F4 14 = nI (u1 + 1) → (∀ j, j < u1 → eEq I J ((o + (j + f)) % 20) I4 J4 ((o2 + j) % 20)) → I4 23 ((o2 + u1) % 20) = 4 → I4 24 ((o2 + u1) % 20) = oI oo → I4 25 ((o2 + u1) % 20) = -1 → J4 2 ((o2 + u1) % 20) = 0 → P (nI (gm g)) (F4, I4, J4)) :
    AMi m_X6_edge [.ref 0, .int x, .int y, .long w] (F, I, J) P := by
  have hn := h.1.1
  have hmm := h.1.2.1
  refine r_X6_edge_0 _ _ _ F I J ?_
  refine c_isKnot hn h.2.1 (fun a ha hx => ⟨fun z => absurd z (by decide), fun _ => ?_⟩) (fun hx => ⟨fun _ => hbad (Or.inl hx), fun z => absurd rfl z⟩)
  refine c_isKnot hn h.2.1 (fun b hb hy => ⟨fun z => absurd z (by decide), fun _ => ⟨fun hne => ⟨fun hlt => ?_, fun hge => ?_⟩, fun he => hbad (Or.inr (Or.inr he))⟩⟩) (fun hy => ⟨fun _ => hbad (Or.inr (Or.inl hy)), fun z => absurd rfl z⟩)
  · have hab : a ≠ b := fun z => hne (by rw [hx, hy, z])
    have hm : gm g < 300 := by
      have hlt' : F 4 < 300 := hlt
      rw [h.2.2.1, n300, nLt (by omega) (by omega)] at hlt'
      exact hlt'
    subst hx; subst hy
    refine c_layTrack h (fun hx => hx.elim (fun z => absurd rfl (z a ha)) (fun z => absurd rfl (z b hb))) (fun a2 b2 F2 I2 ha2 hb2 hx hy hno h8 hQ hfr => ⟨fun _ => ?_, fun z => absurd (by decide) z⟩) (fun a2 b2 F2 I2 l K S ha2 hb2 hx hy hw hl h8 hK hS hQ hfr => ⟨fun z => ?_, fun _ => ⟨fun hk => ?_, fun hk => ?_⟩⟩)
    · rw [nEq (by omega) (by omega)] at hx hy
      subst hx; subst hy
      refine r_X6_edge_71 _ _ _ _ F2 I2 J ⟨fun _ => ?_, fun z => absurd rfl z⟩
      refine c_append (st := 1) hQ hm ha hb hab (by omega) w (fun I3 q1 q2 => ⟨fun _ => ?_, fun z => absurd rfl z⟩)
      refine c_edge_tail (F := F) (I := I) (oo := none) (s2 := un (gs g) (gm g) 1) ho hu h13 h14 q1 (fun c hc => by rw [upd_ne _ (by omega)]; exact hfr.1 c (by omega)) (fun c hc => by rw [q2 c (by omega)]; exact hfr.2 c (by omega)) ?_
      exact hgo a b none _ ha hb rfl rfl hab hm (Or.inl ⟨hno, rfl, rfl⟩)
    · rw [nNeg (by omega)] at z; exact z.elim
    · rw [nEq (by omega) (by omega)] at hx hy
      subst hx; subst hy
      have hSm : ∀ i, i < l → S i < gm g := fun i hi => (hw.2.2.1 i hi).1
      have hk2 : ¬ F2 2 = 0 := hk
      rw [hfr.1 2 (by omega), h2, n0, nEq (by omega) (by omega)] at hk2
      refine r_X6_edge_71 _ _ _ _ F2 I2 J ⟨fun z => absurd z (by decide), fun _ => ?_⟩
      refine c_append (st := 2) hQ hm ha hb hab (by omega) w (fun I3 q1 q2 => ⟨fun z => absurd z (by decide), fun _ => ?_⟩)
      have e2 : upd F2 4 (nI (gm g + 1)) 2 = nI kd := by rw [upd_ne _ (by decide), hfr.1 2 (by omega)]; exact h2
      dsimp only
      rw [e2, n2, nEq (by omega) (by omega)]
      refine ⟨fun z => ?_, fun z => ?_⟩
      · refine c_edge_tail (F := F) (I := I) (oo := none) (s2 := un (gs g) (gm g) 2) ho hu h13 h14 q1 (fun c hc => by rw [upd_ne _ (by omega)]; exact hfr.1 c (by omega)) (fun c hc => by rw [q2 c (by omega)]; exact hfr.2 c (by omega)) ?_
        exact hgo a b none _ ha hb rfl rfl hab hm (Or.inr (Or.inl ⟨isW_all hw, by omega, rfl, rfl⟩))
      · have hl0 : l ≠ 0 := fun z => hab (by rw [← hw.1, ← hw.2.1, z])
        obtain ⟨l2, rfl⟩ : ∃ l2, l = l2 + 1 := ⟨l - 1, by omega⟩
        obtain ⟨d, hd⟩ := hvs_some (vp_updL (J 1) (gm g) w) S l2
        have hd2 : hvs (z_ul J 1 (gm g) w 1) S (l2 + 1) = some d := by rw [ul_self]; exact hd
        have hE := q1.2.2.2.1
        have hst3 : ∀ e, e < gm g → gs g e < 3 := fun e he => (h.1.2.2 e he).2.2.2.1
        refine c_displace (l := l2 + 1) (S := S) (d := d) (by omega) (by rw [upd_ne _ (by decide)]; exact h8) (fun i hi => ⟨by rw [q2 17 (by omega)]; exact hS i hi, by have := hSm i hi; omega⟩) hm hd2 (fun q => ?_) (fun q => ?_)
        · rw [ul_self] at q
          refine c_edge_tail (F := F) (I := I) (oo := some d) (s2 := un (un (gs g) d 2) (gm g) 1) ho hu h13 h14 (cQ_how (g := gA g a b 2) q1 (fun c hc => by rw [ui_ne _ _ hc, ui_ne _ _ hc]) (fun e he => ?_)) (fun c hc => by rw [upd_ne _ (by omega)]; exact hfr.1 c (by omega)) (fun c hc => by rw [ui_ne _ _ (by omega), ui_ne _ _ (by omega), q2 c (by omega)]; exact hfr.2 c (by omega)) ?_
          · rw [ui_self, ui_self]
            exact how2 (fun e he => (hE e he).2.2.1) hst3 e he
          · exact hgo a b (some d) _ ha hb rfl rfl hab hm (Or.inr (Or.inr ⟨isW_all hw, z, l2 + 1, K, S, d, hw, hd, Or.inl ⟨q, rfl, rfl⟩⟩))
        · rw [ul_self] at q
          refine c_edge_tail (F := F) (I := I) (oo := none) (s2 := un (gs g) (gm g) 2) ho hu h13 h14 q1 (fun c hc => by rw [upd_ne _ (by omega)]; exact hfr.1 c (by omega)) (fun c hc => by rw [q2 c (by omega)]; exact hfr.2 c (by omega)) ?_
          exact hgo a b none _ ha hb rfl rfl hab hm (Or.inr (Or.inr ⟨isW_all hw, z, l2 + 1, K, S, d, hw, hd, Or.inr ⟨q, rfl, rfl⟩⟩))
    · rw [nEq (by omega) (by omega)] at hx hy
      subst hx; subst hy
      have hk2 : F2 2 = 0 := hk
      rw [hfr.1 2 (by omega), h2, n0, nEq (by omega) (by omega)] at hk2
      exact hst a b F2 I2 ha hb rfl rfl hab hm hk2 (isW_all hw) hQ hfr
  · have hge' : ¬ F 4 < 300 := hge
    rw [h.2.2.1, n300, nLt (by omega) (by omega)] at hge'
    exact hfull a b ha hb hx hy (fun z => hne (by rw [hx, hy, z])) (by omega)
theorem isW_dn {m : Nat} {a b : Nat → Nat} {x y : Nat} {T T2 : Nat → Prop} {u v l : Nat} {K S : Nat → Nat} (hw : isW (m + 1) (un a m x) (un b m y) T2 u v l K S) (hT : ∀ f, f < m + 1 → T2 f → f < m ∧ T f) : isW m a b T u v l K S := by
  refine ⟨hw.1, hw.2.1, fun i hi => ?_, hw.2.2.2⟩
  obtain ⟨s1, s2, s3⟩ := hw.2.2.1 i hi
  obtain ⟨q1, q2⟩ := hT _ s1 s2
  refine ⟨q1, q2, ?_⟩
  unfold jn at s3 ⊢
  rw [un_ne _ _ (by omega), un_ne _ _ (by omega)] at s3
  exact s3
theorem sEq_fr {I1 I3 I4 : Nat → Nat → Int32} {J3 J4 : Nat → Nat → Int64} {i j : Nat} (h : sEq I1 J i I3 J3 j) (h1 : ∀ c, 4 < c → c < 11 → I1 c = I c) (h4 : ∀ c, 4 < c → c < 11 → I4 c = I3 c) (hJ : J4 2 = J3 2) : sEq I J i I4 J4 j := by
  unfold sEq at h ⊢
  rw [h1 5 (by omega) (by omega), h1 6 (by omega) (by omega), h1 7 (by omega) (by omega), h1 8 (by omega) (by omega), h1 9 (by omega) (by omega), h1 10 (by omega) (by omega)] at h
  rw [h4 5 (by omega) (by omega), h4 6 (by omega) (by omega), h4 7 (by omega) (by omega), h4 8 (by omega) (by omega), h4 9 (by omega) (by omega), h4 10 (by omega) (by omega), hJ]
  exact h
theorem sCur_fr {n m : Nat} {F1 : Nat → Int32} {I1 I3 I4 : Nat → Nat → Int32} {J3 J4 : Nat → Nat → Int64} {j : Nat} (h : sCur n m F1 I1 J I3 J3 j) (hF : F1 1 = F 1 ∧ F1 3 = F 3 ∧ F1 4 = F 4) (h1 : I1 0 = I 0 ∧ I1 3 = I 3 ∧ I1 4 = I 4) (h4 : ∀ c, 4 < c → c < 11 → I4 c = I3 c) (hJ : J4 2 = J3 2) : sCur n m F I J I4 J4 j := by
  unfold sCur at h ⊢
  rw [hF.1, hF.2.1, hF.2.2, h1.1, h1.2.1, h1.2.2] at h
  rw [h4 5 (by omega) (by omega), h4 6 (by omega) (by omega), h4 7 (by omega) (by omega), h4 8 (by omega) (by omega), h4 9 (by omega) (by omega), h4 10 (by omega) (by omega), hJ]
  exact h
end
