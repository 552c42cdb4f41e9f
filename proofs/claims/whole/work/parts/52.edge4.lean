/-! edge() of the reference, and the step -/
section
variable {g : zG} {F : Nat → Int32} {I : Nat → Nat → Int32} {J : Nat → Nat → Int64}
theorem m_edge {P : Int32 → zM → Prop} {w : Int64} {kd u a b : Nat} (h : mQ g F I) (hkd : kd < 3) (h2 : F 2 = nI kd) (hu : u ≤ 20) (h5 : F 5 = nI u) (ha : a < gn g) (hb : b < gn g) (hab : a ≠ b) (hm : gm g < 300)
    (hst : ∀ I2, kd = 0 → cn (gm g) (ga g) (gb g) (Tr g) a b → mQ g F I2 → frM F I F I2 → P (-3) (F, I2, J))
    (hgo : ∀ F4 I4 J4 f u1 oo s2, eNew g (vp_updL (J 1) (gm g) w) kd a b oo s2 → mQ (gA2 g a b s2) F4 I4 → (∀ c, c ≠ 1 → c ≠ 5 → c ≠ 6 → F4 c = F c) → F4 5 = nI (u1 + 1) → (∀ c, (c = 0 ∨ 16 < c) → I4 c = I c) → (∀ c, c ≠ 1 → c ≠ 2 → J4 c = J c) → J4 1 = vp_updL (J 1) (gm g) w → u = u1 + f → u1 < 20 → (f = 0 ∨ (f = 1 ∧ u = 20)) → (∀ j, j < u1 → sEq I J (j + f) I4 J4 j) → sCur (gn g) (gm g) F I J I4 J4 u1 → P (nI (gm g)) (F4, I4, J4)) :
    AMi m_X7_edge [.ref 0, .int (nI a), .int (nI b), .long w] (F, I, J) P := by
  have hn := h.1.1
  have hmm := h.1.2.1
  have hst3 : ∀ e, e < gm g → gs g e < 3 := fun e he => (h.1.2.2 e he).2.2.2.1
  /- from the note on -/
  have go : ∀ (x5 : Int32) (I2 : Nat → Nat → Int32), mQ g F I2 → frM F I F I2 → (x5 = 0 → ¬ cn (gm g) (ga g) (gb g) (Tr g) a b) → (¬ x5 = 0 → cn (gm g) (ga g) (gb g) (Tr g) a b ∧ kd ≠ 0) → AW m_X7_edge (z_pi P) 60 [some (.ref 0), some (.int (nI a)), some (.int (nI b)), some (.long w), none, some (.int x5), none, none] [] (F, I2, J) := by
    intro x5 I2 q1 q2 hx0 hx1
    refine r_X7_edge_60 _ _ _ _ F I2 J ?_
    refine m_changes hn hmm hu q1.2.1 q1.2.2.1 h5 (fun I3 J3 f u1 d1 d2 d3 dI dJ d4 d5 => ?_)
    have e1 : upd F 5 (nI (u1 + 1)) 1 = nI (gm g) := by rw [upd_ne _ (by decide)]; exact h.2.2.1
    have e2 : upd F 5 (nI (u1 + 1)) 2 = nI kd := by rw [upd_ne _ (by decide)]; exact h2
    dsimp only
    rw [e1, e2, zN (show gm g < 2147483648 by omega), nI_1]
    have b1 : vp_in (nI (gm g)) 300 := nIn hm (by omega)
    have q3 : mQ g (upd F 5 (nI (u1 + 1))) I3 := mQ_ch q1 dI
    have mb : ∀ st, st < 3 → mQ (gA g a b st) (upd (upd F 5 (nI (u1 + 1))) 1 (nI (gm g + 1))) (z_ui (z_ui (z_ui (z_ui I3 1 (gm g) (nI a)) 2 (gm g) (nI b)) 4 (gm g) 0) 3 (gm g) (nI st)) := fun st hst => by
      refine ⟨gW_app h.1 hm ha hb hab hst, by rw [upd_ne _ (by decide)]; exact q3.2.1, upd_self _ _ _, gE_app q3.2.2.2 ?_ ?_ ?_ ?_⟩
      · rw [ui_ne _ _ (by decide), ui_ne _ _ (by decide), ui_ne _ _ (by decide), ui_self]
      · rw [ui_ne _ _ (by decide), ui_ne _ _ (by decide), ui_self, ui_ne _ _ (by decide)]
      · rw [ui_self, ui_ne _ _ (by decide), ui_ne _ _ (by decide), ui_ne _ _ (by decide)]
      · rw [ui_ne _ _ (by decide), ui_self, ui_ne _ _ (by decide), ui_ne _ _ (by decide)]
    have fin : ∀ F4 I4 oo s2, eNew g (vp_updL (J 1) (gm g) w) kd a b oo s2 → mQ (gA2 g a b s2) F4 I4 → (∀ c, c ≠ 6 → F4 c = upd (upd F 5 (nI (u1 + 1))) 1 (nI (gm g + 1)) c) → (∀ c, (c = 0 ∨ (4 < c ∧ c < 11) ∨ 16 < c) → I4 c = I3 c) → P (nI (gm g)) (F4, I4, z_ul J3 1 (gm g) w) := fun F4 I4 oo s2 z1 z2 z3 z4 => by
      refine hgo F4 I4 _ f u1 oo s2 z1 z2 (fun c c1 c5 c6 => by rw [z3 c c6, upd_ne _ c1, upd_ne _ c5]) (by rw [z3 5 (by decide), upd_ne _ (by decide), upd_self]) (fun c hc => by rw [z4 c (by omega), dI c (by omega), q2.2 c (by omega)]) (fun c c1 c2 => by rw [ul_ne _ _ c1, dJ c c2]) (by rw [ul_self, dJ 1 (by decide)]) d1 d2 d3 (fun j hj => ?_) ?_
      · exact sEq_fr (d4 j hj) (fun c c1 c2 => q2.2 c (by omega)) (fun c c1 c2 => z4 c (by omega)) (ul_ne _ _ (by decide))
      · exact sCur_fr d5 ⟨rfl, rfl, rfl⟩ ⟨q2.2 0 (by omega), q2.2 3 (by omega), q2.2 4 (by omega)⟩ (fun c c1 c2 => z4 c (by omega)) (ul_ne _ _ (by decide))
    have fr0 : ∀ (st : Int32) c, c ≠ 1 → c ≠ 2 → c ≠ 3 → c ≠ 4 → z_ui (z_ui (z_ui (z_ui I3 1 (gm g) (nI a)) 2 (gm g) (nI b)) 4 (gm g) 0) 3 (gm g) st c = I3 c := fun st c c1 c2 c3 c4 => by rw [ui_ne _ _ c3, ui_ne _ _ c4, ui_ne _ _ c2, ui_ne _ _ c1]
    have hb0 := mb 0 (by omega)
    refine ⟨b1, b1, b1, b1, b1, fun z => ⟨fun zk => ?_, fun zk => ⟨b1, ?_⟩⟩, fun z => ⟨b1, ?_⟩⟩
    · rw [n1, nEq (by omega) (by omega)] at zk
      obtain ⟨hc, hk0⟩ := hx1 z
      have hk2 : kd = 2 := by omega
      have tT : ∀ f, f < gm g + 1 → Tr (gA g a b 0) f → f < gm g ∧ Tr g f := fun f hf z => by
        have z2 : un (gs g) (gm g) 0 f = 1 := z
        by_cases e : f = gm g
        · rw [e, un_self] at z2; omega
        · rw [un_ne _ _ e] at z2; exact ⟨by omega, z2⟩
      refine m_finds hb0 ha hb (fun I5 p1 p2 p3 p4 => absurd (cn_up hc (fun f hf q => ?_)) p3) (fun F5 I5 l K S p1 p2 p3 p4 p5 p6 p7 p8 => ?_)
      · show un (gs g) (gm g) 0 f = 1
        rw [un_ne _ _ (by omega)]; exact q
      have hw : isW (gm g) (ga g) (gb g) (Tr g) a b l K S := isW_dn p3 tT
      have hSm : ∀ i, i < l → S i < gm g := fun i hi => (hw.2.2.1 i hi).1
      have p4' : l < gn g := p4
      have hl0 : l ≠ 0 := fun z => hab (by rw [← hw.1, ← hw.2.1, z])
      obtain ⟨l2, rfl⟩ : ∃ l2, l = l2 + 1 := ⟨l - 1, by omega⟩
      obtain ⟨d, hd⟩ := hvs_some (vp_updL (J 1) (gm g) w) S l2
      have hJ1 : z_ul J3 1 (gm g) w 1 = vp_updL (J 1) (gm g) w := by rw [ul_self, dJ 1 (by decide)]
      obtain ⟨i, hi, hSi⟩ := hvs_mem _ _ _ _ hd
      have hdm : d < gm g := by rw [← hSi]; exact hSm i hi
      refine m_heaviestOfWay (l := l2 + 1) (S := S) (by omega) p5 (fun i hi => ⟨p7 i hi, by have := hSm i hi; omega⟩) ?_
      rw [hJ1, hd]
      have hE := p1.2.2.2
      have hsame : ∀ c, (c = 0 ∨ (4 < c ∧ c < 11) ∨ 16 < c) → I5 c = I3 c := fun c hc => by rw [p2.2 c (by omega)]; exact fr0 0 c (by omega) (by omega) (by omega) (by omega)
      refine m_isHeavier (e := d) (f := gm g) (by omega) (by omega) (fun q => ⟨fun z => absurd z (by decide), fun _ => ⟨nIn (show d < 300 by omega) (by omega), b1, ?_⟩⟩) (fun q => ⟨fun _ => ⟨b1, ?_⟩, fun z => absurd rfl z⟩)
      · rw [hJ1] at q
        have e3 : zn (oI (some d)) = d := zN (by omega)
        rw [e3]
        refine fin F5 _ (some d) (un (un (gs g) d 2) (gm g) 1) (Or.inr (Or.inr ⟨hc, hk2, l2 + 1, K, S, d, hw, hd, Or.inl ⟨q, rfl, rfl⟩⟩)) (mQ_how (g := gA g a b 0) p1 (fun c hc => by rw [ui_ne _ _ hc, ui_ne _ _ hc]) (fun e he => ?_)) p2.1 (fun c hc => by rw [ui_ne _ _ (by omega), ui_ne _ _ (by omega)]; exact hsame c hc)
        rw [ui_self, ui_self]
        exact how2 (fun e he => (hE e he).2.2.1) hst3 e he
      · rw [hJ1] at q
        refine fin F5 _ none (un (gs g) (gm g) 2) (Or.inr (Or.inr ⟨hc, hk2, l2 + 1, K, S, d, hw, hd, Or.inr ⟨q, rfl, rfl⟩⟩)) (mQ_how (g := gA g a b 0) p1 (fun c hc => ui_ne _ _ hc) (fun e he => ?_)) p2.1 (fun c hc => by rw [ui_ne _ _ (by omega)]; exact hsame c hc)
        rw [ui_self]
        exact how1 (st := 2) (fun e he => (hE e he).2.2.1) hst3 (by omega) e he
    · rw [n1, nEq (by omega) (by omega)] at zk
      refine fin _ _ none (un (gs g) (gm g) 2) (Or.inr (Or.inl ⟨(hx1 z).1, zk, rfl, rfl⟩)) (mQ_how (g := gA g a b 0) hb0 (fun c hc => ui_ne _ _ hc) (fun e he => ?_)) (fun _ _ => rfl) (fun c hc => by rw [ui_ne _ _ (by omega)]; exact fr0 0 c (by omega) (by omega) (by omega) (by omega))
      rw [ui_self]
      exact how1 (st := 2) (fun e he => (hb0.2.2.2 e he).2.2.1) hst3 (by omega) e he
    · refine fin _ _ none (un (gs g) (gm g) 1) (Or.inl ⟨hx0 z, rfl, rfl⟩) (mQ_how (g := gA g a b 0) hb0 (fun c hc => ui_ne _ _ hc) (fun e he => ?_)) (fun _ _ => rfl) (fun c hc => by rw [ui_ne _ _ (by omega)]; exact fr0 0 c (by omega) (by omega) (by omega) (by omega))
      rw [ui_self]
      exact how1 (st := 1) (fun e he => (hb0.2.2.2 e he).2.2.1) hst3 (by omega) e he
  refine r_X7_edge_0 _ _ _ F I J (m_one_ok h ha (m_one_ok h hb ?_))
  dsimp only
  rw [h.2.2.1, n300, nEq (by omega) (by omega), nEq (by omega) (by omega)]
  refine ⟨fun _ => ⟨fun _ => ?_, fun z => by omega⟩, fun z => absurd z hab⟩
  refine m_isTogether h ha hb (fun I2 q1 q2 hc => ?_) (fun I2 q1 q2 hc => ?_)
  · dsimp only
    rw [h2, n0, nEq (by omega) (by omega)]
    exact ⟨fun hk => go 1 I2 q1 q2 (fun z => absurd z (by decide)) (fun _ => ⟨hc, hk⟩), fun hk => ⟨fun z => absurd z (by decide), fun _ => hst I2 hk hc q1 q2⟩⟩
  · exact ⟨fun hk => go 0 I2 q1 q2 (fun _ => hc) (fun z => absurd rfl z), fun hk => ⟨fun _ => go 0 I2 q1 q2 (fun _ => hc) (fun z => absurd rfl z), fun z => absurd rfl z⟩⟩
end
section
variable {t : Nat} {K : Nat → zK} {u o kd N : Nat} {F : Nat → Int32} {I : Nat → Nat → Int32} {J : Nat → Nat → Int64} {F' : Nat → Int32} {I' : Nat → Nat → Int32} {J' : Nat → Nat → Int64}
theorem s_edge {x y : Int32} {w : Int64} (h : RK t K u o kd N F I J F' I' J') : AMi m_X6_edge [.ref 0, .int x, .int y, .long w] (F, I, J) (fun r C => AMi m_X7_edge [.ref 0, .int x, .int y, .long w] (F', I', J') (fun r' M => r' = r ∧ Rel (t + 1) C M)) := by
  have hc := h.1.1
  have hm := h.2.1.1
  have hn := hc.1.1
  have hmm := hc.1.2.1
  have h3 := h.2.2.1 u (Nat.le_refl _)
  have h4 := h.2.2.2.1
  have h6 := h.2.2.2.2.2.1
  have h7 := h.2.2.2.2.2.2.1
  refine c_edge hc h4.1 h4.2.1 h7.2.2.2.1 h7.2.2.2.2.1 h7.1 h7.2.1 (fun hx => ?_) (fun a b ha hb hx hy hab hg => ?_) (fun a b F2 I2 ha hb hx hy hab hg hk hcn hQ hfr => ?_) (fun a b oo s2 ha hb hx hy hab hg hN F4 I4 J4 o2 f u1 hQ fF fI fJ fJ1 c1 c2 c3 c4 f13 f14 c5 e1 e2 e3 e4 => ?_)
  · refine r_X7_edge_0 _ _ _ F' I' J' ?_
    refine m_isKnot hm.1.1 hm.2.1 (fun a ha hxa => ⟨fun z => absurd z (by decide), fun _ => ?_⟩) (fun _ => ⟨fun _ => ⟨rfl, Rel_0 h⟩, fun z => absurd rfl z⟩)
    refine m_isKnot hm.1.1 hm.2.1 (fun b hb hyb => ⟨fun z => absurd z (by decide), fun _ => ⟨fun hne => ?_, fun _ => ⟨rfl, Rel_0 h⟩⟩⟩) (fun _ => ⟨fun _ => ⟨rfl, Rel_0 h⟩, fun z => absurd rfl z⟩)
    rcases hx with z | z | z
    · exact absurd hxa (z a ha)
    · exact absurd hyb (z b hb)
    · exact absurd z hne
  · subst hx; subst hy
    refine r_X7_edge_0 _ _ _ F' I' J' (m_one_ok hm ha (m_one_ok hm hb ?_))
    dsimp only
    rw [hm.2.2.1, n300, nEq (by omega) (by omega), nEq (by omega) (by omega)]
    exact ⟨fun _ => ⟨fun z => absurd hg z, fun _ => ⟨rfl, Rel_0 h⟩⟩, fun z => absurd z hab⟩
  · subst hx; subst hy
    refine m_edge hm h4.1 h4.2.2 h7.2.2.2.2.1 h7.2.2.1 ha hb hab hg (fun I2' _ _ q1 q2 => ⟨rfl, ?_⟩) (fun F4' I4' J4' f2 u2 oo s2 hN' _ _ _ _ _ _ _ _ _ _ _ => ?_)
    · exact ⟨K, u, o, kd, N, RK_q h hQ hfr q1 q2⟩
    · rcases hN' with ⟨z, -⟩ | ⟨-, z, -⟩ | ⟨-, z, -⟩
      · exact absurd hcn z
      · omega
      · omega
  · subst hx; subst hy
    refine m_edge hm h4.1 h4.2.2 h7.2.2.2.2.1 h7.2.2.1 ha hb hab hg (fun I2' hk hcn _ _ => ?_) (fun F4' I4' J4' f2 u2 oo' s2' hN' hQ' gF g5 gI gJ gJ1 d1 d2 d3 d4 d5 => ⟨rfl, ?_⟩)
    · rcases hN with ⟨z, -⟩ | ⟨-, z, -⟩ | ⟨-, z, -⟩
      · exact absurd hcn z
      · omega
      · omega
    have hwt : ∀ e, e < gm (kg (K u)) + 1 → vp_updL (J' 1) (gm (kg (K u))) w e = vp_updL (J 1) (gm (kg (K u))) w e := fun e he => by
      by_cases e1 : e = gm (kg (K u))
      · rw [e1, updL_self, updL_self]
      · rw [updL_ne _ e1, updL_ne _ e1]; exact h.2.2.2.2.1 e (by omega)
    obtain ⟨eo, es⟩ := eNew_one h3.1.2.1 hwt hN hN'
    subst eo; subst es
    have eu : u2 = u1 := by omega
    refine RK_end (f := f) (u1 := u1) (o2 := o2) (N2 := N) (k2 := (gA2 (kg (K u)) a b s2', kc (K u), km (K u), kr (K u), kv (K u))) h c1 (kI_edge h3.1 hg ha hb hab hN) (Nat.le_succ_of_le h3.2.1) h3.2.2 (Nat.le_refl _) (by omega) ⟨hQ, fun i hi => ⟨?_, ?_⟩, ?_⟩ ⟨hQ', fun i hi => ⟨?_, ?_⟩, ?_, ?_⟩ (fF 2 (by omega)) (gF 2 (by decide) (by decide) (by decide)) (fun e he => ?_) (by rw [fF 1 (by omega)]; exact h6.2.1) (fun i hi hi2 => ?_) f13 f14 (by rw [g5, eu]) ?_ (by rw [gF 7 (by decide) (by decide) (by decide), fF 3 (by omega)]; exact h.2.2.2.2.2.2.2.1) ?_
    · rw [fI 0 (by omega)]; exact (h.1.2.1 i hi).1
    · rw [fJ 0 (by decide) (by decide)]; exact (h.1.2.1 i hi).2
    · show F4 5 = nI (rs (gA2 (kg (K u)) a b s2'))
      rw [rs_A2, fF 5 (by omega)]; exact h.1.2.2
    · rw [gI 0 (by omega)]; exact (h.2.1.2.1 i hi).1
    · rw [gJ 0 (by decide) (by decide)]; exact (h.2.1.2.1 i hi).2
    · show F4' 4 = nI (rs (gA2 (kg (K u)) a b s2'))
      rw [rs_A2, gF 4 (by decide) (by decide) (by decide)]; exact h.2.1.2.2.1
    · rw [gF 3 (by decide) (by decide) (by decide)]; exact h.2.1.2.2.2
    · rw [fJ1, gJ1]; exact hwt e he
    · rw [fI 0 (by omega)]; exact h6.2.2 i hi hi2
    · refine PS_push h7.2.2.2 (fun j hj => (h.2.2.1 j hj).1.1) h.2.1 c1 c2 c3 c4 c5 (fI 7 (by omega)) d1 d2 d3 d4 d5 e1 e2 e3 e4 ?_
      exact Ent_edge hc.1 hN
    · intro s hs
      rw [fF (15 + s) (by omega), fF (21 + s) (by omega), gI 17 (by omega), gI 18 (by omega), gI 19 (by omega), fJ (3 + s) (by omega) (by omega), gJ 3 (by decide) (by decide)]
      exact h.2.2.2.2.2.2.2.2 s hs
end
