def Al (g : zG) (e : Nat) : Prop := gs g e ≠ 0
def gBr (g : zG) (e : Nat) : Prop := gs g e ≠ 0 ∧ ¬ cn (gm g) (ga g) (gb g) (fun f => Al g f ∧ f ≠ e) (ga g e) (gb g e)
def gCu (g : zG) (v : Nat) : Prop := cutK (gm g) (ga g) (gb g) (Al g) v
section
variable {g : zG} {F : Nat → Int32} {I : Nat → Nat → Int32} {J : Nat → Nat → Int64} {tn lo : Nat → Nat} {B : Nat → Option Nat} {np : Nat → Nat} {cu fin : Nat → Prop} {t br cc : Nat}
theorem dI_dF (hI : dI g tn lo B np cu fin t br cc) (hfin : ∀ x, tn x ≠ 0 → fin x) (hall : ∀ k, k < gn g → tn k ≠ 0) (hW : gW g) : dF (gn g) (gm g) (ga g) (gb g) (Al g) tn lo B := by
  obtain ⟨h1, h2, h3, h4, h5, h6, h7, h8, h9, h10, h11⟩ := hI
  refine ⟨fun x y hx hy e => h2 x y (hall x hx) e, fun k hk e hB => ?_, fun x y e he hQ hj => ?_, fun x hx => ?_, fun c hc e hB => h7 c e (hfin c (hall c hc)) hB⟩
  · obtain ⟨g1, g2, p, g3, g4, g5⟩ := h3 k e (hall k hk) hB
    exact ⟨g1, g2, p, (h1 p g4).1, g3, g5⟩
  · have hw := hW.2.2 e he
    have hx : x < gn g := by rcases hj with ⟨q1, q2⟩ | ⟨q1, q2⟩ <;> omega
    obtain ⟨l, l1, l2, l3⟩ := ep_of he hj
    have hxv := hall x hx
    have := h4 x l hxv l1 l2 ((h5 x (hfin x hxv)).2 l l1 l2) (by rw [l3]; exact hQ)
    rw [l3, jn_ot hj] at this
    exact this.2
  · obtain ⟨g1, g2⟩ := h6 x (hall x hx)
    refine ⟨g1, ?_⟩
    rcases g2 with g2 | ⟨z, y, e, w1, w2, w3, w4, w5, w6, w7, w8⟩
    · exact Or.inl g2
    · exact Or.inr ⟨z, y, e, w1, (h1 z w2).1, (h1 y w7).1, w3, w4, w5, w6, w8⟩
theorem dF_gBr (hd : dF (gn g) (gm g) (ga g) (gb g) (Al g) tn lo B) (hW : gW g) {e : Nat} (he : e < gm g) : gBr g e ↔ ∃ k, k < gn g ∧ B k = some e ∧ lo k = tn k := by
  have hab := gab hW
  constructor
  · rintro ⟨h1, h2⟩
    have hw := hab e he
    by_cases q1 : B (ga g e) = some e
    · exact ⟨ga g e, hw.1, q1, (dF_bridge hab hd hw.1 q1).mp h2⟩
    · by_cases q2 : B (gb g e) = some e
      · exact ⟨gb g e, hw.2.1, q2, (dF_bridge hab hd hw.2.1 q2).mp h2⟩
      · exact absurd (dF_nonbridge hab hd he h1 q1 q2) h2
  · rintro ⟨k, hk, hB, hl⟩
    exact ⟨(hd.2.1 k hk e hB).2.1, (dF_bridge hab hd hk hB).mpr hl⟩
/-- what the rows say when all is found -/
def hFd (g : zG) (F : Nat → Int32) (I : Nat → Nat → Int32) : Prop :=
  (∃ tn lo B, dF (gn g) (gm g) (ga g) (gb g) (Al g) tn lo B ∧ ∀ k, k < gn g → I 18 k = nI (tn k) ∧ I 19 k = nI (lo k) ∧ I 20 k = oI (B k) ∧ tn k ≤ 100 ∧ lo k ≤ 100) ∧ (∀ k, k < gn g → (gCu g k → I 22 k = 1) ∧ (¬ gCu g k → I 22 k = 0)) ∧ F 11 = nI (ctp (gBr g) (gm g)) ∧ F 12 = nI (ctp (gCu g) (gn g))
theorem hFd_of (hI : dI g tn lo B np cu fin t br cc) (hM : dM g tn lo B np cu t br cc F I) (hR : dR g tn B cu fin (fun _ => False)) (hfin : ∀ x, tn x ≠ 0 → fin x) (hall : ∀ k, k < gn g → tn k ≠ 0) (hW : gW g) : hFd g F I := by
  have hd := dI_dF hI hfin hall hW
  have hab := gab hW
  obtain ⟨t1, t2, t3⟩ := dI_t hI hW.1
  have cuk : ∀ k, k < gn g → (cu k ↔ gCu g k) := by
    intro k hk
    cases hB : B k with
    | none =>
      rw [hR k (hall k hk) hB id]
      unfold gCu
      rw [dF_cutRoot hab hd hk hB]
      constructor
      · rintro ⟨c, d, q1, q2, q3, q4⟩
        exact ⟨c, d, (hI.1 c (hI.2.2.2.2.1 c q2).1).1, (hI.1 d (hI.2.2.2.2.1 d q3).1).1, q1, q4⟩
      · rintro ⟨c, d, q1, q2, q3, q4⟩
        exact ⟨c, d, q3, hfin c (hall c q1), hfin d (hall d q2), q4⟩
    | some e =>
      rw [hI.2.2.2.2.2.2.2.1 k (hall k hk) (by rw [hB]; exact Option.some_ne_none e)]
      unfold gCu
      rw [dF_cut hab hd hk hB]
      constructor
      · rintro ⟨c, q1, q2⟩
        exact ⟨c, (hI.1 c (hI.2.2.2.2.1 c q1).1).1, q2⟩
      · rintro ⟨c, q1, q2⟩
        exact ⟨c, hfin c (hall c q1), q2⟩
  refine ⟨⟨tn, lo, B, hd, fun k hk => ?_⟩, fun k hk => ?_, ?_, ?_⟩
  · obtain ⟨q1, q2, -⟩ := hM.2.1 k (hall k hk)
    exact ⟨hM.1 k hk, q1, q2, t2 k, t3 k (hall k hk)⟩
  · obtain ⟨-, -, -, q4, q5, -⟩ := hM.2.1 k (hall k hk)
    rw [← cuk k hk]
    exact ⟨q4, q5⟩
  · rw [hM.2.2.2.1, hI.2.2.2.2.2.2.2.2.1]
    congr 1
    refine ctp_congr (fun e he => ?_)
    rw [dF_gBr hd hW he]
    exact ⟨fun ⟨k, q1, q2⟩ => ⟨k, (hI.1 k (hI.2.2.2.2.1 k q1).1).1, q2⟩, fun ⟨k, q1, q2⟩ => ⟨k, hfin k (hall k q1), q2⟩⟩
  · rw [hM.2.2.2.2, hI.2.2.2.2.2.2.2.2.2.1]
    congr 1
    exact ctp_congr (fun k hk => ⟨fun z => (cuk k hk).mp z.2, fun z => ⟨hall k hk, (cuk k hk).mpr z⟩⟩)
theorem c_walkFrom {P : zM → Prop} {W0 : Nat → Prop} {st0 : Nat} (hW : gW g) (hE : gE g I) (hC : gC g I) (hF4 : F 4 = nI (gm g)) (hs0 : st0 < gn g) (hI : dI g tn lo B np cu fin t br cc) (hM : dM g tn lo B np cu t br cc F I) (hR : dR g tn B cu fin (fun _ => False)) (hfin : ∀ x, tn x ≠ 0 → fin x) (hz : tn st0 = 0) (hW0 : ∀ x, W0 x → tn x ≠ 0)
    (hP : ∀ F2 I2 tn lo B np cu fin t br cc, dI g tn lo B np cu fin t br cc → dM g tn lo B np cu t br cc F2 I2 → dR g tn B cu fin (fun _ => False) → frZ F I F2 I2 → tn st0 ≠ 0 → (∀ x, tn x ≠ 0 → fin x) → (∀ x, W0 x → tn x ≠ 0) → P (F2, I2, J)) :
    AMv m_X2_walkFrom [.ref 25, .ref 3, .int (nI st0)] (F, I, J) P := by
  refine r_X2_walkFrom_0 _ F I J ?_
  obtain ⟨hI2, ancs, pars, hR2⟩ := dI_enter hI hs0 hz (be := none) (fun e he => by cases he)
  have hM1 : dM g tn lo B np cu t br cc (upd F 10 0) I := ⟨hM.1, hM.2.1, by rw [upd_ne _ (by decide)]; exact hM.2.2.1, by rw [upd_ne _ (by decide)]; exact hM.2.2.2.1, by rw [upd_ne _ (by decide)]; exact hM.2.2.2.2⟩
  refine c_enter (be := none) hM1 hW hC hs0 hz (fun F2 I2 hM2 hfr2 h10 => ?_)
  have hfr0 : frZ F I F2 I2 := frZ_trans ⟨fun c hc => upd_ne _ (by omega), fun _ _ => rfl⟩ hfr2
  have vis : ∀ x, tn x ≠ 0 → x ≠ st0 := fun x hx q => hx (by rw [q]; exact hz)
  have hfs : ¬ fin st0 := fun q => (hI.2.2.2.2.1 st0 q).1 hz
  refine c_walk_loop (F0 := F) (I0 := I) (W0 := W0) hW hE hC hF4 hs0 hP 800 0 F2 I2 _ _ _ _ _ fin (t + 1) br cc st0 (by omega) ⟨hI2, hM2, ?_, hfr0, by rw [un_self]; omega, un_self _ _ _, fun z => z.1 rfl, hfs, ?_, fun x hx => by rw [un_ne _ _ (vis x (hW0 x hx))]; exact hW0 x hx⟩ ⟨by rw [un_self]; omega, fun x hx => ?_⟩ (Nat.zero_le _)
  · intro v hv hB hex
    exact hR2 _ hR v hv hB (fun z => z.elim hex id)
  · rw [h10, upd_self]
    have : ctp (fun c => fin c ∧ un B st0 none c ≠ none ∧ par (ga g) (gb g) (un B st0 none) c = st0) (gn g) = 0 := by
      have key : ∀ n', ctp (fun c => fin c ∧ un B st0 none c ≠ none ∧ par (ga g) (gb g) (un B st0 none) c = st0) n' = 0 := by
        intro n'
        induction n' with
        | zero => rfl
        | succ n' ih =>
          rw [ctp, ih, zif_neg]
          rintro ⟨z1, z2, z3⟩
          have vc := (hI.2.2.2.2.1 n' z1).1
          rw [pars n' vc] at z3
          exact (dI_par hI vc).1 (by rw [z3]; exact hz)
      exact key _
    rw [this]
    rfl
  · by_cases q : x = st0
    · rw [q]; exact ⟨fun _ => anc_refl _, fun _ => hfs⟩
    · have hx0 : tn x ≠ 0 := by rw [un_ne _ _ q] at hx; exact hx
      exact ⟨fun z => absurd (hfin x hx0) z, fun z => absurd (wS_root z (un_self _ _ _)) q⟩
theorem c_fill {P : zM → Prop} (hP : ∀ I2 : Nat → Nat → Int32, (∀ c, c ≠ 18 → I2 c = I c) → (∀ k, k < 100 → I2 18 k = 0) → P (F, I2, J)) : AMv m_J7_fill_53178 [.ref 26, .int 0] (F, I, J) P := by
  refine r_J7_fill_53178_0 _ F I J ?_
  have lp : ∀ d i (I2 : Nat → Nat → Int32), i + d = 100 → (∀ c, c ≠ 18 → I2 c = I c) → (∀ k, k < i → I2 18 k = 0) → AW m_J7_fill_53178 (z_pv P) 5 [some (.ref 26), some (.int 0), some (.int (nI i)), some (.int 100)] [] (F, I2, J) := by
    intro d
    induction d with
    | zero =>
      intro i I2 hd h1 h2
      refine r_J7_fill_53178_5 _ _ _ F I2 J ?_
      rw [n100, nLe (by omega) (by omega)]
      exact ⟨fun _ => hP I2 h1 (fun k hk => h2 k (by omega)), fun z => absurd (show 100 ≤ i by omega) z⟩
    | succ d ih =>
      intro i I2 hd h1 h2
      refine r_J7_fill_53178_5 _ _ _ F I2 J ?_
      rw [nI_1, zN (show i < 2147483648 by omega), n100, nLe (by omega) (by omega)]
      refine ⟨fun z => absurd z (by omega), fun _ => ⟨nIn (by omega) (by omega), ?_⟩⟩
      refine ih (i + 1) _ (by omega) (fun c hc => by rw [ui_ne _ _ hc]; exact h1 c hc) (fun k hk => ?_)
      rw [ui_self]
      by_cases q : k = i
      · rw [q, upd_self]
      · rw [upd_ne _ q]; exact h2 k (by omega)
  exact lp 100 0 I (by omega) (fun _ _ => rfl) (fun k hk => by omega)
/-- Hinges.find -/
theorem c_find {P : zM → Prop} (h : cQ g F I) (hP : ∀ F2 I2, hFd g F2 I2 → cQ g F2 I2 → frC F I F2 I2 → P (F2, I2, J)) : AMv m_X2_find [.ref 25, .ref 3, .int (nI (gn g))] (F, I, J) P := by
  have hW := h.1
  have hn := hW.1
  refine r_X2_find_0 _ F I J ?_
  refine c_fill (fun I1 h1 h18 => ?_)
  have hE : gE g I1 := fun e he => by rw [h1 1 (by decide), h1 2 (by decide), h1 3 (by decide), h1 4 (by decide)]; exact h.2.2.2.1 e he
  have hC : gC g I1 := by unfold gC; rw [h1 5 (by decide), h1 6 (by decide)]; exact h.2.2.2.2.1
  have hfr1 : frZ F I (upd (upd (upd F 9 0) 11 0) 12 0) I1 := ⟨fun c hc => by rw [upd_ne _ (by omega), upd_ne _ (by omega), upd_ne _ (by omega)], fun c hc => h1 c (by omega)⟩
  have h4 : (upd (upd (upd F 9 0) 11 0) 12 0) 4 = nI (gm g) := by rw [hfr1.1 4 (by omega)]; exact h.2.2.1
  have ct0 : ∀ (p : Nat → Prop), (∀ x, ¬ p x) → ∀ n', ctp p n' = 0 := by
    intro p hp n'
    induction n' with
    | zero => rfl
    | succ n' ih => rw [ctp, ih, zif_neg (hp n')]
  have lp : ∀ d i F2 I2 tn lo B np cu fin t br cc, i + d = gn g → dI g tn lo B np cu fin t br cc → dM g tn lo B np cu t br cc F2 I2 → dR g tn B cu fin (fun _ => False) → frZ (upd (upd (upd F 9 0) 11 0) 12 0) I1 F2 I2 → (∀ x, tn x ≠ 0 → fin x) → (∀ x, x < i → tn x ≠ 0) →
      AW m_X2_find (z_pv P) 25 [some (.ref 25), some (.ref 3), some (.int (nI (gn g))), some (.int (nI i))] [] (F2, I2, J) := by
    intro d
    induction d with
    | zero =>
      intro i F2 I2 tn lo B np cu fin t br cc hd hI hM hR hfr hfin hall
      refine r_X2_find_25 _ _ F2 I2 J ?_
      rw [nLe (by omega) (by omega)]
      refine ⟨fun _ => ?_, fun z => absurd (show gn g ≤ i by omega) z⟩
      have hf2 := frZ_trans hfr1 hfr
      have hfc : frC F I F2 I2 := ⟨fun j hj => hf2.1 j (by omega), fun j hj => hf2.2 j (by omega)⟩
      exact hP F2 I2 (hFd_of hI hM hR hfin (fun k hk => hall k (by omega)) hW) (cQ_fr h hfc (fcl_eq h.2.2.2.2.2.1 (hf2.1 6 (by omega)) (hf2.2 8 (by omega)) (hf2.2 11 (by omega))) (fcl_eq h.2.2.2.2.2.2 (hf2.1 7 (by omega)) (hf2.2 12 (by omega)) (hf2.2 15 (by omega)))) hfc
    | succ d ih =>
      intro i F2 I2 tn lo B np cu fin t br cc hd hI hM hR hfr hfin hall
      obtain ⟨t1, t2, t3⟩ := dI_t hI hn
      have ti := t2 i
      refine r_X2_find_25 _ _ F2 I2 J ?_
      rw [nLe (by omega) (by omega), zN (show i < 2147483648 by omega), hM.1 i (by omega), n0, nEq (by omega) (by omega), nI_1]
      refine ⟨fun z => absurd z (by omega), fun _ => ⟨nIn (by omega) (by omega), fun z => ?_, fun z => ?_⟩⟩
      · refine ih (i + 1) F2 I2 tn lo B np cu fin t br cc (by omega) hI hM hR hfr hfin (fun x hx => ?_)
        rcases Nat.lt_or_ge x i with q | q
        · exact hall x q
        · rw [show x = i by omega]; exact z
      · refine c_walkFrom (W0 := fun x => x < i) hW (frZ_E hfr hE) (by unfold gC; rw [hfr.2 5 (by omega), hfr.2 6 (by omega)]; exact hC) (by rw [hfr.1 4 (by omega)]; exact h4) (show i < gn g by omega) hI hM hR hfin z hall (fun F3 I3 tn3 lo3 B3 np3 cu3 fin3 t3 br3 cc3 hI3 hM3 hR3 hfr3 hz3 hfin3 hw3 => ?_)
        refine ih (i + 1) F3 I3 tn3 lo3 B3 np3 cu3 fin3 t3 br3 cc3 (by omega) hI3 hM3 hR3 (frZ_trans hfr hfr3) hfin3 (fun x hx => ?_)
        rcases Nat.lt_or_ge x i with q | q
        · exact hw3 x q
        · rw [show x = i by omega]; exact hz3
  refine lp (gn g) 0 _ I1 (fun _ => 0) (fun _ => 0) (fun _ => none) (fun _ => 0) (fun _ => False) (fun _ => False) 0 0 0 (by omega) ?_ ?_ (fun v hv => absurd rfl hv) ⟨fun _ _ => rfl, fun _ _ => rfl⟩ (fun x hx => absurd rfl hx) (fun x hx => by omega)
  · refine ⟨fun k hk => absurd rfl hk, fun x y hx => absurd rfl hx, fun k e hk => absurd rfl hk, fun x l hx => absurd rfl hx, fun x hx => hx.elim, fun x hx => absurd rfl hx, fun c e hc => hc.elim, fun v hv => absurd rfl hv, ?_, ?_, ?_⟩
    · exact (ct0 _ (fun x => fun ⟨k, z, _⟩ => z) _).symm
    · exact (ct0 _ (fun x z => z.1 rfl) _).symm
    · exact (ct0 _ (fun x z => z rfl) _).symm
  · refine ⟨fun k hk => by rw [h18 k (by omega)]; rfl, fun k hk => absurd rfl hk, ?_, ?_, ?_⟩
    · rw [upd_ne _ (by decide), upd_ne _ (by decide), upd_self]; rfl
    · rw [upd_ne _ (by decide), upd_self]; rfl
    · rw [upd_self]; rfl
/-- is it a bridge, when all is found -/
theorem c_isBridge {P : Int32 → zM → Prop} (hW : gW g) (hE : gE g I) (hf : hFd g F I) {e : Nat} (he : e < gm g) (h1 : gBr g e → P 1 (F, I, J)) (h0 : ¬ gBr g e → P 0 (F, I, J)) : AMi m_X2_isBridge [.ref 25, .ref 3, .int (nI e)] (F, I, J) P := by
  obtain ⟨⟨tn, lo, B, hd, hrow⟩, -⟩ := hf
  have hn := hW.1
  have hm := hW.2.1
  have hw := hW.2.2 e he
  have hbr := dF_gBr hd hW he
  have b1 : vp_in (nI e) 300 := nIn (by omega) (by omega)
  have to : ∀ {P2 : Int32 → zM → Prop} {k : Nat}, k < gn g → ((B k = some e ∧ lo k = tn k) → P2 1 (F, I, J)) → (¬ (B k = some e ∧ lo k = tn k) → P2 0 (F, I, J)) → AMi m_X2_isBridgeTo [.ref 25, .int (nI k), .int (nI e)] (F, I, J) P2 := by
    intro P2 k hk q1 q0
    obtain ⟨r1, r2, r3, r4, r5⟩ := hrow k hk
    refine r_X2_isBridgeTo_0 _ _ F I J ?_
    have bk : vp_in (nI k) 100 := nIn (by omega) (by omega)
    have eqB : (oI (B k) = nI e) ↔ B k = some e := by
      cases hB : B k with
      | none => exact ⟨fun z => by rw [show oI none = -1 from rfl, nNe' (by omega)] at z; exact z.elim, fun z => by cases z⟩
      | some e2 =>
        have := (hd.2.1 k hk e2 hB).1
        rw [show oI (some e2) = nI e2 from rfl, nEq (by omega) (by omega)]
        exact ⟨fun z => by rw [z], fun z => by cases z; rfl⟩
    rw [zN (by omega), r1, r2, r3, eqB, nEq (by omega) (by omega)]
    exact ⟨bk, fun z => q0 (fun w => z w.1), fun z => ⟨bk, bk, fun z2 => q0 (fun w => z2 w.2), fun z2 => q1 ⟨z, z2⟩⟩⟩
  refine r_X2_isBridge_0 _ F I J ?_
  rw [zN (by omega), (hE e he).1]
  refine ⟨b1, to hw.1 (fun z => ⟨fun _ => h1 (hbr.mpr ⟨_, hw.1, z⟩), fun y => absurd y (by decide)⟩) (fun z => ⟨fun y => absurd rfl y, fun _ => ⟨b1, ?_⟩⟩)⟩
  dsimp only
  rw [(hE e he).2.1]
  refine to hw.2.1 (fun z2 => ⟨fun y => absurd y (by decide), fun _ => h1 (hbr.mpr ⟨_, hw.2.1, z2⟩)⟩) (fun z2 => ⟨fun _ => h0 (fun w => ?_), fun y => absurd rfl y⟩)
  obtain ⟨k, hk, hB, hl⟩ := hbr.mp w
  rcases ((dF_par hd hk).2.2.2 e hB).1 with ⟨q1, q2⟩ | ⟨q1, q2⟩
  · rw [q2] at z2; exact z2 ⟨hB, hl⟩
  · rw [q1] at z; exact z ⟨hB, hl⟩
end
