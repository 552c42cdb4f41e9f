/-! the reference's reach -/
def mfl (g : zG) (T : Nat → Prop) (rt r L : Nat) (q : Nat → Nat) (R : Nat → Prop) (B dp : Nat → Nat) (I : Nat → Nat → Int32) : Prop :=
  bf (gn g) (gm g) (ga g) (gb g) T rt L q R B dp ∧ (∀ i, i < L → I 13 i = nI (q i)) ∧ (∀ k, R k → k ≠ rt → I 14 k = nI (B k)) ∧ I 14 rt = -1 ∧ ∀ k, k < gn g → (R k → I r k = 1) ∧ (¬ R k → I r k = 0)
def frJ (r : Nat) (I I2 : Nat → Nat → Int32) : Prop := ∀ j, j ≠ r → j ≠ 13 → j ≠ 14 → I2 j = I j
/-- which edges reach() takes -/
def mT (g : zG) (x2 x4 x5 x6 : Int32) (e : Nat) : Prop := ¬ nI e = x5 ∧ gs g e ≠ 0 ∧ (gs g e = 2 → ¬ x4 = 0) ∧ (¬ x2 ≤ nI (gv g e) → ¬ x4 = 0) ∧ ¬ nI (ga g e) = x6 ∧ ¬ nI (gb g e) = x6
section
variable {g : zG} {T : Nat → Prop} {rt : Nat}
theorem mfl_push_a {L : Nat} {q : Nat → Nat} {R : Nat → Prop} {B dp : Nat → Nat} {I : Nat → Nat → Int32} (h : mfl g T rt 11 L q R B dp I) {e p k : Nat} (he : e < gm g) (hT : T e) (hp : R p) (hj : jn (ga g) (gb g) e p k) (hk : k < gn g) (hR : ¬ R k) :
    L + 1 ≤ gn g ∧ mfl g T rt 11 (L + 1) (un q L k) (fun x => x = k ∨ R x) (un B k e) (un dp k (dp p + 1)) (z_ui (z_ui (z_ui I 11 k 1) 14 k (nI e)) 13 L (nI k)) := by
  obtain ⟨h1, h3, h4, h5, h7⟩ := h
  obtain ⟨hn, hb⟩ := bf_push h1 he hT hp hj hk hR
  have hrt : R rt := by rw [← h1.2.2.1]; exact (h1.2.2.2.1 0 h1.2.1).2.1
  have hne : ∀ x, R x → x ≠ k := fun x hx z => hR (z ▸ hx)
  have r1 : z_ui (z_ui (z_ui I 11 k 1) 14 k (nI e)) 13 L (nI k) 13 = upd (I 13) L (nI k) := by
    rw [ui_self, ui_ne _ _ (by decide), ui_ne _ _ (by decide)]
  have r3 : z_ui (z_ui (z_ui I 11 k 1) 14 k (nI e)) 13 L (nI k) 14 = upd (I 14) k (nI e) := by
    rw [ui_ne _ _ (by decide), ui_self, ui_ne _ _ (by decide)]
  have r4 : z_ui (z_ui (z_ui I 11 k 1) 14 k (nI e)) 13 L (nI k) 11 = upd (I 11) k 1 := by
    rw [ui_ne _ _ (by decide), ui_ne _ _ (by decide), ui_self]
  refine ⟨hn, hb, fun i hi => ?_, fun x hx hxr => ?_, ?_, fun x hx => ?_⟩
  · rw [r1]
    by_cases hiL : i = L
    · rw [hiL, upd_self, un_self]
    · rw [upd_ne _ hiL, un_ne _ _ hiL]; exact h3 i (by omega)
  · rw [r3]
    by_cases hxk : x = k
    · rw [hxk, upd_self, un_self]
    · rw [upd_ne _ hxk, un_ne _ _ hxk]; exact h4 x (hx.resolve_left hxk) hxr
  · rw [r3, upd_ne _ (hne rt hrt)]; exact h5
  · rw [r4]
    by_cases hxk : x = k
    · rw [hxk, upd_self]
      exact ⟨fun _ => rfl, fun z => absurd (Or.inl rfl) z⟩
    · rw [upd_ne _ hxk]
      exact ⟨fun z => (h7 x hx).1 (z.resolve_left hxk), fun z => (h7 x hx).2 (fun z2 => z (Or.inr z2))⟩
theorem m_reach_a_in {P : Int32 → zM → Prop} {F : Nat → Int32} {I0 : Nat → Nat → Int32} {J : Nat → Nat → Int64} (hW : gW g) (hE : gE g I0) (hF : F 1 = nI (gm g)) {x2 x4 x5 x6 : Int32}
    (hT : ∀ e, e < gm g → (T e ↔ mT g x2 x4 x5 x6 e)) {h k L0 : Nat} (hk : k < gn g) {q0 : Nat → Nat} {R0 : Nat → Prop}
    (hP : ∀ I L q R B dp, mfl g T rt 11 L q R B dp I → frJ 11 I0 I → (∀ x, R x → ¬ nI x = x6) → L0 ≤ L → (∀ i, i < L0 → q i = q0 i) → (∀ x, R0 x → R x) → (∀ e y, e < gm g → T e → jn (ga g) (gb g) e k y → R y) →
      AW m_X7_reach (z_pi P) 51 [some (.ref 0), none, some (.int x2), some (.ref 15), some (.int x4), some (.int x5), some (.int x6), some (.int (nI h)), some (.int (nI L)), none, none, none] [] (F, I, J)) :
    ∀ d e I L q R B dp, e + d = gm g → mfl g T rt 11 L q R B dp I → frJ 11 I0 I → (∀ x, R x → ¬ nI x = x6) → L0 ≤ L → (∀ i, i < L0 → q i = q0 i) → (∀ x, R0 x → R x) → R k → (∀ f y, f < e → T f → jn (ga g) (gb g) f k y → R y) →
      AW m_X7_reach (z_pi P) 73 [some (.ref 0), none, some (.int x2), some (.ref 15), some (.int x4), some (.int x5), some (.int x6), some (.int (nI h)), some (.int (nI L)), some (.int (nI k)), some (.int (nI e)), none] [] (F, I, J) := by
  obtain ⟨w1, w2, w3⟩ := id hW
  intro d
  induction d with
  | zero =>
    intro e I L q R B dp hd hf hI hx hL hq hR hRk hall
    refine r_X7_reach_a_73 _ _ _ _ _ _ _ _ F I J ?_
    rw [hF, nLe (by omega) (by omega)]
    refine ⟨fun _ => hP I L q R B dp hf hI hx hL hq hR (fun f y hf2 => hall f y (by omega)), fun z => absurd (show gm g ≤ e by omega) z⟩
  | succ d ih =>
    intro e I L q R B dp hd hf hI hx hL hq hR hRk hall
    have he : e < gm g := by omega
    have hsv := w3 e he
    have hE2 := hE e he
    rw [← hI 1 (by decide) (by decide) (by decide), ← hI 2 (by decide) (by decide) (by decide), ← hI 3 (by decide) (by decide) (by decide), ← hI 4 (by decide) (by decide) (by decide)] at hE2
    obtain ⟨g1, g2, g3, g4⟩ := hE2
    have be : vp_in (nI e) 300 := nIn (by omega) (by omega)
    have ze : zn (nI e) = e := zN (by omega)
    -- to the next edge
    have next : ∀ I L q R B dp, mfl g T rt 11 L q R B dp I → frJ 11 I0 I → (∀ x, R x → ¬ nI x = x6) → L0 ≤ L → (∀ i, i < L0 → q i = q0 i) → (∀ x, R0 x → R x) → R k → (∀ f y, f < e → T f → jn (ga g) (gb g) f k y → R y) → (∀ y, T e → jn (ga g) (gb g) e k y → R y) →
        AW m_X7_reach (z_pi P) 73 [some (.ref 0), none, some (.int x2), some (.ref 15), some (.int x4), some (.int x5), some (.int x6), some (.int (nI h)), some (.int (nI L)), some (.int (nI k)), some (.int (nI e + 1)), none] [] (F, I, J) := by
      intro I L q R B dp hf hI hx hL hq hR hRk hall hnow
      rw [n1, nAdd]
      refine ih (e + 1) I L q R B dp (by omega) hf hI hx hL hq hR hRk (fun f y hfe hTf hj => ?_)
      rcases Nat.lt_or_ge f e with z | z
      · exact hall f y z hTf hj
      · have : f = e := by omega
        subst this
        exact hnow y hTf hj
    have next0 := next I L q R B dp hf hI hx hL hq hR hRk hall
    -- the other end y of the edge, not yet reached or passed by
    have push : ∀ y, jn (ga g) (gb g) e k y → y < gn g → T e → ¬ R y → ¬ nI y = x6 →
        vp_in (nI y) 100 ∧ vp_in (nI y) 100 ∧ vp_in (nI L) 100 ∧ AW m_X7_reach (z_pi P) 73 [some (.ref 0), none, some (.int x2), some (.ref 15), some (.int x4), some (.int x5), some (.int x6), some (.int (nI h)), some (.int (nI L + 1)), some (.int (nI k)), some (.int (nI e + 1)), none] [] (F, z_ui (z_ui (z_ui I 11 y 1) 14 y (nI e)) 13 L (nI y), J) := by
      intro y hj hy hTe hnR hyx
      obtain ⟨hn1, hpush⟩ := mfl_push_a hf he hTe hRk hj hy hnR
      refine ⟨nIn (by omega) (by omega), nIn (by omega) (by omega), nIn (by omega) (by omega), ?_⟩
      rw [show nI L + 1 = nI (L + 1) from by rw [n1, nAdd]]
      refine next _ _ _ _ _ _ hpush (fun j h1 h2 h3 => by rw [ui_ne _ _ h2, ui_ne _ _ h3, ui_ne _ _ h1]; exact hI j h1 h2 h3) (fun x hx2 => ?_) (by omega) (fun j hj => by rw [un_ne _ _ (by omega)]; exact hq j hj) (fun x hx => Or.inr (hR x hx)) (Or.inr hRk) (fun f y2 h1 h2 h3 => Or.inr (hall f y2 h1 h2 h3)) (fun y2 _ hj2 => Or.inl (by rw [← jn_ot hj, ← jn_ot hj2]))
      rcases hx2 with z | z
      · rw [z]; exact hyx
      · exact hx x z
    -- the row says who was reached
    have row0 : ∀ y, y < gn g → I 11 y = 0 → ¬ R y := fun y hy z z2 => by rw [(hf.2.2.2.2 y hy).1 z2] at z; exact absurd z (by decide)
    have row1 : ∀ y, y < gn g → ¬ I 11 y = 0 → R y := fun y hy z => Classical.byContradiction fun z2 => z ((hf.2.2.2.2 y hy).2 z2)
    have hkx := hx k hRk
    have at134 : (¬ nI e = x5 ∧ gs g e ≠ 0 ∧ (gs g e = 2 → ¬ x4 = 0) ∧ (¬ x2 ≤ nI (gv g e) → ¬ x4 = 0)) →
        AW m_X7_reach (z_pi P) 134 [some (.ref 0), none, some (.int x2), some (.ref 15), some (.int x4), some (.int x5), some (.int x6), some (.int (nI h)), some (.int (nI L)), some (.int (nI k)), some (.int (nI e)), none] [] (F, I, J) := by
      intro hc
      have at161 : (ga g e = k ∨ gb g e = k) → AW m_X7_reach (z_pi P) 161 [some (.ref 0), none, some (.int x2), some (.ref 15), some (.int x4), some (.int x5), some (.int x6), some (.int (nI h)), some (.int (nI L)), some (.int (nI k)), some (.int (nI e)), none] [] (F, I, J) := by
        intro hend
        refine r_X7_reach_a_161 _ _ _ _ _ _ _ _ F I J ?_
        have hLn := hf.1.1
        rw [ze, g1, g2, nEq (by omega) (by omega), zN (show ga g e < 2147483648 by omega), zN (show gb g e < 2147483648 by omega), zN (show L < 2147483648 by omega)]
        refine ⟨be, fun z => ⟨be, nIn (by omega) (by omega), fun z2 => ?_, fun z2 => ⟨fun z3 => ?_, fun z3 => ?_⟩⟩, fun z => ⟨be, nIn (by omega) (by omega), fun z2 => ?_, fun z2 => ⟨fun z3 => ?_, fun z3 => ?_⟩⟩⟩
        · have hb : gb g e = k := hend.resolve_left z
          have hj : jn (ga g) (gb g) e k (ga g e) := Or.inr ⟨rfl, hb⟩
          exact next0 (fun y _ hj2 => by rw [← jn_ot hj2, jn_ot hj]; exact row1 _ hsv.1 z2)
        · have hb : gb g e = k := hend.resolve_left z
          have hj : jn (ga g) (gb g) e k (ga g e) := Or.inr ⟨rfl, hb⟩
          exact push _ hj hsv.1 ((hT e he).mpr ⟨hc.1, hc.2.1, hc.2.2.1, hc.2.2.2, z3, by rw [hb]; exact hkx⟩) (row0 _ hsv.1 z2) z3
        · exact next0 (fun y hTe _ => absurd z3 ((hT e he).mp hTe).2.2.2.2.1)
        · have hj : jn (ga g) (gb g) e k (gb g e) := Or.inl ⟨z, rfl⟩
          exact next0 (fun y _ hj2 => by rw [← jn_ot hj2, jn_ot hj]; exact row1 _ hsv.2.1 z2)
        · have hj : jn (ga g) (gb g) e k (gb g e) := Or.inl ⟨z, rfl⟩
          exact push _ hj hsv.2.1 ((hT e he).mpr ⟨hc.1, hc.2.1, hc.2.2.1, hc.2.2.2, by rw [z]; exact hkx, z3⟩) (row0 _ hsv.2.1 z2) z3
        · exact next0 (fun y hTe _ => absurd z3 ((hT e he).mp hTe).2.2.2.2.2)
      refine r_X7_reach_a_134 _ _ _ _ _ _ _ _ F I J ?_
      rw [ze, g1, g2, nEq (by omega) (by omega), nEq (by omega) (by omega)]
      refine ⟨be, fun z => at161 (Or.inl z), fun z => ⟨be, fun z2 => at161 (Or.inr z2), fun z2 => next0 (fun y _ hj => ?_)⟩⟩
      rcases hj with hj | hj
      · exact absurd hj.1 z
      · exact absurd hj.2 z2
    refine r_X7_reach_a_73 _ _ _ _ _ _ _ _ F I J ?_
    rw [hF, nLe (by omega) (by omega), ze, g3, g4, n0, n2, nEq (by omega) (by omega), nEq (by omega) (by omega), ← n0]
    refine ⟨fun z => absurd z (by omega), fun _ => ⟨fun z => next0 (fun y hTe _ => absurd z ((hT e he).mp hTe).1), fun z => ⟨be, fun z2 => next0 (fun y hTe _ => absurd z2 ((hT e he).mp hTe).2.1), fun z2 => ⟨be, fun z3 => ⟨be, fun z4 => at134 ⟨z, z2, fun q => absurd q z3, fun q => absurd z4 q⟩, fun z4 => ⟨fun z5 => at134 ⟨z, z2, fun q => absurd q z3, fun _ => z5⟩, fun z5 => next0 (fun y hTe _ => absurd z5 (((hT e he).mp hTe).2.2.2.1 z4))⟩⟩, fun z3 => ⟨fun z4 => next0 (fun y hTe _ => absurd z4 (((hT e he).mp hTe).2.2.1 z3)), fun z4 => ⟨be, fun z5 => at134 ⟨z, z2, fun _ => z4, fun q => absurd z5 q⟩, fun z5 => ⟨fun z6 => at134 ⟨z, z2, fun _ => z4, fun _ => z6⟩, fun z6 => absurd z6 z4⟩⟩⟩⟩⟩⟩⟩
theorem m_reach_a_out {P : Int32 → zM → Prop} {F : Nat → Int32} {I0 : Nat → Nat → Int32} {J : Nat → Nat → Int64} (hW : gW g) (hE : gE g I0) (hF : F 1 = nI (gm g)) {x2 x4 x5 x6 : Int32}
    (hT : ∀ e, e < gm g → (T e ↔ mT g x2 x4 x5 x6 e))
    (hP : ∀ I L q R B dp, mfl g T rt 11 L q R B dp I → frJ 11 I0 I → (∀ k, R k ↔ cn (gm g) (ga g) (gb g) T rt k) → P (nI L) (F, I, J)) :
    ∀ d i I L q R B dp, gn g ≤ i + d → i ≤ L → mfl g T rt 11 L q R B dp I → frJ 11 I0 I → (∀ x, R x → ¬ nI x = x6) → (∀ j, j < i → ∀ e y, e < gm g → T e → jn (ga g) (gb g) e (q j) y → R y) →
      AW m_X7_reach (z_pi P) 51 [some (.ref 0), none, some (.int x2), some (.ref 15), some (.int x4), some (.int x5), some (.int x6), some (.int (nI i)), some (.int (nI L)), none, none, none] [] (F, I, J) := by
  obtain ⟨w1, w2, w3⟩ := id hW
  have fin : ∀ i I L q R B dp, L ≤ i → mfl g T rt 11 L q R B dp I → frJ 11 I0 I → (∀ j, j < i → ∀ e y, e < gm g → T e → jn (ga g) (gb g) e (q j) y → R y) → P (nI L) (F, I, J) := by
    intro i I L q R B dp hL hf hI hc
    refine hP I L q R B dp hf hI (bf_iff hf.1 (fun x y e he hTe hj hx => ?_))
    obtain ⟨j, hj1, hj2⟩ := hf.1.2.2.2.2.2.1 x hx
    exact hc j (by omega) e y he hTe (by rw [hj2]; exact hj)
  intro d
  induction d with
  | zero =>
    intro i I L q R B dp hd hi hf hI hx hc
    have hLn := hf.1.1
    refine r_X7_reach_a_51 _ _ _ _ _ _ F I J ⟨fun _ => fin i I L q R B dp (by omega) hf hI hc, fun z => ?_⟩
    rw [nLe (by omega) (by omega)] at z
    omega
  | succ d ih =>
    intro i I L q R B dp hd hi hf hI hx hc
    have hLn := hf.1.1
    refine r_X7_reach_a_51 _ _ _ _ _ _ F I J ?_
    rw [nLe (by omega) (by omega)]
    refine ⟨fun z => fin i I L q R B dp z hf hI hc, fun z => ⟨nIn (by omega) (by omega), ?_⟩⟩
    have hqi := hf.1.2.2.2.1 i (by omega)
    have hE2 : gE g I := fun e he => by
      have := hE e he
      rw [hI 1 (by decide) (by decide) (by decide), hI 2 (by decide) (by decide) (by decide), hI 3 (by decide) (by decide) (by decide), hI 4 (by decide) (by decide) (by decide)]
      exact this
    rw [zN (by omega), hf.2.1 i (by omega), n1, nAdd]
    refine m_reach_a_in (L0 := L) (q0 := q) (R0 := R) hW hE2 hF hT hqi.1 ?_ (gm g) 0 I L q R B dp (by omega) hf (fun _ _ _ _ => rfl) hx (Nat.le_refl _) (fun _ _ => rfl) (fun _ h => h) hqi.2.1 (fun f y hf => by omega)
    intro I2 L2 q2 R2 B2 dp2 hf2 hI2 hx2 hL2 hq2 hR2 hk2
    refine ih (i + 1) I2 L2 q2 R2 B2 dp2 (by omega) (by omega) hf2 (fun j h1 h2 h3 => by rw [hI2 j h1 h2 h3]; exact hI j h1 h2 h3) hx2 (fun j hj e y he hTe hjn => ?_)
    rw [hq2 j (by omega)] at hjn
    rcases Nat.lt_or_ge j i with z3 | z3
    · exact hR2 y (hc j z3 e y he hTe hjn)
    · have : j = i := by omega
      subst this
      exact hk2 e y he hTe hjn
theorem m_reach_a {P : Int32 → zM → Prop} {F : Nat → Int32} {I : Nat → Nat → Int32} {J : Nat → Nat → Int64} (hW : gW g) (hE : gE g I) (hF0 : F 0 = nI (gn g)) (hF : F 1 = nI (gm g)) {x2 x4 x5 x6 : Int32}
    (hT : ∀ e, e < gm g → (T e ↔ mT g x2 x4 x5 x6 e)) (hrt : rt < gn g) (hx6 : ¬ nI rt = x6)
    (hP : ∀ I2 L q R B dp, mfl g T rt 11 L q R B dp I2 → frJ 11 I I2 → (∀ k, R k ↔ cn (gm g) (ga g) (gb g) T rt k) → P (nI L) (F, I2, J)) :
    AMi m_X7_reach [.ref 0, .int (nI rt), .int x2, .ref 15, .int x4, .int x5, .int x6] (F, I, J) P := by
  obtain ⟨w1, w2, w3⟩ := id hW
  refine r_X7_reach_a_0 _ _ _ _ _ F I J ?_
  have lp : ∀ d i (I1 : Nat → Nat → Int32), i + d = gn g → (∀ j, j ≠ 11 → I1 j = I j) → (∀ k, k < i → I1 11 k = 0) →
      AW m_X7_reach (z_pi P) 3 [some (.ref 0), some (.int (nI rt)), some (.int x2), some (.ref 15), some (.int x4), some (.int x5), some (.int x6), some (.int (nI i)), none, none, none, none] [] (F, I1, J) := by
    intro d
    induction d with
    | zero =>
      intro i I1 hd h1 h2
      refine r_X7_reach_a_3 _ _ _ _ _ _ F I1 J ?_
      rw [hF0, nLe (by omega) (by omega)]
      have b1 : vp_in (nI rt) 100 := nIn (by omega) (by omega)
      refine ⟨fun _ => ⟨b1, b1, by rw [n0]; exact nIn (by omega) (by omega), ?_⟩, fun z => absurd (show gn g ≤ i by omega) z⟩
      rw [zN (by omega), show zn 0 = 0 from by rw [n0]; exact zN (by omega), show ((0 : Int32) + 1) = nI 1 from rfl, n0]
      refine m_reach_a_out (I0 := I) hW hE hF hT hP 100 0 _ 1 (fun _ => rt) (fun k => k = rt) (fun _ => 0) (fun _ => 0) (by omega) (by omega) ?_ (fun j g1 g2 g3 => by rw [ui_ne _ _ g2, ui_ne _ _ g3, ui_ne _ _ g1]; exact h1 j g1) (fun x hx => by rw [hx]; exact hx6) (fun j hj => by omega)
      refine ⟨bf_start hrt _ _ _ rfl rfl, fun i2 hi => ?_, fun k hk hne => absurd hk hne, ?_, fun k hk => ?_⟩
      · have : i2 = 0 := by omega
        subst this
        rw [ui_self, upd_self]
      · rw [ui_ne _ _ (by decide), ui_self, upd_self]
      · rw [ui_ne _ _ (by decide), ui_ne _ _ (by decide), ui_self]
        by_cases hkr : k = rt
        · rw [hkr, upd_self]
          exact ⟨fun _ => rfl, fun z => absurd rfl z⟩
        · rw [upd_ne _ hkr]
          exact ⟨fun z => absurd z hkr, fun _ => h2 k (by omega)⟩
    | succ d ih =>
      intro i I1 hd h1 h2
      refine r_X7_reach_a_3 _ _ _ _ _ _ F I1 J ?_
      rw [hF0, nLe (by omega) (by omega), n1, nAdd]
      refine ⟨fun z => absurd z (by omega), fun _ => ⟨nIn (by omega) (by omega), ?_⟩⟩
      rw [zN (show i < 2147483648 by omega)]
      refine ih (i + 1) _ (by omega) (fun j hj => by rw [ui_ne _ _ hj]; exact h1 j hj) (fun k hk => ?_)
      rw [ui_self]
      by_cases hki : k = i
      · rw [hki, upd_self]
      · rw [upd_ne _ hki]; exact h2 k (by omega)
  exact lp (gn g) 0 I (by omega) (fun _ _ => rfl) (fun k hk => by omega)
end
section
variable {g : zG} {T : Nat → Prop} {rt : Nat}
theorem mfl_push_b {L : Nat} {q : Nat → Nat} {R : Nat → Prop} {B dp : Nat → Nat} {I : Nat → Nat → Int32} (h : mfl g T rt 12 L q R B dp I) {e p k : Nat} (he : e < gm g) (hT : T e) (hp : R p) (hj : jn (ga g) (gb g) e p k) (hk : k < gn g) (hR : ¬ R k) :
    L + 1 ≤ gn g ∧ mfl g T rt 12 (L + 1) (un q L k) (fun x => x = k ∨ R x) (un B k e) (un dp k (dp p + 1)) (z_ui (z_ui (z_ui I 12 k 1) 14 k (nI e)) 13 L (nI k)) := by
  obtain ⟨h1, h3, h4, h5, h7⟩ := h
  obtain ⟨hn, hb⟩ := bf_push h1 he hT hp hj hk hR
  have hrt : R rt := by rw [← h1.2.2.1]; exact (h1.2.2.2.1 0 h1.2.1).2.1
  have hne : ∀ x, R x → x ≠ k := fun x hx z => hR (z ▸ hx)
  have r1 : z_ui (z_ui (z_ui I 12 k 1) 14 k (nI e)) 13 L (nI k) 13 = upd (I 13) L (nI k) := by
    rw [ui_self, ui_ne _ _ (by decide), ui_ne _ _ (by decide)]
  have r3 : z_ui (z_ui (z_ui I 12 k 1) 14 k (nI e)) 13 L (nI k) 14 = upd (I 14) k (nI e) := by
    rw [ui_ne _ _ (by decide), ui_self, ui_ne _ _ (by decide)]
  have r4 : z_ui (z_ui (z_ui I 12 k 1) 14 k (nI e)) 13 L (nI k) 12 = upd (I 12) k 1 := by
    rw [ui_ne _ _ (by decide), ui_ne _ _ (by decide), ui_self]
  refine ⟨hn, hb, fun i hi => ?_, fun x hx hxr => ?_, ?_, fun x hx => ?_⟩
  · rw [r1]
    by_cases hiL : i = L
    · rw [hiL, upd_self, un_self]
    · rw [upd_ne _ hiL, un_ne _ _ hiL]; exact h3 i (by omega)
  · rw [r3]
    by_cases hxk : x = k
    · rw [hxk, upd_self, un_self]
    · rw [upd_ne _ hxk, un_ne _ _ hxk]; exact h4 x (hx.resolve_left hxk) hxr
  · rw [r3, upd_ne _ (hne rt hrt)]; exact h5
  · rw [r4]
    by_cases hxk : x = k
    · rw [hxk, upd_self]
      exact ⟨fun _ => rfl, fun z => absurd (Or.inl rfl) z⟩
    · rw [upd_ne _ hxk]
      exact ⟨fun z => (h7 x hx).1 (z.resolve_left hxk), fun z => (h7 x hx).2 (fun z2 => z (Or.inr z2))⟩
theorem m_reach_b_in {P : Int32 → zM → Prop} {F : Nat → Int32} {I0 : Nat → Nat → Int32} {J : Nat → Nat → Int64} (hW : gW g) (hE : gE g I0) (hF : F 1 = nI (gm g)) {x2 x4 x5 x6 : Int32}
    (hT : ∀ e, e < gm g → (T e ↔ mT g x2 x4 x5 x6 e)) {h k L0 : Nat} (hk : k < gn g) {q0 : Nat → Nat} {R0 : Nat → Prop}
    (hP : ∀ I L q R B dp, mfl g T rt 12 L q R B dp I → frJ 12 I0 I → (∀ x, R x → ¬ nI x = x6) → L0 ≤ L → (∀ i, i < L0 → q i = q0 i) → (∀ x, R0 x → R x) → (∀ e y, e < gm g → T e → jn (ga g) (gb g) e k y → R y) →
      AW m_X7_reach (z_pi P) 51 [some (.ref 0), none, some (.int x2), some (.ref 16), some (.int x4), some (.int x5), some (.int x6), some (.int (nI h)), some (.int (nI L)), none, none, none] [] (F, I, J)) :
    ∀ d e I L q R B dp, e + d = gm g → mfl g T rt 12 L q R B dp I → frJ 12 I0 I → (∀ x, R x → ¬ nI x = x6) → L0 ≤ L → (∀ i, i < L0 → q i = q0 i) → (∀ x, R0 x → R x) → R k → (∀ f y, f < e → T f → jn (ga g) (gb g) f k y → R y) →
      AW m_X7_reach (z_pi P) 73 [some (.ref 0), none, some (.int x2), some (.ref 16), some (.int x4), some (.int x5), some (.int x6), some (.int (nI h)), some (.int (nI L)), some (.int (nI k)), some (.int (nI e)), none] [] (F, I, J) := by
  obtain ⟨w1, w2, w3⟩ := id hW
  intro d
  induction d with
  | zero =>
    intro e I L q R B dp hd hf hI hx hL hq hR hRk hall
    refine r_X7_reach_b_73 _ _ _ _ _ _ _ _ F I J ?_
    rw [hF, nLe (by omega) (by omega)]
    refine ⟨fun _ => hP I L q R B dp hf hI hx hL hq hR (fun f y hf2 => hall f y (by omega)), fun z => absurd (show gm g ≤ e by omega) z⟩
  | succ d ih =>
    intro e I L q R B dp hd hf hI hx hL hq hR hRk hall
    have he : e < gm g := by omega
    have hsv := w3 e he
    have hE2 := hE e he
    rw [← hI 1 (by decide) (by decide) (by decide), ← hI 2 (by decide) (by decide) (by decide), ← hI 3 (by decide) (by decide) (by decide), ← hI 4 (by decide) (by decide) (by decide)] at hE2
    obtain ⟨g1, g2, g3, g4⟩ := hE2
    have be : vp_in (nI e) 300 := nIn (by omega) (by omega)
    have ze : zn (nI e) = e := zN (by omega)
    -- to the next edge
    have next : ∀ I L q R B dp, mfl g T rt 12 L q R B dp I → frJ 12 I0 I → (∀ x, R x → ¬ nI x = x6) → L0 ≤ L → (∀ i, i < L0 → q i = q0 i) → (∀ x, R0 x → R x) → R k → (∀ f y, f < e → T f → jn (ga g) (gb g) f k y → R y) → (∀ y, T e → jn (ga g) (gb g) e k y → R y) →
        AW m_X7_reach (z_pi P) 73 [some (.ref 0), none, some (.int x2), some (.ref 16), some (.int x4), some (.int x5), some (.int x6), some (.int (nI h)), some (.int (nI L)), some (.int (nI k)), some (.int (nI e + 1)), none] [] (F, I, J) := by
      intro I L q R B dp hf hI hx hL hq hR hRk hall hnow
      rw [n1, nAdd]
      refine ih (e + 1) I L q R B dp (by omega) hf hI hx hL hq hR hRk (fun f y hfe hTf hj => ?_)
      rcases Nat.lt_or_ge f e with z | z
      · exact hall f y z hTf hj
      · have : f = e := by omega
        subst this
        exact hnow y hTf hj
    have next0 := next I L q R B dp hf hI hx hL hq hR hRk hall
    -- the other end y of the edge, not yet reached or passed by
    have push : ∀ y, jn (ga g) (gb g) e k y → y < gn g → T e → ¬ R y → ¬ nI y = x6 →
        vp_in (nI y) 100 ∧ vp_in (nI y) 100 ∧ vp_in (nI L) 100 ∧ AW m_X7_reach (z_pi P) 73 [some (.ref 0), none, some (.int x2), some (.ref 16), some (.int x4), some (.int x5), some (.int x6), some (.int (nI h)), some (.int (nI L + 1)), some (.int (nI k)), some (.int (nI e + 1)), none] [] (F, z_ui (z_ui (z_ui I 12 y 1) 14 y (nI e)) 13 L (nI y), J) := by
      intro y hj hy hTe hnR hyx
      obtain ⟨hn1, hpush⟩ := mfl_push_b hf he hTe hRk hj hy hnR
      refine ⟨nIn (by omega) (by omega), nIn (by omega) (by omega), nIn (by omega) (by omega), ?_⟩
      rw [show nI L + 1 = nI (L + 1) from by rw [n1, nAdd]]
      refine next _ _ _ _ _ _ hpush (fun j h1 h2 h3 => by rw [ui_ne _ _ h2, ui_ne _ _ h3, ui_ne _ _ h1]; exact hI j h1 h2 h3) (fun x hx2 => ?_) (by omega) (fun j hj => by rw [un_ne _ _ (by omega)]; exact hq j hj) (fun x hx => Or.inr (hR x hx)) (Or.inr hRk) (fun f y2 h1 h2 h3 => Or.inr (hall f y2 h1 h2 h3)) (fun y2 _ hj2 => Or.inl (by rw [← jn_ot hj, ← jn_ot hj2]))
      rcases hx2 with z | z
      · rw [z]; exact hyx
      · exact hx x z
    -- the row says who was reached
    have row0 : ∀ y, y < gn g → I 12 y = 0 → ¬ R y := fun y hy z z2 => by rw [(hf.2.2.2.2 y hy).1 z2] at z; exact absurd z (by decide)
    have row1 : ∀ y, y < gn g → ¬ I 12 y = 0 → R y := fun y hy z => Classical.byContradiction fun z2 => z ((hf.2.2.2.2 y hy).2 z2)
    have hkx := hx k hRk
    have at134 : (¬ nI e = x5 ∧ gs g e ≠ 0 ∧ (gs g e = 2 → ¬ x4 = 0) ∧ (¬ x2 ≤ nI (gv g e) → ¬ x4 = 0)) →
        AW m_X7_reach (z_pi P) 134 [some (.ref 0), none, some (.int x2), some (.ref 16), some (.int x4), some (.int x5), some (.int x6), some (.int (nI h)), some (.int (nI L)), some (.int (nI k)), some (.int (nI e)), none] [] (F, I, J) := by
      intro hc
      have at161 : (ga g e = k ∨ gb g e = k) → AW m_X7_reach (z_pi P) 161 [some (.ref 0), none, some (.int x2), some (.ref 16), some (.int x4), some (.int x5), some (.int x6), some (.int (nI h)), some (.int (nI L)), some (.int (nI k)), some (.int (nI e)), none] [] (F, I, J) := by
        intro hend
        refine r_X7_reach_b_161 _ _ _ _ _ _ _ _ F I J ?_
        have hLn := hf.1.1
        rw [ze, g1, g2, nEq (by omega) (by omega), zN (show ga g e < 2147483648 by omega), zN (show gb g e < 2147483648 by omega), zN (show L < 2147483648 by omega)]
        refine ⟨be, fun z => ⟨be, nIn (by omega) (by omega), fun z2 => ?_, fun z2 => ⟨fun z3 => ?_, fun z3 => ?_⟩⟩, fun z => ⟨be, nIn (by omega) (by omega), fun z2 => ?_, fun z2 => ⟨fun z3 => ?_, fun z3 => ?_⟩⟩⟩
        · have hb : gb g e = k := hend.resolve_left z
          have hj : jn (ga g) (gb g) e k (ga g e) := Or.inr ⟨rfl, hb⟩
          exact next0 (fun y _ hj2 => by rw [← jn_ot hj2, jn_ot hj]; exact row1 _ hsv.1 z2)
        · have hb : gb g e = k := hend.resolve_left z
          have hj : jn (ga g) (gb g) e k (ga g e) := Or.inr ⟨rfl, hb⟩
          exact push _ hj hsv.1 ((hT e he).mpr ⟨hc.1, hc.2.1, hc.2.2.1, hc.2.2.2, z3, by rw [hb]; exact hkx⟩) (row0 _ hsv.1 z2) z3
        · exact next0 (fun y hTe _ => absurd z3 ((hT e he).mp hTe).2.2.2.2.1)
        · have hj : jn (ga g) (gb g) e k (gb g e) := Or.inl ⟨z, rfl⟩
          exact next0 (fun y _ hj2 => by rw [← jn_ot hj2, jn_ot hj]; exact row1 _ hsv.2.1 z2)
        · have hj : jn (ga g) (gb g) e k (gb g e) := Or.inl ⟨z, rfl⟩
          exact push _ hj hsv.2.1 ((hT e he).mpr ⟨hc.1, hc.2.1, hc.2.2.1, hc.2.2.2, by rw [z]; exact hkx, z3⟩) (row0 _ hsv.2.1 z2) z3
        · exact next0 (fun y hTe _ => absurd z3 ((hT e he).mp hTe).2.2.2.2.2)
      refine r_X7_reach_b_134 _ _ _ _ _ _ _ _ F I J ?_
      rw [ze, g1, g2, nEq (by omega) (by omega), nEq (by omega) (by omega)]
      refine ⟨be, fun z => at161 (Or.inl z), fun z => ⟨be, fun z2 => at161 (Or.inr z2), fun z2 => next0 (fun y _ hj => ?_)⟩⟩
      rcases hj with hj | hj
      · exact absurd hj.1 z
      · exact absurd hj.2 z2
    refine r_X7_reach_b_73 _ _ _ _ _ _ _ _ F I J ?_
    rw [hF, nLe (by omega) (by omega), ze, g3, g4, n0, n2, nEq (by omega) (by omega), nEq (by omega) (by omega), ← n0]
    refine ⟨fun z => absurd z (by omega), fun _ => ⟨fun z => next0 (fun y hTe _ => absurd z ((hT e he).mp hTe).1), fun z => ⟨be, fun z2 => next0 (fun y hTe _ => absurd z2 ((hT e he).mp hTe).2.1), fun z2 => ⟨be, fun z3 => ⟨be, fun z4 => at134 ⟨z, z2, fun q => absurd q z3, fun q => absurd z4 q⟩, fun z4 => ⟨fun z5 => at134 ⟨z, z2, fun q => absurd q z3, fun _ => z5⟩, fun z5 => next0 (fun y hTe _ => absurd z5 (((hT e he).mp hTe).2.2.2.1 z4))⟩⟩, fun z3 => ⟨fun z4 => next0 (fun y hTe _ => absurd z4 (((hT e he).mp hTe).2.2.1 z3)), fun z4 => ⟨be, fun z5 => at134 ⟨z, z2, fun _ => z4, fun q => absurd z5 q⟩, fun z5 => ⟨fun z6 => at134 ⟨z, z2, fun _ => z4, fun _ => z6⟩, fun z6 => absurd z6 z4⟩⟩⟩⟩⟩⟩⟩
theorem m_reach_b_out {P : Int32 → zM → Prop} {F : Nat → Int32} {I0 : Nat → Nat → Int32} {J : Nat → Nat → Int64} (hW : gW g) (hE : gE g I0) (hF : F 1 = nI (gm g)) {x2 x4 x5 x6 : Int32}
    (hT : ∀ e, e < gm g → (T e ↔ mT g x2 x4 x5 x6 e))
    (hP : ∀ I L q R B dp, mfl g T rt 12 L q R B dp I → frJ 12 I0 I → (∀ k, R k ↔ cn (gm g) (ga g) (gb g) T rt k) → P (nI L) (F, I, J)) :
    ∀ d i I L q R B dp, gn g ≤ i + d → i ≤ L → mfl g T rt 12 L q R B dp I → frJ 12 I0 I → (∀ x, R x → ¬ nI x = x6) → (∀ j, j < i → ∀ e y, e < gm g → T e → jn (ga g) (gb g) e (q j) y → R y) →
      AW m_X7_reach (z_pi P) 51 [some (.ref 0), none, some (.int x2), some (.ref 16), some (.int x4), some (.int x5), some (.int x6), some (.int (nI i)), some (.int (nI L)), none, none, none] [] (F, I, J) := by
  obtain ⟨w1, w2, w3⟩ := id hW
  have fin : ∀ i I L q R B dp, L ≤ i → mfl g T rt 12 L q R B dp I → frJ 12 I0 I → (∀ j, j < i → ∀ e y, e < gm g → T e → jn (ga g) (gb g) e (q j) y → R y) → P (nI L) (F, I, J) := by
    intro i I L q R B dp hL hf hI hc
    refine hP I L q R B dp hf hI (bf_iff hf.1 (fun x y e he hTe hj hx => ?_))
    obtain ⟨j, hj1, hj2⟩ := hf.1.2.2.2.2.2.1 x hx
    exact hc j (by omega) e y he hTe (by rw [hj2]; exact hj)
  intro d
  induction d with
  | zero =>
    intro i I L q R B dp hd hi hf hI hx hc
    have hLn := hf.1.1
    refine r_X7_reach_b_51 _ _ _ _ _ _ F I J ⟨fun _ => fin i I L q R B dp (by omega) hf hI hc, fun z => ?_⟩
    rw [nLe (by omega) (by omega)] at z
    omega
  | succ d ih =>
    intro i I L q R B dp hd hi hf hI hx hc
    have hLn := hf.1.1
    refine r_X7_reach_b_51 _ _ _ _ _ _ F I J ?_
    rw [nLe (by omega) (by omega)]
    refine ⟨fun z => fin i I L q R B dp z hf hI hc, fun z => ⟨nIn (by omega) (by omega), ?_⟩⟩
    have hqi := hf.1.2.2.2.1 i (by omega)
    have hE2 : gE g I := fun e he => by
      have := hE e he
      rw [hI 1 (by decide) (by decide) (by decide), hI 2 (by decide) (by decide) (by decide), hI 3 (by decide) (by decide) (by decide), hI 4 (by decide) (by decide) (by decide)]
      exact this
    rw [zN (by omega), hf.2.1 i (by omega), n1, nAdd]
    refine m_reach_b_in (L0 := L) (q0 := q) (R0 := R) hW hE2 hF hT hqi.1 ?_ (gm g) 0 I L q R B dp (by omega) hf (fun _ _ _ _ => rfl) hx (Nat.le_refl _) (fun _ _ => rfl) (fun _ h => h) hqi.2.1 (fun f y hf => by omega)
    intro I2 L2 q2 R2 B2 dp2 hf2 hI2 hx2 hL2 hq2 hR2 hk2
    refine ih (i + 1) I2 L2 q2 R2 B2 dp2 (by omega) (by omega) hf2 (fun j h1 h2 h3 => by rw [hI2 j h1 h2 h3]; exact hI j h1 h2 h3) hx2 (fun j hj e y he hTe hjn => ?_)
    rw [hq2 j (by omega)] at hjn
    rcases Nat.lt_or_ge j i with z3 | z3
    · exact hR2 y (hc j z3 e y he hTe hjn)
    · have : j = i := by omega
      subst this
      exact hk2 e y he hTe hjn
theorem m_reach_b {P : Int32 → zM → Prop} {F : Nat → Int32} {I : Nat → Nat → Int32} {J : Nat → Nat → Int64} (hW : gW g) (hE : gE g I) (hF0 : F 0 = nI (gn g)) (hF : F 1 = nI (gm g)) {x2 x4 x5 x6 : Int32}
    (hT : ∀ e, e < gm g → (T e ↔ mT g x2 x4 x5 x6 e)) (hrt : rt < gn g) (hx6 : ¬ nI rt = x6)
    (hP : ∀ I2 L q R B dp, mfl g T rt 12 L q R B dp I2 → frJ 12 I I2 → (∀ k, R k ↔ cn (gm g) (ga g) (gb g) T rt k) → P (nI L) (F, I2, J)) :
    AMi m_X7_reach [.ref 0, .int (nI rt), .int x2, .ref 16, .int x4, .int x5, .int x6] (F, I, J) P := by
  obtain ⟨w1, w2, w3⟩ := id hW
  refine r_X7_reach_b_0 _ _ _ _ _ F I J ?_
  have lp : ∀ d i (I1 : Nat → Nat → Int32), i + d = gn g → (∀ j, j ≠ 12 → I1 j = I j) → (∀ k, k < i → I1 12 k = 0) →
      AW m_X7_reach (z_pi P) 3 [some (.ref 0), some (.int (nI rt)), some (.int x2), some (.ref 16), some (.int x4), some (.int x5), some (.int x6), some (.int (nI i)), none, none, none, none] [] (F, I1, J) := by
    intro d
    induction d with
    | zero =>
      intro i I1 hd h1 h2
      refine r_X7_reach_b_3 _ _ _ _ _ _ F I1 J ?_
      rw [hF0, nLe (by omega) (by omega)]
      have b1 : vp_in (nI rt) 100 := nIn (by omega) (by omega)
      refine ⟨fun _ => ⟨b1, b1, by rw [n0]; exact nIn (by omega) (by omega), ?_⟩, fun z => absurd (show gn g ≤ i by omega) z⟩
      rw [zN (by omega), show zn 0 = 0 from by rw [n0]; exact zN (by omega), show ((0 : Int32) + 1) = nI 1 from rfl, n0]
      refine m_reach_b_out (I0 := I) hW hE hF hT hP 100 0 _ 1 (fun _ => rt) (fun k => k = rt) (fun _ => 0) (fun _ => 0) (by omega) (by omega) ?_ (fun j g1 g2 g3 => by rw [ui_ne _ _ g2, ui_ne _ _ g3, ui_ne _ _ g1]; exact h1 j g1) (fun x hx => by rw [hx]; exact hx6) (fun j hj => by omega)
      refine ⟨bf_start hrt _ _ _ rfl rfl, fun i2 hi => ?_, fun k hk hne => absurd hk hne, ?_, fun k hk => ?_⟩
      · have : i2 = 0 := by omega
        subst this
        rw [ui_self, upd_self]
      · rw [ui_ne _ _ (by decide), ui_self, upd_self]
      · rw [ui_ne _ _ (by decide), ui_ne _ _ (by decide), ui_self]
        by_cases hkr : k = rt
        · rw [hkr, upd_self]
          exact ⟨fun _ => rfl, fun z => absurd rfl z⟩
        · rw [upd_ne _ hkr]
          exact ⟨fun z => absurd z hkr, fun _ => h2 k (by omega)⟩
    | succ d ih =>
      intro i I1 hd h1 h2
      refine r_X7_reach_b_3 _ _ _ _ _ _ F I1 J ?_
      rw [hF0, nLe (by omega) (by omega), n1, nAdd]
      refine ⟨fun z => absurd z (by omega), fun _ => ⟨nIn (by omega) (by omega), ?_⟩⟩
      rw [zN (show i < 2147483648 by omega)]
      refine ih (i + 1) _ (by omega) (fun j hj => by rw [ui_ne _ _ hj]; exact h1 j hj) (fun k hk => ?_)
      rw [ui_self]
      by_cases hki : k = i
      · rw [hki, upd_self]
      · rw [upd_ne _ hki]; exact h2 k (by omega)
  exact lp (gn g) 0 I (by omega) (fun _ _ => rfl) (fun k hk => by omega)
end
