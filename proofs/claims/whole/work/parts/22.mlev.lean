/-! HEIRS of the reference -/
def gSV (g : zG) (s v : Nat → Nat) : zG := (g.1, g.2.1, g.2.2.1, g.2.2.2.1, s, v)
noncomputable def gOm (g : zG) (e i k : Nat) : Prop :=
  zif (ctp (cn (gm g) (ga g) (gb g) (Tl (gs g) (gv g) e i) (ga g e)) (gn g) ≤ ctp (cn (gm g) (ga g) (gb g) (Tl (gs g) (gv g) e i) (gb g e)) (gn g)) (cn (gm g) (ga g) (gb g) (Tl (gs g) (gv g) e i) (gb g e) k) (cn (gm g) (ga g) (gb g) (Tl (gs g) (gv g) e i) (ga g e) k)
theorem gOm_of {g : zG} {e f i : Nat} (hL : gL g) (hf : f < gm g) (hs : gs g f = 2) (hv : gv g f = i) (h1 : oneS (ga g) (gb g) (gSm g e i) f) : (gSm g e i (ga g f) → gOm g e i (gb g f)) ∧ (gSm g e i (gb g f) → gOm g e i (ga g f)) := by
  have hac := cand_across (e := e) (i := i) hL hf ⟨hs, hv, h1⟩
  unfold gSm Sm gOm at *
  by_cases hc : ctp (cn (gm g) (ga g) (gb g) (Tl (gs g) (gv g) e i) (ga g e)) (gn g) ≤ ctp (cn (gm g) (ga g) (gb g) (Tl (gs g) (gv g) e i) (gb g e)) (gn g)
  · have E : ∀ p q : Prop, zif (ctp (cn (gm g) (ga g) (gb g) (Tl (gs g) (gv g) e i) (ga g e)) (gn g) ≤ ctp (cn (gm g) (ga g) (gb g) (Tl (gs g) (gv g) e i) (gb g e)) (gn g)) p q = p := fun p q => zif_pos hc p q
    unfold oneS at h1
    simp only [E] at h1 ⊢
    rcases hac with ⟨q1, q2⟩ | ⟨q1, q2⟩
    · exact ⟨fun _ => q2, fun z => (h1.elim (fun w => absurd z w.2) (fun w => absurd (cn_symm q1) w.1))⟩
    · exact ⟨fun z => (h1.elim (fun w => absurd q2 w.2) (fun w => absurd z w.1)), fun _ => cn_symm q1⟩
  · have E : ∀ p q : Prop, zif (ctp (cn (gm g) (ga g) (gb g) (Tl (gs g) (gv g) e i) (ga g e)) (gn g) ≤ ctp (cn (gm g) (ga g) (gb g) (Tl (gs g) (gv g) e i) (gb g e)) (gn g)) p q = q := fun p q => zif_neg hc p q
    unfold oneS at h1
    simp only [E] at h1 ⊢
    rcases hac with ⟨q1, q2⟩ | ⟨q1, q2⟩
    · exact ⟨fun z => (h1.elim (fun w => absurd q2 w.2) (fun w => absurd z w.1)), fun _ => cn_symm q1⟩
    · exact ⟨fun _ => q2, fun z => (h1.elim (fun w => absurd z w.2) (fun w => absurd (cn_symm q1) w.1))⟩
/-- the reference's memory while e goes -/
def mb (g : zG) (e i ct cs : Nat) (F0 : Nat → Int32) (I0 : Nat → Nat → Int32) (F : Nat → Int32) (I : Nat → Nat → Int32) : Prop :=
  mQ (gSV g (un (gs g) e 0) (lvc (gn g) (gm g) (ga g) (gb g) (gs g) (gv g) e i ct cs)) F I ∧ F 4 = nI (sumN (lvc (gn g) (gm g) (ga g) (gb g) (gs g) (gv g) e i ct cs) (gm g)) ∧ (∀ c, c ≠ 4 → F c = F0 c) ∧ ∀ c, c ≠ 4 → c ≠ 3 → I c = I0 c
theorem mb_raise {g : zG} {e i ct cs : Nat} {F0 : Nat → Int32} {I0 : Nat → Nat → Int32} {F : Nat → Int32} {I : Nat → Nat → Int32} {ct2 cs2 c : Nat} (hW : gW g) (hfo : fo (gm g) (ga g) (gb g) (Tr g)) (hL : gL g) (he : e < gm g) (hse : gs g e = 1) (hi : i ≤ gv g e) (h : mb g e i ct cs F0 I0 F I) {f : Nat} (hf : f < gm g)
    (hc : (c = 1 ∧ gs g f = 1 ∧ gv g f = i ∧ ct = f ∧ ct2 = f + 1) ∨ (c = 2 ∧ gs g f = 2 ∧ gv g f = i ∧ cs = f ∧ cs2 = f + 1)) (hb : bothS (ga g) (gb g) (gSm g e i) f) :
    F 4 = nI (sumN (lvc (gn g) (gm g) (ga g) (gb g) (gs g) (gv g) e i ct cs) (gm g)) ∧
    mb g e i (if c = 1 then ct2 else ct) (if c = 1 then cs else cs2) F0 I0 (upd F 4 (nI (sumN (lvc (gn g) (gm g) (ga g) (gb g) (gs g) (gv g) e i ct cs) (gm g) + 1))) (z_ui I 4 f (nI (lvc (gn g) (gm g) (ga g) (gb g) (gs g) (gv g) e i ct cs f + 1))) := by
  obtain ⟨⟨q1, q2, q3, q4⟩, q5, q6, q7⟩ := h
  have hne : f ≠ e := fun z => Sm_e hfo he hse i (by rw [z] at hb; exact hb)
  have hvf : gv g f = i := by rcases hc with z | z <;> exact z.2.2.1
  have hup : lvc (gn g) (gm g) (ga g) (gb g) (gs g) (gv g) e i (if c = 1 then ct2 else ct) (if c = 1 then cs else cs2) = un (lvc (gn g) (gm g) (ga g) (gb g) (gs g) (gv g) e i ct cs) f (lvc (gn g) (gm g) (ga g) (gb g) (gs g) (gv g) e i ct cs f + 1) := by
    refine lvc_up hf hne hi hvf hb ?_
    rcases hc with ⟨z1, z2, z3, z4, z5⟩ | ⟨z1, z2, z3, z4, z5⟩
    · exact Or.inl ⟨z2, z4, by rw [if_pos z1]; exact z5, by rw [if_pos z1]⟩
    · exact Or.inr ⟨z2, z4, by rw [if_neg (by omega)]; exact z5, by rw [if_neg (by omega)]⟩
  have hsum : sumN (lvc (gn g) (gm g) (ga g) (gb g) (gs g) (gv g) e i (if c = 1 then ct2 else ct) (if c = 1 then cs else cs2)) (gm g) = sumN (lvc (gn g) (gm g) (ga g) (gb g) (gs g) (gv g) e i ct cs) (gm g) + 1 := by
    rw [hup]
    have := sumN_un (v := lvc (gn g) (gm g) (ga g) (gb g) (gs g) (gv g) e i ct cs) (f := f) (x := lvc (gn g) (gm g) (ga g) (gb g) (gs g) (gv g) e i ct cs f + 1) hf
    omega
  refine ⟨q5, ⟨⟨hW.1, hW.2.1, fun x hx => ?_⟩, by rw [upd_ne _ (by decide)]; exact q2, by rw [upd_ne _ (by decide)]; exact q3, fun x hx => ?_⟩, by rw [upd_self, hsum], fun c' hc' => by rw [upd_ne _ hc']; exact q6 c' hc', fun c' h4 h3 => by rw [ui_ne _ _ h4]; exact q7 c' h4 h3⟩
  · have h1 := q1.2.2 x hx
    have h2 := lvc_le (gab hW) hfo hL he hse i (if c = 1 then ct2 else ct) (if c = 1 then cs else cs2) x hx
    exact ⟨h1.1, h1.2.1, h1.2.2.1, h1.2.2.2.1, by show lvc _ _ _ _ _ _ _ _ _ _ _ < 100; omega⟩
  · obtain ⟨g1, g2, g3, g4⟩ := q4 x hx
    rw [hup]
    refine ⟨?_, ?_, ?_, ?_⟩
    · rw [ui_ne _ _ (by decide)]; exact g1
    · rw [ui_ne _ _ (by decide)]; exact g2
    · rw [ui_ne _ _ (by decide)]; exact g3
    · rw [ui_self]
      show _ = nI (un _ f _ x)
      by_cases z : x = f
      · rw [z, upd_self, un_self]
      · rw [upd_ne _ z, un_ne _ _ z]; exact g4
section
variable {g : zG} {e : Nat} {J : Nat → Nat → Int64}
/-- the loops of byLevels at one level, first = 1 -/
theorem m_lev_1 {P : Int32 → zM → Prop} {F0 : Nat → Int32} {I0 : Nat → Nat → Int32} (hW : gW g) (hfo : fo (gm g) (ga g) (gb g) (Tr g)) (hL : gL g) (he : e < gm g) (hse : gs g e = 1) {i : Nat} (hi : i ≤ gv g e) (hS : rowS g (gSm g e i) 11 I0) (hO : rowS g (gOm g e i) 12 I0)
    (hno : ∀ F I, mb g e i (gm g) (gm g) F0 I0 F I → (∀ x, x < gm g → ¬ gCand g e i x) → AW m_X7_byLevels (z_pi P) 7 [some (.ref 0), some (.int (nI e)), some (.int (nI i + -1)), none, none, none, none, none, none] [] (F, I, J))
    (hyes : ∀ h F I, mb g e i (gm g) h F0 I0 F I → h < gm g → gCand g e i h → (∀ x, x < h → ¬ gCand g e i x) → P (nI h) (F, z_ui I 3 h 1, J)) :
    mb g e i 0 0 F0 I0 F0 I0 → AW m_X7_byLevels (z_pi P) 66 [some (.ref 0), some (.int (nI e)), some (.int (nI i)), none, none, some (.int 1), some (.int 0), none, none] [] (F0, I0, J) := by
  intro hst
  have hn := hW.1
  have hm := hW.2.1
  have hi5 := hL.2.2 e he
  -- the spare ones
  have lp2 : ∀ d f F I, f + d = gm g → mb g e i (gm g) f F0 I0 F I → (∀ x, x < f → ¬ gCand g e i x) → AW m_X7_byLevels (z_pi P) 198 [some (.ref 0), some (.int (nI e)), some (.int (nI i)), none, none, some (.int 1), some (.int (nI f)), none, none] [] (F, I, J) := by
    intro d
    induction d with
    | zero =>
      intro f F I hd h hc
      refine r_X7_byLevels_198 _ _ _ _ F I J ?_
      rw [show F 1 = nI (gm g) from h.1.2.2.1, nLe (show gm g < 2147483648 by omega) (by omega)]
      have e1 : f = gm g := by omega
      subst e1
      exact ⟨fun _ => hno F I h hc, fun z => absurd (Nat.le_refl _) z⟩
    | succ d ih =>
      intro f F I hd h hc
      have hf : f < gm g := by omega
      have hw := hW.2.2 f hf
      have hlv := lvc_le (gab hW) hfo hL he hse i (gm g) f f hf
      obtain ⟨k1, k2, k3, k4⟩ := h.1.2.2.2 f hf
      have k3' : I 3 f = nI (un (gs g) e 0 f) := k3
      have k4' : I 4 f = nI (lvc (gn g) (gm g) (ga g) (gb g) (gs g) (gv g) e i (gm g) f f) := k4
      have k1' : I 1 f = nI (ga g f) := k1
      have k2' : I 2 f = nI (gb g f) := k2
      have hs3 : un (gs g) e 0 f < 3 := by unfold un; split <;> omega
      have b1 : vp_in (nI f) 300 := nIn (by omega) (by omega)
      have ba : vp_in (nI (ga g f)) 100 := nIn (by omega) (by omega)
      have bb : vp_in (nI (gb g f)) 100 := nIn (by omega) (by omega)
      have rS : ∀ k, k < gn g → (I 11 k = 0 ↔ ¬ gSm g e i k) := fun k hk => by
        rw [h.2.2.2 11 (by decide) (by decide)]
        exact ⟨fun z q => by rw [(hS k hk).1 q] at z; exact absurd z (by decide), fun q => (hS k hk).2 q⟩
      have rO : ∀ k, k < gn g → (I 12 k = 0 ↔ ¬ gOm g e i k) := fun k hk => by
        rw [h.2.2.2 12 (by decide) (by decide)]
        exact ⟨fun z q => by rw [(hO k hk).1 q] at z; exact absurd z (by decide), fun q => (hO k hk).2 q⟩
      have cx : ¬ gCand g e i f → ∀ x, x < f + 1 → ¬ gCand g e i x := fun q x hx => by
        rcases Nat.lt_or_ge x f with w | w
        · exact hc x w
        · rw [show x = f by omega]; exact q
      have nxt : ¬ gCand g e i f → ¬ (gs g f = 2 ∧ gv g f = i ∧ bothS (ga g) (gb g) (gSm g e i) f) → AW m_X7_byLevels (z_pi P) 198 [some (.ref 0), some (.int (nI e)), some (.int (nI i)), none, none, some (.int 1), some (.int (nI f + 1)), none, none] [] (F, I, J) := fun hq hno => by
        rw [nI_1]
        exact ih (f + 1) F I (by omega) (by unfold mb at h ⊢; rw [lvc_s_no hno]; exact h) (cx hq)
      have s2 : un (gs g) e 0 f = 2 ↔ gs g f = 2 := by
        by_cases z : f = e
        · rw [z, un_self]; omega
        · rw [un_ne _ _ z]
      have at377 : gs g f = 2 → gv g f = i → ¬ (gSm g e i (ga g f) ∧ gOm g e i (gb g f)) → ¬ bothS (ga g) (gb g) (gSm g e i) f → AW m_X7_byLevels (z_pi P) 377 [some (.ref 0), some (.int (nI e)), some (.int (nI i)), none, none, some (.int 1), some (.int (nI f)), none, some (.int (I 11 (gb g f)))] [] (F, I, J) := by
        intro z1 z2 z3 z4
        refine r_X7_byLevels_377 _ _ _ _ _ F I J ?_
        rw [zN (show f < 2147483648 by omega), k1', zN (show ga g f < 2147483648 by omega), rS _ hw.2.1]
        have hh : gSm g e i (gb g f) → (I 12 (ga g f) = 0 → AW m_X7_byLevels (z_pi P) 198 [some (.ref 0), some (.int (nI e)), some (.int (nI i)), none, none, some (.int 1), some (.int (nI f + 1)), none, none] [] (F, I, J)) ∧ (¬ I 12 (ga g f) = 0 → vp_in (nI f) 300 ∧ P (nI f) (F, z_ui I 3 f 1, J)) := by
          intro w
          have w1 : ¬ gSm g e i (ga g f) := fun w2 => z4 ⟨w2, w⟩
          refine ⟨fun w2 => ?_, fun w2 => ⟨b1, hyes f F I h hf ⟨z1, z2, Or.inr ⟨w1, w⟩⟩ hc⟩⟩
          rw [rO _ hw.1] at w2
          exact absurd (gOm_of hL hf z1 z2 (Or.inr ⟨w1, w⟩)).2 (fun w3 => w2 (w3 w))
        refine ⟨fun w => nxt (fun z => z.2.2.elim (fun y => ?_) (fun y => w y.2)) (fun z => w z.2.2.2), fun w => ?_⟩
        · exact z3 ⟨y.1, (gOm_of hL hf z1 z2 (Or.inl y)).1 y.1⟩
        · have w' := hh (Classical.not_not.mp w)
          exact ⟨fun z => absurd z (by decide), fun _ => ⟨b1, ba, w'⟩⟩
      have at334 : gs g f = 2 → gv g f = i → ¬ bothS (ga g) (gb g) (gSm g e i) f → AW m_X7_byLevels (z_pi P) 334 [some (.ref 0), some (.int (nI e)), some (.int (nI i)), none, none, some (.int 1), some (.int (nI f)), some (.int (I 11 (ga g f))), some (.int (I 11 (gb g f)))] [] (F, I, J) := by
        intro z1 z2 z4
        refine r_X7_byLevels_334 _ _ _ _ _ _ F I J ?_
        rw [zN (show f < 2147483648 by omega), k2', zN (show gb g f < 2147483648 by omega), rS _ hw.1]
        refine ⟨fun w => at377 z1 z2 (fun y => w y.1) z4, fun w => ?_⟩
        have w0 := Classical.not_not.mp w
        have w1 : ¬ gSm g e i (gb g f) := fun w2 => z4 ⟨w0, w2⟩
        have hp : I 12 (gb g f) = 0 → AW m_X7_byLevels (z_pi P) 377 [some (.ref 0), some (.int (nI e)), some (.int (nI i)), none, none, some (.int 1), some (.int (nI f)), none, some (.int (I 11 (gb g f)))] [] (F, I, J) := fun w2 => by
          rw [rO _ hw.2.1] at w2
          exact absurd ((gOm_of hL hf z1 z2 (Or.inl ⟨w0, w1⟩)).1 w0) w2
        have hy : vp_in (nI f) 300 ∧ P (nI f) (F, z_ui I 3 f 1, J) := ⟨b1, hyes f F I h hf ⟨z1, z2, Or.inl ⟨w0, w1⟩⟩ hc⟩
        exact ⟨fun z => absurd z (by decide), fun _ => ⟨b1, bb, ⟨hp, fun _ => hy⟩⟩⟩
      refine r_X7_byLevels_198 _ _ _ _ F I J ?_
      rw [show F 1 = nI (gm g) from h.1.2.2.1, nLe (show gm g < 2147483648 by omega) (by omega), zN (show f < 2147483648 by omega), k3', k4', k1', k2', zN (show ga g f < 2147483648 by omega), zN (show gb g f < 2147483648 by omega), n2, nEq (by omega) (by omega), nEq (by omega) (by omega), s2]
      refine ⟨fun z => absurd z (show ¬ gm g ≤ f by omega), fun _ => ⟨b1, fun z => nxt (fun y => z y.1) (fun y => z y.1), fun z => ⟨b1, fun z2 => ?_, fun z2 => nxt (fun y => have y1 : gs g f = 2 := y.1; z2 ((lvc_t_at (Or.inr y1)).mpr y.2.1)) (fun y => z2 ((lvc_t_at (Or.inr y.1)).mpr y.2.1))⟩⟩⟩
      have z2' : gv g f = i := (lvc_t_at (Or.inr z)).mp z2
      have fin : (I 11 (ga g f) = 0 → AW m_X7_byLevels (z_pi P) 334 [some (.ref 0), some (.int (nI e)), some (.int (nI i)), none, none, some (.int 1), some (.int (nI f)), some (.int (I 11 (ga g f))), some (.int (I 11 (gb g f)))] [] (F, I, J)) ∧ (¬ I 11 (ga g f) = 0 → ((I 11 (gb g f) = 0 → AW m_X7_byLevels (z_pi P) 334 [some (.ref 0), some (.int (nI e)), some (.int (nI i)), none, none, some (.int 1), some (.int (nI f)), some (.int (I 11 (ga g f))), some (.int (I 11 (gb g f)))] [] (F, I, J)) ∧ (¬ I 11 (gb g f) = 0 → vp_in (nI f) 300 ∧ vp_in (nI f) 300 ∧ AW m_X7_byLevels (z_pi P) 198 [some (.ref 0), some (.int (nI e)), some (.int (nI i)), none, none, some (.int 1), some (.int (nI f + 1)), none, none] [] (upd F 4 (F 4 + 1), z_ui I 4 f (nI (lvc (gn g) (gm g) (ga g) (gb g) (gs g) (gv g) e i (gm g) f f) + 1), J)))) := by
        refine ⟨fun w => at334 z z2' (fun y => ((rS _ hw.1).mp w) y.1), fun w => ⟨fun w2 => at334 z z2' (fun y => ((rS _ hw.2.1).mp w2) y.2), fun w2 => ⟨b1, b1, ?_⟩⟩⟩
        have hb : bothS (ga g) (gb g) (gSm g e i) f := ⟨Classical.byContradiction fun y => w ((rS _ hw.1).mpr y), Classical.byContradiction fun y => w2 ((rS _ hw.2.1).mpr y)⟩
        have hr := mb_raise hW hfo hL he hse hi h (c := 2) (ct2 := 0) hf (Or.inr ⟨rfl, z, z2', rfl, rfl⟩) hb
        rw [nI_1, nI_1, hr.1, nI_1]
        exact ih (f + 1) _ _ (by omega) hr.2 (cx (fun y => oneS_not y.2.2 hb))
      exact ⟨fun z => absurd z (by decide), fun _ => ⟨b1, ba, ⟨fun z => absurd z (by decide), fun _ => ⟨b1, bb, fin⟩⟩⟩⟩
  -- the tree edges
  have lp1 : ∀ d f F I, f + d = gm g → mb g e i f 0 F0 I0 F I → AW m_X7_byLevels (z_pi P) 66 [some (.ref 0), some (.int (nI e)), some (.int (nI i)), none, none, some (.int 1), some (.int (nI f)), none, none] [] (F, I, J) := by
    intro d
    induction d with
    | zero =>
      intro f F I hd h
      refine r_X7_byLevels_66 _ _ _ _ F I J ?_
      rw [show F 1 = nI (gm g) from h.1.2.2.1, nLe (show gm g < 2147483648 by omega) (by omega)]
      have e1 : f = gm g := by omega
      subst e1
      exact ⟨fun _ => lp2 (gm g) 0 F I (by omega) h (fun x hx => by omega), fun z => absurd (Nat.le_refl _) z⟩
    | succ d ih =>
      intro f F I hd h
      have hf : f < gm g := by omega
      have hw := hW.2.2 f hf
      have hlv := lvc_le (gab hW) hfo hL he hse i f 0 f hf
      obtain ⟨k1, k2, k3, k4⟩ := h.1.2.2.2 f hf
      have k3' : I 3 f = nI (un (gs g) e 0 f) := k3
      have k4' : I 4 f = nI (lvc (gn g) (gm g) (ga g) (gb g) (gs g) (gv g) e i f 0 f) := k4
      have k1' : I 1 f = nI (ga g f) := k1
      have k2' : I 2 f = nI (gb g f) := k2
      have hs3 : un (gs g) e 0 f < 3 := by unfold un; split <;> omega
      have b1 : vp_in (nI f) 300 := nIn (by omega) (by omega)
      have ba : vp_in (nI (ga g f)) 100 := nIn (by omega) (by omega)
      have bb : vp_in (nI (gb g f)) 100 := nIn (by omega) (by omega)
      have rS : ∀ k, k < gn g → (I 11 k = 0 ↔ ¬ gSm g e i k) := fun k hk => by
        rw [h.2.2.2 11 (by decide) (by decide)]
        exact ⟨fun z q => by rw [(hS k hk).1 q] at z; exact absurd z (by decide), fun q => (hS k hk).2 q⟩
      have nxt : ¬ (gs g f = 1 ∧ gv g f = i ∧ bothS (ga g) (gb g) (gSm g e i) f) → AW m_X7_byLevels (z_pi P) 66 [some (.ref 0), some (.int (nI e)), some (.int (nI i)), none, none, some (.int 1), some (.int (nI f + 1)), none, none] [] (F, I, J) := fun hno => by
        rw [nI_1]
        exact ih (f + 1) F I (by omega) (by unfold mb at h ⊢; rw [lvc_t_no hno]; exact h)
      have s1 : un (gs g) e 0 f = 1 ↔ gs g f = 1 ∧ f ≠ e := by
        by_cases z : f = e
        · rw [z, un_self]; exact ⟨fun y => by omega, fun y => absurd rfl y.2⟩
        · rw [un_ne _ _ z]; exact ⟨fun y => ⟨y, z⟩, fun y => y.1⟩
      refine r_X7_byLevels_66 _ _ _ _ F I J ?_
      rw [show F 1 = nI (gm g) from h.1.2.2.1, nLe (show gm g < 2147483648 by omega) (by omega), zN (show f < 2147483648 by omega), k3', k4', k1', k2', zN (show ga g f < 2147483648 by omega), zN (show gb g f < 2147483648 by omega), n1, nEq (by omega) (by omega), nEq (by omega) (by omega), s1, ← n1]
      refine ⟨fun z => absurd z (show ¬ gm g ≤ f by omega), fun _ => ⟨b1, fun z => nxt (fun y => z ⟨y.1, fun y2 => Sm_e (n := gn g) (v := gv g) hfo he hse i (by have y3 := y.2.2; rw [y2] at y3; exact y3)⟩), fun z => ⟨b1, fun z2 => ?_, fun z2 => nxt (fun y => z2 ((lvc_t_at (Or.inl y.1)).mpr y.2.1))⟩⟩⟩
      have z2' : gv g f = i := (lvc_t_at (Or.inl z.1)).mp z2
      have fin : (I 11 (ga g f) = 0 → AW m_X7_byLevels (z_pi P) 66 [some (.ref 0), some (.int (nI e)), some (.int (nI i)), none, none, some (.int 1), some (.int (nI f + 1)), none, none] [] (F, I, J)) ∧ (¬ I 11 (ga g f) = 0 → vp_in (nI f) 300 ∧ vp_in (nI (gb g f)) 100 ∧ ((I 11 (gb g f) = 0 → AW m_X7_byLevels (z_pi P) 66 [some (.ref 0), some (.int (nI e)), some (.int (nI i)), none, none, some (.int 1), some (.int (nI f + 1)), none, none] [] (F, I, J)) ∧ (¬ I 11 (gb g f) = 0 → AW m_X7_byLevels (z_pi P) 168 [some (.ref 0), some (.int (nI e)), some (.int (nI i)), none, none, some (.int 1), some (.int (nI f)), none, none] [] (F, I, J)))) := by
        refine ⟨fun w => nxt (fun y => ((rS _ hw.1).mp w) y.2.2.1), fun w => ⟨b1, bb, fun w2 => nxt (fun y => ((rS _ hw.2.1).mp w2) y.2.2.2), fun w2 => ?_⟩⟩
        have hb : bothS (ga g) (gb g) (gSm g e i) f := ⟨Classical.byContradiction fun y => w ((rS _ hw.1).mpr y), Classical.byContradiction fun y => w2 ((rS _ hw.2.1).mpr y)⟩
        have hr := mb_raise hW hfo hL he hse hi h (c := 1) (cs2 := 0) hf (Or.inl ⟨rfl, z.1, z2', rfl, rfl⟩) hb
        refine r_X7_byLevels_168 _ _ _ _ F I J ⟨b1, b1, ?_⟩
        rw [zN (show f < 2147483648 by omega), k4', nI_1, nI_1, hr.1, nI_1]
        exact ih (f + 1) _ _ (by omega) hr.2
      exact ⟨fun z => absurd z (by decide), fun _ => ⟨b1, ba, fin⟩⟩
  exact lp1 (gm g) 0 F0 I0 (by omega) hst
end
section
variable {g : zG} {e : Nat} {J : Nat → Nat → Int64}
/-- the loops of byLevels at one level, first = 0 -/
theorem m_lev_0 {P : Int32 → zM → Prop} {F0 : Nat → Int32} {I0 : Nat → Nat → Int32} (hW : gW g) (hfo : fo (gm g) (ga g) (gb g) (Tr g)) (hL : gL g) (he : e < gm g) (hse : gs g e = 1) {i : Nat} (hi : i ≤ gv g e) (hS : rowS g (gSm g e i) 12 I0) (hO : rowS g (gOm g e i) 11 I0)
    (hno : ∀ F I, mb g e i (gm g) (gm g) F0 I0 F I → (∀ x, x < gm g → ¬ gCand g e i x) → AW m_X7_byLevels (z_pi P) 7 [some (.ref 0), some (.int (nI e)), some (.int (nI i + -1)), none, none, none, none, none, none] [] (F, I, J))
    (hyes : ∀ h F I, mb g e i (gm g) h F0 I0 F I → h < gm g → gCand g e i h → (∀ x, x < h → ¬ gCand g e i x) → P (nI h) (F, z_ui I 3 h 1, J)) :
    mb g e i 0 0 F0 I0 F0 I0 → AW m_X7_byLevels (z_pi P) 66 [some (.ref 0), some (.int (nI e)), some (.int (nI i)), none, none, some (.int 0), some (.int 0), none, none] [] (F0, I0, J) := by
  intro hst
  have hn := hW.1
  have hm := hW.2.1
  have hi5 := hL.2.2 e he
  -- the spare ones
  have lp2 : ∀ d f F I, f + d = gm g → mb g e i (gm g) f F0 I0 F I → (∀ x, x < f → ¬ gCand g e i x) → AW m_X7_byLevels (z_pi P) 198 [some (.ref 0), some (.int (nI e)), some (.int (nI i)), none, none, some (.int 0), some (.int (nI f)), none, none] [] (F, I, J) := by
    intro d
    induction d with
    | zero =>
      intro f F I hd h hc
      refine r_X7_byLevels_198 _ _ _ _ F I J ?_
      rw [show F 1 = nI (gm g) from h.1.2.2.1, nLe (show gm g < 2147483648 by omega) (by omega)]
      have e1 : f = gm g := by omega
      subst e1
      exact ⟨fun _ => hno F I h hc, fun z => absurd (Nat.le_refl _) z⟩
    | succ d ih =>
      intro f F I hd h hc
      have hf : f < gm g := by omega
      have hw := hW.2.2 f hf
      have hlv := lvc_le (gab hW) hfo hL he hse i (gm g) f f hf
      obtain ⟨k1, k2, k3, k4⟩ := h.1.2.2.2 f hf
      have k3' : I 3 f = nI (un (gs g) e 0 f) := k3
      have k4' : I 4 f = nI (lvc (gn g) (gm g) (ga g) (gb g) (gs g) (gv g) e i (gm g) f f) := k4
      have k1' : I 1 f = nI (ga g f) := k1
      have k2' : I 2 f = nI (gb g f) := k2
      have hs3 : un (gs g) e 0 f < 3 := by unfold un; split <;> omega
      have b1 : vp_in (nI f) 300 := nIn (by omega) (by omega)
      have ba : vp_in (nI (ga g f)) 100 := nIn (by omega) (by omega)
      have bb : vp_in (nI (gb g f)) 100 := nIn (by omega) (by omega)
      have rS : ∀ k, k < gn g → (I 12 k = 0 ↔ ¬ gSm g e i k) := fun k hk => by
        rw [h.2.2.2 12 (by decide) (by decide)]
        exact ⟨fun z q => by rw [(hS k hk).1 q] at z; exact absurd z (by decide), fun q => (hS k hk).2 q⟩
      have rO : ∀ k, k < gn g → (I 11 k = 0 ↔ ¬ gOm g e i k) := fun k hk => by
        rw [h.2.2.2 11 (by decide) (by decide)]
        exact ⟨fun z q => by rw [(hO k hk).1 q] at z; exact absurd z (by decide), fun q => (hO k hk).2 q⟩
      have cx : ¬ gCand g e i f → ∀ x, x < f + 1 → ¬ gCand g e i x := fun q x hx => by
        rcases Nat.lt_or_ge x f with w | w
        · exact hc x w
        · rw [show x = f by omega]; exact q
      have nxt : ¬ gCand g e i f → ¬ (gs g f = 2 ∧ gv g f = i ∧ bothS (ga g) (gb g) (gSm g e i) f) → AW m_X7_byLevels (z_pi P) 198 [some (.ref 0), some (.int (nI e)), some (.int (nI i)), none, none, some (.int 0), some (.int (nI f + 1)), none, none] [] (F, I, J) := fun hq hno => by
        rw [nI_1]
        exact ih (f + 1) F I (by omega) (by unfold mb at h ⊢; rw [lvc_s_no hno]; exact h) (cx hq)
      have s2 : un (gs g) e 0 f = 2 ↔ gs g f = 2 := by
        by_cases z : f = e
        · rw [z, un_self]; omega
        · rw [un_ne _ _ z]
      have at377 : gs g f = 2 → gv g f = i → ¬ (gSm g e i (ga g f) ∧ gOm g e i (gb g f)) → ¬ bothS (ga g) (gb g) (gSm g e i) f → AW m_X7_byLevels (z_pi P) 377 [some (.ref 0), some (.int (nI e)), some (.int (nI i)), none, none, some (.int 0), some (.int (nI f)), none, some (.int (I 12 (gb g f)))] [] (F, I, J) := by
        intro z1 z2 z3 z4
        refine r_X7_byLevels_377 _ _ _ _ _ F I J ?_
        rw [zN (show f < 2147483648 by omega), k1', zN (show ga g f < 2147483648 by omega), rS _ hw.2.1]
        have hh : gSm g e i (gb g f) → (I 11 (ga g f) = 0 → AW m_X7_byLevels (z_pi P) 198 [some (.ref 0), some (.int (nI e)), some (.int (nI i)), none, none, some (.int 0), some (.int (nI f + 1)), none, none] [] (F, I, J)) ∧ (¬ I 11 (ga g f) = 0 → vp_in (nI f) 300 ∧ P (nI f) (F, z_ui I 3 f 1, J)) := by
          intro w
          have w1 : ¬ gSm g e i (ga g f) := fun w2 => z4 ⟨w2, w⟩
          refine ⟨fun w2 => ?_, fun w2 => ⟨b1, hyes f F I h hf ⟨z1, z2, Or.inr ⟨w1, w⟩⟩ hc⟩⟩
          rw [rO _ hw.1] at w2
          exact absurd (gOm_of hL hf z1 z2 (Or.inr ⟨w1, w⟩)).2 (fun w3 => w2 (w3 w))
        refine ⟨fun w => nxt (fun z => z.2.2.elim (fun y => ?_) (fun y => w y.2)) (fun z => w z.2.2.2), fun w => ?_⟩
        · exact z3 ⟨y.1, (gOm_of hL hf z1 z2 (Or.inl y)).1 y.1⟩
        · have w' := hh (Classical.not_not.mp w)
          exact ⟨fun _ => ⟨b1, ba, w'⟩, fun z => absurd rfl z⟩
      have at334 : gs g f = 2 → gv g f = i → ¬ bothS (ga g) (gb g) (gSm g e i) f → AW m_X7_byLevels (z_pi P) 334 [some (.ref 0), some (.int (nI e)), some (.int (nI i)), none, none, some (.int 0), some (.int (nI f)), some (.int (I 12 (ga g f))), some (.int (I 12 (gb g f)))] [] (F, I, J) := by
        intro z1 z2 z4
        refine r_X7_byLevels_334 _ _ _ _ _ _ F I J ?_
        rw [zN (show f < 2147483648 by omega), k2', zN (show gb g f < 2147483648 by omega), rS _ hw.1]
        refine ⟨fun w => at377 z1 z2 (fun y => w y.1) z4, fun w => ?_⟩
        have w0 := Classical.not_not.mp w
        have w1 : ¬ gSm g e i (gb g f) := fun w2 => z4 ⟨w0, w2⟩
        have hp : I 11 (gb g f) = 0 → AW m_X7_byLevels (z_pi P) 377 [some (.ref 0), some (.int (nI e)), some (.int (nI i)), none, none, some (.int 0), some (.int (nI f)), none, some (.int (I 12 (gb g f)))] [] (F, I, J) := fun w2 => by
          rw [rO _ hw.2.1] at w2
          exact absurd ((gOm_of hL hf z1 z2 (Or.inl ⟨w0, w1⟩)).1 w0) w2
        have hy : vp_in (nI f) 300 ∧ P (nI f) (F, z_ui I 3 f 1, J) := ⟨b1, hyes f F I h hf ⟨z1, z2, Or.inl ⟨w0, w1⟩⟩ hc⟩
        exact ⟨fun _ => ⟨b1, bb, ⟨fun _ => hy, hp⟩⟩, fun z => absurd rfl z⟩
      refine r_X7_byLevels_198 _ _ _ _ F I J ?_
      rw [show F 1 = nI (gm g) from h.1.2.2.1, nLe (show gm g < 2147483648 by omega) (by omega), zN (show f < 2147483648 by omega), k3', k4', k1', k2', zN (show ga g f < 2147483648 by omega), zN (show gb g f < 2147483648 by omega), n2, nEq (by omega) (by omega), nEq (by omega) (by omega), s2]
      refine ⟨fun z => absurd z (show ¬ gm g ≤ f by omega), fun _ => ⟨b1, fun z => nxt (fun y => z y.1) (fun y => z y.1), fun z => ⟨b1, fun z2 => ?_, fun z2 => nxt (fun y => have y1 : gs g f = 2 := y.1; z2 ((lvc_t_at (Or.inr y1)).mpr y.2.1)) (fun y => z2 ((lvc_t_at (Or.inr y.1)).mpr y.2.1))⟩⟩⟩
      have z2' : gv g f = i := (lvc_t_at (Or.inr z)).mp z2
      have fin : (I 12 (ga g f) = 0 → AW m_X7_byLevels (z_pi P) 334 [some (.ref 0), some (.int (nI e)), some (.int (nI i)), none, none, some (.int 0), some (.int (nI f)), some (.int (I 12 (ga g f))), some (.int (I 12 (gb g f)))] [] (F, I, J)) ∧ (¬ I 12 (ga g f) = 0 → ((I 12 (gb g f) = 0 → AW m_X7_byLevels (z_pi P) 334 [some (.ref 0), some (.int (nI e)), some (.int (nI i)), none, none, some (.int 0), some (.int (nI f)), some (.int (I 12 (ga g f))), some (.int (I 12 (gb g f)))] [] (F, I, J)) ∧ (¬ I 12 (gb g f) = 0 → vp_in (nI f) 300 ∧ vp_in (nI f) 300 ∧ AW m_X7_byLevels (z_pi P) 198 [some (.ref 0), some (.int (nI e)), some (.int (nI i)), none, none, some (.int 0), some (.int (nI f + 1)), none, none] [] (upd F 4 (F 4 + 1), z_ui I 4 f (nI (lvc (gn g) (gm g) (ga g) (gb g) (gs g) (gv g) e i (gm g) f f) + 1), J)))) := by
        refine ⟨fun w => at334 z z2' (fun y => ((rS _ hw.1).mp w) y.1), fun w => ⟨fun w2 => at334 z z2' (fun y => ((rS _ hw.2.1).mp w2) y.2), fun w2 => ⟨b1, b1, ?_⟩⟩⟩
        have hb : bothS (ga g) (gb g) (gSm g e i) f := ⟨Classical.byContradiction fun y => w ((rS _ hw.1).mpr y), Classical.byContradiction fun y => w2 ((rS _ hw.2.1).mpr y)⟩
        have hr := mb_raise hW hfo hL he hse hi h (c := 2) (ct2 := 0) hf (Or.inr ⟨rfl, z, z2', rfl, rfl⟩) hb
        rw [nI_1, nI_1, hr.1, nI_1]
        exact ih (f + 1) _ _ (by omega) hr.2 (cx (fun y => oneS_not y.2.2 hb))
      exact ⟨fun _ => ⟨b1, ba, ⟨fun _ => ⟨b1, bb, fin⟩, fun z => absurd rfl z⟩⟩, fun z => absurd rfl z⟩
  -- the tree edges
  have lp1 : ∀ d f F I, f + d = gm g → mb g e i f 0 F0 I0 F I → AW m_X7_byLevels (z_pi P) 66 [some (.ref 0), some (.int (nI e)), some (.int (nI i)), none, none, some (.int 0), some (.int (nI f)), none, none] [] (F, I, J) := by
    intro d
    induction d with
    | zero =>
      intro f F I hd h
      refine r_X7_byLevels_66 _ _ _ _ F I J ?_
      rw [show F 1 = nI (gm g) from h.1.2.2.1, nLe (show gm g < 2147483648 by omega) (by omega)]
      have e1 : f = gm g := by omega
      subst e1
      exact ⟨fun _ => lp2 (gm g) 0 F I (by omega) h (fun x hx => by omega), fun z => absurd (Nat.le_refl _) z⟩
    | succ d ih =>
      intro f F I hd h
      have hf : f < gm g := by omega
      have hw := hW.2.2 f hf
      have hlv := lvc_le (gab hW) hfo hL he hse i f 0 f hf
      obtain ⟨k1, k2, k3, k4⟩ := h.1.2.2.2 f hf
      have k3' : I 3 f = nI (un (gs g) e 0 f) := k3
      have k4' : I 4 f = nI (lvc (gn g) (gm g) (ga g) (gb g) (gs g) (gv g) e i f 0 f) := k4
      have k1' : I 1 f = nI (ga g f) := k1
      have k2' : I 2 f = nI (gb g f) := k2
      have hs3 : un (gs g) e 0 f < 3 := by unfold un; split <;> omega
      have b1 : vp_in (nI f) 300 := nIn (by omega) (by omega)
      have ba : vp_in (nI (ga g f)) 100 := nIn (by omega) (by omega)
      have bb : vp_in (nI (gb g f)) 100 := nIn (by omega) (by omega)
      have rS : ∀ k, k < gn g → (I 12 k = 0 ↔ ¬ gSm g e i k) := fun k hk => by
        rw [h.2.2.2 12 (by decide) (by decide)]
        exact ⟨fun z q => by rw [(hS k hk).1 q] at z; exact absurd z (by decide), fun q => (hS k hk).2 q⟩
      have nxt : ¬ (gs g f = 1 ∧ gv g f = i ∧ bothS (ga g) (gb g) (gSm g e i) f) → AW m_X7_byLevels (z_pi P) 66 [some (.ref 0), some (.int (nI e)), some (.int (nI i)), none, none, some (.int 0), some (.int (nI f + 1)), none, none] [] (F, I, J) := fun hno => by
        rw [nI_1]
        exact ih (f + 1) F I (by omega) (by unfold mb at h ⊢; rw [lvc_t_no hno]; exact h)
      have s1 : un (gs g) e 0 f = 1 ↔ gs g f = 1 ∧ f ≠ e := by
        by_cases z : f = e
        · rw [z, un_self]; exact ⟨fun y => by omega, fun y => absurd rfl y.2⟩
        · rw [un_ne _ _ z]; exact ⟨fun y => ⟨y, z⟩, fun y => y.1⟩
      refine r_X7_byLevels_66 _ _ _ _ F I J ?_
      rw [show F 1 = nI (gm g) from h.1.2.2.1, nLe (show gm g < 2147483648 by omega) (by omega), zN (show f < 2147483648 by omega), k3', k4', k1', k2', zN (show ga g f < 2147483648 by omega), zN (show gb g f < 2147483648 by omega), n1, nEq (by omega) (by omega), nEq (by omega) (by omega), s1, ← n1]
      refine ⟨fun z => absurd z (show ¬ gm g ≤ f by omega), fun _ => ⟨b1, fun z => nxt (fun y => z ⟨y.1, fun y2 => Sm_e (n := gn g) (v := gv g) hfo he hse i (by have y3 := y.2.2; rw [y2] at y3; exact y3)⟩), fun z => ⟨b1, fun z2 => ?_, fun z2 => nxt (fun y => z2 ((lvc_t_at (Or.inl y.1)).mpr y.2.1))⟩⟩⟩
      have z2' : gv g f = i := (lvc_t_at (Or.inl z.1)).mp z2
      have fin : (I 12 (ga g f) = 0 → AW m_X7_byLevels (z_pi P) 66 [some (.ref 0), some (.int (nI e)), some (.int (nI i)), none, none, some (.int 0), some (.int (nI f + 1)), none, none] [] (F, I, J)) ∧ (¬ I 12 (ga g f) = 0 → vp_in (nI f) 300 ∧ vp_in (nI (gb g f)) 100 ∧ ((I 12 (gb g f) = 0 → AW m_X7_byLevels (z_pi P) 66 [some (.ref 0), some (.int (nI e)), some (.int (nI i)), none, none, some (.int 0), some (.int (nI f + 1)), none, none] [] (F, I, J)) ∧ (¬ I 12 (gb g f) = 0 → AW m_X7_byLevels (z_pi P) 168 [some (.ref 0), some (.int (nI e)), some (.int (nI i)), none, none, some (.int 0), some (.int (nI f)), none, none] [] (F, I, J)))) := by
        refine ⟨fun w => nxt (fun y => ((rS _ hw.1).mp w) y.2.2.1), fun w => ⟨b1, bb, fun w2 => nxt (fun y => ((rS _ hw.2.1).mp w2) y.2.2.2), fun w2 => ?_⟩⟩
        have hb : bothS (ga g) (gb g) (gSm g e i) f := ⟨Classical.byContradiction fun y => w ((rS _ hw.1).mpr y), Classical.byContradiction fun y => w2 ((rS _ hw.2.1).mpr y)⟩
        have hr := mb_raise hW hfo hL he hse hi h (c := 1) (cs2 := 0) hf (Or.inl ⟨rfl, z.1, z2', rfl, rfl⟩) hb
        refine r_X7_byLevels_168 _ _ _ _ F I J ⟨b1, b1, ?_⟩
        rw [zN (show f < 2147483648 by omega), k4', nI_1, nI_1, hr.1, nI_1]
        exact ih (f + 1) _ _ (by omega) hr.2
      exact ⟨fun _ => ⟨b1, ba, fin⟩, fun z => absurd rfl z⟩
  exact lp1 (gm g) 0 F0 I0 (by omega) hst
end
