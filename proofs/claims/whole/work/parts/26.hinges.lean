/-! HINGES of the class -/
def dM (g : zG) (tn lo : Nat → Nat) (B : Nat → Option Nat) (np : Nat → Nat) (cu : Nat → Prop) (t br cc : Nat) (F : Nat → Int32) (I : Nat → Nat → Int32) : Prop :=
  (∀ k, k < gn g → I 18 k = nI (tn k)) ∧ (∀ k, tn k ≠ 0 → I 19 k = nI (lo k) ∧ I 20 k = oI (B k) ∧ nx g (np k) k (I 21 k) ∧ (cu k → I 22 k = 1) ∧ (¬ cu k → I 22 k = 0) ∧ np k ≤ 2 * gm g) ∧ F 9 = nI t ∧ F 11 = nI br ∧ F 12 = nI cc
def frZ (F0 : Nat → Int32) (I0 : Nat → Nat → Int32) (F : Nat → Int32) (I : Nat → Nat → Int32) : Prop := (∀ c, (c < 9 ∨ 12 < c) → F c = F0 c) ∧ ∀ c, (c < 18 ∨ 22 < c) → I c = I0 c
theorem frZ_trans {F0 F1 F2 : Nat → Int32} {I0 I1 I2 : Nat → Nat → Int32} (h : frZ F0 I0 F1 I1) (h2 : frZ F1 I1 F2 I2) : frZ F0 I0 F2 I2 := ⟨fun c hc => by rw [h2.1 c hc, h.1 c hc], fun c hc => by rw [h2.2 c hc, h.2 c hc]⟩
theorem frZ_E {g : zG} {F0 F : Nat → Int32} {I0 I : Nat → Nat → Int32} (h : frZ F0 I0 F I) (hE : gE g I0) : gE g I := fun e he => by
  rw [h.2 1 (by omega), h.2 2 (by omega), h.2 3 (by omega), h.2 4 (by omega)]; exact hE e he
noncomputable def dCost (g : zG) (tn np : Nat → Nat) (fin : Nat → Prop) : Nat := ctp (fun l => tn (ep g l) ≠ 0 ∧ np (ep g l) ≤ l) (2 * gm g) + ctp fin (gn g)
theorem dCost_le {g : zG} (hW : gW g) (tn np : Nat → Nat) (fin : Nat → Prop) : dCost g tn np fin ≤ 700 := by
  have h1 := ctp_le (fun l => tn (ep g l) ≠ 0 ∧ np (ep g l) ≤ l) (2 * gm g)
  have h2 := ctp_le fin (gn g)
  have h3 := hW.1
  have h4 := hW.2.1
  unfold dCost
  omega
theorem dCost_link {g : zG} {tn np tn2 np2 : Nat → Nat} {fin : Nat → Prop} {k l : Nat} (hl : l < 2 * gm g) (hep : ep g l = k) (hlk : l < np k) (h2 : tn2 k ≠ 0) (h3 : np2 k ≤ l) (hmono : ∀ x l', tn x ≠ 0 → np x ≤ l' → l' < 2 * gm g → tn2 x ≠ 0 ∧ np2 x ≤ l') : dCost g tn np fin + 1 ≤ dCost g tn2 np2 fin := by
  unfold dCost
  have := ctp_mono (p := fun x => x = l ∨ (tn (ep g x) ≠ 0 ∧ np (ep g x) ≤ x)) (q := fun l => tn2 (ep g l) ≠ 0 ∧ np2 (ep g l) ≤ l) (n := 2 * gm g) (fun x hx z => by
    rcases z with z | z
    · rw [z, hep]; exact ⟨h2, h3⟩
    · exact hmono _ _ z.1 z.2 hx)
  rw [ctp_ins (p := fun l => tn (ep g l) ≠ 0 ∧ np (ep g l) ≤ l) hl (fun z => by rw [hep] at z; omega) (fun _ _ => Iff.rfl)] at this
  omega
theorem nIf {x y : Nat} (hx : x < 2147483648) (hy : y < 2147483648) : (if nI x < nI y then nI x else nI y) = nI (if x < y then x else y) := by
  by_cases h : x < y
  · rw [if_pos h, if_pos (by rw [nLt hx hy]; exact h)]
  · rw [if_neg h, if_neg (by rw [nLt hx hy]; exact h)]
theorem minE {X Y : Int32} {x y : Nat} (hX : X = nI x) (hY : Y = nI y) (hx : x < 2147483648) (hy : y < 2147483648) : (if X < Y then X else Y) = nI (if x < y then x else y) := by
  subst hX; subst hY
  exact nIf hx hy
section
variable {g : zG} {F : Nat → Int32} {I : Nat → Nat → Int32} {J : Nat → Nat → Int64} {tn lo : Nat → Nat} {B : Nat → Option Nat} {np : Nat → Nat} {cu fin : Nat → Prop} {t br cc : Nat}
theorem dI_t (h : dI g tn lo B np cu fin t br cc) (hn : gn g ≤ 100) : t ≤ 100 ∧ (∀ k, tn k ≤ 100) ∧ ∀ k, tn k ≠ 0 → lo k ≤ 100 := by
  have h1 : t ≤ gn g := by rw [h.2.2.2.2.2.2.2.2.2.2]; exact ctp_le _ _
  have h2 : ∀ k, tn k ≤ 100 := fun k => by
    by_cases q : tn k = 0
    · omega
    · have := (h.1 k q).2; omega
  exact ⟨by omega, h2, fun k hk => by have := (h.2.2.2.2.2.1 k hk).1; have := h2 k; omega⟩
theorem dI_cnt (h : dI g tn lo B np cu fin t br cc) (hW : gW g) : br ≤ 300 ∧ cc ≤ 100 := by
  have h1 := hW.1
  have h2 := hW.2.1
  refine ⟨?_, ?_⟩
  · rw [h.2.2.2.2.2.2.2.2.1]; exact Nat.le_trans (ctp_le _ _) h2
  · rw [h.2.2.2.2.2.2.2.2.2.1]; exact Nat.le_trans (ctp_le _ _) h1
/-- a knot is entered -/
theorem c_enter {P : zM → Prop} (hM : dM g tn lo B np cu t br cc F I) (hW : gW g) (hC : gC g I) {y : Nat} (hyn : y < gn g) (hy : tn y = 0) {be : Option Nat}
    (hP : ∀ F2 I2, dM g (un tn y (t + 1)) (un lo y (t + 1)) (un B y be) (un np y (2 * gm g)) (fun x => x ≠ y ∧ cu x) (t + 1) br cc F2 I2 → frZ F I F2 I2 → F2 10 = F 10 → P (F2, I2, J)) : AMv m_X2_enter [.ref 25, .ref 3, .int (nI y), .int (oI be)] (F, I, J) P := by
  have hn := hW.1
  refine r_X2_enter_0 _ _ F I J ?_
  have b1 : vp_in (nI y) 100 := nIn (by omega) (by omega)
  obtain ⟨q1, q2, q3, q4, q5⟩ := hM
  rw [zN (by omega), q3, nI_1]
  refine ⟨b1, b1, b1, b1, b1, b1, hP _ _ ⟨fun k hk => ?_, fun k hk => ?_, upd_self _ _ _, by rw [upd_ne _ (by decide)]; exact q4, by rw [upd_ne _ (by decide)]; exact q5⟩ ⟨fun c hc => upd_ne _ (by omega), fun c hc => by rw [ui_ne _ _ (by omega), ui_ne _ _ (by omega), ui_ne _ _ (by omega), ui_ne _ _ (by omega), ui_ne _ _ (by omega)]⟩ (upd_ne _ (by decide))⟩
  · rw [ui_ne _ _ (by decide), ui_ne _ _ (by decide), ui_ne _ _ (by decide), ui_ne _ _ (by decide), ui_self]
    by_cases z : k = y
    · rw [z, upd_self, un_self]
    · rw [upd_ne _ z, un_ne _ _ z]; exact q1 k hk
  · have r19 : z_ui (z_ui (z_ui (z_ui (z_ui I 18 y (nI (t + 1))) 19 y (nI (t + 1))) 20 y (oI be)) 22 y 0) 21 y (I 5 y) 19 = upd (I 19) y (nI (t + 1)) := by
      rw [ui_ne _ _ (by decide), ui_ne _ _ (by decide), ui_ne _ _ (by decide), ui_self, ui_ne _ _ (by decide)]
    have r20 : z_ui (z_ui (z_ui (z_ui (z_ui I 18 y (nI (t + 1))) 19 y (nI (t + 1))) 20 y (oI be)) 22 y 0) 21 y (I 5 y) 20 = upd (I 20) y (oI be) := by
      rw [ui_ne _ _ (by decide), ui_ne _ _ (by decide), ui_self, ui_ne _ _ (by decide), ui_ne _ _ (by decide)]
    have r21 : z_ui (z_ui (z_ui (z_ui (z_ui I 18 y (nI (t + 1))) 19 y (nI (t + 1))) 20 y (oI be)) 22 y 0) 21 y (I 5 y) 21 = upd (I 21) y (I 5 y) := by
      rw [ui_self, ui_ne _ _ (by decide), ui_ne _ _ (by decide), ui_ne _ _ (by decide), ui_ne _ _ (by decide)]
    have r22 : z_ui (z_ui (z_ui (z_ui (z_ui I 18 y (nI (t + 1))) 19 y (nI (t + 1))) 20 y (oI be)) 22 y 0) 21 y (I 5 y) 22 = upd (I 22) y 0 := by
      rw [ui_ne _ _ (by decide), ui_self, ui_ne _ _ (by decide), ui_ne _ _ (by decide), ui_ne _ _ (by decide)]
    rw [r19, r20, r21, r22]
    by_cases z : k = y
    · subst z
      rw [upd_self, upd_self, upd_self, upd_self, un_self, un_self, un_self]
      exact ⟨rfl, rfl, hC.1 k (by omega), fun w => absurd rfl w.1, fun _ => rfl, Nat.le_refl _⟩
    · have hk2 : tn k ≠ 0 := by rw [un_ne _ _ z] at hk; exact hk
      obtain ⟨g1, g2, g3, g4, g5, g6⟩ := q2 k hk2
      rw [upd_ne _ z, upd_ne _ z, upd_ne _ z, upd_ne _ z, un_ne _ _ z, un_ne _ _ z, un_ne _ _ z]
      exact ⟨g1, g2, g3, fun w => g4 w.2, fun w => g5 (fun w2 => w ⟨z, w2⟩), g6⟩
theorem c_markCut {P : zM → Prop} (hM : dM g tn lo B np cu t br cc F I) (hW : gW g) {v : Nat} (hv : tn v ≠ 0) (hvn : v < gn g) (h1 : cu v → P (F, I, J)) (h0 : ∀ F2 I2, ¬ cu v → dM g tn lo B np (fun x => cu x ∨ x = v) t br (cc + 1) F2 I2 → frZ F I F2 I2 → F2 10 = F 10 → P (F2, I2, J)) : AMv m_X2_markCutKnot [.ref 25, .int (nI v)] (F, I, J) P := by
  have hn := hW.1
  refine r_X2_markCutKnot_0 _ F I J ?_
  have b1 : vp_in (nI v) 100 := nIn (by omega) (by omega)
  obtain ⟨q1, q2, q3, q4, q5⟩ := hM
  obtain ⟨g1, g2, g3, g4, g5, -⟩ := q2 v hv
  rw [zN (by omega), q5, nI_1]
  refine ⟨b1, fun z => ?_, fun z => ⟨b1, ?_⟩⟩
  · exact h1 (Classical.byContradiction fun w => z (g5 w))
  · have hc : ¬ cu v := fun w => by rw [g4 w] at z; exact absurd z (by decide)
    refine h0 _ _ hc ⟨fun k hk => by rw [ui_ne _ _ (by decide)]; exact q1 k hk, fun k hk => ?_, by rw [upd_ne _ (by decide)]; exact q3, by rw [upd_ne _ (by decide)]; exact q4, upd_self _ _ _⟩ ⟨fun c hc => upd_ne _ (by omega), fun c hc => ui_ne _ _ (by omega)⟩ (upd_ne _ (by decide))
    obtain ⟨k1, k2, k3, k4, k5, k6⟩ := q2 k hk
    rw [ui_ne _ _ (show 19 ≠ 22 by decide), ui_ne _ _ (show 20 ≠ 22 by decide), ui_ne _ _ (show 21 ≠ 22 by decide), ui_self]
    refine ⟨k1, k2, k3, ?_⟩
    by_cases w : k = v
    · rw [w, upd_self]; exact ⟨fun _ => rfl, fun y => absurd (Or.inr rfl) y, by rw [← w]; exact k6⟩
    · rw [upd_ne _ w]; exact ⟨fun y => k4 (y.resolve_right w), fun y => k5 (fun y2 => y (Or.inl y2)), k6⟩
theorem un_same {α : Type} (f : Nat → α) (k : Nat) : un f k (f k) = f := by
  funext x
  by_cases h : x = k
  · rw [h, un_self]
  · rw [un_ne _ _ h]
theorem un_comm {α : Type} (f : Nat → α) {i j : Nat} (h : i ≠ j) (x y : α) : un (un f i x) j y = un (un f j y) i x := by
  funext z
  by_cases h1 : z = j
  · rw [h1, un_self, un_ne _ _ (fun q => h q.symm), un_self]
  · rw [un_ne _ _ h1]
    by_cases h2 : z = i
    · rw [h2, un_self, un_self]
    · rw [un_ne _ _ h2, un_ne _ _ h2, un_ne _ _ h1]
/-- the walk from st0 under way -/
def wS (g : zG) (F0 : Nat → Int32) (I0 : Nat → Nat → Int32) (W0 : Nat → Prop) (st0 : Nat) (tn lo : Nat → Nat) (B : Nat → Option Nat) (np : Nat → Nat) (cu fin : Nat → Prop) (t br cc : Nat) (F : Nat → Int32) (I : Nat → Nat → Int32) : Prop :=
  dI g tn lo B np cu fin t br cc ∧ dM g tn lo B np cu t br cc F I ∧ dR g tn B cu fin (fun x => x = st0) ∧ frZ F0 I0 F I ∧ tn st0 ≠ 0 ∧ B st0 = none ∧ ¬ cu st0 ∧ ¬ fin st0 ∧ F 10 = nI (ctp (fun c => fin c ∧ B c ≠ none ∧ par (ga g) (gb g) B c = st0) (gn g)) ∧ ∀ x, W0 x → tn x ≠ 0
/-- on the way from k up there is one first knot -/
theorem wS_root {k st0 : Nat} (h : anc (ga g) (gb g) B st0 k) (hk : B k = none) : st0 = k := by
  obtain ⟨i, hi⟩ := h
  have : ∀ i, itp (ga g) (gb g) B i k = k := by
    intro i
    induction i with
    | zero => rfl
    | succ i ih => rw [itp, ih, par_none hk]
  rw [this i] at hi
  exact hi.symm
theorem c_walk_end {P : zM → Prop} {F0 : Nat → Int32} {I0 : Nat → Nat → Int32} {W0 : Nat → Prop} {st0 : Nat} (hW : gW g) (hs0 : st0 < gn g)
    (hP : ∀ F I tn lo B np cu fin t br cc, dI g tn lo B np cu fin t br cc → dM g tn lo B np cu t br cc F I → dR g tn B cu fin (fun _ => False) → frZ F0 I0 F I → tn st0 ≠ 0 → (∀ x, tn x ≠ 0 → fin x) → (∀ x, W0 x → tn x ≠ 0) → P (F, I, J))
    (hw : wS g F0 I0 W0 st0 tn lo B np cu fin t br cc F I) (hK : dK g tn B fin st0) (hdone : ∀ l, l < 2 * gm g → ep g l = st0 → np st0 ≤ l) :
    (F 10 ≤ 1 → P (F, I, J)) ∧ (¬ F 10 ≤ 1 → AMv m_X2_markCutKnot [.ref 25, .int (nI st0)] (F, I, J) (fun M94 => P M94)) := by
  have hn := hW.1
  obtain ⟨hI, hM, hR, hfr, hs1, hs2, hs3, hs4, hsp, hW0⟩ := hw
  have hctn := ctp_le (fun c => fin c ∧ B c ≠ none ∧ par (ga g) (gb g) B c = st0) (gn g)
  rw [hsp, n1, nLe (by omega) (by omega)]
  have hallf : ∀ x, tn x ≠ 0 → x = st0 ∨ fin x := fun x hx => by
    by_cases q : fin x
    · exact Or.inr q
    · exact Or.inl (wS_root ((hK.2 x hx).mp q) hs2)
  have fins : ∀ c, ((c = st0 ∨ fin c) ∧ B c ≠ none) ↔ (fin c ∧ B c ≠ none) := fun c => ⟨fun z => ⟨z.1.resolve_left (fun q => z.2 (by rw [q]; exact hs2)), z.2⟩, fun z => ⟨Or.inr z.1, z.2⟩⟩
  have hI2 : dI g tn lo B np cu (fun x => x = st0 ∨ fin x) t br cc := by
    obtain ⟨h1, h2, h3, h4, h5, h6, h7, h8, h9, h10, h11⟩ := hI
    refine ⟨h1, h2, h3, h4, fun x hx => ?_, h6, fun c e hc hB => h7 c e (((fins c).mp ⟨hc, by rw [hB]; exact Option.some_ne_none e⟩).1) hB, fun v hv hB => ?_, ?_, h10, h11⟩
    · rcases hx with hx | hx
      · subst hx; exact ⟨hs1, hdone⟩
      · exact h5 x hx
    · rw [h8 v hv hB]
      exact ⟨fun ⟨c, q1, q2, q3⟩ => ⟨c, Or.inr q1, q2, q3⟩, fun ⟨c, q1, q2, q3⟩ => ⟨c, ((fins c).mp ⟨q1, q2⟩).1, q2, q3⟩⟩
    · rw [h9]
      exact ctp_congr (fun e _ => ⟨fun ⟨k, q1, q2⟩ => ⟨k, Or.inr q1, q2⟩, fun ⟨k, q1, q2⟩ => ⟨k, ((fins k).mp ⟨q1, by rw [q2.1]; exact Option.some_ne_none e⟩).1, q2⟩⟩)
  have two : (∃ c d, c ≠ d ∧ (c = st0 ∨ fin c) ∧ (d = st0 ∨ fin d) ∧ B c ≠ none ∧ B d ≠ none ∧ par (ga g) (gb g) B c = st0 ∧ par (ga g) (gb g) B d = st0) ↔ 2 ≤ ctp (fun c => fin c ∧ B c ≠ none ∧ par (ga g) (gb g) B c = st0) (gn g) := by
    constructor
    · rintro ⟨c, d, q1, q2, q3, q4, q5, q6, q7⟩
      have f1 := ((fins c).mp ⟨q2, q4⟩).1
      have f2 := ((fins d).mp ⟨q3, q5⟩).1
      exact ctp_two (hI.1 c (hI.2.2.2.2.1 c f1).1).1 (hI.1 d (hI.2.2.2.2.1 d f2).1).1 q1 ⟨f1, q4, q6⟩ ⟨f2, q5, q7⟩
    · intro h2
      have ex : ∀ p : Nat → Prop, 1 ≤ ctp p (gn g) → ∃ x, x < gn g ∧ p x := by
        intro p hp
        apply Classical.byContradiction
        intro hno
        have : ∀ n', n' ≤ gn g → ctp p n' = 0 := by
          intro n' hn'
          induction n' with
          | zero => rfl
          | succ n' ih => rw [ctp, ih (by omega), zif_neg (fun z => hno ⟨n', by omega, z⟩)]
        rw [this (gn g) (Nat.le_refl _)] at hp
        omega
      obtain ⟨c, hc, hpc⟩ := ex _ (show 1 ≤ ctp (fun c => fin c ∧ B c ≠ none ∧ par (ga g) (gb g) B c = st0) (gn g) by omega)
      rw [ctp_drop hpc hc] at h2
      obtain ⟨d, hd, hpd, hne⟩ := ex _ (show 1 ≤ ctp (fun k => (fin k ∧ B k ≠ none ∧ par (ga g) (gb g) B k = st0) ∧ k ≠ c) (gn g) by omega)
      exact ⟨c, d, fun q => hne q.symm, Or.inr hpc.1, Or.inr hpd.1, hpc.2.1, hpd.2.1, hpc.2.2, hpd.2.2⟩
  have hRo : ∀ cu2 : Nat → Prop, (∀ v, v ≠ st0 → (cu2 v ↔ cu v)) → (cu2 st0 ↔ 2 ≤ ctp (fun c => fin c ∧ B c ≠ none ∧ par (ga g) (gb g) B c = st0) (gn g)) → dR g tn B cu2 (fun x => x = st0 ∨ fin x) (fun _ => False) := by
    intro cu2 q1 q2 v hv hB _
    by_cases q : v = st0
    · rw [q, q2, ← two]
    · rw [q1 v q, hR v hv hB q]
      constructor
      · rintro ⟨c, d, w1, w2, w3, w4, w5, w6⟩; exact ⟨c, d, w1, Or.inr w2, Or.inr w3, w4, w5, w6⟩
      · rintro ⟨c, d, w1, w2, w3, w4, w5, w6⟩; exact ⟨c, d, w1, ((fins c).mp ⟨w2, w4⟩).1, ((fins d).mp ⟨w3, w5⟩).1, w4, w5, w6⟩
  refine ⟨fun z => ?_, fun z => ?_⟩
  · exact hP F I tn lo B np cu _ t br cc hI2 hM (hRo cu (fun _ _ => Iff.rfl) ⟨fun w => absurd w hs3, fun w => by omega⟩) hfr hs1 hallf hW0
  · refine c_markCut hM hW hs1 hs0 (fun w => absurd w hs3) (fun F2 I2 _ hM2 hfr2 _ => ?_)
    refine hP F2 I2 tn lo B np _ _ t br (cc + 1) ?_ hM2 (hRo _ (fun v hv => ⟨fun w => w.resolve_right hv, Or.inl⟩) ⟨fun _ => by omega, fun _ => Or.inr rfl⟩) (frZ_trans hfr hfr2) hs1 hallf hW0
    obtain ⟨h1, h2, h3, h4, h5, h6, h7, h8, h9, h10, h11⟩ := hI2
    refine ⟨h1, h2, h3, h4, h5, h6, h7, fun v hv hB => ?_, h9, ?_, h11⟩
    · rw [← h8 v hv hB]
      exact ⟨fun w => w.resolve_right (fun q => hB (by rw [q]; exact hs2)), Or.inl⟩
    · rw [h10]
      refine (ctp_ins hs0 (fun w => hs3 w.2) (fun k _ => ⟨fun w => w.2.elim (fun w2 => Or.inr ⟨w.1, w2⟩) Or.inl, fun w => w.elim (fun w2 => ⟨by rw [w2]; exact hs1, Or.inr w2⟩) (fun w2 => ⟨w2.1, Or.inl w2.2⟩)⟩)).symm
theorem c_walk_loop {P : zM → Prop} {F0 : Nat → Int32} {I0 : Nat → Nat → Int32} {W0 : Nat → Prop} {st0 : Nat} (hW : gW g) (hE : gE g I0) (hC : gC g I0) (hF4 : F0 4 = nI (gm g)) (hs0 : st0 < gn g)
    (hP : ∀ F I tn lo B np cu fin t br cc, dI g tn lo B np cu fin t br cc → dM g tn lo B np cu t br cc F I → dR g tn B cu fin (fun _ => False) → frZ F0 I0 F I → tn st0 ≠ 0 → (∀ x, tn x ≠ 0 → fin x) → (∀ x, W0 x → tn x ≠ 0) → P (F, I, J)) :
    ∀ d st F I tn lo B np cu fin t br cc k, st + d = 800 → wS g F0 I0 W0 st0 tn lo B np cu fin t br cc F I → dK g tn B fin k → st ≤ dCost g tn np fin →
      AW m_X2_walkFrom (z_pv P) 17 [some (.ref 25), some (.ref 3), some (.int (nI st0)), some (.int (nI k)), some (.int (nI st)), none] [] (F, I, J) := by
  have hn := hW.1
  have hm := hW.2.1
  intro d
  induction d with
  | zero =>
    intro st F I tn lo B np cu fin t br cc k hd hw hK hst
    have := dCost_le hW tn np fin
    omega
  | succ d ih =>
    intro st F I tn lo B np cu fin t br cc k hd hw hK hst
    obtain ⟨hI, hM, hR, hfr, hs1, hs2, hs3, hs4, hsp, hW0⟩ := id hw
    have hcl := dCost_le hW tn np fin
    obtain ⟨ht1, ht2, ht3⟩ := dI_t hI hn
    obtain ⟨hbr, hcc⟩ := dI_cnt hI hW
    have hk0 := hK.1
    have hkn := (hI.1 k hk0).1
    have hEc : gE g I := frZ_E hfr hE
    have hCc : gC g I := by unfold gC; rw [hfr.2 5 (by omega), hfr.2 6 (by omega)]; exact hC
    have h4c : F 4 = nI (gm g) := by rw [hfr.1 4 (by omega)]; exact hF4
    have hkf : ¬ fin k := (hK.2 k hk0).mpr (anc_refl k)
    obtain ⟨m1, m2, m3, m4, m5⟩ := id hM
    obtain ⟨k19, k20, k21, k22, k22', knp⟩ := m2 k hk0
    have bk : vp_in (nI k) 100 := nIn (by omega) (by omega)
    have hlk := ht3 k hk0
    have htk := ht2 k
    refine r_X2_walkFrom_17 _ _ _ F I J ?_
    rw [nNe (show k < 2147483648 by omega), n800, nLe (by omega) (by omega), zN (show k < 2147483648 by omega), nI_1 st]
    refine ⟨fun z => z.elim, fun _ => ⟨fun z => absurd z (by omega), fun _ => ⟨bk, fun hne => ?_, fun hnone => ?_⟩⟩⟩
    · -- follow a link
      rcases k21 with ⟨w1, -⟩ | ⟨l, hl1, hl2, hl3, hl4⟩
      · exact absurd w1 hne
      have hlm : l < 2 * gm g := by omega
      have hem : l / 2 < gm g := by omega
      have hend := ep_end hl3
      have hjn : jn (ga g) (gb g) (l / 2) k (ot (ga g) (gb g) (l / 2) k) := ot_jn hend
      have hyn := ot_lt hW hem (k := k)
      rw [hl2, zN (show l < 2147483648 by omega), show nI l / 2 = nI (l / 2) from by rw [n2]; exact nDiv (by omega) (by omega) (by omega)]
      refine ⟨nIn (by omega) (by omega), bk, ?_⟩
      -- the memory with the link gone
      have hM1 : dM g tn lo B (un np k l) cu t br cc F (z_ui I 21 k (I 6 l)) := by
        refine ⟨fun x hx => by rw [ui_ne _ _ (by decide)]; exact m1 x hx, fun x hx => ?_, m3, m4, m5⟩
        obtain ⟨g1, g2, g3, g4, g5, g6⟩ := m2 x hx
        rw [ui_ne _ _ (show 19 ≠ 21 by decide), ui_ne _ _ (show 20 ≠ 21 by decide), ui_ne _ _ (show 22 ≠ 21 by decide), ui_self]
        by_cases q : x = k
        · subst q
          rw [upd_self, un_self]
          have := hCc.2 l hlm
          rw [hl3] at this
          exact ⟨g1, g2, this, g4, g5, by omega⟩
        · rw [upd_ne _ q, un_ne _ _ q]; exact ⟨g1, g2, g3, g4, g5, g6⟩
      have hfr1 : frZ F0 I0 F (z_ui I 21 k (I 6 l)) := frZ_trans hfr ⟨fun _ _ => rfl, fun c hc => ui_ne _ _ (by omega)⟩
      have hE1 : gE g (z_ui I 21 k (I 6 l)) := frZ_E hfr1 hE
      have hC1 : gC g (z_ui I 21 k (I 6 l)) := by unfold gC; rw [hfr1.2 5 (by omega), hfr1.2 6 (by omega)]; exact hC
      have hcost : st + 1 ≤ dCost g tn (un np k l) fin := by
        have := dCost_link (g := g) (tn := tn) (np := np) (tn2 := tn) (np2 := un np k l) (fin := fin) hlm hl3 hl1 hk0 (by rw [un_self]; exact Nat.le_refl _) (fun x l' h1 h2 _ => ⟨h1, by
          by_cases q : x = k
          · rw [q, un_self]; rw [q] at h2; omega
          · rw [un_ne _ _ q]; exact h2⟩)
        omega
      -- go on at k, its low number x
      have stay : ∀ x I2, x ≤ lo k → (x = lo k ∨ ∃ y e, e < gm g ∧ gs g e ≠ 0 ∧ jn (ga g) (gb g) e k y ∧ B k ≠ some e ∧ tn y ≠ 0 ∧ x = tn y) →
          (l < 2 * gm g → gs g (l / 2) ≠ 0 → tn (ot (ga g) (gb g) (l / 2) k) ≠ 0 ∧ (anc (ga g) (gb g) B k (ot (ga g) (gb g) (l / 2) k) ∨ anc (ga g) (gb g) B (ot (ga g) (gb g) (l / 2) k) k) ∧ (B k = some (l / 2) ∨ B (ot (ga g) (gb g) (l / 2) k) = some (l / 2) ∨ x ≤ tn (ot (ga g) (gb g) (l / 2) k))) →
          I2 19 = upd (I 19) k (nI x) → (∀ c, c ≠ 19 → I2 c = z_ui I 21 k (I 6 l) c) →
          AW m_X2_walkFrom (z_pv P) 17 [some (.ref 25), some (.ref 3), some (.int (nI st0)), some (.int (nI k)), some (.int (nI (st + 1))), none] [] (F, I2, J) := by
        intro x I2 hx hatt hedge h19 hoth
        have hlo := (hI.2.2.2.2.2.1 k hk0).1
        refine ih (st + 1) F I2 tn (un lo k x) B (un np k l) cu fin t br cc k (by omega) ⟨dI_link hI hk0 hkf hl1 hl4 hx (by omega) hatt hedge, ⟨fun y hy => by rw [hoth 18 (by decide)]; exact hM1.1 y hy, fun y hy => ?_, m3, m4, m5⟩, hR, frZ_trans hfr1 ⟨fun _ _ => rfl, fun c hc => hoth c (by omega)⟩, hs1, hs2, hs3, hs4, hsp, hW0⟩ hK hcost
        obtain ⟨g1, g2, g3, g4, g5, g6⟩ := hM1.2.1 y hy
        rw [h19, hoth 20 (by decide), hoth 21 (by decide), hoth 22 (by decide)]
        refine ⟨?_, g2, g3, g4, g5, g6⟩
        by_cases q : y = k
        · rw [q, upd_self, un_self]
        · rw [upd_ne _ q, un_ne _ _ q]; exact (m2 y hy).1
      have I19 : z_ui I 21 k (I 6 l) 19 = upd (I 19) k (nI (lo k)) := by
        rw [ui_ne _ _ (by decide), ← k19]
        funext y
        by_cases q : y = k
        · rw [q, upd_self]
        · rw [upd_ne _ q]
      refine r_X2_follow_0 _ _ F (z_ui I 21 k (I 6 l)) J ?_
      rw [zN (show k < 2147483648 by omega), ui_ne _ _ (show 20 ≠ 21 by decide), k20]
      have eqB : (nI (l / 2) = oI (B k)) ↔ B k = some (l / 2) := by
        cases hB : B k with
        | none => exact ⟨fun z => by rw [show oI none = -1 from rfl, nNe (by omega)] at z; exact z.elim, fun z => by cases z⟩
        | some e2 =>
          have := (hI.2.2.1 k e2 hk0 hB).1
          rw [show oI (some e2) = nI e2 from rfl, nEq (by omega) (by omega)]
          exact ⟨fun z => by rw [z], fun z => by cases z; rfl⟩
      rw [eqB]
      refine ⟨bk, fun hBk => ?_, fun hBk => ?_⟩
      · -- the edge by which it was come to
        obtain ⟨-, -, p, q1, q2, q3⟩ := hI.2.2.1 k _ hk0 hBk
        have hp : ot (ga g) (gb g) (l / 2) k = p := jn_ot' q1
        refine stay (lo k) _ (Nat.le_refl _) (Or.inl rfl) (fun _ _ => ⟨by rw [hp]; exact q2, Or.inr ?_, Or.inl hBk⟩) I19 (fun c hc => rfl)
        have : par (ga g) (gb g) B k = ot (ga g) (gb g) (l / 2) k := par_some hBk
        rw [← this]
        exact anc_par k
      · refine c_isThere hW hE1 h4c (fun e he hz hgs => ⟨fun _ => ?_, fun z => absurd z (by decide)⟩) (fun hgone => ⟨fun z => absurd rfl z, fun _ => ?_⟩)
        · have ee : e = l / 2 := by rw [nEq (by omega) (by omega)] at hz; exact hz.symm
          subst ee
          refine c_across hW hE1 hem (by omega) ?_
          dsimp only
          have hty := ht2 (ot (ga g) (gb g) (l / 2) k)
          have e18 : z_ui I 21 k (I 6 l) 18 (ot (ga g) (gb g) (l / 2) k) = nI (tn (ot (ga g) (gb g) (l / 2) k)) := by rw [ui_ne _ _ (by decide)]; exact m1 _ hyn
          have e19 : z_ui I 21 k (I 6 l) 19 k = nI (lo k) := by rw [ui_ne _ _ (by decide)]; exact k19
          rw [zN (show ot (ga g) (gb g) (l / 2) k < 2147483648 by omega), minE e18 e19 (by omega) (by omega), e18, n0, nEq (by omega) (by omega)]
          have by' : vp_in (nI (ot (ga g) (gb g) (l / 2) k)) 100 := nIn (by omega) (by omega)
          refine ⟨by', fun hv => ⟨bk, by', bk, ?_⟩, fun hv => ?_⟩
          · -- to a knot come to before
            have hcmp : anc (ga g) (gb g) B k (ot (ga g) (gb g) (l / 2) k) ∨ anc (ga g) (gb g) B (ot (ga g) (gb g) (l / 2) k) k := by
              by_cases q : fin (ot (ga g) (gb g) (l / 2) k)
              · obtain ⟨l2, c1, c2, c3⟩ := ep_of hem (jn_symm hjn)
                have := hI.2.2.2.1 _ l2 hv c1 c2 ((hI.2.2.2.2.1 _ q).2 l2 c1 c2) (by rw [c3]; exact hgs)
                rw [c3, jn_ot' hjn] at this
                exact this.2.1.symm
              · exact Or.inr ((hK.2 _ hv).mp q)
            refine stay (if tn (ot (ga g) (gb g) (l / 2) k) < lo k then tn (ot (ga g) (gb g) (l / 2) k) else lo k) _ (by split <;> omega) ?_ (fun _ _ => ⟨hv, hcmp, Or.inr (Or.inr (by split <;> omega))⟩) ?_ (fun c hc => ui_ne _ _ hc)
            · by_cases q : tn (ot (ga g) (gb g) (l / 2) k) < lo k
              · rw [if_pos q]
                exact Or.inr ⟨_, l / 2, hem, hgs, hjn, hBk, hv, rfl⟩
              · rw [if_neg q]; exact Or.inl rfl
            · rw [ui_self, ui_ne _ _ (show 19 ≠ 21 by decide)]
          · -- a new knot
            have hyk : ot (ga g) (gb g) (l / 2) k ≠ k := fun q => hk0 (by rw [← q]; exact hv)
            obtain ⟨hI2, ancs, pars, hR2⟩ := dI_enter hI hyn hv (be := some (l / 2)) (fun e' he' => by cases he'; exact ⟨hem, hgs, k, hjn, hk0⟩)
            refine c_enter (be := some (l / 2)) hM1 hW hC1 hyn hv (fun F2 I2 hM2 hfr2 h10 => ?_)
            have vis : ∀ x, tn x ≠ 0 → x ≠ ot (ga g) (gb g) (l / 2) k := fun x hx q => hx (by rw [q]; exact hv)
            have hpy : par (ga g) (gb g) (un B (ot (ga g) (gb g) (l / 2) k) (some (l / 2))) (ot (ga g) (gb g) (l / 2) k) = k := by rw [par_some (un_self _ _ _)]; exact jn_ot' hjn
            have hfy : ¬ fin (ot (ga g) (gb g) (l / 2) k) := fun q => (hI.2.2.2.2.1 _ q).1 hv
            rw [un_comm np (fun q => hyk q.symm)] at hM2
            have hkx : un tn (ot (ga g) (gb g) (l / 2) k) (t + 1) k ≠ 0 := by rw [un_ne _ _ (vis k hk0)]; exact hk0
            have hloeq : un (un lo (ot (ga g) (gb g) (l / 2) k) (t + 1)) k (lo k) = un lo (ot (ga g) (gb g) (l / 2) k) (t + 1) := by
              rw [← un_comm lo (fun q => hyk q.symm), un_same]
            have hI3 := dI_link (x := lo k) hI2 hkx hkf (l := l) (by rw [un_ne _ _ (vis k hk0)]; exact hl1) (by rw [un_ne _ _ (vis k hk0)]; exact hl4) (by rw [un_ne _ _ (vis k hk0)]; exact Nat.le_refl _) (by rw [un_ne _ _ (vis k hk0)]; exact (hI.2.2.2.2.2.1 k hk0).1) (Or.inl (by rw [un_ne _ _ (vis k hk0)])) (fun _ _ => ⟨by rw [un_self]; omega, Or.inl (by
              have h9 := anc_par (a := ga g) (b := gb g) (B := un B (ot (ga g) (gb g) (l / 2) k) (some (l / 2))) (ot (ga g) (gb g) (l / 2) k)
              rw [hpy] at h9
              exact h9), Or.inr (Or.inl (un_self _ _ _))⟩)
            rw [hloeq] at hI3
            have Bs : ∀ x, tn x ≠ 0 → un B (ot (ga g) (gb g) (l / 2) k) (some (l / 2)) x = B x := fun x hx => un_ne _ _ (vis x hx)
            have spe : ctp (fun c => fin c ∧ un B (ot (ga g) (gb g) (l / 2) k) (some (l / 2)) c ≠ none ∧ par (ga g) (gb g) (un B (ot (ga g) (gb g) (l / 2) k) (some (l / 2))) c = st0) (gn g) = ctp (fun c => fin c ∧ B c ≠ none ∧ par (ga g) (gb g) B c = st0) (gn g) := by
              refine ctp_congr (fun c _ => ⟨fun z => ?_, fun z => ?_⟩)
              · have vc := (hI.2.2.2.2.1 c z.1).1
                rw [Bs c vc, pars c vc] at z; exact z
              · have vc := (hI.2.2.2.2.1 c z.1).1
                rw [Bs c vc, pars c vc]; exact z
            refine ih (st + 1) F2 I2 _ _ _ _ _ fin (t + 1) br cc _ (by omega) ⟨hI3, hM2, ?_, frZ_trans hfr1 hfr2, by rw [un_ne _ _ (vis st0 hs1)]; exact hs1, by rw [Bs st0 hs1]; exact hs2, fun w => hs3 w.2, hs4, by rw [h10, hsp, spe], fun x hx => by rw [un_ne _ _ (vis x (hW0 x hx))]; exact hW0 x hx⟩ ⟨by rw [un_self]; omega, fun x hx => ?_⟩ ?_
            · intro v hv2 hBv hex
              refine hR2 _ hR v hv2 hBv (fun z => ?_)
              rcases z with z | z
              · rw [z, un_self] at hBv; cases hBv
              · exact hex z
            · by_cases q : x = ot (ga g) (gb g) (l / 2) k
              · rw [q]; exact ⟨fun _ => anc_refl _, fun _ => hfy⟩
              · have hx0 : tn x ≠ 0 := by rw [un_ne _ _ q] at hx; exact hx
                rw [hK.2 x hx0, ← ancs x k hk0]
                constructor
                · intro z
                  have h9 := anc_par (a := ga g) (b := gb g) (B := un B (ot (ga g) (gb g) (l / 2) k) (some (l / 2))) (ot (ga g) (gb g) (l / 2) k)
                  rw [hpy] at h9
                  exact anc_trans z h9
                · intro z
                  have h9 := anc_up z q
                  rw [hpy] at h9
                  exact h9
            · have := dCost_link (g := g) (tn := tn) (np := np) (tn2 := un tn (ot (ga g) (gb g) (l / 2) k) (t + 1)) (np2 := un (un np (ot (ga g) (gb g) (l / 2) k) (2 * gm g)) k l) (fin := fin) hlm hl3 hl1 hkx (by rw [un_self]; exact Nat.le_refl _) (fun x l' h1 h2 _ => ⟨by rw [un_ne _ _ (vis x h1)]; exact h1, by
                by_cases q : x = k
                · rw [q, un_self]; rw [q] at h2; omega
                · rw [un_ne _ _ q, un_ne _ _ (vis x h1)]; exact h2⟩)
              omega
        · -- the edge is gone
          refine stay (lo k) _ (Nat.le_refl _) (Or.inl rfl) (fun _ hgs => absurd (hgone _ hem rfl) hgs) I19 (fun c hc => rfl)
    · -- leave
      have hdone : ∀ l, l < 2 * gm g → ep g l = k → np k ≤ l := by
        rcases k21 with ⟨-, w2⟩ | ⟨l, w0, w2, -⟩
        · intro l _ h2
          rcases Nat.lt_or_ge l (np k) with q | q
          · exact absurd h2 (w2 l q)
          · exact q
        · rw [w2, nNe (by omega)] at hnone
          exact hnone.elim
      have hst0k : anc (ga g) (gb g) B st0 k := (hK.2 st0 hs1).mp hs4
      refine r_X2_leave_0 _ F I J ?_
      rw [zN (show k < 2147483648 by omega), k20]
      cases hB : B k with
      | none =>
        have e0 := wS_root hst0k hB
        subst e0
        refine ⟨bk, fun z => absurd rfl z, fun _ => ?_⟩
        refine r_X2_walkFrom_17 _ _ _ F I J ⟨fun _ => ?_, fun z => absurd rfl z⟩
        exact c_walk_end hW hs0 hP hw hK hdone
      | some e =>
        obtain ⟨e1, e2, p, e3, e4, e5⟩ := hI.2.2.1 k e hk0 hB
        have hp : ot (ga g) (gb g) e k = p := jn_ot' e3
        obtain ⟨hI2, hK2, hpk, hp0, hpn, -, -⟩ := dI_leave hI hK hB hp hdone
        have htp := ht2 p
        have hlp := ht3 p hp0
        obtain ⟨p19, p20, p21, p22, p22', pnp⟩ := m2 p hp0
        have hne1 : ¬ oI (some e) = -1 := by rw [show oI (some e) = nI e from rfl, nNe (by omega)]; exact id
        refine ⟨bk, fun _ => ⟨bk, ?_⟩, fun z => absurd z hne1⟩
        refine c_across hW hEc e1 (by omega) ?_
        rw [hp]
        dsimp only
        have bp : vp_in (nI p) 100 := nIn (by omega) (by omega)
        rw [zN (show p < 2147483648 by omega), minE k19 p19 (by omega) (by omega), upd_ne _ (fun q => hpk q.symm), k19, m1 k hkn, nEq (by omega) (by omega)]
        -- the memory behind
        have hM2 : ∀ F2 br2, F2 9 = F 9 → F2 11 = nI br2 → F2 12 = F 12 → dM g tn (un lo p (if lo k < lo p then lo k else lo p)) B np cu t br2 cc F2 (z_ui I 19 p (nI (if lo k < lo p then lo k else lo p))) := fun F2 br2 f9 f11 f12 => by
          refine ⟨fun x hx => by rw [ui_ne _ _ (by decide)]; exact m1 x hx, fun x hx => ?_, by rw [f9]; exact m3, f11, by rw [f12]; exact m5⟩
          obtain ⟨g1, g2, g3, g4, g5, g6⟩ := m2 x hx
          rw [ui_self, ui_ne _ _ (show 20 ≠ 19 by decide), ui_ne _ _ (show 21 ≠ 19 by decide), ui_ne _ _ (show 22 ≠ 19 by decide)]
          refine ⟨?_, g2, g3, g4, g5, g6⟩
          by_cases q : x = p
          · rw [q, upd_self, un_self]
          · rw [upd_ne _ q, un_ne _ _ q]; exact g1
        have hkst : st0 ≠ k := fun q => by rw [q, hB] at hs2; cases hs2
        have hcost : st + 1 ≤ dCost g tn np (fun x => x = k ∨ fin x) := by
          unfold dCost at hst ⊢
          rw [ctp_ins (p := fin) hkn hkf (fun _ _ => Iff.rfl)]
          omega
        have hpp : par (ga g) (gb g) B k = p := by rw [par_some hB]; exact hp
        have hproot : B p = none → p = st0 := fun z => (wS_root ((hK2.2 st0 hs1).mp (fun w => w.elim hkst hs4)) z).symm
        have hRn : ∀ cu2 : Nat → Prop, (∀ v, B v = none → (cu2 v ↔ cu v)) → dR g tn B cu2 (fun x => x = k ∨ fin x) (fun x => x = st0) := by
          intro cu2 hc2 v hv hBv hex
          rw [hc2 v hBv, hR v hv hBv hex]
          constructor
          · rintro ⟨c, d, w1, w2, w3, w4⟩; exact ⟨c, d, w1, Or.inr w2, Or.inr w3, w4⟩
          · rintro ⟨c, d, w1, w2, w3, w4, w5, w6, w7⟩
            have hvp : v ≠ p := fun q => hex (by rw [q]; exact hproot (by rw [← q]; exact hBv))
            have c2 : fin c := w2.resolve_left (fun q => hvp (by rw [← w6, q, hpp]))
            have d2 : fin d := w3.resolve_left (fun q => hvp (by rw [← w7, q, hpp]))
            exact ⟨c, d, w1, c2, d2, w4, w5, w6, w7⟩
        -- at the parent
        have at70 : ∀ F2 br2, br2 = br + zif (lo k = tn k) 1 0 → F2 9 = F 9 → F2 10 = F 10 → F2 11 = nI br2 → F2 12 = F 12 → (∀ c, (c < 9 ∨ 12 < c) → F2 c = F c) →
            AW m_X2_leave (z_pi fun r47 M47 => AW m_X2_walkFrom (z_pv P) 17 [some (.ref 25), some (.ref 3), some (.int (nI st0)), some (.int r47), some (.int (nI (st + 1))), none] [] M47) 70 [some (.ref 25), none, some (.int (nI k)), some (.int (nI p))] [] (F2, z_ui I 19 p (nI (if lo k < lo p then lo k else lo p)), J) := by
          intro F2 br2 hb2 f9 f10 f11 f12 foth
          have hM3 := hM2 F2 br2 f9 f11 f12
          have hfr3 : frZ F0 I0 F2 (z_ui I 19 p (nI (if lo k < lo p then lo k else lo p))) := frZ_trans hfr ⟨foth, fun c hc => ui_ne _ _ (by omega)⟩
          refine r_X2_leave_70 _ _ F2 _ J ?_
          rw [zN (show p < 2147483648 by omega), zN (show k < 2147483648 by omega), ui_ne _ _ (show 20 ≠ 19 by decide), p20, ui_self, upd_ne _ (fun q => hpk q.symm), k19, ui_ne _ _ (show 18 ≠ 19 by decide), m1 p hpn, nLt (by omega) (by omega)]
          have none_iff : oI (B p) = -1 ↔ B p = none := by
            cases hBp : B p with
            | none => exact ⟨fun _ => rfl, fun _ => rfl⟩
            | some e9 =>
              have := (hI.2.2.1 p e9 hp0 hBp).1
              rw [show oI (some e9) = nI e9 from rfl, nNe (by omega)]
              exact ⟨fun z => z.elim, fun z => by cases z⟩
          rw [none_iff]
          refine ⟨bp, fun hBp => ⟨bk, bp, fun hlt => ?_, fun hge => ?_⟩, fun hBp => ?_⟩
          · -- no cut knot by this
            have ecu : (fun x => cu x ∨ (x = p ∧ B p ≠ none ∧ tn p ≤ lo k)) = cu := funext fun x => propext ⟨fun z => z.elim id (fun z => absurd z.2.2 (by omega)), Or.inl⟩
            have zz : zif (¬ cu p ∧ B p ≠ none ∧ tn p ≤ lo k) 1 0 = 0 := zif_neg (fun z => absurd z.2.2 (by omega)) _ _
            rw [ecu, zz, Nat.add_zero, ← hb2] at hI2
            refine ih (st + 1) F2 _ tn _ B np cu _ t br2 cc p (by omega) ⟨hI2, hM3, hRn cu (fun _ _ => Iff.rfl), hfr3, hs1, hs2, hs3, fun w => w.elim hkst hs4, ?_, hW0⟩ hK2 hcost
            rw [f10, hsp]
            congr 1
            refine ctp_congr (fun c _ => ⟨fun z => ⟨Or.inr z.1, z.2⟩, fun z => ⟨z.1.resolve_left (fun q => ?_), z.2⟩⟩)
            have h9 := z.2.2
            rw [q, hpp] at h9
            rw [h9] at hBp
            exact hBp hs2
          · have hge' : tn p ≤ lo k := by omega
            have spq : ctp (fun c => (c = k ∨ fin c) ∧ B c ≠ none ∧ par (ga g) (gb g) B c = st0) (gn g) = ctp (fun c => fin c ∧ B c ≠ none ∧ par (ga g) (gb g) B c = st0) (gn g) := by
              refine ctp_congr (fun c _ => ⟨fun z => ⟨z.1.resolve_left (fun q => ?_), z.2⟩, fun z => ⟨Or.inr z.1, z.2⟩⟩)
              have h9 := z.2.2
              rw [q, hpp] at h9
              rw [h9] at hBp
              exact hBp hs2
            have ecu : (fun x => cu x ∨ (x = p ∧ B p ≠ none ∧ tn p ≤ lo k)) = (fun x => cu x ∨ x = p) := funext fun x => propext ⟨fun z => z.elim Or.inl (fun z => Or.inr z.1), fun z => z.elim Or.inl (fun z => Or.inr ⟨z, hBp, hge'⟩)⟩
            have hst0p : st0 ≠ p := fun q => hBp (by rw [← q]; exact hs2)
            refine c_markCut hM3 hW hp0 hpn (fun hcu => ?_) (fun F4 I4 hcu hM4 hfr4 h104 => ?_)
            · have zz : zif (¬ cu p ∧ B p ≠ none ∧ tn p ≤ lo k) 1 0 = 0 := zif_neg (fun z => z.1 hcu) _ _
              rw [ecu, zz, Nat.add_zero, ← hb2] at hI2
              have ecu2 : (fun x => cu x ∨ x = p) = cu := funext fun x => propext ⟨fun z => z.elim id (fun z => by rw [z]; exact hcu), Or.inl⟩
              rw [ecu2] at hI2
              exact ih (st + 1) F2 _ tn _ B np cu _ t br2 cc p (by omega) ⟨hI2, hM3, hRn cu (fun _ _ => Iff.rfl), hfr3, hs1, hs2, hs3, fun w => w.elim hkst hs4, by rw [f10, hsp, spq], hW0⟩ hK2 hcost
            · have zz : zif (¬ cu p ∧ B p ≠ none ∧ tn p ≤ lo k) 1 0 = 1 := zif_pos ⟨hcu, hBp, hge'⟩ _ _
              rw [ecu, zz, ← hb2] at hI2
              exact ih (st + 1) F4 I4 tn _ B np _ _ t br2 (cc + 1) p (by omega) ⟨hI2, hM4, hRn _ (fun v hBv => ⟨fun z => z.resolve_right (fun q => hBp (by rw [← q]; exact hBv)), Or.inl⟩), frZ_trans hfr3 hfr4, hs1, hs2, fun w => w.elim hs3 hst0p, fun w => w.elim hkst hs4, by rw [h104, f10, hsp, spq], hW0⟩ hK2 hcost
          · -- one more from the first knot
            have ep0 := hproot hBp
            have ecu : (fun x => cu x ∨ (x = p ∧ B p ≠ none ∧ tn p ≤ lo k)) = cu := funext fun x => propext ⟨fun z => z.elim id (fun z => absurd hBp z.2.1), Or.inl⟩
            have zz : zif (¬ cu p ∧ B p ≠ none ∧ tn p ≤ lo k) 1 0 = 0 := zif_neg (fun z => absurd hBp z.2.1) _ _
            rw [ecu, zz, Nat.add_zero, ← hb2] at hI2
            refine ih (st + 1) _ _ tn _ B np cu _ t br2 cc p (by omega) ⟨hI2, hM2 _ br2 (by rw [upd_ne _ (by decide)]; exact f9) (by rw [upd_ne _ (by decide)]; exact f11) (by rw [upd_ne _ (by decide)]; exact f12), hRn cu (fun _ _ => Iff.rfl), frZ_trans hfr3 ⟨fun c hc => upd_ne _ (by omega), fun _ _ => rfl⟩, hs1, hs2, hs3, fun w => w.elim hkst hs4, ?_, hW0⟩ hK2 hcost
            rw [upd_self, f10, hsp, nI_1]
            congr 1
            refine (ctp_ins hkn (fun z => hkf z.1) (fun c _ => ⟨fun z => ?_, fun z => ?_⟩)).symm
            · rcases z.1 with q | q
              · exact Or.inl q
              · exact Or.inr ⟨q, z.2⟩
            · rcases z with q | q
              · rw [q]; exact ⟨Or.inl rfl, by rw [hB]; exact Option.some_ne_none e, by rw [hpp]; exact ep0⟩
              · exact ⟨Or.inr q.1, q.2⟩
        refine ⟨bp, bk, bp, bk, bk, fun z => ?_, fun z => ?_⟩
        · exact at70 F br (by rw [zif_neg z, Nat.add_zero]) rfl rfl m4 rfl (fun _ _ => rfl)
        · rw [m4, nI_1]
          exact at70 _ (br + 1) (by rw [zif_pos z]) (upd_ne _ (by decide)) (upd_ne _ (by decide)) (upd_self _ _ _) (upd_ne _ (by decide)) (fun c hc => upd_ne _ (by omega))
end
