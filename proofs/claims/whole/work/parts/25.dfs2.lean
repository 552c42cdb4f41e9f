theorem ctp_ins {p q : Nat → Prop} {n y : Nat} (hy : y < n) (hp : ¬ p y) (hq : ∀ k, k < n → (q k ↔ k = y ∨ p k)) : ctp q n = ctp p n + 1 := by
  rw [ctp_drop ((hq y hy).mpr (Or.inl rfl)) hy]
  rw [ctp_congr (q := p) (fun k hk => ⟨fun z => ((hq k hk).mp z.1).resolve_left z.2, fun z => ⟨(hq k hk).mpr (Or.inr z), fun e => hp (e ▸ z)⟩⟩)]
/-- the walk under way -/
def dI (g : zG) (tn lo : Nat → Nat) (B : Nat → Option Nat) (np : Nat → Nat) (cu fin : Nat → Prop) (t br cc : Nat) : Prop :=
  (∀ k, tn k ≠ 0 → k < gn g ∧ tn k ≤ t) ∧ (∀ x y, tn x ≠ 0 → tn x = tn y → x = y) ∧
  (∀ k e, tn k ≠ 0 → B k = some e → e < gm g ∧ gs g e ≠ 0 ∧ ∃ p, jn (ga g) (gb g) e p k ∧ tn p ≠ 0 ∧ tn p < tn k) ∧
  (∀ x l, tn x ≠ 0 → l < 2 * gm g → ep g l = x → np x ≤ l → gs g (l / 2) ≠ 0 → tn (ot (ga g) (gb g) (l / 2) x) ≠ 0 ∧ (anc (ga g) (gb g) B x (ot (ga g) (gb g) (l / 2) x) ∨ anc (ga g) (gb g) B (ot (ga g) (gb g) (l / 2) x) x) ∧ (B x = some (l / 2) ∨ B (ot (ga g) (gb g) (l / 2) x) = some (l / 2) ∨ lo x ≤ tn (ot (ga g) (gb g) (l / 2) x))) ∧
  (∀ x, fin x → tn x ≠ 0 ∧ ∀ l, l < 2 * gm g → ep g l = x → np x ≤ l) ∧
  (∀ x, tn x ≠ 0 → lo x ≤ tn x ∧ (lo x = tn x ∨ ∃ z y e, anc (ga g) (gb g) B x z ∧ tn z ≠ 0 ∧ e < gm g ∧ gs g e ≠ 0 ∧ jn (ga g) (gb g) e z y ∧ B z ≠ some e ∧ tn y ≠ 0 ∧ lo x = tn y)) ∧
  (∀ c e, fin c → B c = some e → lo (ot (ga g) (gb g) e c) ≤ lo c) ∧
  (∀ v, tn v ≠ 0 → B v ≠ none → (cu v ↔ ∃ c, fin c ∧ B c ≠ none ∧ par (ga g) (gb g) B c = v ∧ tn v ≤ lo c)) ∧
  br = ctp (fun e => ∃ k, fin k ∧ B k = some e ∧ lo k = tn k) (gm g) ∧ cc = ctp (fun k => tn k ≠ 0 ∧ cu k) (gn g) ∧ t = ctp (fun k => tn k ≠ 0) (gn g)
/-- first knots, but for those of ex: cut knots just if two came from them -/
def dR (g : zG) (tn : Nat → Nat) (B : Nat → Option Nat) (cu fin ex : Nat → Prop) : Prop := ∀ v, tn v ≠ 0 → B v = none → ¬ ex v → (cu v ↔ ∃ c d, c ≠ d ∧ fin c ∧ fin d ∧ B c ≠ none ∧ B d ≠ none ∧ par (ga g) (gb g) B c = v ∧ par (ga g) (gb g) B d = v)
/-- k is where the walk stands -/
def dK (g : zG) (tn : Nat → Nat) (B : Nat → Option Nat) (fin : Nat → Prop) (k : Nat) : Prop := tn k ≠ 0 ∧ ∀ x, tn x ≠ 0 → (¬ fin x ↔ anc (ga g) (gb g) B x k)
section
variable {g : zG} {tn lo : Nat → Nat} {B : Nat → Option Nat} {np : Nat → Nat} {cu fin : Nat → Prop} {t br cc : Nat}
theorem dI_par (h : dI g tn lo B np cu fin t br cc) {x : Nat} (hx : tn x ≠ 0) : tn (par (ga g) (gb g) B x) ≠ 0 ∧ tn (par (ga g) (gb g) B x) ≤ tn x := by
  cases hB : B x with
  | none => rw [par_none hB]; exact ⟨hx, Nat.le_refl _⟩
  | some e =>
    obtain ⟨-, -, p, h1, h2, h3⟩ := h.2.2.1 x e hx hB
    rw [par_some hB, jn_ot' h1]
    exact ⟨h2, by omega⟩
theorem dI_anc (h : dI g tn lo B np cu fin t br cc) {x y : Nat} (hy : tn y ≠ 0) (hxy : anc (ga g) (gb g) B x y) : tn x ≠ 0 ∧ tn x ≤ tn y := by
  obtain ⟨i, hi⟩ := hxy
  have key : ∀ i, tn (itp (ga g) (gb g) B i y) ≠ 0 ∧ tn (itp (ga g) (gb g) B i y) ≤ tn y := by
    intro i
    induction i with
    | zero => exact ⟨hy, Nat.le_refl _⟩
    | succ i ih => exact ⟨(dI_par h ih.1).1, Nat.le_trans (dI_par h ih.1).2 ih.2⟩
  rw [← hi]
  exact key i
/-- the link l of k is done with, whatever it gave -/
theorem dI_link (h : dI g tn lo B np cu fin t br cc) {k l x : Nat} (hk : tn k ≠ 0) (hnf : ¬ fin k) (hl : l < np k) (hnx : ∀ l', l < l' → l' < np k → ep g l' ≠ k) (hx : x ≤ lo k) (hx1 : x ≤ tn k)
    (hatt : x = lo k ∨ ∃ y e, e < gm g ∧ gs g e ≠ 0 ∧ jn (ga g) (gb g) e k y ∧ B k ≠ some e ∧ tn y ≠ 0 ∧ x = tn y)
    (hedge : l < 2 * gm g → gs g (l / 2) ≠ 0 → tn (ot (ga g) (gb g) (l / 2) k) ≠ 0 ∧ (anc (ga g) (gb g) B k (ot (ga g) (gb g) (l / 2) k) ∨ anc (ga g) (gb g) B (ot (ga g) (gb g) (l / 2) k) k) ∧ (B k = some (l / 2) ∨ B (ot (ga g) (gb g) (l / 2) k) = some (l / 2) ∨ x ≤ tn (ot (ga g) (gb g) (l / 2) k))) :
    dI g tn (un lo k x) B (un np k l) cu fin t br cc := by
  obtain ⟨h1, h2, h3, h4, h5, h6, h7, h8, h9, h10, h11⟩ := h
  have lok : ∀ y, un lo k x y ≤ lo y := fun y => by
    by_cases q : y = k
    · rw [q, un_self]; exact hx
    · rw [un_ne _ _ q]; exact Nat.le_refl _
  have lof : ∀ y, fin y → un lo k x y = lo y := fun y hy => un_ne _ _ (fun q => hnf (q ▸ hy))
  refine ⟨h1, h2, h3, fun y l' hy hl' hep hnp hgs => ?_, fun y hy => ?_, fun y hy => ?_, fun c e hc hBc => ?_, fun v hv hBv => ?_, ?_, h10, h11⟩
  · by_cases q : y = k
    · subst q
      rw [un_self] at hnp
      by_cases q2 : np y ≤ l'
      · obtain ⟨g1, g2, g3⟩ := h4 y l' hy hl' hep q2 hgs
        refine ⟨g1, g2, ?_⟩
        rcases g3 with g3 | g3 | g3
        · exact Or.inl g3
        · exact Or.inr (Or.inl g3)
        · exact Or.inr (Or.inr (Nat.le_trans (lok y) g3))
      · have : l' = l := by
          rcases Nat.lt_or_ge l l' with w | w
          · exact absurd hep (hnx l' w (by omega))
          · omega
        subst this
        obtain ⟨g1, g2, g3⟩ := hedge hl' hgs
        rw [un_self]
        exact ⟨g1, g2, g3⟩
    · rw [un_ne _ _ q] at hnp
      obtain ⟨g1, g2, g3⟩ := h4 y l' hy hl' hep hnp hgs
      rw [un_ne _ _ q]
      exact ⟨g1, g2, g3⟩
  · obtain ⟨g1, g2⟩ := h5 y hy
    have hyk : y ≠ k := fun q => hnf (q ▸ hy)
    rw [un_ne _ _ hyk]
    exact ⟨g1, g2⟩
  · obtain ⟨g1, g2⟩ := h6 y hy
    by_cases q : y = k
    · subst q
      rw [un_self]
      refine ⟨hx1, ?_⟩
      rcases hatt with q2 | ⟨y2, e, w1, w2, w3, w4, w5, w6⟩
      · rw [q2]; exact g2
      · exact Or.inr ⟨y, y2, e, anc_refl y, hy, w1, w2, w3, w4, w5, w6⟩
    · rw [un_ne _ _ q]; exact ⟨g1, g2⟩
  · rw [lof c hc]
    exact Nat.le_trans (lok _) (h7 c e hc hBc)
  · rw [h8 v hv hBv]
    exact ⟨fun ⟨c, q1, q2, q3, q4⟩ => ⟨c, q1, q2, q3, by rw [lof c q1]; exact q4⟩, fun ⟨c, q1, q2, q3, q4⟩ => ⟨c, q1, q2, q3, by rw [lof c q1] at q4; exact q4⟩⟩
  · rw [h9]
    exact ctp_congr (fun e _ => ⟨fun ⟨y, q1, q2, q3⟩ => ⟨y, q1, q2, by rw [lof y q1]; exact q3⟩, fun ⟨y, q1, q2, q3⟩ => ⟨y, q1, q2, by rw [lof y q1] at q3; exact q3⟩⟩)
/-- a new knot y is come to; p: from where -/
theorem dI_enter (h : dI g tn lo B np cu fin t br cc) {y : Nat} (hyn : y < gn g) (hy : tn y = 0) {be : Option Nat} (hbe : ∀ e, be = some e → e < gm g ∧ gs g e ≠ 0 ∧ ∃ p, jn (ga g) (gb g) e p y ∧ tn p ≠ 0) :
    dI g (un tn y (t + 1)) (un lo y (t + 1)) (un B y be) (un np y (2 * gm g)) (fun x => x ≠ y ∧ cu x) fin (t + 1) br cc ∧ (∀ x z, tn z ≠ 0 → (anc (ga g) (gb g) (un B y be) x z ↔ anc (ga g) (gb g) B x z)) ∧ (∀ z, tn z ≠ 0 → par (ga g) (gb g) (un B y be) z = par (ga g) (gb g) B z) ∧
    (∀ ex, dR g tn B cu fin ex → dR g (un tn y (t + 1)) (un B y be) (fun x => x ≠ y ∧ cu x) fin (fun x => x = y ∨ ex x)) := by
  have hpar := fun x hx => (dI_par h (x := x) hx).1
  obtain ⟨h1, h2, h3, h4, h5, h6, h7, h8, h9, h10, h11⟩ := h
  have vne : ∀ x, tn x ≠ 0 → x ≠ y := fun x hx q => hx (by rw [q]; exact hy)
  have Bs : ∀ x, tn x ≠ 0 → un B y be x = B x := fun x hx => un_ne _ _ (vne x hx)
  have tns : ∀ x, tn x ≠ 0 → un tn y (t + 1) x = tn x := fun x hx => un_ne _ _ (vne x hx)
  have ancs : ∀ x z, tn z ≠ 0 → (anc (ga g) (gb g) (un B y be) x z ↔ anc (ga g) (gb g) B x z) := fun x z hz => anc_same (V := fun x => tn x ≠ 0) hpar Bs hz
  have pars : ∀ z, tn z ≠ 0 → par (ga g) (gb g) (un B y be) z = par (ga g) (gb g) B z := fun z hz => by unfold par; rw [Bs z hz]
  have vis : ∀ x, un tn y (t + 1) x ≠ 0 ↔ x = y ∨ tn x ≠ 0 := fun x => by
    by_cases q : x = y
    · rw [q, un_self]; exact ⟨fun _ => Or.inl rfl, fun _ => by omega⟩
    · rw [un_ne _ _ q]; exact ⟨Or.inr, fun z => z.resolve_left q⟩
  have finv : ∀ x, fin x → tn x ≠ 0 := fun x hx => (h5 x hx).1
  refine ⟨⟨fun k hk => ?_, fun x z hx hxz => ?_, fun k e hk hB => ?_, fun x l hx hl hep hnp hgs => ?_, fun x hx => ?_, fun x hx => ?_, fun c e hc hB => ?_, fun v hv hB => ?_, ?_, ?_, ?_⟩, ancs, pars, fun ex hR v hv hB hex => ?_⟩
  · rcases (vis k).mp hk with q | q
    · rw [q, un_self]; exact ⟨hyn, Nat.le_refl _⟩
    · rw [tns k q]; have := h1 k q; exact ⟨this.1, by omega⟩
  · rcases (vis x).mp hx with q | q
    · subst q
      rw [un_self] at hxz
      by_cases q2 : z = x
      · exact q2.symm
      · rw [un_ne _ _ q2] at hxz
        have hz : tn z ≠ 0 := by omega
        have := (h1 z hz).2
        omega
    · rw [tns x q] at hxz
      by_cases q2 : z = y
      · rw [q2, un_self] at hxz
        have := (h1 x q).2
        omega
      · rw [un_ne _ _ q2] at hxz
        exact h2 x z q hxz
  · rcases (vis k).mp hk with q | q
    · rw [q, un_self] at hB
      obtain ⟨g1, g2, p, g3, g4⟩ := hbe e hB
      refine ⟨g1, g2, p, by rw [q]; exact g3, (vis p).mpr (Or.inr g4), ?_⟩
      rw [tns p g4, q, un_self]
      have := (h1 p g4).2
      omega
    · rw [Bs k q] at hB
      obtain ⟨g1, g2, p, g3, g4, g5⟩ := h3 k e q hB
      exact ⟨g1, g2, p, g3, (vis p).mpr (Or.inr g4), by rw [tns p g4, tns k q]; exact g5⟩
  · rcases (vis x).mp hx with q | q
    · rw [q, un_self] at hnp; omega
    · rw [un_ne _ _ (vne x q)] at hnp
      obtain ⟨g1, g2, g3⟩ := h4 x l q hl hep hnp hgs
      rw [ancs _ _ g1, ancs _ _ q, tns _ g1, Bs x q, Bs _ g1, un_ne lo _ (vne x q)]
      exact ⟨g1, g2, g3⟩
  · have hv := finv x hx
    refine ⟨(vis x).mpr (Or.inr hv), ?_⟩
    rw [un_ne _ _ (vne x hv)]
    exact (h5 x hx).2
  · rcases (vis x).mp hx with q | q
    · rw [q, un_self, un_self]; exact ⟨Nat.le_refl _, Or.inl rfl⟩
    · rw [un_ne lo _ (vne x q), tns x q]
      obtain ⟨g1, g2⟩ := h6 x q
      refine ⟨g1, ?_⟩
      rcases g2 with g2 | ⟨z, y2, e, w1, w2, w3, w4, w5, w6, w7, w8⟩
      · exact Or.inl g2
      · exact Or.inr ⟨z, y2, e, (ancs _ _ w2).mpr w1, (vis z).mpr (Or.inr w2), w3, w4, w5, by rw [Bs z w2]; exact w6, (vis y2).mpr (Or.inr w7), by rw [tns y2 w7]; exact w8⟩
  · have hv := finv c hc
    rw [Bs c hv] at hB
    have hp := hpar c hv
    rw [par_some hB] at hp
    rw [un_ne lo _ (vne c hv), un_ne lo _ (vne _ hp)]
    exact h7 c e hc hB
  · rcases (vis v).mp hv with q | q
    · subst q
      refine ⟨fun z => absurd rfl z.1, fun ⟨c, q1, q2, q3, q4⟩ => ?_⟩
      have hv2 := finv c q1
      rw [pars c hv2] at q3
      exact absurd q3 (vne _ (hpar c hv2))
    · rw [Bs v q] at hB
      have e8 := h8 v q hB
      constructor
      · rintro ⟨-, z⟩
        obtain ⟨c, q1, q2, q3, q4⟩ := e8.mp z
        have hv2 := finv c q1
        exact ⟨c, q1, by rw [Bs c hv2]; exact q2, by rw [pars c hv2]; exact q3, by rw [tns v q, un_ne lo _ (vne c hv2)]; exact q4⟩
      · rintro ⟨c, q1, q2, q3, q4⟩
        have hv2 := finv c q1
        rw [Bs c hv2] at q2
        rw [pars c hv2] at q3
        rw [tns v q, un_ne lo _ (vne c hv2)] at q4
        exact ⟨vne v q, e8.mpr ⟨c, q1, q2, q3, q4⟩⟩
  · rw [h9]
    exact ctp_congr (fun e _ => ⟨fun ⟨k, q1, q2, q3⟩ => ⟨k, q1, by rw [Bs k (finv k q1)]; exact q2, by rw [un_ne lo _ (vne k (finv k q1)), tns k (finv k q1)]; exact q3⟩, fun ⟨k, q1, q2, q3⟩ => ⟨k, q1, by rw [Bs k (finv k q1)] at q2; exact q2, by rw [un_ne lo _ (vne k (finv k q1)), tns k (finv k q1)] at q3; exact q3⟩⟩)
  · rw [h10]
    refine ctp_congr (fun k _ => ⟨fun z => ⟨(vis k).mpr (Or.inr z.1), vne k z.1, z.2⟩, fun z => ⟨((vis k).mp z.1).resolve_left z.2.1, z.2.2⟩⟩)
  · rw [ctp_ins (p := fun k => tn k ≠ 0) hyn (fun z => z hy) (fun k _ => vis k), ← h11]
  · have q : tn v ≠ 0 := ((vis v).mp hv).resolve_left (fun q => hex (Or.inl q))
    rw [Bs v q] at hB
    have e8 := hR v q hB (fun z => hex (Or.inr z))
    constructor
    · rintro ⟨-, z⟩
      obtain ⟨c, d, q1, q2, q3, q4, q5, q6, q7⟩ := e8.mp z
      have c2 := finv c q2
      have d2 := finv d q3
      exact ⟨c, d, q1, q2, q3, by rw [Bs c c2]; exact q4, by rw [Bs d d2]; exact q5, by rw [pars c c2]; exact q6, by rw [pars d d2]; exact q7⟩
    · rintro ⟨c, d, q1, q2, q3, q4, q5, q6, q7⟩
      have c2 := finv c q2
      have d2 := finv d q3
      rw [Bs c c2] at q4
      rw [Bs d d2] at q5
      rw [pars c c2] at q6
      rw [pars d d2] at q7
      exact ⟨vne v q, e8.mpr ⟨c, d, q1, q2, q3, q4, q5, q6, q7⟩⟩
/-- knot k, done with, is left for p -/
theorem dI_leave (h : dI g tn lo B np cu fin t br cc) {k e p : Nat} (hK : dK g tn B fin k) (hB : B k = some e) (hp : ot (ga g) (gb g) e k = p) (hdone : ∀ l, l < 2 * gm g → ep g l = k → np k ≤ l) :
    dI g tn (un lo p (if lo k < lo p then lo k else lo p)) B np (fun x => cu x ∨ (x = p ∧ B p ≠ none ∧ tn p ≤ lo k)) (fun x => x = k ∨ fin x) t (br + zif (lo k = tn k) 1 0) (cc + zif (¬ cu p ∧ B p ≠ none ∧ tn p ≤ lo k) 1 0) ∧ dK g tn B (fun x => x = k ∨ fin x) p ∧ p ≠ k ∧ tn p ≠ 0 ∧ p < gn g ∧ ¬ fin k ∧ k < gn g := by
  have hanc := @dI_anc g tn lo B np cu fin t br cc h
  have hpar := fun x hx => (dI_par h (x := x) hx).1
  obtain ⟨h1, h2, h3, h4, h5, h6, h7, h8, h9, h10, h11⟩ := h
  obtain ⟨hk, hst⟩ := hK
  obtain ⟨e1, e2, p', e3, e4, e5⟩ := h3 k e hk hB
  have epp : p' = p := by rw [← hp]; exact (jn_ot' e3).symm
  subst epp
  have hpk : p' ≠ k := fun q => by rw [q] at e5; omega
  have hpp : par (ga g) (gb g) B k = p' := by rw [par_some hB]; exact hp
  have hkf : ¬ fin k := (hst k hk).mpr (anc_refl k)
  have hpf : ¬ fin p' := (hst p' e4).mpr (by rw [← hpp]; exact anc_par k)
  have hlk := (h6 k hk).1
  have lole : ∀ y, un lo p' (if lo k < lo p' then lo k else lo p') y ≤ lo y := fun y => by
    by_cases q : y = p'
    · rw [q, un_self]; split <;> omega
    · rw [un_ne _ _ q]; exact Nat.le_refl _
  have lof : ∀ y, (y = k ∨ fin y) → un lo p' (if lo k < lo p' then lo k else lo p') y = lo y := fun y hy => un_ne _ _ (fun q => by
    rcases hy with hy | hy
    · exact hpk (q.symm.trans hy)
    · exact hpf (q ▸ hy))
  refine ⟨⟨h1, h2, h3, fun x l hx hl hep hnp hgs => ?_, fun x hx => ?_, fun x hx => ?_, fun c e' hc hBc => ?_, fun v hv hBv => ?_, ?_, ?_, h11⟩, ⟨e4, fun x hx => ?_⟩, hpk, e4, (h1 p' e4).1, hkf, (h1 k hk).1⟩
  · obtain ⟨g1, g2, g3⟩ := h4 x l hx hl hep hnp hgs
    refine ⟨g1, g2, ?_⟩
    rcases g3 with g3 | g3 | g3
    · exact Or.inl g3
    · exact Or.inr (Or.inl g3)
    · exact Or.inr (Or.inr (Nat.le_trans (lole x) g3))
  · rcases hx with hx | hx
    · subst hx; exact ⟨hk, hdone⟩
    · exact h5 x hx
  · obtain ⟨g1, g2⟩ := h6 x hx
    by_cases q : x = p'
    · subst q
      rw [un_self]
      by_cases hlt : lo k < lo x
      · rw [if_pos hlt]
        refine ⟨by omega, Or.inr ?_⟩
        rcases (h6 k hk).2 with w | ⟨z, y, f, w1, w2, w3, w4, w5, w6, w7, w8⟩
        · omega
        · exact ⟨z, y, f, anc_trans (by rw [← hpp]; exact anc_par k) w1, w2, w3, w4, w5, w6, w7, w8⟩
      · rw [if_neg hlt]; exact ⟨g1, g2⟩
    · rw [un_ne _ _ q]; exact ⟨g1, g2⟩
  · rw [lof c hc]
    rcases hc with hc | hc
    · subst hc
      rw [hB] at hBc
      cases hBc
      rw [hp, un_self]
      split <;> omega
    · exact Nat.le_trans (lole _) (h7 c e' hc hBc)
  · have e8 := h8 v hv hBv
    constructor
    · rintro (z | ⟨z1, z2, z3⟩)
      · obtain ⟨c, q1, q2, q3, q4⟩ := e8.mp z
        exact ⟨c, Or.inr q1, q2, q3, by rw [lof c (Or.inr q1)]; exact q4⟩
      · subst z1
        exact ⟨k, Or.inl rfl, (by rw [hB]; exact Option.some_ne_none e), hpp, (by rw [lof k (Or.inl rfl)]; exact z3)⟩
    · rintro ⟨c, q1, q2, q3, q4⟩
      rw [lof c q1] at q4
      rcases q1 with q1 | q1
      · subst q1
        rw [hpp] at q3
        subst q3
        exact Or.inr ⟨rfl, hBv, q4⟩
      · exact Or.inl (e8.mpr ⟨c, q1, q2, q3, q4⟩)
  · have enot : ¬ ∃ k', fin k' ∧ B k' = some e ∧ lo k' = tn k' := by
      rintro ⟨k', q1, q2, -⟩
      obtain ⟨-, -, p2, w3, w4, w5⟩ := h3 k' e (h5 k' q1).1 q2
      rcases jn_two e3 w3 with ⟨w1, w2⟩ | ⟨w1, w2⟩
      · rw [w2] at q1; exact hkf q1
      · rw [w2] at q1; exact hpf q1
    by_cases q : lo k = tn k
    · rw [zif_pos q, h9]
      refine (ctp_ins e1 enot (fun x _ => ?_)).symm
      constructor
      · rintro ⟨k', q1, q2, q3⟩
        rw [lof k' q1] at q3
        rcases q1 with q1 | q1
        · subst q1
          rw [hB] at q2
          cases q2
          exact Or.inl rfl
        · exact Or.inr ⟨k', q1, q2, q3⟩
      · rintro (w | ⟨k', q1, q2, q3⟩)
        · subst w
          exact ⟨k, Or.inl rfl, hB, by rw [lof k (Or.inl rfl)]; exact q⟩
        · exact ⟨k', Or.inr q1, q2, by rw [lof k' (Or.inr q1)]; exact q3⟩
    · rw [zif_neg q, Nat.add_zero, h9]
      refine ctp_congr (fun x _ => ?_)
      constructor
      · rintro ⟨k', q1, q2, q3⟩
        exact ⟨k', Or.inr q1, q2, by rw [lof k' (Or.inr q1)]; exact q3⟩
      · rintro ⟨k', q1, q2, q3⟩
        rw [lof k' q1] at q3
        rcases q1 with q1 | q1
        · rw [q1] at q3; exact absurd q3 q
        · exact ⟨k', q1, q2, q3⟩
  · by_cases q : ¬ cu p' ∧ B p' ≠ none ∧ tn p' ≤ lo k
    · rw [zif_pos q, h10]
      refine (ctp_ins (h1 p' e4).1 (fun z => q.1 z.2) (fun x _ => ?_)).symm
      constructor
      · rintro ⟨q1, q2⟩
        rcases q2 with q2 | q2
        · exact Or.inr ⟨q1, q2⟩
        · exact Or.inl q2.1
      · rintro (w | w)
        · rw [w]; exact ⟨e4, Or.inr ⟨rfl, q.2⟩⟩
        · exact ⟨w.1, Or.inl w.2⟩
    · rw [zif_neg q, Nat.add_zero, h10]
      refine ctp_congr (fun x _ => ?_)
      constructor
      · rintro ⟨q1, q2⟩; exact ⟨q1, Or.inl q2⟩
      · rintro ⟨q1, q2⟩
        rcases q2 with q2 | q2
        · exact ⟨q1, q2⟩
        · refine ⟨q1, Classical.byContradiction fun z => q ⟨?_, q2.2⟩⟩
          rw [← q2.1]; exact z
  · constructor
    · intro z
      have := (hst x hx).mp (fun q => z (Or.inr q))
      rw [← hpp]
      exact anc_up this (fun q => z (Or.inl q))
    · rintro z (q | q)
      · rw [q] at z
        have := (hanc e4 z).2
        omega
      · exact absurd q ((hst x hx).mpr (anc_trans z (by rw [← hpp]; exact anc_par k)))
end
