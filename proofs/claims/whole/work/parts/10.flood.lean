/-! FLOODS of the class -/
def fcl (f l r : Nat) (F : Nat → Int32) (I : Nat → Nat → Int32) : Prop := ∃ (L : Nat) (q : Nat → Nat), L ≤ 100 ∧ F f = nI L ∧ (∀ i, i < L → I l i = nI (q i) ∧ q i < 100) ∧ ∀ k, k < 100 → (I r k = 0 ∨ I r k = 1) ∧ (I r k = 1 → ∃ i, i < L ∧ q i = k)
def ffl (g : zG) (T : Nat → Prop) (rt f l d y r L : Nat) (q : Nat → Nat) (R : Nat → Prop) (B dp : Nat → Nat) (F : Nat → Int32) (I : Nat → Nat → Int32) : Prop :=
  bf (gn g) (gm g) (ga g) (gb g) T rt L q R B dp ∧ F f = nI L ∧ (∀ i, i < L → I l i = nI (q i)) ∧ (∀ k, R k → k ≠ rt → I y k = nI (B k)) ∧ I y rt = -1 ∧ (∀ k, R k → I d k = nI (dp k)) ∧ ∀ k, k < 100 → (R k → I r k = 1) ∧ (¬ R k → I r k = 0)
def frF (f : Nat) (F F2 : Nat → Int32) : Prop := ∀ j, j ≠ f → F2 j = F j
def frI (l d y r : Nat) (I I2 : Nat → Nat → Int32) : Prop := ∀ j, j ≠ l → j ≠ d → j ≠ y → j ≠ r → I2 j = I j
theorem ffl_fcl {g : zG} {T : Nat → Prop} {rt f l d y r L : Nat} {q : Nat → Nat} {R : Nat → Prop} {B dp : Nat → Nat} {F : Nat → Int32} {I : Nat → Nat → Int32} (hn : gn g ≤ 100) (h : ffl g T rt f l d y r L q R B dp F I) : fcl f l r F I := by
  obtain ⟨h1, h2, h3, h4, h5, h6, h7⟩ := h
  have hL := h1.1
  refine ⟨L, q, by omega, h2, fun i hi => ⟨h3 i hi, by have := (h1.2.2.2.1 i hi).1; omega⟩, fun k hk => ?_⟩
  by_cases hR : R k
  · exact ⟨Or.inr ((h7 k hk).1 hR), fun _ => h1.2.2.2.2.2.1 k hR⟩
  · have := (h7 k hk).2 hR
    exact ⟨Or.inl this, fun z => by rw [this] at z; exact absurd z (by decide)⟩
theorem ep_of {g : zG} {e k y : Nat} (he : e < gm g) (hj : jn (ga g) (gb g) e k y) : ∃ l, l < 2 * gm g ∧ ep g l = k ∧ l / 2 = e := by
  rcases hj with ⟨h1, h2⟩ | ⟨h1, h2⟩
  · exact ⟨2 * e, by omega, by unfold ep; rw [if_pos (by omega), show 2 * e / 2 = e by omega]; exact h1, by omega⟩
  · exact ⟨2 * e + 1, by omega, by unfold ep; rw [if_neg (by omega), show (2 * e + 1) / 2 = e by omega]; exact h2, by omega⟩
theorem ep_end {g : zG} {l k : Nat} (h : ep g l = k) : ga g (l / 2) = k ∨ gb g (l / 2) = k := by
  unfold ep at h
  by_cases q : l % 2 = 0
  · rw [if_pos q] at h; exact Or.inl h
  · rw [if_neg q] at h; exact Or.inr h
theorem ep_lt {g : zG} (hW : gW g) {l : Nat} (h : l / 2 < gm g) : ep g l < gn g := by
  have := hW.2.2 _ h
  unfold ep
  by_cases q : l % 2 = 0
  · rw [if_pos q]; omega
  · rw [if_neg q]; omega
theorem ot_lt {g : zG} (hW : gW g) {e k : Nat} (h : e < gm g) : ot (ga g) (gb g) e k < gn g := by
  have := hW.2.2 _ h
  unfold ot
  by_cases q : ga g e = k
  · rw [if_pos q]; omega
  · rw [if_neg q]; omega
/-- an edge has one link at a knot -/
theorem ep_half {g : zG} (hW : gW g) {l l2 : Nat} (h : l / 2 < gm g) (he : ep g l = ep g l2) (hl : l2 < l) : l2 / 2 < l / 2 := by
  rcases Nat.lt_or_ge (l2 / 2) (l / 2) with z | z
  · exact z
  · have h1 : l2 / 2 = l / 2 := by omega
    have h2 : l2 % 2 = 0 := by omega
    have h3 : ¬ l % 2 = 0 := by omega
    unfold ep at he
    rw [if_pos h2, if_neg h3, h1] at he
    exact absurd he.symm (hW.2.2 _ h).2.2.1
section
variable {g : zG} {T : Nat → Prop} {rt : Nat}
theorem c_clear_a_loop {P : zM → Prop} {L : Nat} {q : Nat → Nat} {F : Nat → Int32} {J : Nat → Nat → Int64} (hL : L ≤ 100) (hF : F 6 = nI L) {I0 : Nat → Nat → Int32} (hq : ∀ i, i < L → I0 8 i = nI (q i) ∧ q i < 100)
    (hP : ∀ I : Nat → Nat → Int32, (∀ j, j ≠ 11 → I j = I0 j) → (∀ k, k < 100 → I 11 k = 0) → P (upd F 6 0, I, J)) :
    ∀ d i (I : Nat → Nat → Int32), i + d = L → (∀ j, j ≠ 11 → I j = I0 j) → (∀ k, k < 100 → (I 11 k = 0 ∨ I 11 k = 1) ∧ (I 11 k = 1 → ∃ j, i ≤ j ∧ j < L ∧ q j = k)) → AW m_X1_clear (z_pv P) 2 [some (.ref 12), some (.int (nI i))] [] (F, I, J) := by
  intro d
  induction d with
  | zero =>
    intro i I hi h1 h2
    refine r_X1_clear_a_2 _ F I J ?_
    rw [hF, nLe (by omega) (by omega)]
    refine ⟨fun _ => hP I h1 (fun k hk => ?_), fun z => absurd (show L ≤ i by omega) z⟩
    rcases (h2 k hk).1 with z | z
    · exact z
    · obtain ⟨j, g1, g2, -⟩ := (h2 k hk).2 z
      omega
  | succ d ih =>
    intro i I hi h1 h2
    refine r_X1_clear_a_2 _ F I J ?_
    obtain ⟨e1, e2⟩ := hq i (by omega)
    have e3 : I 8 i = nI (q i) := by rw [h1 8 (by decide)]; exact e1
    rw [hF, nLe (by omega) (by omega), zN (by omega), e3, zN (by omega), n1, nAdd]
    refine ⟨fun z => absurd z (by omega), fun _ => ⟨nIn (by omega) (by omega), nIn e2 (by omega), ?_⟩⟩
    refine ih (i + 1) _ (by omega) (fun j hj => by rw [ui_ne _ _ hj]; exact h1 j hj) (fun k hk => ?_)
    rw [ui_self]
    by_cases hkq : k = q i
    · rw [hkq, upd_self]
      exact ⟨Or.inl rfl, fun z => absurd z (by decide)⟩
    · rw [upd_ne _ hkq]
      refine ⟨(h2 k hk).1, fun z => ?_⟩
      obtain ⟨j, g1, g2, g3⟩ := (h2 k hk).2 z
      refine ⟨j, ?_, g2, g3⟩
      rcases Nat.lt_or_ge i j with z2 | z2
      · omega
      · have : j = i := by omega
        rw [this] at g3
        exact absurd g3.symm hkq
theorem c_clear_a {P : zM → Prop} {F : Nat → Int32} {I : Nat → Nat → Int32} {J : Nat → Nat → Int64} (h : fcl 6 8 11 F I) (hP : ∀ I2 : Nat → Nat → Int32, (∀ j, j ≠ 11 → I2 j = I j) → (∀ k, k < 100 → I2 11 k = 0) → P (upd F 6 0, I2, J)) : AMv m_X1_clear [.ref 12] (F, I, J) P := by
  obtain ⟨L, q, h1, h2, h3, h4⟩ := h
  refine r_X1_clear_a_0 F I J ?_
  refine c_clear_a_loop h1 h2 h3 hP L 0 I (by omega) (fun _ _ => rfl) (fun k hk => ⟨(h4 k hk).1, fun z => ?_⟩)
  obtain ⟨i, g1, g2⟩ := (h4 k hk).2 z
  exact ⟨i, by omega, g1, g2⟩
theorem c_reach_a {P : zM → Prop} {F : Nat → Int32} {I : Nat → Nat → Int32} {J : Nat → Nat → Int64} {k L : Nat} {x y : Int32} (hk : k < 100) (hL : L < 100) (hF : F 6 = nI L) (hP : P (upd F 6 (nI (L + 1)), z_ui (z_ui (z_ui (z_ui I 11 k 1) 10 k x) 9 k y) 8 L (nI k), J)) : AMv m_X1_reach [.ref 12, .int (nI k), .int x, .int y] (F, I, J) P := by
  refine r_X1_reach_a_0 _ _ _ F I J ?_
  have b1 : vp_in (nI k) 100 := nIn hk (by omega)
  rw [hF, zN (by omega), zN (by omega), n1, nAdd]
  exact ⟨b1, b1, b1, nIn hL (by omega), hP⟩
/-- one more knot is reached -/
theorem ffl_push_a {L : Nat} {q : Nat → Nat} {R : Nat → Prop} {B dp : Nat → Nat} {F : Nat → Int32} {I : Nat → Nat → Int32} (hW : gW g) (h : ffl g T rt 6 8 9 10 11 L q R B dp F I) {e p k : Nat} (he : e < gm g) (hT : T e) (hp : R p) (hj : jn (ga g) (gb g) e p k) (hk : k < gn g) (hR : ¬ R k) :
    L + 1 ≤ gn g ∧ ffl g T rt 6 8 9 10 11 (L + 1) (un q L k) (fun x => x = k ∨ R x) (un B k e) (un dp k (dp p + 1)) (upd F 6 (nI (L + 1))) (z_ui (z_ui (z_ui (z_ui I 11 k 1) 10 k (nI e)) 9 k (nI (dp p + 1))) 8 L (nI k)) := by
  obtain ⟨h1, h2, h3, h4, h5, h6, h7⟩ := h
  obtain ⟨hn, hb⟩ := bf_push h1 he hT hp hj hk hR
  have hrt : R rt := by rw [← h1.2.2.1]; exact (h1.2.2.2.1 0 h1.2.1).2.1
  have hne : ∀ x, R x → x ≠ k := fun x hx z => hR (z ▸ hx)
  have r1 : z_ui (z_ui (z_ui (z_ui I 11 k 1) 10 k (nI e)) 9 k (nI (dp p + 1))) 8 L (nI k) 8 = upd (I 8) L (nI k) := by
    rw [ui_self, ui_ne _ _ (by decide), ui_ne _ _ (by decide), ui_ne _ _ (by decide)]
  have r2 : z_ui (z_ui (z_ui (z_ui I 11 k 1) 10 k (nI e)) 9 k (nI (dp p + 1))) 8 L (nI k) 9 = upd (I 9) k (nI (dp p + 1)) := by
    rw [ui_ne _ _ (by decide), ui_self, ui_ne _ _ (by decide), ui_ne _ _ (by decide)]
  have r3 : z_ui (z_ui (z_ui (z_ui I 11 k 1) 10 k (nI e)) 9 k (nI (dp p + 1))) 8 L (nI k) 10 = upd (I 10) k (nI e) := by
    rw [ui_ne _ _ (by decide), ui_ne _ _ (by decide), ui_self, ui_ne _ _ (by decide)]
  have r4 : z_ui (z_ui (z_ui (z_ui I 11 k 1) 10 k (nI e)) 9 k (nI (dp p + 1))) 8 L (nI k) 11 = upd (I 11) k 1 := by
    rw [ui_ne _ _ (by decide), ui_ne _ _ (by decide), ui_ne _ _ (by decide), ui_self]
  refine ⟨hn, hb, upd_self _ _ _, fun i hi => ?_, fun x hx hxr => ?_, ?_, fun x hx => ?_, fun x hx => ?_⟩
  · (try dsimp only)
    rw [r1]
    by_cases hiL : i = L
    · rw [hiL, upd_self, un_self]
    · rw [upd_ne _ hiL, un_ne _ _ hiL]; exact h3 i (by omega)
  · (try dsimp only)
    rw [r3]
    by_cases hxk : x = k
    · rw [hxk, upd_self, un_self]
    · rw [upd_ne _ hxk, un_ne _ _ hxk]; exact h4 x (hx.resolve_left hxk) hxr
  · (try dsimp only)
    rw [r3, upd_ne _ (hne rt hrt)]; exact h5
  · (try dsimp only)
    rw [r2]
    by_cases hxk : x = k
    · rw [hxk, upd_self, un_self]
    · rw [upd_ne _ hxk, un_ne _ _ hxk]; exact h6 x (hx.resolve_left hxk)
  · (try dsimp only)
    rw [r4]
    by_cases hxk : x = k
    · rw [hxk, upd_self]
      exact ⟨fun _ => rfl, fun z => absurd (Or.inl rfl) z⟩
    · rw [upd_ne _ hxk]
      exact ⟨fun z => (h7 x hx).1 (z.resolve_left hxk), fun z => (h7 x hx).2 (fun z2 => z (Or.inr z2))⟩
theorem c_spreadFrom_a_loop {P : zM → Prop} {F0 : Nat → Int32} {I0 : Nat → Nat → Int32} {J : Nat → Nat → Int64} (hW : gW g) (hE : gE g I0) (hC : gC g I0) {x3 x4 : Int32} (hT : ∀ e, e < gm g → (T e ↔ gs g e = 1 ∧ ¬ nI e = x3 ∧ ¬ nI (gv g e) < x4)) {k : Nat} (hk : k < gn g) {L0 : Nat} {q0 : Nat → Nat} {R0 : Nat → Prop}
    (hP : ∀ F I L q R B dp, ffl g T rt 6 8 9 10 11 L q R B dp F I → frF 6 F0 F → frI 8 9 10 11 I0 I → L0 ≤ L → (∀ i, i < L0 → q i = q0 i) → (∀ x, R0 x → R x) → (∀ e y, e < gm g → T e → jn (ga g) (gb g) e k y → R y) → P (F, I, J)) :
    ∀ d i (x5 : Int32) F I L q R B dp, ffl g T rt 6 8 9 10 11 L q R B dp F I → frF 6 F0 F → frI 8 9 10 11 I0 I → L0 ≤ L → (∀ j, j < L0 → q j = q0 j) → (∀ x, R0 x → R x) → R k → i ≤ 300 →
      ((x5 = -1 ∧ ∀ l, l < 2 * gm g → ep g l = k → T (l / 2) → R (ot (ga g) (gb g) (l / 2) k)) ∨ ∃ l, l < d ∧ x5 = nI l ∧ l < 2 * gm g ∧ ep g l = k ∧ l / 2 + i < 300 ∧ ∀ l2, l < l2 → l2 < 2 * gm g → ep g l2 = k → T (l2 / 2) → R (ot (ga g) (gb g) (l2 / 2) k)) →
      AW m_X1_spreadFrom (z_pv P) 11 [some (.ref 12), some (.ref 3), some (.int (nI k)), some (.int x3), some (.int x4), some (.int x5), some (.int (nI i)), none, none] [] (F, I, J) := by
  obtain ⟨w1, w2, w3⟩ := id hW
  intro d
  induction d with
  | zero =>
    intro i x5 F I L q R B dp hf hF hI hL hq hR hRk hi hx
    rcases hx with ⟨hx, hall⟩ | ⟨l, hl, -⟩
    · refine r_X1_spreadFrom_a_11 _ _ _ _ _ F I J ⟨fun _ => ?_, fun z => absurd hx z⟩
      refine hP F I L q R B dp hf hF hI hL hq hR (fun e y he hTe hj => ?_)
      obtain ⟨l, l1, l2, l3⟩ := ep_of he hj
      have := hall l l1 l2 (by rw [l3]; exact hTe)
      rw [l3, jn_ot hj] at this
      exact this
    · omega
  | succ d ih =>
    intro i x5 F I L q R B dp hf hF hI hL hq hR hRk hi hx
    rcases hx with ⟨hx, hall⟩ | ⟨l, hld, hx, hlm, hep, hli, hall⟩
    · refine r_X1_spreadFrom_a_11 _ _ _ _ _ F I J ⟨fun _ => ?_, fun z => absurd hx z⟩
      refine hP F I L q R B dp hf hF hI hL hq hR (fun e y he hTe hj => ?_)
      obtain ⟨l, l1, l2, l3⟩ := ep_of he hj
      have := hall l l1 l2 (by rw [l3]; exact hTe)
      rw [l3, jn_ot hj] at this
      exact this
    · subst hx
      have hem : l / 2 < gm g := by omega
      have hjl : jn (ga g) (gb g) (l / 2) k (ot (ga g) (gb g) (l / 2) k) := ot_jn (ep_end hep)
      have hot : ot (ga g) (gb g) (l / 2) k < gn g := ot_lt hW hem
      -- to the next link
      have next : ∀ F I L q R B dp, ffl g T rt 6 8 9 10 11 L q R B dp F I → frF 6 F0 F → frI 8 9 10 11 I0 I → L0 ≤ L → (∀ j, j < L0 → q j = q0 j) → (∀ x, R0 x → R x) → R k →
          (∀ l2, l < l2 → l2 < 2 * gm g → ep g l2 = k → T (l2 / 2) → R (ot (ga g) (gb g) (l2 / 2) k)) → (T (l / 2) → R (ot (ga g) (gb g) (l / 2) k)) →
          vp_in (nI l) 600 ∧ AW m_X1_spreadFrom (z_pv P) 11 [some (.ref 12), some (.ref 3), some (.int (nI k)), some (.int x3), some (.int x4), some (.int (I 6 (zn (nI l)))), some (.int (nI i + 1)), none, none] [] (F, I, J) := by
        intro F I L q R B dp hf hF hI hL hq hR hRk hall hnow
        refine ⟨nIn (by omega) (by omega), ?_⟩
        rw [zN (by omega), hI 6 (by decide) (by decide) (by decide) (by decide), n1, nAdd]
        refine ih (i + 1) _ F I L q R B dp hf hF hI hL hq hR hRk (by omega) ?_
        have hn := hC.2 l hlm
        rw [hep] at hn
        have hall2 : ∀ l2, l ≤ l2 → l2 < 2 * gm g → ep g l2 = k → T (l2 / 2) → R (ot (ga g) (gb g) (l2 / 2) k) := fun l2 h1 h2 h3 h4 => by
          rcases Nat.lt_or_ge l l2 with z | z
          · exact hall l2 z h2 h3 h4
          · have : l2 = l := by omega
            subst this
            exact hnow h4
        rcases hn with ⟨e1, e2⟩ | ⟨l3, e1, e2, e3, e4⟩
        · refine Or.inl ⟨e1, fun l2 h1 h2 h3 => ?_⟩
          rcases Nat.lt_or_ge l2 l with z | z
          · exact absurd h2 (e2 l2 z)
          · exact hall2 l2 z h1 h2 h3
        · refine Or.inr ⟨l3, by omega, e2, by omega, e3, ?_, fun l2 h1 h2 h3 h4 => ?_⟩
          · have := ep_half hW (l := l) (l2 := l3) hem (by rw [hep, e3]) (by omega)
            omega
          · rcases Nat.lt_or_ge l2 l with z | z
            · exact absurd h3 (e4 l2 h1 z)
            · exact hall2 l2 z h2 h3 h4
      have hE2 : gE g I := fun e he => by
        have := hE e he
        rw [hI 1 (by decide) (by decide) (by decide) (by decide), hI 2 (by decide) (by decide) (by decide) (by decide), hI 3 (by decide) (by decide) (by decide) (by decide), hI 4 (by decide) (by decide) (by decide) (by decide)]
        exact this
      refine r_X1_spreadFrom_a_11 _ _ _ _ _ F I J ?_
      rw [nNe (by omega), n300, nLe (by omega) (by omega), show nI l / 2 = nI (l / 2) from by rw [n2]; exact nDiv (by omega) (by omega) (by omega)]
      refine ⟨fun z => z.elim, fun _ => ⟨fun z => absurd z (by omega), fun _ => ?_⟩⟩
      refine c_across hW hE2 hem (by omega) ?_
      have hsv := w3 (l / 2) hem
      (try dsimp only)
      rw [zN (show l / 2 < 2147483648 by omega), (hE2 _ hem).2.2.1, (hE2 _ hem).2.2.2, n1, nEq (by omega) (by omega)]
      refine ⟨nIn (by omega) (by omega), fun z => ?_, fun z => ⟨fun z2 => ?_, fun z2 => ⟨nIn (by omega) (by omega), fun z3 => ?_, fun z3 => ⟨nIn (by omega) (by omega), fun z4 => ?_, fun z4 => ⟨nIn (by omega) (by omega), ?_⟩⟩⟩⟩⟩
      · exact next F I L q R B dp hf hF hI hL hq hR hRk hall (fun t => absurd ((hT _ hem).mp t).1 z)
      · exact next F I L q R B dp hf hF hI hL hq hR hRk hall (fun t => absurd z2 ((hT _ hem).mp t).2.1)
      · exact next F I L q R B dp hf hF hI hL hq hR hRk hall (fun t => absurd z3 ((hT _ hem).mp t).2.2)
      · refine next F I L q R B dp hf hF hI hL hq hR hRk hall (fun t => Classical.byContradiction fun z5 => ?_)
        rw [zN (by omega)] at z4
        exact z4 ((hf.2.2.2.2.2.2 _ (by omega)).2 z5)
      · have hTe : T (l / 2) := (hT _ hem).mpr ⟨z, z2, z3⟩
        have hnR : ¬ R (ot (ga g) (gb g) (l / 2) k) := fun z5 => by
          rw [zN (by omega), (hf.2.2.2.2.2.2 _ (by omega)).1 z5] at z4
          exact absurd z4 (by decide)
        obtain ⟨hn1, hpush⟩ := ffl_push_a hW hf hem hTe hRk hjl hot hnR
        have hdk := bf_dp_lt hf.1 hRk
        rw [show zn (nI k) = k from zN (by omega), hf.2.2.2.2.2.1 k hRk, nAdd]
        refine c_reach_a (by omega) (by omega) hf.2.1 ?_
        refine next _ _ _ _ _ _ _ hpush (fun j hj => by rw [upd_ne _ hj]; exact hF j hj) (fun j h1 h2 h3 h4 => by (try dsimp only); rw [ui_ne _ _ h1, ui_ne _ _ h2, ui_ne _ _ h3, ui_ne _ _ h4]; exact hI j h1 h2 h3 h4) (by omega) (fun j hj => by rw [un_ne _ _ (by omega)]; exact hq j hj) (fun x hx => Or.inr (hR x hx)) (Or.inr hRk) (fun l2 h1 h2 h3 h4 => Or.inr (hall l2 h1 h2 h3 h4)) (fun _ => Or.inl rfl)
theorem c_spread_a_loop {P : zM → Prop} {F0 : Nat → Int32} {I0 : Nat → Nat → Int32} {J : Nat → Nat → Int64} (hW : gW g) (hE : gE g I0) (hC : gC g I0) {x3 x4 : Int32} (hT : ∀ e, e < gm g → (T e ↔ gs g e = 1 ∧ ¬ nI e = x3 ∧ ¬ nI (gv g e) < x4))
    (hP : ∀ F I L q R B dp, ffl g T rt 6 8 9 10 11 L q R B dp F I → frF 6 F0 F → frI 8 9 10 11 I0 I → (∀ k, R k ↔ cn (gm g) (ga g) (gb g) T rt k) → P (F, I, J)) :
    ∀ d i F I L q R B dp, gn g ≤ i + d → i ≤ L → ffl g T rt 6 8 9 10 11 L q R B dp F I → frF 6 F0 F → frI 8 9 10 11 I0 I → (∀ j, j < i → ∀ e y, e < gm g → T e → jn (ga g) (gb g) e (q j) y → R y) →
      AW m_X1_spread (z_pv P) 14 [some (.ref 12), some (.ref 3), none, some (.int x3), some (.int x4), some (.int (nI i))] [] (F, I, J) := by
  obtain ⟨w1, w2, w3⟩ := id hW
  have fin : ∀ i F I L q R B dp, L ≤ i → ffl g T rt 6 8 9 10 11 L q R B dp F I → frF 6 F0 F → frI 8 9 10 11 I0 I → (∀ j, j < i → ∀ e y, e < gm g → T e → jn (ga g) (gb g) e (q j) y → R y) → P (F, I, J) := by
    intro i F I L q R B dp hL hf hF hI hc
    refine hP F I L q R B dp hf hF hI (bf_iff hf.1 (fun x y e he hTe hj hx => ?_))
    obtain ⟨j, hj1, hj2⟩ := hf.1.2.2.2.2.2.1 x hx
    exact hc j (by omega) e y he hTe (by rw [hj2]; exact hj)
  intro d
  induction d with
  | zero =>
    intro i F I L q R B dp hd hi hf hF hI hc
    have hLn := hf.1.1
    refine r_X1_spread_a_14 _ _ _ F I J ⟨fun _ => fin i F I L q R B dp (by omega) hf hF hI hc, fun z => ?_⟩
    rw [hf.2.1, nLe (by omega) (by omega)] at z
    omega
  | succ d ih =>
    intro i F I L q R B dp hd hi hf hF hI hc
    have hLn := hf.1.1
    refine r_X1_spread_a_14 _ _ _ F I J ?_
    rw [hf.2.1, nLe (by omega) (by omega), n100, nLe (by omega) (by omega)]
    refine ⟨fun z => fin i F I L q R B dp z hf hF hI hc, fun z => ⟨fun z2 => by omega, fun _ => ⟨nIn (by omega) (by omega), ?_⟩⟩⟩
    (try dsimp only)
    have hqi := hf.1.2.2.2.1 i (by omega)
    have hE2 : gE g I := fun e he => by
      have := hE e he
      rw [hI 1 (by decide) (by decide) (by decide) (by decide), hI 2 (by decide) (by decide) (by decide) (by decide), hI 3 (by decide) (by decide) (by decide) (by decide), hI 4 (by decide) (by decide) (by decide) (by decide)]
      exact this
    have hC2 : gC g I := by
      unfold gC
      rw [hI 5 (by decide) (by decide) (by decide) (by decide), hI 6 (by decide) (by decide) (by decide) (by decide)]
      exact hC
    rw [zN (by omega), hf.2.2.1 i (by omega)]
    refine r_X1_spreadFrom_a_0 _ _ _ F I J ⟨nIn (by omega) (by omega), ?_⟩
    rw [zN (by omega)]
    refine c_spreadFrom_a_loop (L0 := L) (q0 := q) (R0 := R) hW hE2 hC2 hT hqi.1 ?_ 600 0 _ F I L q R B dp hf (fun _ _ => rfl) (fun _ _ _ _ _ => rfl) (Nat.le_refl _) (fun _ _ => rfl) (fun _ h => h) hqi.2.1 (by omega) ?_
    · intro F2 I2 L2 q2 R2 B2 dp2 hf2 hF2 hI2 hL2 hq2 hR2 hk2
      rw [n1, nAdd]
      refine ih (i + 1) F2 I2 L2 q2 R2 B2 dp2 (by omega) (by omega) hf2 (fun j hj => by rw [hF2 j hj]; exact hF j hj) (fun j h1 h2 h3 h4 => by rw [hI2 j h1 h2 h3 h4]; exact hI j h1 h2 h3 h4) (fun j hj e y he hTe hjn => ?_)
      rw [hq2 j (by omega)] at hjn
      rcases Nat.lt_or_ge j i with z3 | z3
      · exact hR2 y (hc j z3 e y he hTe hjn)
      · have : j = i := by omega
        subst this
        exact hk2 e y he hTe hjn
    · rcases hC2.1 (q i) (by omega) with ⟨e1, e2⟩ | ⟨l, e1, e2, e3, e4⟩
      · exact Or.inl ⟨e1, fun l h1 h2 => absurd h2 (e2 l h1)⟩
      · exact Or.inr ⟨l, by omega, e2, e1, e3, by omega, fun l2 h1 h2 h3 => absurd h3 (e4 l2 h1 h2)⟩
/-- Flood.spread: who hangs together with the start by the edges that count -/
theorem c_spread_a {P : zM → Prop} {F : Nat → Int32} {I : Nat → Nat → Int32} {J : Nat → Nat → Int64} (hW : gW g) (hE : gE g I) (hC : gC g I) (hfc : fcl 6 8 11 F I) {x3 x4 : Int32} (hT : ∀ e, e < gm g → (T e ↔ gs g e = 1 ∧ ¬ nI e = x3 ∧ ¬ nI (gv g e) < x4)) (hrt : rt < gn g)
    (hP : ∀ F2 I2 L q R B dp, ffl g T rt 6 8 9 10 11 L q R B dp F2 I2 → frF 6 F F2 → frI 8 9 10 11 I I2 → (∀ k, R k ↔ cn (gm g) (ga g) (gb g) T rt k) → P (F2, I2, J)) :
    AMv m_X1_spread [.ref 12, .ref 3, .int (nI rt), .int x3, .int x4] (F, I, J) P := by
  obtain ⟨w1, w2, w3⟩ := id hW
  refine r_X1_spread_a_0 _ _ _ F I J ?_
  refine c_clear_a hfc (fun I1 h1 h2 => ?_)
  refine c_reach_a (L := 0) (by omega) (by omega) (upd_self _ _ _) ?_
  refine c_spread_a_loop (F0 := F) (I0 := I) hW hE hC hT hP 100 0 _ _ 1 (fun _ => rt) (fun k => k = rt) (fun _ => 0) (fun _ => 0) (by omega) (by omega) ?_ (fun j hj => by rw [upd_ne _ hj, upd_ne _ hj]) (fun j g1 g2 g3 g4 => by rw [ui_ne _ _ g1, ui_ne _ _ g2, ui_ne _ _ g3, ui_ne _ _ g4]; exact h1 j g4) (fun j hj => by omega)
  refine ⟨bf_start hrt _ _ _ rfl rfl, upd_self _ _ _, fun i hi => ?_, fun k hk hne => absurd hk hne, ?_, fun k hk => ?_, fun k hk => ?_⟩
  · have : i = 0 := by omega
    subst this
    (try dsimp only)
    rw [ui_self, upd_self]
  · (try dsimp only)
    rw [ui_ne _ _ (by decide), ui_ne _ _ (by decide), ui_self, upd_self]
  · (try dsimp only)
    rw [hk, ui_ne _ _ (by decide), ui_self, upd_self]
    rfl
  · (try dsimp only)
    rw [ui_ne _ _ (by decide), ui_ne _ _ (by decide), ui_ne _ _ (by decide), ui_self]
    by_cases hkr : k = rt
    · rw [hkr, upd_self]
      exact ⟨fun _ => rfl, fun z => absurd rfl z⟩
    · rw [upd_ne _ hkr]
      exact ⟨fun z => absurd z hkr, fun _ => h2 k hk⟩
end
section
variable {g : zG} {T : Nat → Prop} {rt : Nat}
theorem c_clear_b_loop {P : zM → Prop} {L : Nat} {q : Nat → Nat} {F : Nat → Int32} {J : Nat → Nat → Int64} (hL : L ≤ 100) (hF : F 7 = nI L) {I0 : Nat → Nat → Int32} (hq : ∀ i, i < L → I0 12 i = nI (q i) ∧ q i < 100)
    (hP : ∀ I : Nat → Nat → Int32, (∀ j, j ≠ 15 → I j = I0 j) → (∀ k, k < 100 → I 15 k = 0) → P (upd F 7 0, I, J)) :
    ∀ d i (I : Nat → Nat → Int32), i + d = L → (∀ j, j ≠ 15 → I j = I0 j) → (∀ k, k < 100 → (I 15 k = 0 ∨ I 15 k = 1) ∧ (I 15 k = 1 → ∃ j, i ≤ j ∧ j < L ∧ q j = k)) → AW m_X1_clear (z_pv P) 2 [some (.ref 17), some (.int (nI i))] [] (F, I, J) := by
  intro d
  induction d with
  | zero =>
    intro i I hi h1 h2
    refine r_X1_clear_b_2 _ F I J ?_
    rw [hF, nLe (by omega) (by omega)]
    refine ⟨fun _ => hP I h1 (fun k hk => ?_), fun z => absurd (show L ≤ i by omega) z⟩
    rcases (h2 k hk).1 with z | z
    · exact z
    · obtain ⟨j, g1, g2, -⟩ := (h2 k hk).2 z
      omega
  | succ d ih =>
    intro i I hi h1 h2
    refine r_X1_clear_b_2 _ F I J ?_
    obtain ⟨e1, e2⟩ := hq i (by omega)
    have e3 : I 12 i = nI (q i) := by rw [h1 12 (by decide)]; exact e1
    rw [hF, nLe (by omega) (by omega), zN (by omega), e3, zN (by omega), n1, nAdd]
    refine ⟨fun z => absurd z (by omega), fun _ => ⟨nIn (by omega) (by omega), nIn e2 (by omega), ?_⟩⟩
    refine ih (i + 1) _ (by omega) (fun j hj => by rw [ui_ne _ _ hj]; exact h1 j hj) (fun k hk => ?_)
    rw [ui_self]
    by_cases hkq : k = q i
    · rw [hkq, upd_self]
      exact ⟨Or.inl rfl, fun z => absurd z (by decide)⟩
    · rw [upd_ne _ hkq]
      refine ⟨(h2 k hk).1, fun z => ?_⟩
      obtain ⟨j, g1, g2, g3⟩ := (h2 k hk).2 z
      refine ⟨j, ?_, g2, g3⟩
      rcases Nat.lt_or_ge i j with z2 | z2
      · omega
      · have : j = i := by omega
        rw [this] at g3
        exact absurd g3.symm hkq
theorem c_clear_b {P : zM → Prop} {F : Nat → Int32} {I : Nat → Nat → Int32} {J : Nat → Nat → Int64} (h : fcl 7 12 15 F I) (hP : ∀ I2 : Nat → Nat → Int32, (∀ j, j ≠ 15 → I2 j = I j) → (∀ k, k < 100 → I2 15 k = 0) → P (upd F 7 0, I2, J)) : AMv m_X1_clear [.ref 17] (F, I, J) P := by
  obtain ⟨L, q, h1, h2, h3, h4⟩ := h
  refine r_X1_clear_b_0 F I J ?_
  refine c_clear_b_loop h1 h2 h3 hP L 0 I (by omega) (fun _ _ => rfl) (fun k hk => ⟨(h4 k hk).1, fun z => ?_⟩)
  obtain ⟨i, g1, g2⟩ := (h4 k hk).2 z
  exact ⟨i, by omega, g1, g2⟩
theorem c_reach_b {P : zM → Prop} {F : Nat → Int32} {I : Nat → Nat → Int32} {J : Nat → Nat → Int64} {k L : Nat} {x y : Int32} (hk : k < 100) (hL : L < 100) (hF : F 7 = nI L) (hP : P (upd F 7 (nI (L + 1)), z_ui (z_ui (z_ui (z_ui I 15 k 1) 14 k x) 13 k y) 12 L (nI k), J)) : AMv m_X1_reach [.ref 17, .int (nI k), .int x, .int y] (F, I, J) P := by
  refine r_X1_reach_b_0 _ _ _ F I J ?_
  have b1 : vp_in (nI k) 100 := nIn hk (by omega)
  rw [hF, zN (by omega), zN (by omega), n1, nAdd]
  exact ⟨b1, b1, b1, nIn hL (by omega), hP⟩
/-- one more knot is reached -/
theorem ffl_push_b {L : Nat} {q : Nat → Nat} {R : Nat → Prop} {B dp : Nat → Nat} {F : Nat → Int32} {I : Nat → Nat → Int32} (hW : gW g) (h : ffl g T rt 7 12 13 14 15 L q R B dp F I) {e p k : Nat} (he : e < gm g) (hT : T e) (hp : R p) (hj : jn (ga g) (gb g) e p k) (hk : k < gn g) (hR : ¬ R k) :
    L + 1 ≤ gn g ∧ ffl g T rt 7 12 13 14 15 (L + 1) (un q L k) (fun x => x = k ∨ R x) (un B k e) (un dp k (dp p + 1)) (upd F 7 (nI (L + 1))) (z_ui (z_ui (z_ui (z_ui I 15 k 1) 14 k (nI e)) 13 k (nI (dp p + 1))) 12 L (nI k)) := by
  obtain ⟨h1, h2, h3, h4, h5, h6, h7⟩ := h
  obtain ⟨hn, hb⟩ := bf_push h1 he hT hp hj hk hR
  have hrt : R rt := by rw [← h1.2.2.1]; exact (h1.2.2.2.1 0 h1.2.1).2.1
  have hne : ∀ x, R x → x ≠ k := fun x hx z => hR (z ▸ hx)
  have r1 : z_ui (z_ui (z_ui (z_ui I 15 k 1) 14 k (nI e)) 13 k (nI (dp p + 1))) 12 L (nI k) 12 = upd (I 12) L (nI k) := by
    rw [ui_self, ui_ne _ _ (by decide), ui_ne _ _ (by decide), ui_ne _ _ (by decide)]
  have r2 : z_ui (z_ui (z_ui (z_ui I 15 k 1) 14 k (nI e)) 13 k (nI (dp p + 1))) 12 L (nI k) 13 = upd (I 13) k (nI (dp p + 1)) := by
    rw [ui_ne _ _ (by decide), ui_self, ui_ne _ _ (by decide), ui_ne _ _ (by decide)]
  have r3 : z_ui (z_ui (z_ui (z_ui I 15 k 1) 14 k (nI e)) 13 k (nI (dp p + 1))) 12 L (nI k) 14 = upd (I 14) k (nI e) := by
    rw [ui_ne _ _ (by decide), ui_ne _ _ (by decide), ui_self, ui_ne _ _ (by decide)]
  have r4 : z_ui (z_ui (z_ui (z_ui I 15 k 1) 14 k (nI e)) 13 k (nI (dp p + 1))) 12 L (nI k) 15 = upd (I 15) k 1 := by
    rw [ui_ne _ _ (by decide), ui_ne _ _ (by decide), ui_ne _ _ (by decide), ui_self]
  refine ⟨hn, hb, upd_self _ _ _, fun i hi => ?_, fun x hx hxr => ?_, ?_, fun x hx => ?_, fun x hx => ?_⟩
  · (try dsimp only)
    rw [r1]
    by_cases hiL : i = L
    · rw [hiL, upd_self, un_self]
    · rw [upd_ne _ hiL, un_ne _ _ hiL]; exact h3 i (by omega)
  · (try dsimp only)
    rw [r3]
    by_cases hxk : x = k
    · rw [hxk, upd_self, un_self]
    · rw [upd_ne _ hxk, un_ne _ _ hxk]; exact h4 x (hx.resolve_left hxk) hxr
  · (try dsimp only)
    rw [r3, upd_ne _ (hne rt hrt)]; exact h5
  · (try dsimp only)
    rw [r2]
    by_cases hxk : x = k
    · rw [hxk, upd_self, un_self]
    · rw [upd_ne _ hxk, un_ne _ _ hxk]; exact h6 x (hx.resolve_left hxk)
  · (try dsimp only)
    rw [r4]
    by_cases hxk : x = k
    · rw [hxk, upd_self]
      exact ⟨fun _ => rfl, fun z => absurd (Or.inl rfl) z⟩
    · rw [upd_ne _ hxk]
      exact ⟨fun z => (h7 x hx).1 (z.resolve_left hxk), fun z => (h7 x hx).2 (fun z2 => z (Or.inr z2))⟩
theorem c_spreadFrom_b_loop {P : zM → Prop} {F0 : Nat → Int32} {I0 : Nat → Nat → Int32} {J : Nat → Nat → Int64} (hW : gW g) (hE : gE g I0) (hC : gC g I0) {x3 x4 : Int32} (hT : ∀ e, e < gm g → (T e ↔ gs g e = 1 ∧ ¬ nI e = x3 ∧ ¬ nI (gv g e) < x4)) {k : Nat} (hk : k < gn g) {L0 : Nat} {q0 : Nat → Nat} {R0 : Nat → Prop}
    (hP : ∀ F I L q R B dp, ffl g T rt 7 12 13 14 15 L q R B dp F I → frF 7 F0 F → frI 12 13 14 15 I0 I → L0 ≤ L → (∀ i, i < L0 → q i = q0 i) → (∀ x, R0 x → R x) → (∀ e y, e < gm g → T e → jn (ga g) (gb g) e k y → R y) → P (F, I, J)) :
    ∀ d i (x5 : Int32) F I L q R B dp, ffl g T rt 7 12 13 14 15 L q R B dp F I → frF 7 F0 F → frI 12 13 14 15 I0 I → L0 ≤ L → (∀ j, j < L0 → q j = q0 j) → (∀ x, R0 x → R x) → R k → i ≤ 300 →
      ((x5 = -1 ∧ ∀ l, l < 2 * gm g → ep g l = k → T (l / 2) → R (ot (ga g) (gb g) (l / 2) k)) ∨ ∃ l, l < d ∧ x5 = nI l ∧ l < 2 * gm g ∧ ep g l = k ∧ l / 2 + i < 300 ∧ ∀ l2, l < l2 → l2 < 2 * gm g → ep g l2 = k → T (l2 / 2) → R (ot (ga g) (gb g) (l2 / 2) k)) →
      AW m_X1_spreadFrom (z_pv P) 11 [some (.ref 17), some (.ref 3), some (.int (nI k)), some (.int x3), some (.int x4), some (.int x5), some (.int (nI i)), none, none] [] (F, I, J) := by
  obtain ⟨w1, w2, w3⟩ := id hW
  intro d
  induction d with
  | zero =>
    intro i x5 F I L q R B dp hf hF hI hL hq hR hRk hi hx
    rcases hx with ⟨hx, hall⟩ | ⟨l, hl, -⟩
    · refine r_X1_spreadFrom_b_11 _ _ _ _ _ F I J ⟨fun _ => ?_, fun z => absurd hx z⟩
      refine hP F I L q R B dp hf hF hI hL hq hR (fun e y he hTe hj => ?_)
      obtain ⟨l, l1, l2, l3⟩ := ep_of he hj
      have := hall l l1 l2 (by rw [l3]; exact hTe)
      rw [l3, jn_ot hj] at this
      exact this
    · omega
  | succ d ih =>
    intro i x5 F I L q R B dp hf hF hI hL hq hR hRk hi hx
    rcases hx with ⟨hx, hall⟩ | ⟨l, hld, hx, hlm, hep, hli, hall⟩
    · refine r_X1_spreadFrom_b_11 _ _ _ _ _ F I J ⟨fun _ => ?_, fun z => absurd hx z⟩
      refine hP F I L q R B dp hf hF hI hL hq hR (fun e y he hTe hj => ?_)
      obtain ⟨l, l1, l2, l3⟩ := ep_of he hj
      have := hall l l1 l2 (by rw [l3]; exact hTe)
      rw [l3, jn_ot hj] at this
      exact this
    · subst hx
      have hem : l / 2 < gm g := by omega
      have hjl : jn (ga g) (gb g) (l / 2) k (ot (ga g) (gb g) (l / 2) k) := ot_jn (ep_end hep)
      have hot : ot (ga g) (gb g) (l / 2) k < gn g := ot_lt hW hem
      -- to the next link
      have next : ∀ F I L q R B dp, ffl g T rt 7 12 13 14 15 L q R B dp F I → frF 7 F0 F → frI 12 13 14 15 I0 I → L0 ≤ L → (∀ j, j < L0 → q j = q0 j) → (∀ x, R0 x → R x) → R k →
          (∀ l2, l < l2 → l2 < 2 * gm g → ep g l2 = k → T (l2 / 2) → R (ot (ga g) (gb g) (l2 / 2) k)) → (T (l / 2) → R (ot (ga g) (gb g) (l / 2) k)) →
          vp_in (nI l) 600 ∧ AW m_X1_spreadFrom (z_pv P) 11 [some (.ref 17), some (.ref 3), some (.int (nI k)), some (.int x3), some (.int x4), some (.int (I 6 (zn (nI l)))), some (.int (nI i + 1)), none, none] [] (F, I, J) := by
        intro F I L q R B dp hf hF hI hL hq hR hRk hall hnow
        refine ⟨nIn (by omega) (by omega), ?_⟩
        rw [zN (by omega), hI 6 (by decide) (by decide) (by decide) (by decide), n1, nAdd]
        refine ih (i + 1) _ F I L q R B dp hf hF hI hL hq hR hRk (by omega) ?_
        have hn := hC.2 l hlm
        rw [hep] at hn
        have hall2 : ∀ l2, l ≤ l2 → l2 < 2 * gm g → ep g l2 = k → T (l2 / 2) → R (ot (ga g) (gb g) (l2 / 2) k) := fun l2 h1 h2 h3 h4 => by
          rcases Nat.lt_or_ge l l2 with z | z
          · exact hall l2 z h2 h3 h4
          · have : l2 = l := by omega
            subst this
            exact hnow h4
        rcases hn with ⟨e1, e2⟩ | ⟨l3, e1, e2, e3, e4⟩
        · refine Or.inl ⟨e1, fun l2 h1 h2 h3 => ?_⟩
          rcases Nat.lt_or_ge l2 l with z | z
          · exact absurd h2 (e2 l2 z)
          · exact hall2 l2 z h1 h2 h3
        · refine Or.inr ⟨l3, by omega, e2, by omega, e3, ?_, fun l2 h1 h2 h3 h4 => ?_⟩
          · have := ep_half hW (l := l) (l2 := l3) hem (by rw [hep, e3]) (by omega)
            omega
          · rcases Nat.lt_or_ge l2 l with z | z
            · exact absurd h3 (e4 l2 h1 z)
            · exact hall2 l2 z h2 h3 h4
      have hE2 : gE g I := fun e he => by
        have := hE e he
        rw [hI 1 (by decide) (by decide) (by decide) (by decide), hI 2 (by decide) (by decide) (by decide) (by decide), hI 3 (by decide) (by decide) (by decide) (by decide), hI 4 (by decide) (by decide) (by decide) (by decide)]
        exact this
      refine r_X1_spreadFrom_b_11 _ _ _ _ _ F I J ?_
      rw [nNe (by omega), n300, nLe (by omega) (by omega), show nI l / 2 = nI (l / 2) from by rw [n2]; exact nDiv (by omega) (by omega) (by omega)]
      refine ⟨fun z => z.elim, fun _ => ⟨fun z => absurd z (by omega), fun _ => ?_⟩⟩
      refine c_across hW hE2 hem (by omega) ?_
      have hsv := w3 (l / 2) hem
      (try dsimp only)
      rw [zN (show l / 2 < 2147483648 by omega), (hE2 _ hem).2.2.1, (hE2 _ hem).2.2.2, n1, nEq (by omega) (by omega)]
      refine ⟨nIn (by omega) (by omega), fun z => ?_, fun z => ⟨fun z2 => ?_, fun z2 => ⟨nIn (by omega) (by omega), fun z3 => ?_, fun z3 => ⟨nIn (by omega) (by omega), fun z4 => ?_, fun z4 => ⟨nIn (by omega) (by omega), ?_⟩⟩⟩⟩⟩
      · exact next F I L q R B dp hf hF hI hL hq hR hRk hall (fun t => absurd ((hT _ hem).mp t).1 z)
      · exact next F I L q R B dp hf hF hI hL hq hR hRk hall (fun t => absurd z2 ((hT _ hem).mp t).2.1)
      · exact next F I L q R B dp hf hF hI hL hq hR hRk hall (fun t => absurd z3 ((hT _ hem).mp t).2.2)
      · refine next F I L q R B dp hf hF hI hL hq hR hRk hall (fun t => Classical.byContradiction fun z5 => ?_)
        rw [zN (by omega)] at z4
        exact z4 ((hf.2.2.2.2.2.2 _ (by omega)).2 z5)
      · have hTe : T (l / 2) := (hT _ hem).mpr ⟨z, z2, z3⟩
        have hnR : ¬ R (ot (ga g) (gb g) (l / 2) k) := fun z5 => by
          rw [zN (by omega), (hf.2.2.2.2.2.2 _ (by omega)).1 z5] at z4
          exact absurd z4 (by decide)
        obtain ⟨hn1, hpush⟩ := ffl_push_b hW hf hem hTe hRk hjl hot hnR
        have hdk := bf_dp_lt hf.1 hRk
        rw [show zn (nI k) = k from zN (by omega), hf.2.2.2.2.2.1 k hRk, nAdd]
        refine c_reach_b (by omega) (by omega) hf.2.1 ?_
        refine next _ _ _ _ _ _ _ hpush (fun j hj => by rw [upd_ne _ hj]; exact hF j hj) (fun j h1 h2 h3 h4 => by (try dsimp only); rw [ui_ne _ _ h1, ui_ne _ _ h2, ui_ne _ _ h3, ui_ne _ _ h4]; exact hI j h1 h2 h3 h4) (by omega) (fun j hj => by rw [un_ne _ _ (by omega)]; exact hq j hj) (fun x hx => Or.inr (hR x hx)) (Or.inr hRk) (fun l2 h1 h2 h3 h4 => Or.inr (hall l2 h1 h2 h3 h4)) (fun _ => Or.inl rfl)
theorem c_spread_b_loop {P : zM → Prop} {F0 : Nat → Int32} {I0 : Nat → Nat → Int32} {J : Nat → Nat → Int64} (hW : gW g) (hE : gE g I0) (hC : gC g I0) {x3 x4 : Int32} (hT : ∀ e, e < gm g → (T e ↔ gs g e = 1 ∧ ¬ nI e = x3 ∧ ¬ nI (gv g e) < x4))
    (hP : ∀ F I L q R B dp, ffl g T rt 7 12 13 14 15 L q R B dp F I → frF 7 F0 F → frI 12 13 14 15 I0 I → (∀ k, R k ↔ cn (gm g) (ga g) (gb g) T rt k) → P (F, I, J)) :
    ∀ d i F I L q R B dp, gn g ≤ i + d → i ≤ L → ffl g T rt 7 12 13 14 15 L q R B dp F I → frF 7 F0 F → frI 12 13 14 15 I0 I → (∀ j, j < i → ∀ e y, e < gm g → T e → jn (ga g) (gb g) e (q j) y → R y) →
      AW m_X1_spread (z_pv P) 14 [some (.ref 17), some (.ref 3), none, some (.int x3), some (.int x4), some (.int (nI i))] [] (F, I, J) := by
  obtain ⟨w1, w2, w3⟩ := id hW
  have fin : ∀ i F I L q R B dp, L ≤ i → ffl g T rt 7 12 13 14 15 L q R B dp F I → frF 7 F0 F → frI 12 13 14 15 I0 I → (∀ j, j < i → ∀ e y, e < gm g → T e → jn (ga g) (gb g) e (q j) y → R y) → P (F, I, J) := by
    intro i F I L q R B dp hL hf hF hI hc
    refine hP F I L q R B dp hf hF hI (bf_iff hf.1 (fun x y e he hTe hj hx => ?_))
    obtain ⟨j, hj1, hj2⟩ := hf.1.2.2.2.2.2.1 x hx
    exact hc j (by omega) e y he hTe (by rw [hj2]; exact hj)
  intro d
  induction d with
  | zero =>
    intro i F I L q R B dp hd hi hf hF hI hc
    have hLn := hf.1.1
    refine r_X1_spread_b_14 _ _ _ F I J ⟨fun _ => fin i F I L q R B dp (by omega) hf hF hI hc, fun z => ?_⟩
    rw [hf.2.1, nLe (by omega) (by omega)] at z
    omega
  | succ d ih =>
    intro i F I L q R B dp hd hi hf hF hI hc
    have hLn := hf.1.1
    refine r_X1_spread_b_14 _ _ _ F I J ?_
    rw [hf.2.1, nLe (by omega) (by omega), n100, nLe (by omega) (by omega)]
    refine ⟨fun z => fin i F I L q R B dp z hf hF hI hc, fun z => ⟨fun z2 => by omega, fun _ => ⟨nIn (by omega) (by omega), ?_⟩⟩⟩
    (try dsimp only)
    have hqi := hf.1.2.2.2.1 i (by omega)
    have hE2 : gE g I := fun e he => by
      have := hE e he
      rw [hI 1 (by decide) (by decide) (by decide) (by decide), hI 2 (by decide) (by decide) (by decide) (by decide), hI 3 (by decide) (by decide) (by decide) (by decide), hI 4 (by decide) (by decide) (by decide) (by decide)]
      exact this
    have hC2 : gC g I := by
      unfold gC
      rw [hI 5 (by decide) (by decide) (by decide) (by decide), hI 6 (by decide) (by decide) (by decide) (by decide)]
      exact hC
    rw [zN (by omega), hf.2.2.1 i (by omega)]
    refine r_X1_spreadFrom_b_0 _ _ _ F I J ⟨nIn (by omega) (by omega), ?_⟩
    rw [zN (by omega)]
    refine c_spreadFrom_b_loop (L0 := L) (q0 := q) (R0 := R) hW hE2 hC2 hT hqi.1 ?_ 600 0 _ F I L q R B dp hf (fun _ _ => rfl) (fun _ _ _ _ _ => rfl) (Nat.le_refl _) (fun _ _ => rfl) (fun _ h => h) hqi.2.1 (by omega) ?_
    · intro F2 I2 L2 q2 R2 B2 dp2 hf2 hF2 hI2 hL2 hq2 hR2 hk2
      rw [n1, nAdd]
      refine ih (i + 1) F2 I2 L2 q2 R2 B2 dp2 (by omega) (by omega) hf2 (fun j hj => by rw [hF2 j hj]; exact hF j hj) (fun j h1 h2 h3 h4 => by rw [hI2 j h1 h2 h3 h4]; exact hI j h1 h2 h3 h4) (fun j hj e y he hTe hjn => ?_)
      rw [hq2 j (by omega)] at hjn
      rcases Nat.lt_or_ge j i with z3 | z3
      · exact hR2 y (hc j z3 e y he hTe hjn)
      · have : j = i := by omega
        subst this
        exact hk2 e y he hTe hjn
    · rcases hC2.1 (q i) (by omega) with ⟨e1, e2⟩ | ⟨l, e1, e2, e3, e4⟩
      · exact Or.inl ⟨e1, fun l h1 h2 => absurd h2 (e2 l h1)⟩
      · exact Or.inr ⟨l, by omega, e2, e1, e3, by omega, fun l2 h1 h2 h3 => absurd h3 (e4 l2 h1 h2)⟩
/-- Flood.spread: who hangs together with the start by the edges that count -/
theorem c_spread_b {P : zM → Prop} {F : Nat → Int32} {I : Nat → Nat → Int32} {J : Nat → Nat → Int64} (hW : gW g) (hE : gE g I) (hC : gC g I) (hfc : fcl 7 12 15 F I) {x3 x4 : Int32} (hT : ∀ e, e < gm g → (T e ↔ gs g e = 1 ∧ ¬ nI e = x3 ∧ ¬ nI (gv g e) < x4)) (hrt : rt < gn g)
    (hP : ∀ F2 I2 L q R B dp, ffl g T rt 7 12 13 14 15 L q R B dp F2 I2 → frF 7 F F2 → frI 12 13 14 15 I I2 → (∀ k, R k ↔ cn (gm g) (ga g) (gb g) T rt k) → P (F2, I2, J)) :
    AMv m_X1_spread [.ref 17, .ref 3, .int (nI rt), .int x3, .int x4] (F, I, J) P := by
  obtain ⟨w1, w2, w3⟩ := id hW
  refine r_X1_spread_b_0 _ _ _ F I J ?_
  refine c_clear_b hfc (fun I1 h1 h2 => ?_)
  refine c_reach_b (L := 0) (by omega) (by omega) (upd_self _ _ _) ?_
  refine c_spread_b_loop (F0 := F) (I0 := I) hW hE hC hT hP 100 0 _ _ 1 (fun _ => rt) (fun k => k = rt) (fun _ => 0) (fun _ => 0) (by omega) (by omega) ?_ (fun j hj => by rw [upd_ne _ hj, upd_ne _ hj]) (fun j g1 g2 g3 g4 => by rw [ui_ne _ _ g1, ui_ne _ _ g2, ui_ne _ _ g3, ui_ne _ _ g4]; exact h1 j g4) (fun j hj => by omega)
  refine ⟨bf_start hrt _ _ _ rfl rfl, upd_self _ _ _, fun i hi => ?_, fun k hk hne => absurd hk hne, ?_, fun k hk => ?_, fun k hk => ?_⟩
  · have : i = 0 := by omega
    subst this
    (try dsimp only)
    rw [ui_self, upd_self]
  · (try dsimp only)
    rw [ui_ne _ _ (by decide), ui_ne _ _ (by decide), ui_self, upd_self]
  · (try dsimp only)
    rw [hk, ui_ne _ _ (by decide), ui_self, upd_self]
    rfl
  · (try dsimp only)
    rw [ui_ne _ _ (by decide), ui_ne _ _ (by decide), ui_ne _ _ (by decide), ui_self]
    by_cases hkr : k = rt
    · rw [hkr, upd_self]
      exact ⟨fun _ => rfl, fun z => absurd rfl z⟩
    · rw [upd_ne _ hkr]
      exact ⟨fun z => absurd z hkr, fun _ => h2 k hk⟩
end
