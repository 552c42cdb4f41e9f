/-! WAYS of the class -/
def Tr (g : zG) (e : Nat) : Prop := gs g e = 1
/-- the class's memory: graph, chains, floods that can be cleared -/
def cQ (g : zG) (F : Nat → Int32) (I : Nat → Nat → Int32) : Prop := gW g ∧ F 0 = nI (gn g) ∧ F 4 = nI (gm g) ∧ gE g I ∧ gC g I ∧ fcl 6 8 11 F I ∧ fcl 7 12 15 F I
/-- only what the class uses for working has changed -/
def frC (F : Nat → Int32) (I : Nat → Nat → Int32) (F2 : Nat → Int32) (I2 : Nat → Nat → Int32) : Prop := (∀ j, (j < 6 ∨ 12 < j) → F2 j = F j) ∧ ∀ j, (j < 8 ∨ 22 < j) → I2 j = I j
theorem frC_refl {F : Nat → Int32} {I : Nat → Nat → Int32} : frC F I F I := ⟨fun _ _ => rfl, fun _ _ => rfl⟩
theorem frC_trans {F F2 F3 : Nat → Int32} {I I2 I3 : Nat → Nat → Int32} (h : frC F I F2 I2) (h2 : frC F2 I2 F3 I3) : frC F I F3 I3 := ⟨fun j hj => by rw [h2.1 j hj, h.1 j hj], fun j hj => by rw [h2.2 j hj, h.2 j hj]⟩
theorem cQ_fr {g : zG} {F F2 : Nat → Int32} {I I2 : Nat → Nat → Int32} (h : cQ g F I) (hf : frC F I F2 I2) (h1 : fcl 6 8 11 F2 I2) (h2 : fcl 7 12 15 F2 I2) : cQ g F2 I2 := by
  obtain ⟨q1, q2, q3, q4, q5, -, -⟩ := h
  refine ⟨q1, by rw [hf.1 0 (by omega)]; exact q2, by rw [hf.1 4 (by omega)]; exact q3, fun e he => ?_, ?_, h1, h2⟩
  · rw [hf.2 1 (by omega), hf.2 2 (by omega), hf.2 3 (by omega), hf.2 4 (by omega)]; exact q4 e he
  · unfold gC
    rw [hf.2 5 (by omega), hf.2 6 (by omega)]; exact q5
theorem fcl_eq {f l r : Nat} {F F2 : Nat → Int32} {I I2 : Nat → Nat → Int32} (h : fcl f l r F I) (h1 : F2 f = F f) (h2 : I2 l = I l) (h3 : I2 r = I r) : fcl f l r F2 I2 := by
  unfold fcl at h ⊢
  rw [h1, h2, h3]
  exact h
theorem ffl_eq {g : zG} {T : Nat → Prop} {rt f l d y r L : Nat} {q : Nat → Nat} {R : Nat → Prop} {B dp : Nat → Nat} {F F2 : Nat → Int32} {I I2 : Nat → Nat → Int32} (h : ffl g T rt f l d y r L q R B dp F I) (h1 : F2 f = F f) (h2 : I2 l = I l) (h3 : I2 d = I d) (h4 : I2 y = I y) (h5 : I2 r = I r) : ffl g T rt f l d y r L q R B dp F2 I2 := by
  unfold ffl at h ⊢
  rw [h1, h2, h3, h4, h5]
  exact h
section
variable {g : zG} {F : Nat → Int32} {I : Nat → Nat → Int32} {J : Nat → Nat → Int64}
theorem c_isKnot {P : Int32 → zM → Prop} {x : Int32} {n : Nat} (hn : n ≤ 100) (hF : F 0 = nI n) (h1 : ∀ a, a < n → x = nI a → P 1 (F, I, J)) (h0 : (∀ a, a < n → x ≠ nI a) → P 0 (F, I, J)) : AMi m_X6_isKnot [.ref 0, .int x] (F, I, J) P := by
  refine r_X6_isKnot_0 _ F I J ?_
  rw [hF]
  refine ⟨fun q => h0 fun e he z => ?_, fun q => ⟨fun q2 => h0 fun e he z => ?_, fun q2 => ?_⟩⟩
  · rw [z, nNeg (by omega)] at q; exact q
  · rw [z, nLe (by omega) (by omega)] at q2; omega
  · rcases pk_ix x (n := n) (by omega) with z | z | ⟨j, hj, z⟩
    · exact absurd z q
    · exact absurd z q2
    · exact h1 j hj z
theorem m_isKnot {P : Int32 → zM → Prop} {x : Int32} {n : Nat} (hn : n ≤ 100) (hF : F 0 = nI n) (h1 : ∀ a, a < n → x = nI a → P 1 (F, I, J)) (h0 : (∀ a, a < n → x ≠ nI a) → P 0 (F, I, J)) : AMi m_X7_isKnot [.ref 0, .int x] (F, I, J) P := by
  refine r_X7_isKnot_0 _ F I J ?_
  rw [hF]
  refine ⟨fun q => h0 fun e he z => ?_, fun q => ⟨fun q2 => h0 fun e he z => ?_, fun q2 => ?_⟩⟩
  · rw [z, nNeg (by omega)] at q; exact q
  · rw [z, nLe (by omega) (by omega)] at q2; omega
  · rcases pk_ix x (n := n) (by omega) with z | z | ⟨j, hj, z⟩
    · exact absurd z q
    · exact absurd z q2
    · exact h1 j hj z
theorem c_before {P : Int32 → zM → Prop} {T : Nat → Prop} {rt L : Nat} {q : Nat → Nat} {R : Nat → Prop} {B dp : Nat → Nat} (hW : gW g) (hE : gE g I) (hf : ffl g T rt 6 8 9 10 11 L q R B dp F I) {k : Nat} (hk : R k) (h0 : k = rt → P (-1) (F, I, J)) (h1 : k ≠ rt → P (nI (ot (ga g) (gb g) (B k) k)) (F, I, J)) : AMi m_X1_before [.ref 12, .ref 3, .int (nI k)] (F, I, J) P := by
  have hkn := bf_R hf.1 hk
  have hn := hW.1
  have b1 : vp_in (nI k) 100 := nIn (by omega) (by omega)
  refine r_X1_before_a_0 _ F I J ?_
  rw [zN (by omega)]
  by_cases hkr : k = rt
  · have e : I 10 k = -1 := by rw [hkr]; exact hf.2.2.2.2.1
    rw [e]
    exact ⟨b1, fun z => absurd rfl z, fun _ => h0 hkr⟩
  · have e := hf.2.2.2.1 k hk hkr
    have hB := (hf.1.2.2.2.2.2.2.2 k hk hkr).1
    have hm := hW.2.1
    rw [e, nNe (by omega)]
    exact ⟨b1, fun _ => ⟨b1, c_across hW hE hB (by omega) (h1 hkr)⟩, fun z => z.elim⟩
theorem c_lay_loop {P : zM → Prop} {T : Nat → Prop} {rt L : Nat} {q : Nat → Nat} {R : Nat → Prop} {B dp : Nat → Nat} (hW : gW g) (hE : gE g I) {F0 : Nat → Int32} (hf : ffl g T rt 6 8 9 10 11 L q R B dp F0 I) {k : Nat} (hk : R k) (hF8 : F0 8 = nI (dp k))
    (hP : ∀ I2 : Nat → Nat → Int32, (∀ j, j ≠ 16 → j ≠ 17 → I2 j = I j) → (∀ i, i ≤ dp k → I2 16 i = nI (bk (ga g) (gb g) B k i)) → (∀ i, i < dp k → I2 17 i = nI (B (bk (ga g) (gb g) B k i))) → P (F0, I2, J)) :
    ∀ d i (I2 : Nat → Nat → Int32), i + d = dp k → (∀ j, j ≠ 16 → j ≠ 17 → I2 j = I j) → (∀ j, j < i → I2 16 j = nI (bk (ga g) (gb g) B k j)) → (∀ j, j < i → I2 17 j = nI (B (bk (ga g) (gb g) B k j))) →
      AW m_X5_lay (z_pv P) 31 [some (.ref 22), some (.ref 3), some (.ref 12), none, some (.int (nI (bk (ga g) (gb g) B k i))), some (.int (nI i))] [] (F0, I2, J) := by
  have hdk := bf_dp_lt hf.1 hk
  have hn := hW.1
  have hm := hW.2.1
  intro d
  induction d with
  | zero =>
    intro i I2 hd h1 h2 h3
    refine r_X5_lay_31 _ _ F0 I2 J ?_
    rw [hF8, nLe (by omega) (by omega)]
    refine ⟨fun _ => ⟨nIn (by omega) (by omega), ?_⟩, fun z => absurd (show dp k ≤ i by omega) z⟩
    rw [zN (by omega)]
    refine hP _ (fun j g1 g2 => by rw [ui_ne _ _ g1]; exact h1 j g1 g2) (fun j hj => ?_) (fun j hj => by rw [ui_ne _ _ (by decide)]; exact h3 j (by omega))
    rw [ui_self]
    by_cases e : j = dp k
    · rw [e, upd_self, show i = dp k by omega]
    · rw [upd_ne _ e]; exact h2 j (by omega)
  | succ d ih =>
    intro i I2 hd h1 h2 h3
    obtain ⟨gR, gd⟩ := bf_back hf.1 hk i (by omega)
    have hkn := bf_R hf.1 gR
    have hne : bk (ga g) (gb g) B k i ≠ rt := fun e => by rw [e, hf.1.2.2.2.2.2.2.1] at gd; omega
    refine r_X5_lay_31 _ _ F0 I2 J ?_
    rw [hF8, nLe (by omega) (by omega), zN (show i < 2147483648 by omega), zN (show bk (ga g) (gb g) B k i < 2147483648 by omega), h1 10 (by decide) (by decide), hf.2.2.2.1 _ gR hne]
    have b1 : vp_in (nI i) 100 := nIn (by omega) (by omega)
    refine ⟨fun z => absurd z (by omega), fun _ => ⟨b1, nIn (by omega) (by omega), b1, ?_⟩⟩
    have hI3 : ∀ j, j ≠ 16 → j ≠ 17 → z_ui (z_ui I2 16 i (nI (bk (ga g) (gb g) B k i))) 17 i (nI (B (bk (ga g) (gb g) B k i))) j = I j := fun j g1 g2 => by rw [ui_ne _ _ g2, ui_ne _ _ g1]; exact h1 j g1 g2
    refine c_before (T := T) (L := L) (q := q) (R := R) (dp := dp) hW (fun e he => ?_) (ffl_eq hf rfl (hI3 8 (by decide) (by decide)) (hI3 9 (by decide) (by decide)) (hI3 10 (by decide) (by decide)) (hI3 11 (by decide) (by decide))) gR (fun z => absurd z hne) (fun _ => ?_)
    · rw [hI3 1 (by decide) (by decide), hI3 2 (by decide) (by decide), hI3 3 (by decide) (by decide), hI3 4 (by decide) (by decide)]
      exact hE e he
    · rw [n1, nAdd]
      refine ih (i + 1) _ (by omega) hI3 (fun j hj => ?_) (fun j hj => ?_)
      · rw [ui_ne _ _ (by decide), ui_self]
        by_cases e : j = i
        · rw [e, upd_self]
        · rw [upd_ne _ e]; exact h2 j (by omega)
      · rw [ui_self, ui_ne _ _ (by decide)]
        by_cases e : j = i
        · rw [e, upd_self]
        · rw [upd_ne _ e]; exact h3 j (by omega)
theorem c_lay {P : zM → Prop} {T : Nat → Prop} {rt L : Nat} {q : Nat → Nat} {R : Nat → Prop} {B dp : Nat → Nat} (hW : gW g) (hE : gE g I) (hf : ffl g T rt 6 8 9 10 11 L q R B dp F I) {k : Nat} (hkn : k < gn g) (h0 : ¬ R k → P (upd F 8 (-1), I, J))
    (hP : ∀ I2 : Nat → Nat → Int32, R k → (∀ j, j ≠ 16 → j ≠ 17 → I2 j = I j) → (∀ i, i ≤ dp k → I2 16 i = nI (bk (ga g) (gb g) B k i)) → (∀ i, i < dp k → I2 17 i = nI (B (bk (ga g) (gb g) B k i))) → P (upd F 8 (nI (dp k)), I2, J)) : AMv m_X5_lay [.ref 22, .ref 3, .ref 12, .int (nI k)] (F, I, J) P := by
  have hn := hW.1
  have b1 : vp_in (nI k) 100 := nIn (by omega) (by omega)
  refine r_X5_lay_0 _ F I J ?_
  rw [zN (by omega)]
  by_cases hk : R k
  · rw [(hf.2.2.2.2.2.2 k (by omega)).1 hk, hf.2.2.2.2.2.1 k hk]
    refine ⟨b1, fun _ => ⟨b1, ?_⟩, fun z => absurd z (by decide)⟩
    exact c_lay_loop hW hE (ffl_eq hf (upd_ne _ (by decide)) rfl rfl rfl rfl) hk (upd_self _ _ _) (fun I2 => hP I2 hk) (dp k) 0 I (by omega) (fun _ _ _ => rfl) (fun j hj => by omega) (fun j hj => by omega)
  · rw [(hf.2.2.2.2.2.2 k (by omega)).2 hk]
    exact ⟨b1, fun z => absurd rfl z, fun _ => h0 hk⟩
theorem Tr_iff (e : Nat) (hW : gW g) (he : e < gm g) : Tr g e ↔ gs g e = 1 ∧ ¬ nI e = -1 ∧ ¬ nI (gv g e) < 0 := by
  have h1 := hW.2.1
  have h2 := hW.2.2 e he
  rw [nNe (by omega), nNeg (by omega)]
  exact ⟨fun h => ⟨h, id, id⟩, fun h => h.1⟩
theorem c_floodPart {P : zM → Prop} (h : cQ g F I) {k : Nat} (hk : k < gn g)
    (hP : ∀ F2 I2 L q R B dp, ffl g (Tr g) k 6 8 9 10 11 L q R B dp F2 I2 → cQ g F2 I2 → frC F I F2 I2 → (∀ x, R x ↔ cn (gm g) (ga g) (gb g) (Tr g) k x) → (∀ j, j ≠ 6 → F2 j = F j) → P (F2, I2, J)) : AMv m_X6_floodPart [.ref 0, .int (nI k)] (F, I, J) P := by
  refine r_X6_floodPart_0 _ F I J ?_
  refine c_spread_a (T := Tr g) h.1 h.2.2.2.1 h.2.2.2.2.1 h.2.2.2.2.2.1 (fun e he => Tr_iff e h.1 he) hk (fun F2 I2 L q R B dp hf hF hI hR => ?_)
  have hfr : frC F I F2 I2 := ⟨fun j hj => hF j (by omega), fun j hj => hI j (by omega) (by omega) (by omega) (by omega)⟩
  exact hP F2 I2 L q R B dp hf (cQ_fr h hfr (ffl_fcl h.1.1 hf) (fcl_eq h.2.2.2.2.2.2 (hF 7 (by decide)) (hI 12 (by decide) (by decide) (by decide) (by decide)) (hI 15 (by decide) (by decide) (by decide) (by decide)))) hfr hR hF
/-- ForestKeeper.layTrack -/
theorem c_layTrack {P : Int32 → zM → Prop} {x1 x2 : Int32} (h : cQ g F I) (hbad : ((∀ u, u < gn g → x1 ≠ nI u) ∨ (∀ v, v < gn g → x2 ≠ nI v)) → P (-2) (F, I, J))
    (hno : ∀ u v F2 I2, u < gn g → v < gn g → x1 = nI u → x2 = nI v → ¬ cn (gm g) (ga g) (gb g) (Tr g) u v → F2 8 = -1 → cQ g F2 I2 → frC F I F2 I2 → P (-1) (F2, I2, J))
    (hyes : ∀ u v F2 I2 l K S, u < gn g → v < gn g → x1 = nI u → x2 = nI v → isW (gm g) (ga g) (gb g) (Tr g) u v l K S → l < gn g → F2 8 = nI l → (∀ i, i ≤ l → I2 16 i = nI (K i) ∧ K i < gn g) → (∀ i, i < l → I2 17 i = nI (S i)) → cQ g F2 I2 → frC F I F2 I2 → P (nI l) (F2, I2, J)) :
    AMi m_X6_layTrack [.ref 0, .int x1, .int x2] (F, I, J) P := by
  refine r_X6_layTrack_0 _ _ F I J ?_
  refine c_isKnot h.1.1 h.2.1 (fun u hu hx1 => ⟨fun z => absurd z (by decide), fun _ => ?_⟩) (fun z => ⟨fun _ => hbad (Or.inl z), fun z => absurd rfl z⟩)
  refine c_isKnot h.1.1 h.2.1 (fun v hv hx2 => ⟨fun _ => ?_, fun z => absurd z (by decide)⟩) (fun z => ⟨fun z => absurd rfl z, fun _ => hbad (Or.inr z)⟩)
  subst hx1; subst hx2
  refine c_floodPart h hv (fun F2 I2 L q R B dp hf hQ hfr hR hF6 => ?_)
  refine c_lay hQ.1 hQ.2.2.2.1 hf hu (fun hnR => ?_) (fun I3 hRu h1 h2 h3 => ?_)
  · have hfr2 : frC F I (upd F2 8 (-1)) I2 := frC_trans hfr ⟨fun j hj => upd_ne _ (by omega), fun _ _ => rfl⟩
    show P (upd F2 8 (-1) 8) _
    rw [upd_self]
    exact hno u v _ _ hu hv rfl rfl (fun z => hnR ((hR u).mpr (cn_symm z))) (upd_self _ _ _) (cQ_fr h hfr2 (fcl_eq hQ.2.2.2.2.2.1 (upd_ne _ (by decide)) rfl rfl) (fcl_eq hQ.2.2.2.2.2.2 (upd_ne _ (by decide)) rfl rfl)) hfr2
  · have hfr2 : frC F I (upd F2 8 (nI (dp u))) I3 := frC_trans hfr ⟨fun j hj => upd_ne _ (by omega), fun j hj => h1 j (by omega) (by omega)⟩
    show P (upd F2 8 (nI (dp u)) 8) _
    rw [upd_self]
    refine hyes u v _ _ (dp u) _ _ hu hv rfl rfl (bf_way hf.1 hRu) (bf_dp_lt hf.1 hRu) (upd_self _ _ _) (fun i hi => ⟨h2 i hi, bf_R hf.1 (bf_back hf.1 hRu i hi).1⟩) h3 (cQ_fr h hfr2 (fcl_eq hQ.2.2.2.2.2.1 (upd_ne _ (by decide)) (h1 8 (by decide) (by decide)) (h1 11 (by decide) (by decide))) (fcl_eq hQ.2.2.2.2.2.2 (upd_ne _ (by decide)) (h1 12 (by decide) (by decide)) (h1 15 (by decide) (by decide)))) hfr2
/-- the heaviest of S 0 .. S (l-1) -/
def hvs (w : Nat → Int64) (S : Nat → Nat) : Nat → Option Nat
  | 0 => none
  | i + 1 => match hvs w S i with
    | none => some (S i)
    | some t => if w t < w (S i) ∨ (w (S i) = w t ∧ t < S i) then some (S i) else some t
def oI : Option Nat → Int32
  | none => -1
  | some t => nI t
theorem hvs_mem (w : Nat → Int64) (S : Nat → Nat) : ∀ l t, hvs w S l = some t → ∃ i, i < l ∧ S i = t
  | 0, t, h => by simp [hvs] at h
  | l + 1, t, h => by
    unfold hvs at h
    cases hh : hvs w S l with
    | none =>
      rw [hh] at h
      simp at h
      exact ⟨l, by omega, h⟩
    | some t2 =>
      rw [hh] at h
      simp only at h
      split at h
      · simp at h
        exact ⟨l, by omega, h⟩
      · obtain ⟨i, h1, h2⟩ := hvs_mem w S l t2 hh
        simp at h
        exact ⟨i, by omega, by rw [h2, h]⟩
theorem hvs_some (w : Nat → Int64) (S : Nat → Nat) (l : Nat) : ∃ t, hvs w S (l + 1) = some t := by
  unfold hvs
  cases hvs w S l with
  | none => exact ⟨_, rfl⟩
  | some t => dsimp only; split <;> exact ⟨_, rfl⟩
theorem c_heaviestOf_loop {P : Int32 → zM → Prop} {l : Nat} {S : Nat → Nat} (hl : l ≤ 100) (hF : F 8 = nI l) (hS : ∀ i, i < l → I 17 i = nI (S i) ∧ S i < 300) (hP : P (oI (hvs (J 1) S l)) (F, I, J)) :
    ∀ d i, i + d = l → AW m_X5_heaviestOf (z_pi P) 4 [some (.ref 22), some (.ref 3), some (.int (oI (hvs (J 1) S i))), some (.int (nI i))] [] (F, I, J) := by
  intro d
  induction d with
  | zero =>
    intro i hd
    refine r_X5_heaviestOf_4 _ _ F I J ?_
    rw [hF, nLe (by omega) (by omega)]
    refine ⟨fun _ => by rw [show i = l by omega]; exact hP, fun z => absurd (show l ≤ i by omega) z⟩
  | succ d ih =>
    intro i hd
    obtain ⟨s1, s2⟩ := hS i (by omega)
    have ihn := ih (i + 1) (by omega)
    refine r_X5_heaviestOf_4 _ _ F I J ?_
    have b1 : vp_in (nI i) 100 := nIn (by omega) (by omega)
    rw [hF, nLe (by omega) (by omega), zN (by omega), s1, nI_1]
    refine ⟨fun z => absurd z (by omega), fun _ => ?_⟩
    cases hh : hvs (J 1) S i with
    | none =>
      have e : hvs (J 1) S (i + 1) = some (S i) := by unfold hvs; rw [hh]
      rw [e] at ihn
      exact ⟨fun _ => ⟨b1, ihn⟩, fun z => absurd rfl z⟩
    | some t =>
      obtain ⟨i2, hi2, ht⟩ := hvs_mem _ _ _ _ hh
      have ht3 : t < 300 := by rw [← ht]; exact (hS i2 (by omega)).2
      refine ⟨fun z => ?_, fun _ => ⟨b1, ?_⟩⟩
      · rw [show oI (some t) = nI t from rfl, nNe (by omega)] at z; exact z.elim
      · refine c_isHeavier s2 ht3 (fun z => ⟨fun z2 => absurd z2 (by decide), fun _ => ⟨b1, ?_⟩⟩) (fun z => ⟨fun _ => ?_, fun z2 => absurd rfl z2⟩)
        · have e : hvs (J 1) S (i + 1) = some (S i) := by unfold hvs; rw [hh]; exact if_pos z
          rw [e] at ihn
          dsimp only
          rw [s1]
          exact ihn
        · have e : hvs (J 1) S (i + 1) = some t := by unfold hvs; rw [hh]; exact if_neg z
          rw [e] at ihn
          exact ihn
theorem c_heaviestOf {P : Int32 → zM → Prop} {l : Nat} {S : Nat → Nat} (hl : l ≤ 100) (hF : F 8 = nI l) (hS : ∀ i, i < l → I 17 i = nI (S i) ∧ S i < 300) (hP : P (oI (hvs (J 1) S l)) (F, I, J)) : AMi m_X5_heaviestOf [.ref 22, .ref 3] (F, I, J) P :=
  r_X5_heaviestOf_0 F I J (c_heaviestOf_loop hl hF hS hP l 0 (by omega))
theorem c_heaviestOf_none {P : Int32 → zM → Prop} (hF : F 8 = -1) (hP : P (-1) (F, I, J)) : AMi m_X5_heaviestOf [.ref 22, .ref 3] (F, I, J) P := by
  refine r_X5_heaviestOf_0 F I J (r_X5_heaviestOf_4 _ _ F I J ?_)
  rw [hF]
  exact ⟨fun _ => hP, fun z => absurd (show (-1 : Int32) ≤ 0 by decide) z⟩
end
