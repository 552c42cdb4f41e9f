/-! WAYS of the reference -/
def mQ (g : zG) (F : Nat → Int32) (I : Nat → Nat → Int32) : Prop := gW g ∧ F 0 = nI (gn g) ∧ F 1 = nI (gm g) ∧ gE g I
def frM (F : Nat → Int32) (I : Nat → Nat → Int32) (F2 : Nat → Int32) (I2 : Nat → Nat → Int32) : Prop := (∀ j, j ≠ 6 → F2 j = F j) ∧ ∀ j, (j < 11 ∨ 16 < j) → I2 j = I j
theorem frM_refl {F : Nat → Int32} {I : Nat → Nat → Int32} : frM F I F I := ⟨fun _ _ => rfl, fun _ _ => rfl⟩
theorem frM_trans {F F2 F3 : Nat → Int32} {I I2 I3 : Nat → Nat → Int32} (h : frM F I F2 I2) (h2 : frM F2 I2 F3 I3) : frM F I F3 I3 := ⟨fun j hj => by rw [h2.1 j hj, h.1 j hj], fun j hj => by rw [h2.2 j hj, h.2 j hj]⟩
theorem mQ_fr {g : zG} {F F2 : Nat → Int32} {I I2 : Nat → Nat → Int32} (h : mQ g F I) (hf : frM F I F2 I2) : mQ g F2 I2 := by
  obtain ⟨q1, q2, q3, q4⟩ := h
  refine ⟨q1, by rw [hf.1 0 (by omega)]; exact q2, by rw [hf.1 1 (by omega)]; exact q3, fun e he => ?_⟩
  rw [hf.2 1 (by omega), hf.2 2 (by omega), hf.2 3 (by omega), hf.2 4 (by omega)]; exact q4 e he
section
variable {g : zG} {F : Nat → Int32} {I : Nat → Nat → Int32} {J : Nat → Nat → Int64}
theorem m_isHeavier {P : Int32 → zM → Prop} {e f : Nat} (he : e < 300) (hf : f < 300) (h1 : hv (J 1) e f → P 1 (F, I, J)) (h0 : ¬ hv (J 1) e f → P 0 (F, I, J)) : AMi m_X7_isHeavier [.ref 0, .int (nI e), .int (nI f)] (F, I, J) P := by
  refine r_X7_isHeavier_0 _ _ F I J ?_
  have b1 : vp_in (nI e) 300 := nIn (by omega) (by omega)
  have b2 : vp_in (nI f) 300 := nIn (by omega) (by omega)
  rw [zN (by omega), zN (by omega), lcmp_eq, lcmp_le, nLe (by omega) (by omega)]
  refine ⟨b1, b2, fun q => ⟨fun q2 => h0 ?_, fun q2 => h1 (Or.inr ⟨q, by omega⟩)⟩, fun q => ⟨b1, b2, fun q2 => h0 ?_, fun q2 => h1 (Or.inl (Classical.not_not.mp q2))⟩⟩
  · rintro (z | ⟨-, z⟩)
    · rw [q] at z; exact Int64.lt_irrefl z
    · omega
  · rintro (z | ⟨z, -⟩)
    · exact q2 z
    · exact q z
theorem mT_Tr (hW : gW g) (e : Nat) (he : e < gm g) : Tr g e ↔ mT g 0 0 (-1) (-1) e := by
  have h1 := hW.2.1
  have h2 := hW.2.2 e he
  have h3 := hW.1
  unfold mT Tr
  rw [nNe (by omega), nNe (by omega), nNe (by omega)]
  refine ⟨fun h => ⟨id, by omega, fun z => by omega, fun z => absurd (nI_pos' (by omega)) z, id, id⟩, fun h => ?_⟩
  have h4 : gs g e ≠ 2 := fun z => h.2.2.1 z rfl
  have h5 := h.2.1
  omega
theorem m_part {P : Int32 → zM → Prop} (h : mQ g F I) {k : Nat} (hk : k < gn g)
    (hP : ∀ I2 L q R B dp, mfl g (Tr g) k 11 L q R B dp I2 → mQ g F I2 → frM F I F I2 → (∀ x, R x ↔ cn (gm g) (ga g) (gb g) (Tr g) k x) → (∀ j, j ≠ 11 → j ≠ 13 → j ≠ 14 → I2 j = I j) → P (nI L) (F, I2, J)) : AMi m_X7_part [.ref 0, .int (nI k)] (F, I, J) P := by
  refine r_X7_part_0 _ F I J ?_
  have hn := h.1.1
  refine m_reach_a (T := Tr g) h.1 h.2.2.2 h.2.1 h.2.2.1 (fun e he => mT_Tr h.1 e he) hk (by rw [nNe (by omega)]; exact id) (fun I2 L q R B dp hf hI hR => ?_)
  have hfr : frM F I F I2 := ⟨fun _ _ => rfl, fun j hj => hI j (by omega) (by omega) (by omega)⟩
  exact hP I2 L q R B dp hf (mQ_fr h hfr) hfr hR hI
theorem narrow01 {x : Int32} (h : x = 0 ∨ x = 1) : narrow .boolean (.int x) = .int x := by
  rcases h with h | h <;> rw [h] <;> rfl
theorem m_isTogether {P : Int32 → zM → Prop} (h : mQ g F I) {u v : Nat} (hu : u < gn g) (hv : v < gn g)
    (h1 : ∀ I2, mQ g F I2 → frM F I F I2 → cn (gm g) (ga g) (gb g) (Tr g) u v → P 1 (F, I2, J)) (h0 : ∀ I2, mQ g F I2 → frM F I F I2 → ¬ cn (gm g) (ga g) (gb g) (Tr g) u v → P 0 (F, I2, J)) : AMi m_X7_isTogether [.ref 0, .int (nI u), .int (nI v)] (F, I, J) P := by
  refine r_X7_isTogether_0 _ _ F I J ?_
  have hn := h.1.1
  refine m_part h hu (fun I2 L q R B dp hf hQ hfr hR _ => ?_)
  dsimp only
  rw [zN (by omega)]
  by_cases hc : R v
  · rw [(hf.2.2.2.2 v hv).1 hc]
    exact ⟨nIn (by omega) (by omega), narrow01 (Or.inr rfl), h1 I2 hQ hfr ((hR v).mp hc)⟩
  · rw [(hf.2.2.2.2 v hv).2 hc]
    exact ⟨nIn (by omega) (by omega), narrow01 (Or.inl rfl), h0 I2 hQ hfr (fun z => hc ((hR v).mpr z))⟩
theorem m_finds_loop {P : Int32 → zM → Prop} {T : Nat → Prop} {v L : Nat} {q : Nat → Nat} {R : Nat → Prop} {B dp : Nat → Nat} (hW : gW g) (hE : gE g I) (hf : mfl g T v 11 L q R B dp I) {u : Nat} (hu : R u) (hv : v < gn g)
    (hP : ∀ F2 I2, (∀ j, j ≠ 6 → F2 j = F j) → F2 6 = nI (dp u + 1) → (∀ j, j ≠ 15 → j ≠ 16 → I2 j = I j) → (∀ i, i ≤ dp u → I2 15 i = nI (bk (ga g) (gb g) B u i)) → (∀ i, i < dp u → I2 16 (i + 1) = nI (B (bk (ga g) (gb g) B u i))) → P 1 (F2, I2, J)) :
    ∀ d i F2 I2, i + d = dp u → (∀ j, j ≠ 6 → F2 j = F j) → F2 6 = nI (i + 1) → (∀ j, j ≠ 15 → j ≠ 16 → I2 j = I j) → (∀ j, j ≤ i → I2 15 j = nI (bk (ga g) (gb g) B u j)) → (∀ j, j < i → I2 16 (j + 1) = nI (B (bk (ga g) (gb g) B u j))) →
      AW m_X7_finds (z_pi P) 41 [some (.ref 0), none, some (.int (nI v)), some (.int (nI (bk (ga g) (gb g) B u i))), none] [] (F2, I2, J) := by
  have hdk := bf_dp_lt hf.1 hu
  have hn := hW.1
  have hm := hW.2.1
  intro d
  induction d with
  | zero =>
    intro i F2 I2 hd h0 h1 h2 h3 h4
    refine r_X7_finds_41 _ _ F2 I2 J ?_
    have hi : i = dp u := by omega
    subst hi
    have e : bk (ga g) (gb g) B u (dp u) = v := (bf_way hf.1 hu).2.1
    rw [e]
    exact ⟨fun _ => hP F2 I2 h0 h1 h2 h3 h4, fun z => absurd rfl z⟩
  | succ d ih =>
    intro i F2 I2 hd h0 h1 h2 h3 h4
    obtain ⟨gR, gd⟩ := bf_back hf.1 hu i (by omega)
    have hkn := bf_R hf.1 gR
    have hne : bk (ga g) (gb g) B u i ≠ v := fun e => by rw [e, hf.1.2.2.2.2.2.2.1] at gd; omega
    have hB := (hf.1.2.2.2.2.2.2.2 _ gR hne).1
    have hBw := hW.2.2 _ hB
    refine r_X7_finds_41 _ _ F2 I2 J ?_
    have eB : I2 14 (bk (ga g) (gb g) B u i) = nI (B (bk (ga g) (gb g) B u i)) := by rw [h2 14 (by decide) (by decide)]; exact hf.2.2.1 _ gR hne
    have hE2 := hE _ hB
    rw [nEq (by omega) (by omega), zN (show bk (ga g) (gb g) B u i < 2147483648 by omega), eB, zN (show B (bk (ga g) (gb g) B u i) < 2147483648 by omega), h2 1 (by decide) (by decide), h2 2 (by decide) (by decide), hE2.1, hE2.2.1, nEq (by omega) (by omega), h1, zN (show i + 1 < 2147483648 by omega), nI_1]
    have b1 : vp_in (nI (B (bk (ga g) (gb g) B u i))) 300 := nIn (by omega) (by omega)
    have b2 : vp_in (nI (i + 1)) 100 := nIn (by omega) (by omega)
    have go : ∀ x, x = bk (ga g) (gb g) B u (i + 1) → AW m_X7_finds (z_pi P) 41 [some (.ref 0), none, some (.int (nI v)), some (.int (nI x)), none] [] (upd F2 6 (nI (i + 1 + 1)), z_ui (z_ui I2 16 (i + 1) (nI (B (bk (ga g) (gb g) B u i)))) 15 (i + 1) (nI x), J) := by
      intro x hx
      rw [hx]
      refine ih (i + 1) _ _ (by omega) (fun j hj => by rw [upd_ne _ hj]; exact h0 j hj) (upd_self _ _ _) (fun j g1 g2 => by rw [ui_ne _ _ g1, ui_ne _ _ g2]; exact h2 j g1 g2) (fun j hj => ?_) (fun j hj => ?_)
      · rw [ui_self, ui_ne _ _ (by decide)]
        by_cases e : j = i + 1
        · rw [e, upd_self]
        · rw [upd_ne _ e]; exact h3 j (by omega)
      · rw [ui_ne _ _ (by decide), ui_self]
        by_cases e : j = i
        · rw [e, upd_self]
        · rw [upd_ne _ (by omega)]; exact h4 j (by omega)
    have eo : bk (ga g) (gb g) B u (i + 1) = ot (ga g) (gb g) (B (bk (ga g) (gb g) B u i)) (bk (ga g) (gb g) B u i) := rfl
    unfold ot at eo
    refine ⟨fun z => absurd z hne, fun _ => ⟨nIn (by omega) (by omega), b1, fun z => ⟨b1, b2, b2, go _ ?_⟩, fun z => ⟨b1, b2, b2, go _ ?_⟩⟩⟩
    · rw [eo, if_neg z]
    · rw [eo, if_pos z]
/-- the reference's finds -/
theorem m_finds {P : Int32 → zM → Prop} (h : mQ g F I) {u v : Nat} (hu : u < gn g) (hv : v < gn g)
    (hno : ∀ I2, mQ g F I2 → frM F I F I2 → ¬ cn (gm g) (ga g) (gb g) (Tr g) u v → I2 12 = I 12 → P 0 (F, I2, J))
    (hyes : ∀ F2 I2 l K S, mQ g F2 I2 → frM F I F2 I2 → isW (gm g) (ga g) (gb g) (Tr g) u v l K S → l < gn g → F2 6 = nI (l + 1) → (∀ i, i ≤ l → I2 15 i = nI (K i) ∧ K i < gn g) → (∀ i, i < l → I2 16 (i + 1) = nI (S i)) → I2 12 = I 12 → P 1 (F2, I2, J)) :
    AMi m_X7_finds [.ref 0, .int (nI u), .int (nI v)] (F, I, J) P := by
  refine r_X7_finds_0 _ _ F I J ?_
  have hn := h.1.1
  refine m_part h hv (fun I2 L q R B dp hf hQ hfr hR hrest => ?_)
  dsimp only
  rw [zN (by omega)]
  refine ⟨nIn (by omega) (by omega), fun z => ⟨by rw [n0]; exact nIn (by omega) (by omega), ?_⟩, fun z => ?_⟩
  · have hRu : R u := Classical.byContradiction fun z2 => z ((hf.2.2.2.2 u hu).2 z2)
    have e : zn 0 = 0 := by rw [n0]; exact zN (by omega)
    rw [e, show ((0 : Int32) + 1) = nI (0 + 1) from rfl]
    have hI3 : ∀ j, j ≠ 15 → z_ui I2 15 0 (nI u) j = I2 j := fun j hj => ui_ne _ _ hj
    have hE3 : gE g (z_ui I2 15 0 (nI u)) := fun e he => by
      rw [hI3 1 (by decide), hI3 2 (by decide), hI3 3 (by decide), hI3 4 (by decide)]; exact hQ.2.2.2 e he
    have hf3 : mfl g (Tr g) v 11 L q R B dp (z_ui I2 15 0 (nI u)) := by
      unfold mfl at hf ⊢
      rw [hI3 13 (by decide), hI3 14 (by decide), hI3 11 (by decide)]; exact hf
    refine m_finds_loop (F := F) hQ.1 hE3 hf3 hRu hv (fun F3 I4 g1 g2 g3 g4 g5 => ?_) (dp u) 0 _ _ (by omega) (fun j hj => by rw [upd_ne _ hj, upd_ne _ hj]) (upd_self _ _ _) (fun _ _ _ => rfl) (fun j hj => ?_) (fun j hj => by omega)
    · have hfr4 : frM F I F3 I4 := ⟨g1, fun j hj => by rw [g3 j (by omega) (by omega), hI3 j (by omega)]; exact hfr.2 j hj⟩
      exact hyes F3 I4 (dp u) _ _ (mQ_fr h hfr4) hfr4 (bf_way hf.1 hRu) (bf_dp_lt hf.1 hRu) g2 (fun i hi => ⟨g4 i hi, bf_R hf.1 (bf_back hf.1 hRu i hi).1⟩) g5 (by rw [g3 12 (by decide) (by decide), hI3 12 (by decide)]; exact hrest 12 (by decide) (by decide) (by decide))
    · have : j = 0 := by omega
      subst this
      rw [ui_self, upd_self]
      rfl
  · refine hno I2 hQ hfr (fun z2 => ?_) (hrest 12 (by decide) (by decide) (by decide))
    have hRu : R u := (hR u).mpr (cn_symm z2)
    rw [(hf.2.2.2.2 u hu).1 hRu] at z
    exact absurd z (by decide)
theorem m_heaviestOfWay_loop {P : Int32 → zM → Prop} {l : Nat} {S : Nat → Nat} (hl : l < 100) (hF : F 6 = nI (l + 1)) (hS : ∀ i, i < l → I 16 (i + 1) = nI (S i) ∧ S i < 300) (hP : P (oI (hvs (J 1) S l)) (F, I, J)) :
    ∀ d i, i + d = l → AW m_X7_heaviestOfWay (z_pi P) 4 [some (.ref 0), some (.int (oI (hvs (J 1) S i))), some (.int (nI (i + 1)))] [] (F, I, J) := by
  intro d
  induction d with
  | zero =>
    intro i hd
    refine r_X7_heaviestOfWay_4 _ _ F I J ?_
    rw [hF, nLe (by omega) (by omega)]
    refine ⟨fun _ => by rw [show i = l by omega]; exact hP, fun z => absurd (show l + 1 ≤ i + 1 by omega) z⟩
  | succ d ih =>
    intro i hd
    obtain ⟨s1, s2⟩ := hS i (by omega)
    have ihn := ih (i + 1) (by omega)
    refine r_X7_heaviestOfWay_4 _ _ F I J ?_
    have b1 : vp_in (nI (i + 1)) 100 := nIn (by omega) (by omega)
    rw [hF, nLe (by omega) (by omega), zN (by omega), s1, nI_1]
    refine ⟨fun z => absurd z (by omega), fun _ => ?_⟩
    cases hh : hvs (J 1) S i with
    | none =>
      have e : hvs (J 1) S (i + 1) = some (S i) := by unfold hvs; rw [hh]
      rw [e] at ihn
      exact ⟨fun _ => ⟨b1, ihn⟩, fun z => absurd rfl z⟩
    | some t =>
      obtain ⟨i2, hi2, ht⟩ := hvs_mem _ _ _ _ hh
      have ht3 : t < 300 := by rw [← ht]; exact (hS i2 (by omega)).2
      refine ⟨fun z => ?_, fun _ => ⟨b1, ?_⟩⟩
      · rw [show oI (some t) = nI t from rfl, nNe (by omega)] at z; exact z.elim
      · refine m_isHeavier s2 ht3 (fun z => ⟨fun z2 => absurd z2 (by decide), fun _ => ⟨b1, ?_⟩⟩) (fun z => ⟨fun _ => ?_, fun z2 => absurd rfl z2⟩)
        · have e : hvs (J 1) S (i + 1) = some (S i) := by unfold hvs; rw [hh]; exact if_pos z
          rw [e] at ihn
          dsimp only
          rw [s1]
          exact ihn
        · have e : hvs (J 1) S (i + 1) = some t := by unfold hvs; rw [hh]; exact if_neg z
          rw [e] at ihn
          exact ihn
theorem m_heaviestOfWay {P : Int32 → zM → Prop} {l : Nat} {S : Nat → Nat} (hl : l < 100) (hF : F 6 = nI (l + 1)) (hS : ∀ i, i < l → I 16 (i + 1) = nI (S i) ∧ S i < 300) (hP : P (oI (hvs (J 1) S l)) (F, I, J)) : AMi m_X7_heaviestOfWay [.ref 0] (F, I, J) P :=
  r_X7_heaviestOfWay_0 F I J (m_heaviestOfWay_loop hl hF hS hP l 0 (by omega))
theorem hvs_congr {w w' : Nat → Int64} {S S' : Nat → Nat} : ∀ l, (∀ i, i < l → S i = S' i ∧ w (S i) = w' (S i)) → hvs w S l = hvs w' S' l
  | 0, _ => rfl
  | l + 1, h => by
    have ih := hvs_congr l (fun i hi => h i (by omega))
    obtain ⟨h1, h2⟩ := h l (by omega)
    unfold hvs
    rw [← ih]
    cases hh : hvs w S l with
    | none => dsimp only; rw [h1]
    | some t =>
      obtain ⟨i2, hi2, ht⟩ := hvs_mem _ _ _ _ hh
      obtain ⟨h3, h4⟩ := h i2 (by omega)
      dsimp only
      rw [← h1, ← h2, ← ht, ← h4]
end
