def frN (F0 : Nat → Int32) (I0 : Nat → Nat → Int32) (F : Nat → Int32) (I : Nat → Nat → Int32) : Prop := (∀ c, c ≠ 4 → F c = F0 c) ∧ ∀ c, c ≠ 3 → c ≠ 4 → (c < 11 ∨ 16 < c) → I c = I0 c
theorem frN_trans {F0 F1 F2 : Nat → Int32} {I0 I1 I2 : Nat → Nat → Int32} (h : frN F0 I0 F1 I1) (h2 : frN F1 I1 F2 I2) : frN F0 I0 F2 I2 := ⟨fun c hc => by rw [h2.1 c hc, h.1 c hc], fun c a b d => by rw [h2.2 c a b d, h.2 c a b d]⟩
section
variable {g : zG} {e : Nat} {F : Nat → Int32} {I : Nat → Nat → Int32} {J : Nat → Nat → Int64}
theorem mT_Tl {v : Nat → Nat} {i : Nat} (hi : i < 100) (hW : gW (gSV g (un (gs g) e 0) v)) (hv : ∀ f, f < gm g → (i ≤ v f ↔ i ≤ gv g f)) (f : Nat) (hf : f < gm g) : Tl (gs g) (gv g) e i f ↔ mT (gSV g (un (gs g) e 0) v) (nI i) 0 (-1) (-1) f := by
  have h1 : gm g ≤ 300 := hW.2.1
  have h2 := hW.2.2 f hf
  have h3 : gn g ≤ 100 := hW.1
  have h4 := hv f hf
  have a1 : ga g f < gn g := h2.1
  have a2 : gb g f < gn g := h2.2.1
  have a3 : un (gs g) e 0 f < 3 := h2.2.2.2.1
  have a4 : v f < 100 := h2.2.2.2.2
  show gs g f = 1 ∧ f ≠ e ∧ i ≤ gv g f ↔ ¬ nI f = -1 ∧ un (gs g) e 0 f ≠ 0 ∧ (un (gs g) e 0 f = 2 → ¬ (0 : Int32) = 0) ∧ (¬ nI i ≤ nI (v f) → ¬ (0 : Int32) = 0) ∧ ¬ nI (ga g f) = -1 ∧ ¬ nI (gb g f) = -1
  rw [nNe (by omega), nNe (by omega), nNe (by omega), nLe (by omega) (by omega), h4]
  constructor
  · rintro ⟨q1, q2, q3⟩
    rw [un_ne _ _ q2]
    exact ⟨id, by omega, fun z => by omega, fun z => absurd q3 z, id, id⟩
  · rintro ⟨-, q2, q3, q4, -, -⟩
    have q5 : ¬ un (gs g) e 0 f = 2 := fun z => q3 z rfl
    have q6 : f ≠ e := fun z => q2 (by rw [z, un_self])
    rw [un_ne _ _ q6] at q2 q5 a3
    exact ⟨by omega, q6, Classical.byContradiction fun z => q4 z rfl⟩
/-- the reference's byLevels -/
theorem m_byLevels {P : Int32 → zM → Prop} (hW : gW g) (h : mQ (gSV g (un (gs g) e 0) (gv g)) F I) (hfo : fo (gm g) (ga g) (gb g) (Tr g)) (hL : gL g) (he : e < gm g) (hse : gs g e = 1) (h4 : F 4 = nI (sumN (gv g) (gm g)))
    (hno : ∀ F2 I2, gH g e (gv g e + 1) = none → mQ (gSV g (un (gs g) e 0) (lvc (gn g) (gm g) (ga g) (gb g) (gs g) (gv g) e 0 (gm g) (gm g))) F2 I2 → F2 4 = nI (sumN (lvc (gn g) (gm g) (ga g) (gb g) (gs g) (gv g) e 0 (gm g) (gm g)) (gm g)) → frN F I F2 I2 → P (-1) (F2, I2, J))
    (hyes : ∀ F2 I2 i x, gH g e (gv g e + 1) = some (i, x) → mQ (gSV g (un (un (gs g) e 0) x 1) (lvc (gn g) (gm g) (ga g) (gb g) (gs g) (gv g) e i (gm g) x)) F2 I2 → F2 4 = nI (sumN (lvc (gn g) (gm g) (ga g) (gb g) (gs g) (gv g) e i (gm g) x) (gm g)) → frN F I F2 I2 → P (nI x) (F2, I2, J)) :
    AMi m_X7_byLevels [.ref 0, .int (nI e)] (F, I, J) P := by
  have hn := hW.1
  have hm := hW.2.1
  have hw := hW.2.2 e he
  have b1 : vp_in (nI e) 300 := nIn (by omega) (by omega)
  have fin : ∀ i x F4 I4, mb g e i (gm g) x F I F4 I4 → True := fun _ _ _ _ _ => trivial
  have yes : ∀ i x F0 I0 F4 I4, frN F I F0 I0 → mb g e i (gm g) x F0 I0 F4 I4 → x < gm g → gCand g e i x → gH g e (gv g e + 1) = some (i, x) → P (nI x) (F4, z_ui I4 3 x 1, J) := by
    intro i x F0 I0 F4 I4 hfr hmb hx hc hH
    refine hyes F4 _ i x hH ⟨?_, hmb.1.2.1, hmb.1.2.2.1, fun f hf => ?_⟩ hmb.2.1 (frN_trans hfr ⟨hmb.2.2.1, fun c c3 c4 _ => by rw [ui_ne _ _ c3]; exact hmb.2.2.2 c c4 c3⟩)
    · have hq := hmb.1.1
      refine ⟨hq.1, hq.2.1, fun f hf => ?_⟩
      have := hq.2.2 f hf
      refine ⟨this.1, this.2.1, this.2.2.1, ?_, this.2.2.2.2⟩
      have a3 : un (gs g) e 0 f < 3 := this.2.2.2.1
      show un (un (gs g) e 0) x 1 f < 3
      by_cases z : f = x
      · rw [z, un_self]; omega
      · rw [un_ne _ _ z]; exact a3
    · obtain ⟨k1, k2, k3, k4⟩ := hmb.1.2.2.2 f hf
      refine ⟨?_, ?_, ?_, ?_⟩
      · rw [ui_ne _ _ (by decide)]; exact k1
      · rw [ui_ne _ _ (by decide)]; exact k2
      · rw [ui_self]
        show _ = nI (un (un (gs g) e 0) x 1 f)
        by_cases z : f = x
        · rw [z, upd_self, un_self]; rfl
        · rw [upd_ne _ z, un_ne _ _ z]; exact k3
      · rw [ui_ne _ _ (by decide)]; exact k4
  refine r_X7_byLevels_0 _ F I J ⟨b1, ?_⟩
  rw [zN (by omega), show I 4 e = nI (gv g e) from (h.2.2.2 e he).2.2.2]
  have lp : ∀ i F1 I1, i ≤ gv g e → gH g e (gv g e + 1) = gH g e (i + 1) → mQ (gSV g (un (gs g) e 0) (lvc (gn g) (gm g) (ga g) (gb g) (gs g) (gv g) e i 0 0)) F1 I1 → F1 4 = nI (sumN (lvc (gn g) (gm g) (ga g) (gb g) (gs g) (gv g) e i 0 0) (gm g)) → frN F I F1 I1 →
      AW m_X7_byLevels (z_pi P) 7 [some (.ref 0), some (.int (nI e)), some (.int (nI i)), none, none, none, none, none, none] [] (F1, I1, J) := by
    intro i
    induction i with
    | zero =>
      intro F1 I1 hi hH hQ hF4 hfr
      refine r_X7_byLevels_7 _ _ F1 I1 J ⟨fun z => absurd z (by decide), fun _ => ⟨b1, ?_⟩⟩
      rw [zN (by omega), show I1 1 e = nI (ga g e) from (hQ.2.2.2 e he).1]
      refine m_reach_a (g := gSV g (un (gs g) e 0) (lvc (gn g) (gm g) (ga g) (gb g) (gs g) (gv g) e 0 0 0)) (T := Tl (gs g) (gv g) e 0) hQ.1 hQ.2.2.2 hQ.2.1 hQ.2.2.1 (mT_Tl (by omega) hQ.1 (fun f _ => lvc_ge (Nat.le_refl _))) hw.1 (by rw [nNe (by omega)]; exact id) (fun I2 L q R B dp hf hI hR => ⟨b1, ?_⟩)
      have hfr2 : frM F1 I1 F1 I2 := ⟨fun _ _ => rfl, fun j hj => hI j (by omega) (by omega) (by omega)⟩
      have hQ2 := mQ_fr hQ hfr2
      dsimp only
      rw [show I2 2 e = nI (gb g e) from (hQ2.2.2.2 e he).2.1]
      refine m_reach_b (g := gSV g (un (gs g) e 0) (lvc (gn g) (gm g) (ga g) (gb g) (gs g) (gv g) e 0 0 0)) (T := Tl (gs g) (gv g) e 0) hQ2.1 hQ2.2.2.2 hQ2.2.1 hQ2.2.2.1 (mT_Tl (by omega) hQ2.1 (fun f _ => lvc_ge (Nat.le_refl _))) hw.2.1 (by rw [nNe (by omega)]; exact id) (fun I3 L3 q3 R3 B3 dp3 hf3 hI3 hR3 => ?_)
      have hfr3 : frM F1 I2 F1 I3 := ⟨fun _ _ => rfl, fun j hj => hI3 j (by omega) (by omega) (by omega)⟩
      have hQ3 := mQ_fr hQ2 hfr3
      have hfN : frN F I F1 I3 := frN_trans hfr ⟨fun _ _ => rfl, fun c _ _ hc => by rw [hfr3.2 c hc, hfr2.2 c hc]⟩
      have eL : ctp (cn (gm g) (ga g) (gb g) (Tl (gs g) (gv g) e 0) (ga g e)) (gn g) = L := ctp_enum L _ (fun i hi => (hf.1.2.2.2.1 i hi).1) hf.1.2.2.2.2.1 (fun k _ => ⟨fun z => hf.1.2.2.2.2.2.1 k ((hR k).mpr z), fun ⟨j, hj, hq⟩ => (hR k).mp (by rw [← hq]; exact (hf.1.2.2.2.1 j hj).2.1)⟩)
      have eL3 : ctp (cn (gm g) (ga g) (gb g) (Tl (gs g) (gv g) e 0) (gb g e)) (gn g) = L3 := ctp_enum L3 _ (fun i hi => (hf3.1.2.2.2.1 i hi).1) hf3.1.2.2.2.2.1 (fun k _ => ⟨fun z => hf3.1.2.2.2.2.2.1 k ((hR3 k).mpr z), fun ⟨j, hj, hq⟩ => (hR3 k).mp (by rw [← hq]; exact (hf3.1.2.2.2.1 j hj).2.1)⟩)
      have hLn : L ≤ gn g := hf.1.1
      have hLn3 : L3 ≤ gn g := hf3.1.1
      have rA : rowS g (cn (gm g) (ga g) (gb g) (Tl (gs g) (gv g) e 0) (ga g e)) 11 I3 := fun k hk => by
        rw [hI3 11 (by decide) (by decide) (by decide)]
        exact ⟨fun z => (hf.2.2.2.2 k hk).1 ((hR k).mpr z), fun z => (hf.2.2.2.2 k hk).2 (fun y => z ((hR k).mp y))⟩
      have rB : rowS g (cn (gm g) (ga g) (gb g) (Tl (gs g) (gv g) e 0) (gb g e)) 12 I3 := fun k hk => ⟨fun z => (hf3.2.2.2.2 k hk).1 ((hR3 k).mpr z), fun z => (hf3.2.2.2.2 k hk).2 (fun y => z ((hR3 k).mp y))⟩
      have hmb : mb g e 0 0 0 F1 I3 F1 I3 := ⟨hQ3, hF4, fun _ _ => rfl, fun _ _ _ => rfl⟩
      have stop : ∀ F4 I4, mb g e 0 (gm g) (gm g) F1 I3 F4 I4 → (∀ x, x < gm g → ¬ gCand g e 0 x) → AW m_X7_byLevels (z_pi P) 7 [some (.ref 0), some (.int (nI e)), some (.int (nI 0 + -1)), none, none, none, none, none, none] [] (F4, I4, J) := fun F4 I4 hm4 hc => by
        refine r_X7_byLevels_7 _ _ F4 I4 J ⟨fun _ => ?_, fun z => absurd (by decide) z⟩
        exact hno F4 I4 (by rw [hH]; exact hsr_next hc) hm4.1 hm4.2.1 (frN_trans hfN ⟨hm4.2.2.1, fun c c3 c4 _ => hm4.2.2.2 c c4 c3⟩)
      rw [nLt (by omega) (by omega)]
      refine ⟨fun z => ?_, fun z => ?_⟩
      · refine m_lev_0 (F0 := F1) (I0 := I3) hW hfo hL he hse hi ?_ ?_ stop (fun x F4 I4 hm4 hx hc hfst => yes 0 x F1 I3 F4 I4 hfN hm4 hx hc (by rw [hH]; exact hsr_found hx hc hfst)) hmb
        · intro k hk
          unfold gSm Sm
          rw [zif_neg (by omega)]
          exact rB k hk
        · intro k hk
          unfold gOm
          rw [zif_neg (by omega)]
          exact rA k hk
      · refine m_lev_1 (F0 := F1) (I0 := I3) hW hfo hL he hse hi ?_ ?_ stop (fun x F4 I4 hm4 hx hc hfst => yes 0 x F1 I3 F4 I4 hfN hm4 hx hc (by rw [hH]; exact hsr_found hx hc hfst)) hmb
        · intro k hk
          unfold gSm Sm
          rw [zif_pos (by omega)]
          exact rA k hk
        · intro k hk
          unfold gOm
          rw [zif_pos (by omega)]
          exact rB k hk
    | succ i ih =>
      intro F1 I1 hi hH hQ hF4 hfr
      refine r_X7_byLevels_7 _ _ F1 I1 J ⟨fun z => absurd z (nI_pos (by omega)), fun _ => ⟨b1, ?_⟩⟩
      rw [zN (by omega), show I1 1 e = nI (ga g e) from (hQ.2.2.2 e he).1]
      refine m_reach_a (g := gSV g (un (gs g) e 0) (lvc (gn g) (gm g) (ga g) (gb g) (gs g) (gv g) e (i + 1) 0 0)) (T := Tl (gs g) (gv g) e (i + 1)) hQ.1 hQ.2.2.2 hQ.2.1 hQ.2.2.1 (mT_Tl (by omega) hQ.1 (fun f _ => lvc_ge (Nat.le_refl _))) hw.1 (by rw [nNe (by omega)]; exact id) (fun I2 L q R B dp hf hI hR => ⟨b1, ?_⟩)
      have hfr2 : frM F1 I1 F1 I2 := ⟨fun _ _ => rfl, fun j hj => hI j (by omega) (by omega) (by omega)⟩
      have hQ2 := mQ_fr hQ hfr2
      dsimp only
      rw [show I2 2 e = nI (gb g e) from (hQ2.2.2.2 e he).2.1]
      refine m_reach_b (g := gSV g (un (gs g) e 0) (lvc (gn g) (gm g) (ga g) (gb g) (gs g) (gv g) e (i + 1) 0 0)) (T := Tl (gs g) (gv g) e (i + 1)) hQ2.1 hQ2.2.2.2 hQ2.2.1 hQ2.2.2.1 (mT_Tl (by omega) hQ2.1 (fun f _ => lvc_ge (Nat.le_refl _))) hw.2.1 (by rw [nNe (by omega)]; exact id) (fun I3 L3 q3 R3 B3 dp3 hf3 hI3 hR3 => ?_)
      have hfr3 : frM F1 I2 F1 I3 := ⟨fun _ _ => rfl, fun j hj => hI3 j (by omega) (by omega) (by omega)⟩
      have hQ3 := mQ_fr hQ2 hfr3
      have hfN : frN F I F1 I3 := frN_trans hfr ⟨fun _ _ => rfl, fun c _ _ hc => by rw [hfr3.2 c hc, hfr2.2 c hc]⟩
      have eL : ctp (cn (gm g) (ga g) (gb g) (Tl (gs g) (gv g) e (i + 1)) (ga g e)) (gn g) = L := ctp_enum L _ (fun i hi => (hf.1.2.2.2.1 i hi).1) hf.1.2.2.2.2.1 (fun k _ => ⟨fun z => hf.1.2.2.2.2.2.1 k ((hR k).mpr z), fun ⟨j, hj, hq⟩ => (hR k).mp (by rw [← hq]; exact (hf.1.2.2.2.1 j hj).2.1)⟩)
      have eL3 : ctp (cn (gm g) (ga g) (gb g) (Tl (gs g) (gv g) e (i + 1)) (gb g e)) (gn g) = L3 := ctp_enum L3 _ (fun i hi => (hf3.1.2.2.2.1 i hi).1) hf3.1.2.2.2.2.1 (fun k _ => ⟨fun z => hf3.1.2.2.2.2.2.1 k ((hR3 k).mpr z), fun ⟨j, hj, hq⟩ => (hR3 k).mp (by rw [← hq]; exact (hf3.1.2.2.2.1 j hj).2.1)⟩)
      have hLn : L ≤ gn g := hf.1.1
      have hLn3 : L3 ≤ gn g := hf3.1.1
      have rA : rowS g (cn (gm g) (ga g) (gb g) (Tl (gs g) (gv g) e (i + 1)) (ga g e)) 11 I3 := fun k hk => by
        rw [hI3 11 (by decide) (by decide) (by decide)]
        exact ⟨fun z => (hf.2.2.2.2 k hk).1 ((hR k).mpr z), fun z => (hf.2.2.2.2 k hk).2 (fun y => z ((hR k).mp y))⟩
      have rB : rowS g (cn (gm g) (ga g) (gb g) (Tl (gs g) (gv g) e (i + 1)) (gb g e)) 12 I3 := fun k hk => ⟨fun z => (hf3.2.2.2.2 k hk).1 ((hR3 k).mpr z), fun z => (hf3.2.2.2.2 k hk).2 (fun y => z ((hR3 k).mp y))⟩
      have hmb : mb g e (i + 1) 0 0 F1 I3 F1 I3 := ⟨hQ3, hF4, fun _ _ => rfl, fun _ _ _ => rfl⟩
      have stop : ∀ F4 I4, mb g e (i + 1) (gm g) (gm g) F1 I3 F4 I4 → (∀ x, x < gm g → ¬ gCand g e (i + 1) x) → AW m_X7_byLevels (z_pi P) 7 [some (.ref 0), some (.int (nI e)), some (.int (nI (i + 1) + -1)), none, none, none, none, none, none] [] (F4, I4, J) := fun F4 I4 hm4 hc => by
        rw [nAm1]
        have hq4 := hm4.1
        have hs4 := hm4.2.1
        rw [lvc_next] at hq4 hs4
        exact ih F4 I4 (by omega) (by rw [hH]; exact hsr_next hc) hq4 hs4 (frN_trans hfN ⟨hm4.2.2.1, fun c c3 c4 _ => hm4.2.2.2 c c4 c3⟩)
      rw [nLt (by omega) (by omega)]
      refine ⟨fun z => ?_, fun z => ?_⟩
      · refine m_lev_0 (F0 := F1) (I0 := I3) hW hfo hL he hse hi ?_ ?_ stop (fun x F4 I4 hm4 hx hc hfst => yes (i + 1) x F1 I3 F4 I4 hfN hm4 hx hc (by rw [hH]; exact hsr_found hx hc hfst)) hmb
        · intro k hk
          unfold gSm Sm
          rw [zif_neg (by omega)]
          exact rB k hk
        · intro k hk
          unfold gOm
          rw [zif_neg (by omega)]
          exact rA k hk
      · refine m_lev_1 (F0 := F1) (I0 := I3) hW hfo hL he hse hi ?_ ?_ stop (fun x F4 I4 hm4 hx hc hfst => yes (i + 1) x F1 I3 F4 I4 hfN hm4 hx hc (by rw [hH]; exact hsr_found hx hc hfst)) hmb
        · intro k hk
          unfold gSm Sm
          rw [zif_pos (by omega)]
          exact rA k hk
        · intro k hk
          unfold gOm
          rw [zif_pos (by omega)]
          exact rB k hk
  refine lp (gv g e) F I (Nat.le_refl _) rfl ?_ ?_ ⟨fun _ _ => rfl, fun _ _ _ _ => rfl⟩
  · rw [lvc_start]; exact h
  · rw [lvc_start]; exact h4
end
/-! the lightest that joins both sides -/
noncomputable def ltf (w : Nat → Int64) (p : Nat → Prop) : Nat → Option Nat
  | 0 => none
  | f + 1 => match ltf w p f with
    | none => zif (p f) (some f) none
    | some t => zif (p f ∧ hv w t f) (some f) (some t)
theorem ltf_mem (w : Nat → Int64) (p : Nat → Prop) : ∀ f t, ltf w p f = some t → t < f ∧ p t
  | 0, t, h => by simp [ltf] at h
  | f + 1, t, h => by
    unfold ltf at h
    cases hh : ltf w p f with
    | none =>
      rw [hh] at h
      dsimp only at h
      by_cases hp : p f
      · rw [zif_pos hp] at h
        simp at h
        exact ⟨by omega, by rw [← h]; exact hp⟩
      · rw [zif_neg hp] at h; simp at h
    | some t2 =>
      rw [hh] at h
      dsimp only at h
      have ih := ltf_mem w p f t2 hh
      by_cases hp : p f ∧ hv w t2 f
      · rw [zif_pos hp] at h
        simp at h
        exact ⟨by omega, by rw [← h]; exact hp.1⟩
      · rw [zif_neg hp] at h
        simp at h
        exact ⟨by omega, by rw [← h]; exact ih.2⟩
theorem ltf_no {w : Nat → Int64} {p : Nat → Prop} {f : Nat} (h : ¬ p f) : ltf w p (f + 1) = ltf w p f := by
  conv => lhs; unfold ltf
  cases hh : ltf w p f with
  | none => exact zif_neg h _ _
  | some t => exact zif_neg (fun z => h z.1) _ _
theorem ltf_none {w : Nat → Int64} {p : Nat → Prop} {m : Nat} (h : ltf w p m = none) : ∀ f, f < m → ¬ p f := by
  induction m with
  | zero => intro f hf; omega
  | succ m ih =>
    intro f hf hp
    unfold ltf at h
    cases hh : ltf w p m with
    | none =>
      rw [hh] at h
      dsimp only at h
      rcases Nat.lt_or_ge f m with q | q
      · exact ih hh f q hp
      · have : f = m := by omega
        subst this
        rw [zif_pos hp] at h
        simp at h
    | some t =>
      rw [hh] at h
      dsimp only at h
      by_cases hp2 : p m ∧ hv w t m
      · rw [zif_pos hp2] at h; simp at h
      · rw [zif_neg hp2] at h; simp at h
theorem ltf_congr {w w2 : Nat → Int64} {p q : Nat → Prop} : ∀ m, (∀ f, f < m → w f = w2 f ∧ (p f ↔ q f)) → ltf w p m = ltf w2 q m
  | 0, _ => rfl
  | m + 1, h => by
    have ih := ltf_congr m (fun f hf => h f (by omega))
    obtain ⟨h1, h2⟩ := h m (by omega)
    unfold ltf
    rw [← ih]
    cases hh : ltf w p m with
    | none => exact zif_congr h2 _ _
    | some t =>
      have ht := (ltf_mem _ _ _ _ hh).1
      have h3 := (h t (by omega)).1
      refine zif_congr ?_ _ _
      unfold hv
      rw [h1, h3, h2]
/-- spare edges lead between knots that are together -/
def SpI (g : zG) : Prop := ∀ f, f < gm g → gs g f = 2 → cn (gm g) (ga g) (gb g) (Tr g) (ga g f) (gb g f)
def sA (g : zG) (e k : Nat) : Prop := cn (gm g) (ga g) (gb g) (fun f => Tr g f ∧ f ≠ e) (ga g e) k
def sB (g : zG) (e k : Nat) : Prop := cn (gm g) (ga g) (gb g) (fun f => Tr g f ∧ f ≠ e) (gb g e) k
def ltP (g : zG) (e f : Nat) : Prop := gs g f = 2 ∧ oneS (ga g) (gb g) (sA g e) f
theorem ltP_joins {g : zG} {e f : Nat} (hfo : fo (gm g) (ga g) (gb g) (Tr g)) (hsp : SpI g) (he : e < gm g) (hse : gs g e = 1) (hf : f < gm g) (hs : gs g f = 2) :
    oneS (ga g) (gb g) (sA g e) f ↔ (sA g e (ga g f) ∧ sB g e (gb g f)) ∨ (sA g e (gb g f) ∧ sB g e (ga g f)) := by
  have dis : ∀ k, sA g e k → sB g e k → False := fun k z1 z2 => hfo e he hse (cn_trans z1 (cn_symm z2))
  constructor
  · intro h
    rcases cn_less (e := e) (hsp f hf hs) with q | ⟨q1, q2⟩ | ⟨q1, q2⟩
    · rcases h with ⟨z1, z2⟩ | ⟨z1, z2⟩
      · exact absurd (cn_trans z1 q) z2
      · exact absurd (cn_trans z2 (cn_symm q)) z1
    · exact Or.inl ⟨cn_symm q1, q2⟩
    · exact Or.inr ⟨q2, cn_symm q1⟩
  · rintro (⟨z1, z2⟩ | ⟨z1, z2⟩)
    · exact Or.inl ⟨z1, fun z => dis _ z z2⟩
    · exact Or.inr ⟨fun z => dis _ z z2, z1⟩
section
variable {g : zG} {e : Nat} {F : Nat → Int32} {I : Nat → Nat → Int32} {J : Nat → Nat → Int64}
theorem c_lightest {P : Int32 → zM → Prop} (h : cQ g F I) (he : e < gm g) (hP : ∀ F2 I2, cQ g F2 I2 → frC F I F2 I2 → P (oI (ltf (J 1) (ltP g e) (gm g))) (F2, I2, J)) : AMi m_X6_findLightestAcross [.ref 0, .int (nI e)] (F, I, J) P := by
  have hW := h.1
  have hn := hW.1
  have hm := hW.2.1
  have hw := hW.2.2 e he
  refine r_X6_findLightestAcross_0 _ F I J ⟨nIn (by omega) (by omega), ?_⟩
  rw [zN (by omega), (h.2.2.2.1 e he).1]
  refine c_spread_a (T := fun f => Tr g f ∧ f ≠ e) hW h.2.2.2.1 h.2.2.2.2.1 h.2.2.2.2.2.1 (fun f hf => ?_) hw.1 (fun F2 I2 L q R B dp hf hF hI hR => ?_)
  · have := Tr_iff (g := g) f hW hf
    rw [nEq (by omega) (by omega)]
    exact ⟨fun z => ⟨z.1, z.2, (this.mp z.1).2.2⟩, fun z => ⟨z.1, z.2.1⟩⟩
  have hfr : frC F I F2 I2 := ⟨fun j hj => hF j (by omega), fun j hj => hI j (by omega) (by omega) (by omega) (by omega)⟩
  have hQ2 : cQ g F2 I2 := cQ_fr h hfr (ffl_fcl hn hf) (fcl_eq h.2.2.2.2.2.2 (hF 7 (by decide)) (hI 12 (by decide) (by decide) (by decide) (by decide)) (hI 15 (by decide) (by decide) (by decide) (by decide)))
  have hrow : rowS g (sA g e) 11 I2 := fun k hk => ⟨fun z => (hf.2.2.2.2.2.2 k (by omega)).1 ((hR k).mpr z), fun z => (hf.2.2.2.2.2.2 k (by omega)).2 (fun y => z ((hR k).mp y))⟩
  have lp : ∀ d f, f + d = gm g → AW m_X6_findLightestAcross (z_pi P) 26 [some (.ref 0), none, some (.int (oI (ltf (J 1) (ltP g e) f))), some (.int (nI f))] [] (F2, I2, J) := by
    intro d
    induction d with
    | zero =>
      intro f hd
      refine r_X6_findLightestAcross_26 _ _ F2 I2 J ?_
      rw [hQ2.2.2.1, nLe (by omega) (by omega)]
      have e1 : f = gm g := by omega
      subst e1
      exact ⟨fun _ => hP F2 I2 hQ2 hfr, fun z => absurd (Nat.le_refl _) z⟩
    | succ d ih =>
      intro f hd
      have hfm : f < gm g := by omega
      have hwf := hW.2.2 f hfm
      have nxt := ih (f + 1) (by omega)
      refine r_X6_findLightestAcross_26 _ _ F2 I2 J ?_
      rw [hQ2.2.2.1, nLe (by omega) (by omega), zN (by omega), (hQ2.2.2.2.1 f hfm).2.2.1, n2, nEq (by omega) (by omega), nI_1]
      refine ⟨fun z => absurd z (by omega), fun _ => ⟨nIn (by omega) (by omega), fun z => ?_, fun z => ?_⟩⟩
      · rw [ltf_no (fun y => z y.1)] at nxt; exact nxt
      · refine c_endsOf_a (g := g) hW (fun x hx => ⟨(hQ2.2.2.2.1 x hx).1, (hQ2.2.2.2.1 x hx).2.1⟩) hrow hfm (fun q => ?_) (fun q => ?_) (fun qa qb => ?_)
        · refine ⟨fun _ => ?_, fun y => absurd y (by decide)⟩
          rw [ltf_no (fun y => oneS_not y.2 q)] at nxt; exact nxt
        · refine ⟨fun y => absurd rfl y, fun _ => ?_⟩
          have hp : ltP g e f := ⟨z, q⟩
          cases hh : ltf (J 1) (ltP g e) f with
          | none =>
            have e1 : ltf (J 1) (ltP g e) (f + 1) = some f := by unfold ltf; rw [hh]; exact zif_pos hp _ _
            rw [e1] at nxt
            exact ⟨fun _ => nxt, fun y => absurd rfl y⟩
          | some t =>
            have ht := (ltf_mem _ _ _ _ hh).1
            refine ⟨fun y => ?_, fun _ => ?_⟩
            · rw [show oI (some t) = nI t from rfl, nNe (by omega)] at y; exact y.elim
            · refine c_isHeavier (by omega) (by omega) (fun y => ⟨fun y2 => absurd y2 (by decide), fun _ => ?_⟩) (fun y => ⟨fun _ => ?_, fun y2 => absurd rfl y2⟩)
              · have e1 : ltf (J 1) (ltP g e) (f + 1) = some f := by unfold ltf; rw [hh]; exact zif_pos ⟨hp, y⟩ _ _
                rw [e1] at nxt; exact nxt
              · have e1 : ltf (J 1) (ltP g e) (f + 1) = some t := by unfold ltf; rw [hh]; exact zif_neg (fun w => y w.2) _ _
                rw [e1] at nxt; exact nxt
        · refine ⟨fun _ => ?_, fun y => absurd y (by decide)⟩
          rw [ltf_no (fun y => y.2.elim (fun w => qa w.1) (fun w => qb w.2))] at nxt; exact nxt
  exact lp (gm g) 0 (by omega)
theorem m_lightest {P : Int32 → zM → Prop} (hW : gW g) (h : mQ (gSV g (un (gs g) e 0) (gv g)) F I) (hfo : fo (gm g) (ga g) (gb g) (Tr g)) (hsp : SpI g) (he : e < gm g) (hse : gs g e = 1)
    (hno : ∀ F2 I2, ltf (J 1) (ltP g e) (gm g) = none → mQ (gSV g (un (gs g) e 0) (gv g)) F2 I2 → frM F I F2 I2 → P (-1) (F2, I2, J))
    (hyes : ∀ F2 I2 x, ltf (J 1) (ltP g e) (gm g) = some x → mQ (gSV g (un (gs g) e 0) (gv g)) F2 I2 → frM F I F2 I2 → P (nI x) (F2, z_ui I2 3 x 1, J)) : AMi m_X7_lightest [.ref 0, .int (nI e)] (F, I, J) P := by
  have hn := hW.1
  have hm := hW.2.1
  have hw := hW.2.2 e he
  have b1 : vp_in (nI e) 300 := nIn (by omega) (by omega)
  have hTl : ∀ f, f < gm g → ((Tr g f ∧ f ≠ e) ↔ mT (gSV g (un (gs g) e 0) (gv g)) (nI 0) 0 (-1) (-1) f) := fun f hf => by
    rw [← mT_Tl (v := gv g) (i := 0) (by omega) h.1 (fun f _ => Iff.rfl) f hf]
    exact ⟨fun z => ⟨z.1, z.2, Nat.zero_le _⟩, fun z => ⟨z.1, z.2.1⟩⟩
  refine r_X7_lightest_0 _ F I J ⟨b1, ?_⟩
  rw [zN (by omega), show I 1 e = nI (ga g e) from (h.2.2.2 e he).1]
  refine m_reach_a (g := gSV g (un (gs g) e 0) (gv g)) (T := fun f => Tr g f ∧ f ≠ e) h.1 h.2.2.2 h.2.1 h.2.2.1 hTl hw.1 (by rw [nNe (by omega)]; exact id) (fun I2 L q R B dp hf hI hR => ⟨b1, ?_⟩)
  have hfr2 : frM F I F I2 := ⟨fun _ _ => rfl, fun j hj => hI j (by omega) (by omega) (by omega)⟩
  have hQ2 := mQ_fr h hfr2
  dsimp only
  rw [show I2 2 e = nI (gb g e) from (hQ2.2.2.2 e he).2.1]
  refine m_reach_b (g := gSV g (un (gs g) e 0) (gv g)) (T := fun f => Tr g f ∧ f ≠ e) hQ2.1 hQ2.2.2.2 hQ2.2.1 hQ2.2.2.1 hTl hw.2.1 (by rw [nNe (by omega)]; exact id) (fun I3 L3 q3 R3 B3 dp3 hf3 hI3 hR3 => ?_)
  have hfr3 : frM F I F I3 := ⟨fun _ _ => rfl, fun j hj => by rw [hI3 j (by omega) (by omega) (by omega)]; exact hfr2.2 j hj⟩
  have hQ3 := mQ_fr h hfr3
  have rA : ∀ k, k < gn g → (I3 11 k = 0 ↔ ¬ sA g e k) := fun k hk => by
    rw [hI3 11 (by decide) (by decide) (by decide)]
    have := hf.2.2.2.2 k hk
    exact ⟨fun z y => by rw [this.1 ((hR k).mpr y)] at z; exact absurd z (by decide), fun z => this.2 (fun y => z ((hR k).mp y))⟩
  have rB : ∀ k, k < gn g → (I3 12 k = 0 ↔ ¬ sB g e k) := fun k hk => by
    have := hf3.2.2.2.2 k hk
    exact ⟨fun z y => by rw [this.1 ((hR3 k).mpr y)] at z; exact absurd z (by decide), fun z => this.2 (fun y => z ((hR3 k).mp y))⟩
  have lp : ∀ d f, f + d = gm g → AW m_X7_lightest (z_pi P) 42 [some (.ref 0), none, some (.int (oI (ltf (J 1) (ltP g e) f))), some (.int (nI f)), none] [] (F, I3, J) := by
    intro d
    induction d with
    | zero =>
      intro f hd
      refine r_X7_lightest_42 _ _ F I3 J ?_
      rw [show F 1 = nI (gm g) from h.2.2.1, nLe (by omega) (by omega)]
      have e1 : f = gm g := by omega
      subst e1
      refine ⟨fun _ => ?_, fun z => absurd (Nat.le_refl _) z⟩
      cases hh : ltf (J 1) (ltP g e) (gm g) with
      | none => exact ⟨fun _ => hno F I3 hh hQ3 hfr3, fun z => absurd rfl z⟩
      | some x =>
        have hx := (ltf_mem _ _ _ _ hh).1
        refine ⟨fun z => ?_, fun _ => ⟨nIn (by omega) (by omega), ?_⟩⟩
        · rw [show oI (some x) = nI x from rfl, nNe (by omega)] at z; exact z.elim
        · rw [show oI (some x) = nI x from rfl, zN (by omega)]
          exact hyes F I3 x hh hQ3 hfr3
    | succ d ih =>
      intro f hd
      have hfm : f < gm g := by omega
      have hwf := hW.2.2 f hfm
      have nxt := ih (f + 1) (by omega)
      obtain ⟨k1, k2, k3, k4⟩ := hQ3.2.2.2 f hfm
      have k1' : I3 1 f = nI (ga g f) := k1
      have k2' : I3 2 f = nI (gb g f) := k2
      have k3' : I3 3 f = nI (un (gs g) e 0 f) := k3
      have hs3 : un (gs g) e 0 f < 3 := by unfold un; split <;> omega
      have s2 : un (gs g) e 0 f = 2 ↔ gs g f = 2 := by
        by_cases z : f = e
        · rw [z, un_self]; omega
        · rw [un_ne _ _ z]
      have bf1 : vp_in (nI f) 300 := nIn (by omega) (by omega)
      have ba : vp_in (nI (ga g f)) 100 := nIn (by omega) (by omega)
      have bb : vp_in (nI (gb g f)) 100 := nIn (by omega) (by omega)
      have skip : ¬ ltP g e f → AW m_X7_lightest (z_pi P) 42 [some (.ref 0), none, some (.int (oI (ltf (J 1) (ltP g e) f))), some (.int (nI f + 1)), none] [] (F, I3, J) := fun y => by rw [nI_1]; rw [ltf_no y] at nxt; exact nxt
      have at119 : ltP g e f → AW m_X7_lightest (z_pi P) 119 [some (.ref 0), none, some (.int (oI (ltf (J 1) (ltP g e) f))), some (.int (nI f)), none] [] (F, I3, J) := by
        intro hp
        refine r_X7_lightest_119 _ _ F I3 J ?_
        rw [nI_1]
        cases hh : ltf (J 1) (ltP g e) f with
        | none =>
          have e1 : ltf (J 1) (ltP g e) (f + 1) = some f := by unfold ltf; rw [hh]; exact zif_pos hp _ _
          rw [e1] at nxt
          exact ⟨fun _ => nxt, fun y => absurd rfl y⟩
        | some t =>
          have ht := (ltf_mem _ _ _ _ hh).1
          refine ⟨fun y => ?_, fun _ => ?_⟩
          · rw [show oI (some t) = nI t from rfl, nNe (by omega)] at y; exact y.elim
          · refine m_isHeavier (by omega) (by omega) (fun y => ⟨fun y2 => absurd y2 (by decide), fun _ => ?_⟩) (fun y => ⟨fun _ => ?_, fun y2 => absurd rfl y2⟩)
            · have e1 : ltf (J 1) (ltP g e) (f + 1) = some f := by unfold ltf; rw [hh]; exact zif_pos ⟨hp, y⟩ _ _
              rw [e1] at nxt; exact nxt
            · have e1 : ltf (J 1) (ltP g e) (f + 1) = some t := by unfold ltf; rw [hh]; exact zif_neg (fun w => y w.2) _ _
              rw [e1] at nxt; exact nxt
      have at91 : gs g f = 2 → ¬ (sA g e (ga g f) ∧ sB g e (gb g f)) → AW m_X7_lightest (z_pi P) 91 [some (.ref 0), none, some (.int (oI (ltf (J 1) (ltP g e) f))), some (.int (nI f)), none] [] (F, I3, J) := by
        intro hs hn1
        have hj := ltP_joins hfo hsp he hse hfm hs
        refine r_X7_lightest_91 _ _ F I3 J ?_
        rw [zN (show f < 2147483648 by omega), k1', k2', zN (show ga g f < 2147483648 by omega), zN (show gb g f < 2147483648 by omega), rA _ hwf.2.1, rB _ hwf.1]
        refine ⟨bf1, bb, fun y => r_X7_lightest_123 _ _ F I3 J (skip (fun w => ?_)), fun y => ⟨bf1, ba, fun y2 => r_X7_lightest_123 _ _ F I3 J (skip (fun w => ?_)), fun y2 => at119 ⟨hs, hj.mpr (Or.inr ⟨Classical.not_not.mp y, Classical.not_not.mp y2⟩)⟩⟩⟩
        · rcases hj.mp w.2 with w2 | w2
          · exact hn1 w2
          · exact y w2.1
        · rcases hj.mp w.2 with w2 | w2
          · exact hn1 w2
          · exact y2 w2.2
      refine r_X7_lightest_42 _ _ F I3 J ?_
      rw [show F 1 = nI (gm g) from h.2.2.1, nLe (by omega) (by omega), zN (show f < 2147483648 by omega), k3', k1', k2', zN (show ga g f < 2147483648 by omega), zN (show gb g f < 2147483648 by omega), n2, nEq (by omega) (by omega), s2, rA _ hwf.1, rB _ hwf.2.1]
      refine ⟨fun z => absurd z (by omega), fun _ => ⟨bf1, fun z => ⟨bf1, ba, fun y => at91 z (fun w => y w.1), fun y => ⟨bf1, bb, fun y2 => at119 ⟨z, (ltP_joins hfo hsp he hse hfm z).mpr (Or.inl ⟨Classical.not_not.mp y, Classical.not_not.mp y2⟩)⟩, fun y2 => at91 z (fun w => y2 w.2)⟩⟩, fun z => skip (fun w => z w.1)⟩⟩
  exact lp (gm g) 0 (by omega)
end
