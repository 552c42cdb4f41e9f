/-- the log of rises since ρ0 -/
def LGf (g : zG) (e i ct cs ρ0 : Nat) (F : Nat → Int32) (I : Nat → Nat → Int32) : Prop :=
  ∃ ρ, F 5 = nI ρ ∧ ρ = sumN (lvc (gn g) (gm g) (ga g) (gb g) (gs g) (gv g) e i ct cs) (gm g) ∧ ρ0 ≤ ρ ∧ (∀ p, ρ0 ≤ p → p < ρ → ∃ f, f < gm g ∧ I 7 p = nI f) ∧ ∀ f, f < gm g → lvc (gn g) (gm g) (ga g) (gb g) (gs g) (gv g) e i ct cs f = gv g f + oc (I 7) f ρ0 ρ
/-- what the heir's search leaves alone -/
def frH (ρ0 : Nat) (F0 : Nat → Int32) (I0 : Nat → Nat → Int32) (F : Nat → Int32) (I : Nat → Nat → Int32) : Prop := (∀ c, (c < 5 ∨ 12 < c) → F c = F0 c) ∧ (∀ c, (c < 4 ∨ (4 < c ∧ c < 7) ∨ 22 < c) → I c = I0 c) ∧ ∀ p, p < ρ0 → I 7 p = I0 7 p
theorem frH_trans {ρ0 : Nat} {F0 F1 F2 : Nat → Int32} {I0 I1 I2 : Nat → Nat → Int32} (h : frH ρ0 F0 I0 F1 I1) (h2 : frH ρ0 F1 I1 F2 I2) : frH ρ0 F0 I0 F2 I2 := ⟨fun c hc => by rw [h2.1 c hc, h.1 c hc], fun c hc => by rw [h2.2.1 c hc, h.2.1 c hc], fun p hp => by rw [h2.2.2 p hp, h.2.2 p hp]⟩
theorem frH_C {ρ0 : Nat} {F0 F1 : Nat → Int32} {I0 I1 : Nat → Nat → Int32} (h : frC F0 I0 F1 I1) : frH ρ0 F0 I0 F1 I1 := ⟨fun c hc => h.1 c (by omega), fun c hc => h.2 c (by omega), fun p _ => by rw [h.2 7 (by omega)]⟩
section
variable {g : zG} {e : Nat} {F : Nat → Int32} {I : Nat → Nat → Int32} {J : Nat → Nat → Int64}
theorem lgS_in {i ct cs ρ0 : Nat} (h : LGf g e i ct cs ρ0 F I) (h4 : F 4 = nI (gm g)) (hE : gE (gV g (lvc (gn g) (gm g) (ga g) (gb g) (gs g) (gv g) e i ct cs)) I) : lgS g e i ct cs ρ0 F I F I := by
  obtain ⟨ρ, q1, q2, q3, q4, q5⟩ := h
  exact ⟨⟨⟨ρ, q1, q2, q3, q4, q5, fun _ _ => rfl⟩, h4, hE⟩, trivial, fun _ _ => rfl, fun _ _ _ => rfl⟩
theorem lgS_out {i ct cs ρ0 : Nat} {F0 : Nat → Int32} {I0 : Nat → Nat → Int32} (h : lgS g e i ct cs ρ0 F0 I0 F I) : LGf g e i ct cs ρ0 F I ∧ frH ρ0 F0 I0 F I := by
  obtain ⟨⟨⟨ρ, q1, q2, q3, q4, q5, q6⟩, h4, hE⟩, -, h5, h6⟩ := h
  exact ⟨⟨ρ, q1, q2, q3, q4, q5⟩, fun c hc => h5 c (by omega), fun c hc => h6 c (by omega) (by omega), q6⟩
theorem lgS_cQ {i ct cs ct2 cs2 ρ0 : Nat} {F0 : Nat → Int32} {I0 : Nat → Nat → Int32} (hW : gW g) (hfo : fo (gm g) (ga g) (gb g) (Tr g)) (hL : gL g) (he : e < gm g) (hse : gs g e = 1) (hi : i ≤ gv g e) (hQ : cQ (gV g (lvc (gn g) (gm g) (ga g) (gb g) (gs g) (gv g) e i ct2 cs2)) F0 I0) (h : lgS g e i ct cs ρ0 F0 I0 F I) : cQ (gV g (lvc (gn g) (gm g) (ga g) (gb g) (gs g) (gv g) e i ct cs)) F I := by
  have hgW := lgS_gW hW hfo hL he hse hi h
  obtain ⟨⟨-, h4, hE⟩, -, h5, h6⟩ := h
  refine ⟨hgW, by rw [h5 0 (by decide)]; exact hQ.2.1, h4, hE, ?_, fcl_eq hQ.2.2.2.2.2.1 (h5 6 (by decide)) (h6 8 (by decide) (by decide)) (h6 11 (by decide) (by decide)), fcl_eq hQ.2.2.2.2.2.2 (h5 7 (by decide)) (h6 12 (by decide) (by decide)) (h6 15 (by decide) (by decide))⟩
  have hc := hQ.2.2.2.2.1
  unfold gC at hc ⊢
  rw [h6 5 (by decide) (by decide), h6 6 (by decide) (by decide)]
  exact hc
theorem c_floodSmaller {P : Nat → zM → Prop} {v : Nat → Nat} {i : Nat} (hi : i < 100) (hv : ∀ f, f < gm g → (i ≤ v f ↔ i ≤ gv g f)) (h : cQ (gV g v) F I) (he : e < gm g)
    (hA : ∀ F2 I2, cQ (gV g v) F2 I2 → frC F I F2 I2 → rowS g (gSm g e i) 11 I2 → P 12 (F2, I2, J)) (hB : ∀ F2 I2, cQ (gV g v) F2 I2 → frC F I F2 I2 → rowS g (gSm g e i) 15 I2 → P 17 (F2, I2, J)) :
    AMr m_X6_floodSmaller [.ref 0, .int (nI e), .int (nI i)] (F, I, J) P := by
  have hW := h.1
  have hn : gn g ≤ 100 := hW.1
  have hm : gm g ≤ 300 := hW.2.1
  have hw := hW.2.2 e he
  have ha : ga g e < gn g := hw.1
  have hb : gb g e < gn g := hw.2.1
  refine r_X6_floodSmaller_0 _ _ F I J ?_
  have b1 : vp_in (nI e) 300 := nIn (by omega) (by omega)
  have hT : ∀ f, f < gm (gV g v) → (Tl (gs g) (gv g) e i f ↔ gs (gV g v) f = 1 ∧ ¬ nI f = nI e ∧ ¬ nI (gv (gV g v) f) < nI i) := by
    intro f hf
    have hf' : f < gm g := hf
    have h5 := (hW.2.2 f hf).2.2.2.2
    rw [nEq (by omega) (by omega), nLt (by omega) (by omega)]
    have h6 := hv f hf'
    show gs g f = 1 ∧ f ≠ e ∧ i ≤ gv g f ↔ gs g f = 1 ∧ ¬ f = e ∧ ¬ v f < i
    constructor
    · rintro ⟨q1, q2, q3⟩; exact ⟨q1, q2, by have := h6.mpr q3; omega⟩
    · rintro ⟨q1, q2, q3⟩; exact ⟨q1, q2, h6.mp (by omega)⟩
  rw [zN (by omega), show I 1 e = nI (ga g e) from (h.2.2.2.1 e he).1]
  refine ⟨b1, ?_⟩
  refine c_spread_a (g := gV g v) (T := Tl (gs g) (gv g) e i) hW h.2.2.2.1 h.2.2.2.2.1 h.2.2.2.2.2.1 hT ha (fun F2 I2 L q R B dp hf hF hI hR => ⟨b1, ?_⟩)
  have hfr : frC F I F2 I2 := ⟨fun j hj => hF j (by omega), fun j hj => hI j (by omega) (by omega) (by omega) (by omega)⟩
  have hQ2 : cQ (gV g v) F2 I2 := cQ_fr h hfr (ffl_fcl hn hf) (fcl_eq h.2.2.2.2.2.2 (hF 7 (by decide)) (hI 12 (by decide) (by decide) (by decide) (by decide)) (hI 15 (by decide) (by decide) (by decide) (by decide)))
  dsimp only
  rw [show I2 2 e = nI (gb g e) from (hQ2.2.2.2.1 e he).2.1]
  refine c_spread_b (g := gV g v) (T := Tl (gs g) (gv g) e i) hW hQ2.2.2.2.1 hQ2.2.2.2.2.1 hQ2.2.2.2.2.2.2 hT hb (fun F3 I3 L3 q3 R3 B3 dp3 hf3 hF3 hI3 hR3 => ?_)
  have hfr3 : frC F2 I2 F3 I3 := ⟨fun j hj => hF3 j (by omega), fun j hj => hI3 j (by omega) (by omega) (by omega) (by omega)⟩
  have hQ3 : cQ (gV g v) F3 I3 := cQ_fr hQ2 hfr3 (fcl_eq hQ2.2.2.2.2.2.1 (hF3 6 (by decide)) (hI3 8 (by decide) (by decide) (by decide) (by decide)) (hI3 11 (by decide) (by decide) (by decide) (by decide))) (ffl_fcl hn hf3)
  have eL : ctp (cn (gm g) (ga g) (gb g) (Tl (gs g) (gv g) e i) (ga g e)) (gn g) = L := ctp_enum L _ (fun i hi => (hf.1.2.2.2.1 i hi).1) hf.1.2.2.2.2.1 (fun k _ => by
    have h1 := hR k
    exact ⟨fun z => hf.1.2.2.2.2.2.1 k (h1.mpr z), fun ⟨j, hj, hq⟩ => h1.mp (by rw [← hq]; exact (hf.1.2.2.2.1 j hj).2.1)⟩)
  have eL3 : ctp (cn (gm g) (ga g) (gb g) (Tl (gs g) (gv g) e i) (gb g e)) (gn g) = L3 := ctp_enum L3 _ (fun i hi => (hf3.1.2.2.2.1 i hi).1) hf3.1.2.2.2.2.1 (fun k _ => by
    have h1 := hR3 k
    exact ⟨fun z => hf3.1.2.2.2.2.2.1 k (h1.mpr z), fun ⟨j, hj, hq⟩ => h1.mp (by rw [← hq]; exact (hf3.1.2.2.2.1 j hj).2.1)⟩)
  have hL : L ≤ gn g := hf.1.1
  have hL3 : L3 ≤ gn g := hf3.1.1
  dsimp only
  rw [hf3.2.1, hF3 6 (by decide), hf.2.1, nLt (by omega) (by omega)]
  refine ⟨fun z => hB F3 I3 hQ3 (frC_trans hfr hfr3) (fun k hk => ?_), fun z => hA F3 I3 hQ3 (frC_trans hfr hfr3) (fun k hk => ?_)⟩
  · have e1 : gSm g e i k ↔ R3 k := by
      unfold gSm Sm
      rw [zif_neg (by omega)]
      exact (hR3 k).symm
    rw [e1]
    exact hf3.2.2.2.2.2.2 k (by omega)
  · have e1 : gSm g e i k ↔ R k := by
      unfold gSm Sm
      rw [zif_pos (by omega)]
      exact (hR k).symm
    rw [e1, hI3 11 (by decide) (by decide) (by decide) (by decide)]
    exact hf.2.2.2.2.2.2 k (by omega)
noncomputable def gH (g : zG) (e k : Nat) : Option (Nat × Nat) := hsr (gn g) (gm g) (ga g) (gb g) (gs g) (gv g) e k
/-- the heir's search, with rises -/
theorem c_heirRaise {P : Int32 → zM → Prop} (h : cQ g F I) (hfo : fo (gm g) (ga g) (gb g) (Tr g)) (hL : gL g) (he : e < gm g) (hse : gs g e = 1) (h5 : F 5 = nI (sumN (gv g) (gm g)))
    (hno : ∀ F2 I2, gH g e (gv g e + 1) = none → LGf g e 0 (gm g) (gm g) (sumN (gv g) (gm g)) F2 I2 → cQ (gV g (lvc (gn g) (gm g) (ga g) (gb g) (gs g) (gv g) e 0 (gm g) (gm g))) F2 I2 → frH (sumN (gv g) (gm g)) F I F2 I2 → P (-1) (F2, I2, J))
    (hyes : ∀ F2 I2 i x, gH g e (gv g e + 1) = some (i, x) → LGf g e i (gm g) x (sumN (gv g) (gm g)) F2 I2 → cQ (gV g (lvc (gn g) (gm g) (ga g) (gb g) (gs g) (gv g) e i (gm g) x)) F2 I2 → frH (sumN (gv g) (gm g)) F I F2 I2 → P (nI x) (F2, I2, J)) :
    AMi m_X6_findHeirByLevels [.ref 0, .int (nI e), .int 1] (F, I, J) P := by
  have hW := h.1
  have hn := hW.1
  have hm := hW.2.1
  have hw := hW.2.2 e he
  refine r_X6_findHeirByLevels_0 _ _ F I J ⟨nIn (by omega) (by omega), ?_⟩
  rw [zN (by omega), (h.2.2.2.1 e he).2.2.2]
  have lp : ∀ i F1 I1, i ≤ gv g e → gH g e (gv g e + 1) = gH g e (i + 1) → LGf g e i 0 0 (sumN (gv g) (gm g)) F1 I1 → cQ (gV g (lvc (gn g) (gm g) (ga g) (gb g) (gs g) (gv g) e i 0 0)) F1 I1 → frH (sumN (gv g) (gm g)) F I F1 I1 →
      AW m_X6_findHeirByLevels (z_pi P) 10 [some (.ref 0), some (.int (nI e)), some (.int 1), some (.int (nI i)), none, none] [] (F1, I1, J) := by
    intro i
    induction i with
    | zero =>
      intro F1 I1 hi hH hlg hQ hfr
      refine r_X6_findHeirByLevels_10 _ _ _ F1 I1 J ⟨fun z => absurd z (by decide), fun _ => ?_⟩
      refine c_floodSmaller (by omega) (fun f _ => lvc_ge (Nat.le_refl _)) hQ he (fun F2 I2 hQ2 hfr2 hS => Or.inl ⟨rfl, fun z => absurd z (by decide), fun _ => ?_⟩) (fun F2 I2 hQ2 hfr2 hS => Or.inr ⟨rfl, fun z => absurd z (by decide), fun _ => ?_⟩)
      · have hlg2 : LGf g e 0 0 0 (sumN (gv g) (gm g)) F2 I2 := by unfold LGf at hlg ⊢; rw [hfr2.1 5 (by omega), hfr2.2 7 (by omega)]; exact hlg
        refine c_raiseTrees_a hW hfo hL he hse hi hS (fun F3 I3 h3 => ?_) (lgS_in hlg2 hQ2.2.2.1 hQ2.2.2.2.1)
        refine c_findHeirAt_a (FI := (F3, I3)) hW hfo hL he hse hi hS (h3.2.2.2 11 (by decide) (by decide)) (fun F4 I4 h4 hc => ⟨fun _ => ?_, fun z => absurd rfl z⟩) (fun x F4 I4 h4 hx hc hfst => ⟨fun z => ?_, fun _ => ?_⟩) h3
        · obtain ⟨o1, o2⟩ := lgS_out h4
          refine r_X6_findHeirByLevels_10 _ _ _ F4 I4 J ⟨fun _ => ?_, fun z => absurd (by decide) z⟩
          exact hno F4 I4 (by rw [hH]; exact hsr_next hc) o1 (lgS_cQ hW hfo hL he hse hi hQ2 h4) (frH_trans hfr (frH_trans (frH_C hfr2) o2))
        · rw [nNe (by omega)] at z; exact z.elim
        · obtain ⟨o1, o2⟩ := lgS_out h4
          exact hyes F4 I4 0 x (by rw [hH]; exact hsr_found hx hc hfst) o1 (lgS_cQ hW hfo hL he hse hi hQ2 h4) (frH_trans hfr (frH_trans (frH_C hfr2) o2))
      · have hlg2 : LGf g e 0 0 0 (sumN (gv g) (gm g)) F2 I2 := by unfold LGf at hlg ⊢; rw [hfr2.1 5 (by omega), hfr2.2 7 (by omega)]; exact hlg
        refine c_raiseTrees_b hW hfo hL he hse hi hS (fun F3 I3 h3 => ?_) (lgS_in hlg2 hQ2.2.2.1 hQ2.2.2.2.1)
        refine c_findHeirAt_b (FI := (F3, I3)) hW hfo hL he hse hi hS (h3.2.2.2 15 (by decide) (by decide)) (fun F4 I4 h4 hc => ⟨fun _ => ?_, fun z => absurd rfl z⟩) (fun x F4 I4 h4 hx hc hfst => ⟨fun z => ?_, fun _ => ?_⟩) h3
        · obtain ⟨o1, o2⟩ := lgS_out h4
          refine r_X6_findHeirByLevels_10 _ _ _ F4 I4 J ⟨fun _ => ?_, fun z => absurd (by decide) z⟩
          exact hno F4 I4 (by rw [hH]; exact hsr_next hc) o1 (lgS_cQ hW hfo hL he hse hi hQ2 h4) (frH_trans hfr (frH_trans (frH_C hfr2) o2))
        · rw [nNe (by omega)] at z; exact z.elim
        · obtain ⟨o1, o2⟩ := lgS_out h4
          exact hyes F4 I4 0 x (by rw [hH]; exact hsr_found hx hc hfst) o1 (lgS_cQ hW hfo hL he hse hi hQ2 h4) (frH_trans hfr (frH_trans (frH_C hfr2) o2))
    | succ i ih =>
      intro F1 I1 hi hH hlg hQ hfr
      refine r_X6_findHeirByLevels_10 _ _ _ F1 I1 J ⟨fun z => absurd z (nI_pos (by omega)), fun _ => ?_⟩
      rw [nAm1]
      refine c_floodSmaller (by omega) (fun f _ => lvc_ge (Nat.le_refl _)) hQ he (fun F2 I2 hQ2 hfr2 hS => Or.inl ⟨rfl, fun z => absurd z (by decide), fun _ => ?_⟩) (fun F2 I2 hQ2 hfr2 hS => Or.inr ⟨rfl, fun z => absurd z (by decide), fun _ => ?_⟩)
      · have hlg2 : LGf g e (i + 1) 0 0 (sumN (gv g) (gm g)) F2 I2 := by unfold LGf at hlg ⊢; rw [hfr2.1 5 (by omega), hfr2.2 7 (by omega)]; exact hlg
        refine c_raiseTrees_a hW hfo hL he hse hi hS (fun F3 I3 h3 => ?_) (lgS_in hlg2 hQ2.2.2.1 hQ2.2.2.2.1)
        refine c_findHeirAt_a (FI := (F3, I3)) hW hfo hL he hse hi hS (h3.2.2.2 11 (by decide) (by decide)) (fun F4 I4 h4 hc => ⟨fun _ => ?_, fun z => absurd rfl z⟩) (fun x F4 I4 h4 hx hc hfst => ⟨fun z => ?_, fun _ => ?_⟩) h3
        · obtain ⟨o1, o2⟩ := lgS_out h4
          have hQ4 := lgS_cQ hW hfo hL he hse hi hQ2 h4
          unfold LGf at o1
          rw [lvc_next] at hQ4 o1
          exact ih F4 I4 (by omega) (by rw [hH]; exact hsr_next hc) o1 hQ4 (frH_trans hfr (frH_trans (frH_C hfr2) o2))
        · rw [nNe (by omega)] at z; exact z.elim
        · obtain ⟨o1, o2⟩ := lgS_out h4
          exact hyes F4 I4 (i + 1) x (by rw [hH]; exact hsr_found hx hc hfst) o1 (lgS_cQ hW hfo hL he hse hi hQ2 h4) (frH_trans hfr (frH_trans (frH_C hfr2) o2))
      · have hlg2 : LGf g e (i + 1) 0 0 (sumN (gv g) (gm g)) F2 I2 := by unfold LGf at hlg ⊢; rw [hfr2.1 5 (by omega), hfr2.2 7 (by omega)]; exact hlg
        refine c_raiseTrees_b hW hfo hL he hse hi hS (fun F3 I3 h3 => ?_) (lgS_in hlg2 hQ2.2.2.1 hQ2.2.2.2.1)
        refine c_findHeirAt_b (FI := (F3, I3)) hW hfo hL he hse hi hS (h3.2.2.2 15 (by decide) (by decide)) (fun F4 I4 h4 hc => ⟨fun _ => ?_, fun z => absurd rfl z⟩) (fun x F4 I4 h4 hx hc hfst => ⟨fun z => ?_, fun _ => ?_⟩) h3
        · obtain ⟨o1, o2⟩ := lgS_out h4
          have hQ4 := lgS_cQ hW hfo hL he hse hi hQ2 h4
          unfold LGf at o1
          rw [lvc_next] at hQ4 o1
          exact ih F4 I4 (by omega) (by rw [hH]; exact hsr_next hc) o1 hQ4 (frH_trans hfr (frH_trans (frH_C hfr2) o2))
        · rw [nNe (by omega)] at z; exact z.elim
        · obtain ⟨o1, o2⟩ := lgS_out h4
          exact hyes F4 I4 (i + 1) x (by rw [hH]; exact hsr_found hx hc hfst) o1 (lgS_cQ hW hfo hL he hse hi hQ2 h4) (frH_trans hfr (frH_trans (frH_C hfr2) o2))
  have es : gV g (gv g) = g := rfl
  refine lp (gv g e) F I (Nat.le_refl _) rfl ?_ ?_ ⟨fun _ _ => rfl, fun _ _ => rfl, fun _ _ => rfl⟩
  · unfold LGf
    rw [lvc_start]
    exact ⟨_, h5, rfl, Nat.le_refl _, fun p h1 h2 => by omega, fun f hf => by rw [oc_self]; rfl⟩
  · rw [lvc_start, es]
    exact h
/-- the heir's search, only asking -/
theorem c_heirAsk {P : Int32 → zM → Prop} (h : cQ g F I) (he : e < gm g)
    (hno : ∀ F2 I2, gH g e (gv g e + 1) = none → cQ g F2 I2 → frC F I F2 I2 → P (-1) (F2, I2, J)) (hyes : ∀ F2 I2 i x, gH g e (gv g e + 1) = some (i, x) → cQ g F2 I2 → frC F I F2 I2 → P (nI x) (F2, I2, J)) :
    AMi m_X6_findHeirByLevels [.ref 0, .int (nI e), .int 0] (F, I, J) P := by
  have hW := h.1
  have hn := hW.1
  have hm := hW.2.1
  have hw := hW.2.2 e he
  have es : gV g (gv g) = g := rfl
  refine r_X6_findHeirByLevels_0 _ _ F I J ⟨nIn (by omega) (by omega), ?_⟩
  rw [zN (by omega), (h.2.2.2.1 e he).2.2.2]
  have lp : ∀ i F1 I1, i ≤ gv g e → gH g e (gv g e + 1) = gH g e (i + 1) → cQ g F1 I1 → frC F I F1 I1 →
      AW m_X6_findHeirByLevels (z_pi P) 10 [some (.ref 0), some (.int (nI e)), some (.int 0), some (.int (nI i)), none, none] [] (F1, I1, J) := by
    intro i
    induction i with
    | zero =>
      intro F1 I1 hi hH hQ hfr
      refine r_X6_findHeirByLevels_10 _ _ _ F1 I1 J ⟨fun z => absurd z (by decide), fun _ => ?_⟩
      have go : ∀ F2 I2, cQ g F2 I2 → frC F1 I1 F2 I2 → (∀ x, x < gm g → ¬ gCand g e 0 x) → AW m_X6_findHeirByLevels (z_pi P) 10 [some (.ref 0), some (.int (nI e)), some (.int 0), some (.int (nI 0 + -1)), none, none] [] (F2, I2, J) := fun F2 I2 hQ2 hfr2 hc => r_X6_findHeirByLevels_10 _ _ _ F2 I2 J ⟨fun _ => hno F2 I2 (by rw [hH]; exact hsr_next hc) hQ2 (frC_trans hfr hfr2), fun z => absurd (by decide) z⟩
      refine c_floodSmaller (v := gv g) (by omega) (fun f _ => Iff.rfl) hQ he (fun F2 I2 hQ2 hfr2 hS => Or.inl ⟨rfl, fun _ => ?_, fun z => absurd rfl z⟩) (fun F2 I2 hQ2 hfr2 hS => Or.inr ⟨rfl, fun _ => ?_, fun z => absurd rfl z⟩)
      · refine c_askHeirAt_a hW hQ2.2.2.2.1 hQ2.2.2.1 (by omega) hS (fun hc => ⟨fun _ => go F2 I2 hQ2 hfr2 hc, fun z => absurd rfl z⟩) (fun x hx hc hfst => ⟨fun z => ?_, fun _ => ?_⟩)
        · rw [nNe (by omega)] at z; exact z.elim
        · exact hyes F2 I2 0 x (by rw [hH]; exact hsr_found hx hc hfst) hQ2 (frC_trans hfr hfr2)
      · refine c_askHeirAt_b hW hQ2.2.2.2.1 hQ2.2.2.1 (by omega) hS (fun hc => ⟨fun _ => go F2 I2 hQ2 hfr2 hc, fun z => absurd rfl z⟩) (fun x hx hc hfst => ⟨fun z => ?_, fun _ => ?_⟩)
        · rw [nNe (by omega)] at z; exact z.elim
        · exact hyes F2 I2 0 x (by rw [hH]; exact hsr_found hx hc hfst) hQ2 (frC_trans hfr hfr2)
    | succ i ih =>
      intro F1 I1 hi hH hQ hfr
      refine r_X6_findHeirByLevels_10 _ _ _ F1 I1 J ⟨fun z => absurd z (nI_pos (by omega)), fun _ => ?_⟩
      rw [nAm1]
      refine c_floodSmaller (v := gv g) (by omega) (fun f _ => Iff.rfl) hQ he (fun F2 I2 hQ2 hfr2 hS => Or.inl ⟨rfl, fun _ => ?_, fun z => absurd rfl z⟩) (fun F2 I2 hQ2 hfr2 hS => Or.inr ⟨rfl, fun _ => ?_, fun z => absurd rfl z⟩)
      · refine c_askHeirAt_a hW hQ2.2.2.2.1 hQ2.2.2.1 (by omega) hS (fun hc => ⟨fun _ => ih F2 I2 (by omega) (by rw [hH]; exact hsr_next hc) hQ2 (frC_trans hfr hfr2), fun z => absurd rfl z⟩) (fun x hx hc hfst => ⟨fun z => ?_, fun _ => ?_⟩)
        · rw [nNe (by omega)] at z; exact z.elim
        · exact hyes F2 I2 (i + 1) x (by rw [hH]; exact hsr_found hx hc hfst) hQ2 (frC_trans hfr hfr2)
      · refine c_askHeirAt_b hW hQ2.2.2.2.1 hQ2.2.2.1 (by omega) hS (fun hc => ⟨fun _ => ih F2 I2 (by omega) (by rw [hH]; exact hsr_next hc) hQ2 (frC_trans hfr hfr2), fun z => absurd rfl z⟩) (fun x hx hc hfst => ⟨fun z => ?_, fun _ => ?_⟩)
        · rw [nNe (by omega)] at z; exact z.elim
        · exact hyes F2 I2 (i + 1) x (by rw [hH]; exact hsr_found hx hc hfst) hQ2 (frC_trans hfr hfr2)
  exact lp (gv g e) F I (Nat.le_refl _) rfl h frC_refl
end
