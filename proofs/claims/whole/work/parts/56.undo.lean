/-! taking a change back, in the class -/
section
variable {g g2 : zG} {F : Nat → Int32} {I : Nat → Nat → Int32} {J : Nat → Nat → Int64}
theorem c_lowerTo {P : zM → Prop} {r0 r1 m : Nat} {v : Nat → Nat} (hr : r0 ≤ r1) (h1 : r1 ≤ 1500) (hm : m ≤ 300) (h5 : F 5 = nI r1) (hlg : ∀ p, r0 ≤ p → p < r1 → ∃ f, f < m ∧ I 7 p = nI f) (hv : ∀ f, f < m → I 4 f = nI (v f + oc (I 7) f r0 r1))
    (hP : ∀ F2 I2, F2 5 = nI r0 → (∀ c, c ≠ 5 → F2 c = F c) → (∀ c, c ≠ 4 → I2 c = I c) → (∀ f, f < m → I2 4 f = nI (v f)) → P (F2, I2, J)) : AMv m_X0_lowerTo [.ref 3, .int (nI r0)] (F, I, J) P := by
  have lp : ∀ d p F2 I2, p = r0 + d → p ≤ r1 → F2 5 = nI p → (∀ c, c ≠ 5 → F2 c = F c) → (∀ c, c ≠ 4 → I2 c = I c) → (∀ f, f < m → I2 4 f = nI (v f + oc (I 7) f r0 p)) → AW m_X0_lowerTo (z_pv P) 7 [some (.ref 3), some (.int (nI r0)), some (.int (nI p - 1))] [] (F2, I2, J) := by
    intro d
    induction d with
    | zero =>
      intro p F2 I2 hp hp2 a1 a2 a3 a4
      have hp' : p = r0 := by omega
      subst hp'
      have go : P (F2, I2, J) := hP F2 I2 a1 a2 a3 (fun f hf => by rw [a4 f hf, oc_self]; rfl)
      refine r_X0_lowerTo_7 _ _ F2 I2 J ⟨fun _ => go, fun z => absurd ?_ z⟩
      rcases Nat.eq_zero_or_pos p with e | e
      · subst e; decide
      · rw [n1, nSub (by omega), nLt (by omega) (by omega)]; omega
    | succ d ih =>
      intro p F2 I2 hp hp2 a1 a2 a3 a4
      obtain ⟨f, hf, hf7⟩ := hlg (r0 + d) (by omega) (by omega)
      have e7 : I2 7 = I 7 := a3 7 (by decide)
      have ex : nI p - 1 = nI (r0 + d) := by rw [n1, nSub (by omega)]; congr 1; omega
      have ey : nI (r0 + d) + (-1) = nI (r0 + d) - 1 := (Int32.sub_eq_add_neg _ _).symm
      refine r_X0_lowerTo_7 _ _ F2 I2 J ?_
      rw [ex, nLt (by omega) (by omega), nNeg (by omega), zN (show r0 + d < 2147483648 by omega), e7, hf7, zN (show f < 2147483648 by omega), ey]
      refine ⟨fun z => by omega, fun _ => ⟨fun z => z.elim, fun _ => ⟨nIn (by omega) (by omega), nIn (by omega) (by omega), nIn (by omega) (by omega), ih (r0 + d) _ _ rfl (by omega) (upd_self _ _ _) (fun c hc => by rw [upd_ne _ hc]; exact a2 c hc) (fun c hc => by rw [ui_ne _ _ hc]; exact a3 c hc) (fun x hx => ?_)⟩⟩⟩
      rw [ui_self]
      have a4x := a4 x hx
      rw [hp, show r0 + (d + 1) = r0 + d + 1 by omega, oc_succ] at a4x
      by_cases e : x = f
      · subst e
        rw [zif_pos ⟨by omega, hf7⟩] at a4x
        rw [upd_self, a4x, n1, nSub (by omega)]
        congr 1
      · rw [upd_ne _ e, a4x, zif_neg, Nat.add_zero]
        rintro ⟨-, z⟩
        rw [hf7, nEq (by omega) (by omega)] at z
        exact e z.symm
  refine r_X0_lowerTo_0 _ F I J ?_
  rw [h5]
  exact lp (r1 - r0) r1 F I (by omega) (Nat.le_refl _) h5 (fun _ _ => rfl) (fun _ _ => rfl) hv
theorem gC_X {I2 : Nat → Nat → Int32} (hX : gX g g2) (hm : gm g2 = gm g) (hC : gC g2 I) (h5 : I2 5 = I 5) (h6 : I2 6 = I 6) : gC g I2 := by
  obtain ⟨c1, c2⟩ := hC
  refine ⟨fun k hk => ?_, fun l hl => ?_⟩
  · rw [h5]
    have := c1 k hk
    rw [hm] at this
    exact nx_X hX (Nat.le_refl _) this
  · rw [h6]
    have := c2 l (by omega)
    rw [ep_X hX hl] at this
    exact nx_X hX (by omega) this
theorem cQ_back {F2 : Nat → Int32} {I2 : Nat → Nat → Int32} (h : cQ g2 F I) (hW : gW g) (hX : gX g g2) (hm : gm g2 = gm g) (hF : ∀ c, c ≠ 5 → F2 c = F c) (hI : ∀ c, c ≠ 3 → c ≠ 4 → I2 c = I c) (hs : ∀ f, f < gm g → I2 3 f = nI (gs g f)) (hv : ∀ f, f < gm g → I2 4 f = nI (gv g f)) : cQ g F2 I2 := by
  obtain ⟨a1, a2, a3, a4, a5, a6, a7⟩ := h
  refine ⟨hW, by rw [hF 0 (by decide), a2, hX.1], by rw [hF 4 (by decide), a3, hm], fun f hf => ?_, gC_X hX hm a5 (hI 5 (by decide) (by decide)) (hI 6 (by decide) (by decide)), fcl_eq a6 (hF 6 (by decide)) (hI 8 (by decide) (by decide)) (hI 11 (by decide) (by decide)), fcl_eq a7 (hF 7 (by decide)) (hI 12 (by decide) (by decide)) (hI 15 (by decide) (by decide))⟩
  have q := a4 f (by omega)
  have x := hX.2.2 f hf
  exact ⟨by rw [hI 1 (by decide) (by decide), q.1, x.1], by rw [hI 2 (by decide) (by decide), q.2.1, x.2], hs f hf, hv f hf⟩
theorem rs_1500 {kd : Nat} {k : zK} (h : kI kd k) : rs (kg k) ≤ 1500 := by
  have h1 : ∀ f, f < gm (kg k) → gv (kg k) f ≤ 5 := fun f hf => by
    by_cases e : kd = 1
    · exact (h.2.2.1 e).2.2 f hf
    · rw [h.2.2.2.2.1 e f hf]; omega
  have h2 : rs (kg k) ≤ gm (kg k) * 5 := sumN_le h1
  have := h.1.2.1
  omega
theorem c_back5 {P : zM → Prop} {kd e wh : Nat} {o : Option Nat} {k k2 : zK} (h : cM k2 F I J) (hk2 : kI kd k2) (hk : kI kd k) (hX : gX (kg k) (kg k2)) (hr : rs (kg k) ≤ rs (kg k2)) (hm : gm (kg k2) = gm (kg k)) (hcX : cX k k2) (hvX : vX k k2)
    (l1 : ∀ p, rs (kg k) ≤ p → p < rs (kg k2) → ∃ f, f < gm (kg k) ∧ I 7 p = nI f) (l2 : ∀ f, f < gm (kg k) → gv (kg k2) f = gv (kg k) f + oc (I 7) f (rs (kg k)) (rs (kg k2))) (he : e < gm (kg k)) (hs : gs (kg k) e = wh) (ho : ∀ d, o = some d → d ≠ e ∧ d < gm (kg k) ∧ gs (kg k) d = 2) (hsame : ∀ f, f < gm (kg k) → f ≠ e → o ≠ some f → gs (kg k2) f = gs (kg k) f)
    (hP : ∀ F2 I2, cM k F2 I2 J → (∀ c, c ≠ 5 → F2 c = F c) → (∀ c, c ≠ 3 → c ≠ 4 → I2 c = I c) → P (F2, I2, J)) : AMv m_X6_takeBackCut [.ref 0, .int (nI e), .int (oI o), .int (nI wh), .int (nI (rs (kg k)))] (F, I, J) P := by
  have hmm := hk.1.2.1
  have hE := h.1.2.2.2.1
  have b1 : vp_in (nI e) 300 := nIn (by omega) (by omega)
  have tail : ∀ I3 : Nat → Nat → Int32, (∀ c, c ≠ 3 → I3 c = I c) → (∀ f, f < gm (kg k) → I3 3 f = nI (gs (kg k) f)) → AMv m_X0_lowerTo [.ref 3, .int (nI (rs (kg k)))] (F, I3, J) P := fun I3 a1 a2 => by
    refine c_lowerTo (m := gm (kg k)) (v := gv (kg k)) hr (rs_1500 hk2) hmm h.2.2 (by rw [a1 7 (by decide)]; exact l1) (fun f hf => ?_) (fun F2 I2 q1 q2 q3 q4 => hP F2 I2 ⟨?_, fun i hi => ⟨?_, ?_⟩, q1⟩ q2 (fun c c3 c4 => by rw [q3 c c4, a1 c c3]))
    · rw [a1 4 (by decide), a1 7 (by decide), (hE f (by omega)).2.2.2, l2 f hf]
    · exact cQ_back h.1 hk.1 hX hm q2 (fun c c3 c4 => by rw [q3 c c4, a1 c c3]) (fun f hf => by rw [q3 3 (by decide)]; exact a2 f hf) q4
    · rw [q3 0 (by decide), a1 0 (by decide), (h.2.1 i (by rw [hX.1]; exact hi)).1, hcX i hi]
    · rw [(h.2.1 i (by rw [hX.1]; exact hi)).2, hvX i hi]
  refine r_X6_takeBackCut_0 _ _ _ _ F I J ⟨fun z => ⟨b1, ?_⟩, fun z => ?_⟩
  · have hoo := oI_none z (fun x hx => by have := (ho x hx).2.1; omega)
    subst hoo
    rw [zN (show e < 2147483648 by omega)]
    refine tail _ (fun c hc => ui_ne _ _ hc) (fun f hf => ?_)
    rw [ui_self]
    by_cases e1 : f = e
    · rw [e1, upd_self, hs]
    · rw [upd_ne _ e1, (hE f (by omega)).2.2.1, hsame f hf e1 (by simp)]
  · cases o with
    | none => exact absurd rfl z
    | some x =>
      obtain ⟨x1, x2, x3⟩ := ho x rfl
      have e3 : zn (oI (some x)) = x := zN (by omega)
      refine ⟨nIn (show x < 300 by omega) (by omega), b1, ?_⟩
      rw [e3, zN (show e < 2147483648 by omega)]
      refine tail _ (fun c hc => by rw [ui_ne _ _ hc, ui_ne _ _ hc]) (fun f hf => ?_)
      rw [ui_self, ui_self]
      by_cases e1 : f = e
      · rw [e1, upd_self, hs]
      · rw [upd_ne _ e1]
        by_cases e2 : f = x
        · rw [e2, upd_self, x3]; rfl
        · rw [upd_ne _ e2, (hE f (by omega)).2.2.1, hsame f hf e1 (fun q => by cases q; exact e2 rfl)]
theorem c_back4 {P : zM → Prop} {kd : Nat} {o : Option Nat} {k k2 : zK} (h : cM k2 F I J) (hk2 : kI kd k2) (hk : kI kd k) (hX : gX (kg k) (kg k2)) (hm : gm (kg k2) = gm (kg k) + 1) (hv0 : gv (kg k2) (gm (kg k)) = 0) (hcX : cX k k2) (hvX : vX k k2)
    (hv : ∀ f, f < gm (kg k) → gv (kg k2) f = gv (kg k) f) (ho : ∀ d, o = some d → d < gm (kg k) ∧ gs (kg k) d = 1) (hsame : ∀ f, f < gm (kg k) → o ≠ some f → gs (kg k2) f = gs (kg k) f)
    (hP : ∀ F2 I2, cM k F2 I2 J → (∀ c, c ≠ 4 → F2 c = F c) → (∀ c, c ≠ 3 → c ≠ 5 → I2 c = I c) → P (F2, I2, J)) : AMv m_X0_dropLatest [.ref 3] (F, I, J) (fun M95 => (oI o = -1 → P M95) ∧ (¬ oI o = -1 → vp_in (oI o) 300 ∧ P (M95.1, z_ui M95.2.1 3 (zn (oI o)) 1, M95.2.2))) := by
  have hmm := hk.1.2.1
  have hmm2 := hk2.1.2.1
  have hn2 := hk2.1.1
  have hE := h.1.2.2.2.1
  have hw := hk2.1.2.2 (gm (kg k)) (by omega)
  have hEm := hE (gm (kg k)) (by omega)
  have hrs : rs (kg k2) = rs (kg k) := by
    show sumN (gv (kg k2)) (gm (kg k2)) = _
    rw [hm]
    show sumN (gv (kg k2)) (gm (kg k)) + gv (kg k2) (gm (kg k)) = _
    rw [hv0, sumN_congr hv]; rfl
  have fin : ∀ I3 : Nat → Nat → Int32, (∀ c, c ≠ 3 → c ≠ 5 → I3 c = I c) → I3 5 = upd (upd (I 5) (ga (kg k2) (gm (kg k))) (I 6 (2 * gm (kg k)))) (gb (kg k2) (gm (kg k))) (I 6 (2 * gm (kg k) + 1)) → (∀ f, f < gm (kg k) → I3 3 f = nI (gs (kg k) f)) → P (upd F 4 (nI (gm (kg k))), I3, J) := fun I3 a1 a2 a3 => by
    have fF : ∀ c, c ≠ 4 → upd F 4 (nI (gm (kg k))) c = F c := fun c hc => upd_ne _ hc
    refine hP _ I3 ⟨⟨hk.1, by rw [fF 0 (by decide), h.1.2.1, hX.1], upd_self _ _ _, fun f hf => ?_, gC_drop hX hm hk2.1 h.1.2.2.2.2.1 a2 (a1 6 (by decide) (by decide)), fcl_eq h.1.2.2.2.2.2.1 (fF 6 (by decide)) (a1 8 (by decide) (by decide)) (a1 11 (by decide) (by decide)), fcl_eq h.1.2.2.2.2.2.2 (fF 7 (by decide)) (a1 12 (by decide) (by decide)) (a1 15 (by decide) (by decide))⟩, fun i hi => ⟨?_, ?_⟩, ?_⟩ fF a1
    · have q := hE f (by omega)
      have x := hX.2.2 f hf
      exact ⟨by rw [a1 1 (by decide) (by decide), q.1, x.1], by rw [a1 2 (by decide) (by decide), q.2.1, x.2], a3 f hf, by rw [a1 4 (by decide) (by decide), q.2.2.2, hv f hf]⟩
    · rw [a1 0 (by decide) (by decide), (h.2.1 i (by rw [hX.1]; exact hi)).1, hcX i hi]
    · rw [(h.2.1 i (by rw [hX.1]; exact hi)).2, hvX i hi]
    · rw [fF 5 (by decide), h.2.2, hrs]
  refine r_X0_dropLatest_0 F I J ⟨fun z => ?_, fun z => ?_⟩
  · have ex : F 4 - 1 = nI (gm (kg k)) := by rw [h.1.2.2.1, hm, n1, nSub (by omega)]; congr 1
    rw [ex, n2, nMul, n1, nAdd, zN (show gm (kg k) < 2147483648 by omega), zN (show 2 * gm (kg k) < 2147483648 by omega), zN (show 2 * gm (kg k) + 1 < 2147483648 by omega), hEm.1, hEm.2.1, zN (show ga (kg k2) (gm (kg k)) < 2147483648 by omega), zN (show gb (kg k2) (gm (kg k)) < 2147483648 by omega)]
    have dr : ∀ c, c ≠ 5 → z_ui (z_ui I 5 (ga (kg k2) (gm (kg k))) (I 6 (2 * gm (kg k)))) 5 (gb (kg k2) (gm (kg k))) (I 6 (2 * gm (kg k) + 1)) c = I c := fun c hc => by rw [ui_ne _ _ hc, ui_ne _ _ hc]
    refine ⟨nIn (by omega) (by omega), nIn (by omega) (by omega), nIn (by omega) (by omega), nIn (by omega) (by omega), nIn (by omega) (by omega), nIn (by omega) (by omega), fun y => ?_, fun y => ?_⟩
    · have hoo := oI_none y (fun x hx => by have := (ho x hx).1; omega)
      subst hoo
      refine fin _ (fun c c3 c5 => dr c c5) (by rw [ui_self, ui_self]) (fun f hf => ?_)
      rw [dr 3 (by decide), (hE f (by omega)).2.2.1, hsame f hf (by simp)]
    · cases o with
      | none => exact absurd rfl y
      | some x =>
        obtain ⟨x1, x2⟩ := ho x rfl
        have e3 : zn (oI (some x)) = x := zN (by omega)
        refine ⟨nIn (show x < 300 by omega) (by omega), ?_⟩
        rw [e3]
        dsimp only
        refine fin _ (fun c c3 c5 => by rw [ui_ne _ _ c3]; exact dr c c5) (by rw [ui_ne _ _ (by decide), ui_self, ui_self]) (fun f hf => ?_)
        rw [ui_self]
        by_cases e2 : f = x
        · rw [e2, upd_self, x2]
        · rw [upd_ne _ e2, dr 3 (by decide), (hE f (by omega)).2.2.1, hsame f hf (fun q => by cases q; exact e2 rfl)]
  · rw [h.1.2.2.1, hm, n0, nEq (by omega) (by omega)] at z; omega
end
