/-! cut() of the class -/
section
variable {g : zG} {F : Nat → Int32} {I : Nat → Nat → Int32} {J : Nat → Nat → Int64}
theorem howG0 {m e : Nat} {s : Nat → Nat} {r : Nat → Int32} (hr : ∀ f, f < m → r f = nI (s f)) (hs : ∀ f, f < m → s f < 3) : ∀ f, f < m → upd r e 0 f = nI (sG s e none f) ∧ sG s e none f < 3 := by
  intro f hf
  refine ⟨?_, sG_3 f (hs f hf)⟩
  show upd r e 0 f = nI (un s e 0 f)
  by_cases e1 : f = e
  · rw [e1, upd_self, un_self]; rfl
  · rw [upd_ne _ e1, un_ne _ _ e1]; exact hr f hf
theorem howG1 {m e x : Nat} {s : Nat → Nat} {r : Nat → Int32} (hr : ∀ f, f < m → r f = nI (s f)) (hs : ∀ f, f < m → s f < 3) : ∀ f, f < m → upd (upd r e 0) x 1 f = nI (sG s e (some x) f) ∧ sG s e (some x) f < 3 := by
  intro f hf
  refine ⟨?_, sG_3 f (hs f hf)⟩
  show upd (upd r e 0) x 1 f = nI (un (un s e 0) x 1 f)
  by_cases e2 : f = x
  · rw [e2, upd_self, un_self]; rfl
  · rw [upd_ne _ e2, un_ne _ _ e2]
    by_cases e1 : f = e
    · rw [e1, upd_self, un_self]; rfl
    · rw [upd_ne _ e1, un_ne _ _ e1]; exact hr f hf
theorem oI_none {o : Option Nat} (h : oI o = -1) (hb : ∀ x, o = some x → x < 300) : o = none := by
  cases o with
  | none => rfl
  | some x =>
    have h2 : nI x = -1 := h
    rw [nNe (by have := hb x rfl; omega)] at h2
    exact h2.elim
theorem c_heirR {P : Int32 → zM → Prop} {kd e : Nat} (h : cQ g F I) (hfo : fo (gm g) (ga g) (gb g) (Tr g)) (hL : kd = 1 → gL g) (hkd : kd < 3) (h2 : F 2 = nI kd) (h5 : F 5 = nI (rs g)) (he : e < gm g) (hse : gs g e = 1)
    (hP : ∀ F2 I2 oo v2, eGo g (J 1) kd e oo v2 → cQ (gSV g (gs g) v2) F2 I2 → F2 5 = nI (sumN v2 (gm g)) → rs g ≤ sumN v2 (gm g) → (∀ p, rs g ≤ p → p < sumN v2 (gm g) → ∃ f, f < gm g ∧ I2 7 p = nI f) → (∀ f, f < gm g → v2 f = gv g f + oc (I2 7) f (rs g) (sumN v2 (gm g))) → (∀ c, (c < 5 ∨ 12 < c) → F2 c = F c) → I2 0 = I 0 → (∀ c, 22 < c → I2 c = I c) → (∀ p, p < rs g → I2 7 p = I 7 p) → P (oI oo) (F2, I2, J)) :
    AMi m_X6_findHeir [.ref 0, .int (nI e), .int 1] (F, I, J) P := by
  have same : ∀ F2 I2 oo, eGo g (J 1) kd e oo (gv g) → cQ g F2 I2 → frC F I F2 I2 → P (oI oo) (F2, I2, J) := fun F2 I2 oo z1 z2 z3 => by
    refine hP F2 I2 oo (gv g) z1 z2 (by rw [z3.1 5 (by omega)]; exact h5) (Nat.le_refl _) (fun p p1 p2 => ?_) (fun f _ => ?_) (fun c hc => z3.1 c (by omega)) (z3.2 0 (by omega)) (fun c hc => z3.2 c (by omega)) (fun p _ => by rw [z3.2 7 (by omega)])
    · have : rs g = sumN (gv g) (gm g) := rfl
      omega
    · show gv g f = gv g f + oc (I2 7) f (rs g) (rs g)
      rw [oc_self]; rfl
  refine r_X6_findHeir_0 _ _ F I J ⟨fun z => ?_, fun z => ⟨fun z2 => ?_, fun z2 => ?_⟩⟩
  · rw [h2, n1, nEq (by omega) (by omega)] at z
    refine c_heirRaise h hfo (hL z) he hse h5 (fun F2 I2 q1 q2 q3 q4 => ?_) (fun F2 I2 i x q1 q2 q3 q4 => ?_)
    · obtain ⟨ρ, a1, a2, a3, a4, a5⟩ := q2
      subst a2
      exact hP F2 I2 none _ (Or.inr (Or.inr (Or.inr ⟨hse, z, Or.inl ⟨q1, rfl, rfl⟩⟩))) q3 a1 a3 a4 a5 q4.1 (q4.2.1 0 (by omega)) (fun c hc => q4.2.1 c (by omega)) q4.2.2
    · obtain ⟨ρ, a1, a2, a3, a4, a5⟩ := q2
      subst a2
      exact hP F2 I2 (some x) _ (Or.inr (Or.inr (Or.inr ⟨hse, z, Or.inr ⟨i, x, q1, rfl, rfl⟩⟩))) q3 a1 a3 a4 a5 q4.1 (q4.2.1 0 (by omega)) (fun c hc => q4.2.1 c (by omega)) q4.2.2
  · rw [h2, n2, nEq (by omega) (by omega)] at z2
    exact c_lightest h he (fun F2 I2 q1 q2 => same F2 I2 _ (Or.inr (Or.inr (Or.inl ⟨hse, z2, rfl, rfl⟩))) q1 q2)
  · rw [h2, n1, nEq (by omega) (by omega)] at z
    rw [h2, n2, nEq (by omega) (by omega)] at z2
    exact same F I none (Or.inr (Or.inl ⟨hse, by omega, rfl, rfl⟩)) h frC_refl
theorem c_heirA {P : Int32 → zM → Prop} {kd e : Nat} (h : cQ g F I) (hkd : kd < 3) (h2 : F 2 = nI kd) (he : e < gm g) (hse : gs g e = 1)
    (hP : ∀ F2 I2 oo v2, eGo g (J 1) kd e oo v2 → cQ g F2 I2 → frC F I F2 I2 → P (oI oo) (F2, I2, J)) :
    AMi m_X6_findHeir [.ref 0, .int (nI e), .int 0] (F, I, J) P := by
  refine r_X6_findHeir_0 _ _ F I J ⟨fun z => ?_, fun z => ⟨fun z2 => ?_, fun z2 => ?_⟩⟩
  · rw [h2, n1, nEq (by omega) (by omega)] at z
    exact c_heirAsk h he (fun F2 I2 q1 q2 q3 => hP F2 I2 none _ (Or.inr (Or.inr (Or.inr ⟨hse, z, Or.inl ⟨q1, rfl, rfl⟩⟩))) q2 q3) (fun F2 I2 i x q1 q2 q3 => hP F2 I2 (some x) _ (Or.inr (Or.inr (Or.inr ⟨hse, z, Or.inr ⟨i, x, q1, rfl, rfl⟩⟩))) q2 q3)
  · rw [h2, n2, nEq (by omega) (by omega)] at z2
    exact c_lightest h he (fun F2 I2 q1 q2 => hP F2 I2 _ _ (Or.inr (Or.inr (Or.inl ⟨hse, z2, rfl, rfl⟩))) q1 q2)
  · rw [h2, n1, nEq (by omega) (by omega)] at z
    rw [h2, n2, nEq (by omega) (by omega)] at z2
    exact hP F I none _ (Or.inr (Or.inl ⟨hse, by omega, rfl, rfl⟩)) h frC_refl
theorem c_cut {P : Int32 → zM → Prop} {x : Int32} {kd o u : Nat} (h : cQ g F I) (hfo : fo (gm g) (ga g) (gb g) (Tr g)) (hL : kd = 1 → gL g) (hsp : kd = 2 → SpI g) (hkd : kd < 3) (h2 : F 2 = nI kd) (h5 : F 5 = nI (rs g)) (ho : o < 20) (hu : u ≤ 20) (h13 : F 13 = nI o) (h14 : F 14 = nI u)
    (hbad : (∀ e, e < gm g → x = nI e → gs g e = 0) → P (-2) (F, I, J))
    (hgo : ∀ e oo v2, e < gm g → x = nI e → gs g e ≠ 0 → eGo g (J 1) kd e oo v2 → ∀ F4 I4 J4 o2 f u1, rs g ≤ sumN v2 (gm g) → (∀ p, rs g ≤ p → p < sumN v2 (gm g) → ∃ f, f < gm g ∧ I4 7 p = nI f) → (∀ f, f < gm g → v2 f = gv g f + oc (I4 7) f (rs g) (sumN v2 (gm g))) → (∀ p, p < rs g → I4 7 p = I 7 p) → cQ (gSV g (sG (gs g) e oo) v2) F4 I4 → F4 5 = nI (sumN v2 (gm g)) → (∀ c, (c < 4 ∨ 14 < c) → F4 c = F c) → I4 0 = I 0 → (∀ c, c ≠ 2 → J4 c = J c) → u = u1 + f → u1 < 20 → (f = 0 ∨ (f = 1 ∧ u = 20)) → o2 < 20 → F4 13 = nI o2 → F4 14 = nI (u1 + 1) → (∀ j, j < u1 → eEq I J ((o + (j + f)) % 20) I4 J4 ((o2 + j) % 20)) → I4 23 ((o2 + u1) % 20) = (if gs g e = 1 then 5 else 6) → I4 24 ((o2 + u1) % 20) = nI e → I4 25 ((o2 + u1) % 20) = oI oo → J4 2 ((o2 + u1) % 20) = (nI (rs g)).toInt64 → P (oI oo) (F4, I4, J4)) :
    AMi m_X6_cut [.ref 0, .int x] (F, I, J) P := by
  have hn := h.1.1
  have hmm := h.1.2.1
  have hst3 : ∀ e, e < gm g → gs g e < 3 := fun e he => (h.1.2.2 e he).2.2.2.1
  refine r_X6_cut_0 _ F I J ?_
  refine c_isThere h.1 h.2.2.2.1 h.2.2.1 (fun e he hx hne => ⟨fun _ => ⟨by rw [hx]; exact nIn (by omega) (by omega), ?_⟩, fun z => absurd z (by decide)⟩) (fun hx => ⟨fun z => absurd rfl z, fun _ => hbad hx⟩)
  subst hx
  have b1 : vp_in (nI e) 300 := nIn (by omega) (by omega)
  have tail : ∀ (x2 : Int32) F3 I3 oo v2, (x2 = 0 → gs g e ≠ 1) → (¬ x2 = 0 → gs g e = 1) → eGo g (J 1) kd e oo v2 → cQ (gSV g (sG (gs g) e oo) v2) F3 I3 → F3 5 = nI (sumN v2 (gm g)) → rs g ≤ sumN v2 (gm g) → (∀ p, rs g ≤ p → p < sumN v2 (gm g) → ∃ f, f < gm g ∧ I3 7 p = nI f) → (∀ f, f < gm g → v2 f = gv g f + oc (I3 7) f (rs g) (sumN v2 (gm g))) → (∀ c, (c < 5 ∨ 12 < c) → F3 c = F c) → I3 0 = I 0 → (∀ c, 22 < c → I3 c = I c) → (∀ p, p < rs g → I3 7 p = I 7 p) →
      AW m_X6_cut (z_pi P) 84 [some (.ref 0), some (.int (nI e)), some (.int x2), some (.int (nI (rs g))), some (.int (oI oo))] [] (F3, I3, J) := by
    intro x2 F3 I3 oo v2 k1 k2 a1 a2 a3 a4 a5 a6 a7 a8 a9 a10
    have nt : ∀ x1 : Int32, x1 = (if gs g e = 1 then 5 else 6) → AMv m_X3_note [.ref 31, .int x1, .int (nI e), .int (oI oo), .long ((nI (rs g)).toInt64)] (F3, I3, J) (fun M => P (oI oo) M) := fun x1 hx1 => by
      refine c_note ho hu (by rw [a7 13 (by omega)]; exact h13) (by rw [a7 14 (by omega)]; exact h14) (fun F4 I4 J4 o2 f u1 c1 c2 c3 c4 f13 f14 cF cI cJ c5 e1 e2 e3 e4 => ?_)
      have i7 : I4 7 = I3 7 := cI 7 (by omega)
      refine hgo e oo v2 he rfl hne a1 F4 I4 J4 o2 f u1 a4 (by rw [i7]; exact a5) (by rw [i7]; exact a6) (by rw [i7]; exact a10) (cQ_note a2 cF cI) (by rw [cF 5 (by decide) (by decide)]; exact a3) (fun c hc => by rw [cF c (by omega) (by omega), a7 c (by omega)]) (by rw [cI 0 (by omega)]; exact a8) cJ c1 c2 c3 c4 f13 f14 (fun j hj => ?_) (by rw [e1]; exact hx1) e2 e3 e4
      obtain ⟨q1, q2, q3, q4⟩ := c5 j hj
      exact ⟨by rw [q1, a9 23 (by omega)], by rw [q2, a9 24 (by omega)], by rw [q3, a9 25 (by omega)], q4⟩
    exact r_X6_cut_84 _ _ _ _ F3 I3 J ⟨fun z => nt 6 (if_neg (k1 z)).symm, fun z => nt 5 (if_pos (k2 z)).symm⟩
  have hE := h.2.2.2.1
  dsimp only
  rw [zN (show e < 2147483648 by omega), (hE e he).2.2.1, h5]
  refine ⟨fun z => ⟨b1, ?_⟩, fun z => ?_⟩
  · have z2 : gs g e ≠ 1 := fun q => z (by rw [q]; rfl)
    have := hst3 e he
    refine tail 0 F (z_ui I 3 e 0) none (gv g) (fun _ => z2) (fun q => absurd rfl q) (Or.inl ⟨by omega, rfl, rfl⟩) (cQ_how h (fun c hc => ui_ne _ _ hc) (fun f hf => ?_)) h5 (Nat.le_refl _) (fun p p1 p2 => ?_) (fun f _ => ?_) (fun _ _ => rfl) (ui_ne _ _ (by decide)) (fun c hc => ui_ne _ _ (by omega)) (fun p _ => by rw [ui_ne _ _ (by decide)])
    · rw [ui_self]; exact howG0 (fun f hf => (hE f hf).2.2.1) hst3 f hf
    · have : rs g = sumN (gv g) (gm g) := rfl
      omega
    · show gv g f = gv g f + oc (z_ui I 3 e 0 7) f (rs g) (rs g)
      rw [oc_self]; rfl
  · have hse : gs g e = 1 := by
      have := hst3 e he
      rw [n1, nEq (by omega) (by omega)] at z; exact z
    refine c_heirR h hfo hL hkd h2 h5 he hse (fun F2 I2 oo v2 q1 q2 q3 q4 q5 q6 q7 q8 q9 q10 => ⟨b1, ?_⟩)
    have hE2 : ∀ f, f < gm g → I2 3 f = nI (gs g f) := fun f hf => (q2.2.2.2.1 f hf).2.2.1
    have hb : ∀ x, oo = some x → x < 300 := fun x hx => by
      have := (eGo_heir hfo hL hsp he q1 x hx).1
      omega
    refine ⟨fun z => ?_, fun z => ?_⟩
    · have hoo := oI_none z hb
      subst hoo
      exact tail 1 F2 (z_ui I2 3 e 0) none v2 (fun q => absurd q (by decide)) (fun _ => hse) q1 (cQ_how (g := gSV g (gs g) v2) q2 (fun c hc => ui_ne _ _ hc) (fun f hf => by rw [ui_self]; exact howG0 hE2 hst3 f hf)) q3 q4 (by rw [ui_ne _ _ (by decide)]; exact q5) (by rw [ui_ne _ _ (by decide)]; exact q6) q7 (by rw [ui_ne _ _ (by decide)]; exact q8) (fun c hc => by rw [ui_ne _ _ (by omega)]; exact q9 c hc) (by rw [ui_ne _ _ (by decide)]; exact q10)
    · cases oo with
      | none => exact absurd rfl z
      | some x =>
        have hx3 := hb x rfl
        refine ⟨nIn hx3 (by omega), ?_⟩
        have e3 : zn (oI (some x)) = x := zN (by omega)
        rw [e3]
        exact tail 1 F2 (z_ui (z_ui I2 3 e 0) 3 x 1) (some x) v2 (fun q => absurd q (by decide)) (fun _ => hse) q1 (cQ_how (g := gSV g (gs g) v2) q2 (fun c hc => by rw [ui_ne _ _ hc, ui_ne _ _ hc]) (fun f hf => by rw [ui_self, ui_self]; exact howG1 hE2 hst3 f hf)) q3 q4 (by rw [ui_ne _ _ (by decide), ui_ne _ _ (by decide)]; exact q5) (by rw [ui_ne _ _ (by decide), ui_ne _ _ (by decide)]; exact q6) q7 (by rw [ui_ne _ _ (by decide), ui_ne _ _ (by decide)]; exact q8) (fun c hc => by rw [ui_ne _ _ (by omega), ui_ne _ _ (by omega)]; exact q9 c hc) (by rw [ui_ne _ _ (by decide), ui_ne _ _ (by decide)]; exact q10)
end
