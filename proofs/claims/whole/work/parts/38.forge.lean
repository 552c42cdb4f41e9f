/-! trays: forge -/
section
variable {t : Nat} {K : Nat → zK} {u o kd N : Nat} {F : Nat → Int32} {I : Nat → Nat → Int32} {J : Nat → Nat → Int64} {F' : Nat → Int32} {I' : Nat → Nat → Int32} {J' : Nat → Nat → Int64}
theorem RK_tray {Fz Fz' : Nat → Int32} {Iz' : Nat → Nat → Int32} {Jz Jz' : Nat → Nat → Int64} (h : RK t K u o kd N F I J F' I' J') (hF : ∀ c, c ≠ 3 → (c < 15 ∨ 26 < c) → Fz c = F c) (hJ : ∀ c, c < 3 → Jz c = J c) (hF' : ∀ c, c ≠ 7 → Fz' c = F' c) (hI' : ∀ c, (c < 17 ∨ 19 < c) → Iz' c = I' c) (hJ' : ∀ c, c < 3 → Jz' c = J' c) (h7 : Fz' 7 = Fz 3) (hT : tR Fz Jz Iz' Jz') : Rel (t + 1) (Fz, I, Jz) (Fz', Iz', Jz') := by
  obtain ⟨⟨c, c2, c3⟩, ⟨m, m2, m3, m4⟩, h3, h4, h5, h6, h8, -, -⟩ := h
  refine ⟨K, u, o, kd, N, ⟨⟨c.1, (hF 0 (by decide) (by omega)).trans c.2.1, (hF 4 (by decide) (by omega)).trans c.2.2.1, c.2.2.2.1, c.2.2.2.2.1, fcl_eq c.2.2.2.2.2.1 (hF 6 (by decide) (by omega)) rfl rfl, fcl_eq c.2.2.2.2.2.2 (hF 7 (by decide) (by omega)) rfl rfl⟩, fun i hi => ⟨(c2 i hi).1, (congrFun (hJ 0 (by omega)) i).trans (c2 i hi).2⟩, (hF 5 (by decide) (by omega)).trans c3⟩, ⟨⟨m.1, (hF' 0 (by decide)).trans m.2.1, (hF' 1 (by decide)).trans m.2.2.1, fun e he => ?_⟩, fun i hi => ⟨(congrFun (hI' 0 (by omega)) i).trans (m2 i hi).1, (congrFun (hJ' 0 (by omega)) i).trans (m2 i hi).2⟩, (hF' 4 (by decide)).trans m3, (hF' 3 (by decide)).trans m4⟩, fun j hj => ⟨(h3 j hj).1, Nat.le_succ_of_le (h3 j hj).2.1, (h3 j hj).2.2⟩, ⟨h4.1, (hF 2 (by decide) (by omega)).trans h4.2.1, (hF' 2 (by decide)).trans h4.2.2⟩, fun e he => ?_, ⟨Nat.le_succ_of_le h6.1, (hF 1 (by decide) (by omega)).trans h6.2.1, h6.2.2⟩, ⟨(hF 13 (by decide) (by omega)).trans h8.1, (hF 14 (by decide) (by omega)).trans h8.2.1, (hF' 5 (by decide)).trans h8.2.2.1, PS_fr h8.2.2.2 (fun _ _ => rfl) (fun _ _ => rfl) (hJ 2 (by omega)) (fun c c1 c2 => hI' c (by omega)) (hJ' 2 (by omega))⟩, h7, hT⟩
  · show Iz' 1 e = _ ∧ Iz' 2 e = _ ∧ Iz' 3 e = _ ∧ Iz' 4 e = _
    rw [hI' 1 (by omega), hI' 2 (by omega), hI' 3 (by omega), hI' 4 (by omega)]; exact m.2.2.2 e he
  · show Jz' 1 e = Jz 1 e
    rw [hJ' 1 (by omega), hJ 1 (by omega)]; exact h5 e he
theorem Rel_st (h : RK t K u o kd N F I J F' I' J') (w : Int32) : Rel (t + 1) (upd F 3 w, I, J) (upd F' 7 w, I', J') := by
  refine RK_tray h (fun c hc _ => upd_ne _ hc) (fun _ _ => rfl) (fun c hc => upd_ne _ hc) (fun _ _ => rfl) (fun _ _ => rfl) (by rw [upd_self, upd_self]) ?_
  intro s hs
  rw [upd_ne _ (show 15 + s ≠ 3 by omega), upd_ne _ (show 21 + s ≠ 3 by omega)]
  exact h.2.2.2.2.2.2.2.2 s hs
theorem c_why {P : Int32 → zM → Prop} {s th w : Nat} (hs : s < 6) (hF : F (15 + s) = nI th) (hth : th ≤ 4) (hw : 1 ≤ w ∧ w ≤ 4) (h10 : th = 0 → P 10 (F, I, J)) (h11 : th ≠ 0 → th ≠ w → P 11 (F, I, J)) (h0 : th = w → P 0 (F, I, J)) : AMi m_X6_whyNot [.ref 0, .ref (37 + 2 * s), .int (nI w)] (F, I, J) P := by
  refine r_X6_whyNot_0 s hs _ F I J ?_
  rw [hF, n0, nEq (by omega) (by omega), nEq (by omega) (by omega), ← n0]
  exact ⟨fun z => ⟨fun z2 => h11 z z2, fun z2 => h0 z2⟩, fun z => h10 z⟩
theorem c_pick {P : Int32 → zM → Prop} {s th w L : Nat} {x : Int32} (hs : s < 6) (hF : F (15 + s) = nI th) (hth : th ≤ 4) (hL : F (21 + s) = nI L) (hL2 : L ≤ 100) (hw : 1 ≤ w ∧ w ≤ 4) (h10 : th = 0 → P (-1) (upd F 3 10, I, J)) (h11 : th ≠ 0 → th ≠ w → P (-1) (upd F 3 11, I, J)) (h12 : th = w → (∀ i, i < L → x ≠ nI i) → P (-1) (upd F 3 12, I, J)) (h0 : ∀ i, th = w → i < L → x = nI i → P ((J (3 + s) i).toInt32) (upd F 3 0, I, J)) : AMi m_X6_pick [.ref 0, .ref (37 + 2 * s), .int (nI w), .int x] (F, I, J) P := by
  refine r_X6_pick_0 s hs _ _ F I J ?_
  refine c_why hs hF hth hw (fun z => ⟨fun w => absurd w (by decide), fun _ => r_X6_refuse_0 _ F I J (h10 z)⟩) (fun z z2 => ⟨fun w => absurd w (by decide), fun _ => r_X6_refuse_0 _ F I J (h11 z z2)⟩) (fun z => ⟨fun _ => ?_, fun w => absurd rfl w⟩)
  dsimp only
  rw [hL]
  rcases pk_ix x (n := L) (by omega) with q | q | ⟨i, hi, q⟩
  · have := h12 z (fun i hi e => by rw [e, nNeg (by omega)] at q; exact q)
    exact ⟨fun _ => r_X6_refuse_0 _ F I J this, fun w => absurd q w⟩
  · have := h12 z (fun i hi e => by rw [e, nLe (by omega) (by omega)] at q; omega)
    exact ⟨fun _ => r_X6_refuse_0 _ F I J this, fun _ => ⟨fun w => absurd w (Int32.not_lt.mpr q), fun _ => r_X6_refuse_0 _ F I J this⟩⟩
  · have := h0 i z hi q
    subst q
    rw [nNeg (by omega), nLt (by omega) (by omega), zN (by omega)]
    exact ⟨fun w => w.elim, fun _ => ⟨fun _ => ⟨nIn (by omega) (by omega), r_X6_grant_0 _ F I J this⟩, fun w => absurd hi w⟩⟩
/-- the reference's check of the thing -/
theorem m_61 {P : Int32 → zM → Prop} {th w : Nat} {x1 x2 x3 x5 : Int32} (hth : th ≤ 4) (hw : 1 ≤ w ∧ w ≤ 4) (hx : (x2 = 5 ∧ w = 2) ∨ (¬ x2 = 5 ∧ x2 + 1 = nI w)) (h10 : th = 0 → P (-1) (upd F 7 10, I, J)) (h11 : th ≠ 0 → th ≠ w → P (-1) (upd F 7 11, I, J)) (h0 : th = w → AW m_X7_forge (z_pi P) 97 [some (.ref 0), some (.int x1), some (.int x2), some (.int x3), some (.int (nI th)), some (.int x5), none, none] [] (F, I, J)) :
    AW m_X7_forge (z_pi P) 61 [some (.ref 0), some (.int x1), some (.int x2), some (.int x3), some (.int (nI th)), some (.int x5), none, none] [] (F, I, J) := by
  refine r_X7_forge_61 _ _ _ _ _ F I J ?_
  have e0 : (nI th = 0) = (th = 0) := by rw [n0, nEq (by omega) (by omega)]
  have e2 : (nI th = 2) = (th = 2) := by rw [n2, nEq (by omega) (by omega)]
  rw [e0, e2]
  refine ⟨fun z => ⟨fun z5 => ?_, fun z5 => ?_⟩, fun z => r_X7_refused_0 _ F I J (h10 z)⟩
  · rcases hx with ⟨q, -⟩ | ⟨-, q⟩
    · exact absurd q z5
    · rw [q, nEq (by omega) (by omega)]
      exact ⟨fun e => h0 e, fun e => r_X7_refused_0 _ F I J (h11 z e)⟩
  · rcases hx with ⟨-, q⟩ | ⟨q, -⟩
    · subst q
      exact ⟨fun e => h0 e, fun e => r_X7_refused_0 _ F I J (h11 z e)⟩
    · exact absurd z5 q
theorem i64_32 (x : Int32) : x.toInt64.toInt32 = x := by simp
end
