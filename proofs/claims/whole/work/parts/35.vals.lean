/-! steps that change values and names -/
section
variable {t : Nat} {K : Nat → zK} {u o kd N : Nat} {F : Nat → Int32} {I : Nat → Nat → Int32} {J : Nat → Nat → Int64} {F' : Nat → Int32} {I' : Nat → Nat → Int32} {J' : Nat → Nat → Int64}
theorem RK_fr {F2 F2' : Nat → Int32} {I2 I2' : Nat → Nat → Int32} (h : RK t K u o kd N F I J F' I' J') (hc : cQ (kg (K u)) F2 I2) (hfc : frC F I F2 I2) (hm : mQ (kg (K u)) F2' I2') (hfm : frM F' I' F2' I2') : RK t K u o kd N F2 I2 J F2' I2' J' := by
  obtain ⟨q1, q2, q3, q4, q5, q6, q7, q8, q9⟩ := RK_q h hc hfc hm hfm
  refine ⟨q1, q2, fun j hj => ⟨(q3 j hj).1, (h.2.2.1 j hj).2.1, (q3 j hj).2.2⟩, q4, q5, ⟨h.2.2.2.2.2.1.1, q6.2⟩, q7, q8, q9⟩
theorem shK_top (K : Nat → zK) (f u1 : Nat) (k : zK) : shK K f u1 k (u1 + 1) = k := if_neg (by omega)
/-- the end of a change -/
theorem RK_end {f u1 o2 N2 : Nat} {k2 : zK} {Fz Fz' : Nat → Int32} {Iz Iz' : Nat → Nat → Int32} {Jz Jz' : Nat → Nat → Int64} (h : RK t K u o kd N F I J F' I' J') (c1 : u = u1 + f)
    (hk : kI kd k2) (hr : kr k2 ≤ t + 1) (hkc : ∀ i, i < gn (kg k2) → kc k2 i ≤ N2) (hN : N ≤ N2) (hN2 : N2 ≤ t + 1) (hcM : cM k2 Fz Iz Jz) (hmM : mM k2 Fz' Iz' Jz') (f2 : Fz 2 = F 2) (f2' : Fz' 2 = F' 2) (hw : ∀ e, e < gm (kg k2) → Jz' 1 e = Jz 1 e) (f1 : Fz 1 = nI N2) (hz : ∀ i, gn (kg k2) ≤ i → i < 100 → Iz 0 i = 0) (f13 : Fz 13 = nI o2) (f14 : Fz 14 = nI (u1 + 1)) (f5 : Fz' 5 = nI (u1 + 1)) (hPS : PS (shK K f u1 k2) (u1 + 1) o2 Iz Jz Iz' Jz') (f7 : Fz' 7 = Fz 3) (ht : tR Fz Jz Iz' Jz') : Rel (t + 1) (Fz, Iz, Jz) (Fz', Iz', Jz') := by
  refine ⟨shK K f u1 k2, u1 + 1, o2, kd, N2, ?_, ?_, fun j hj => ?_, ⟨h.2.2.2.1.1, ?_, ?_⟩, ?_, ⟨hN2, f1, ?_⟩, ⟨f13, f14, f5, hPS⟩, f7, ht⟩
  · rw [shK_top]; exact hcM
  · rw [shK_top]; exact hmM
  · by_cases e : j = u1 + 1
    · subst e
      rw [shK_top]; exact ⟨hk, hr, hkc⟩
    · have s1 : shK K f u1 k2 j = K (j + f) := if_pos (by omega)
      rw [s1]
      obtain ⟨a, b, c⟩ := h.2.2.1 (j + f) (by omega)
      exact ⟨a, by omega, fun i hi => Nat.le_trans (c i hi) hN⟩
  · exact f2.trans h.2.2.2.1.2.1
  · exact f2'.trans h.2.2.2.1.2.2
  · rw [shK_top]; exact hw
  · rw [shK_top]; exact hz
theorem RK_val {f u1 o2 : Nat} {V2 : Nat → Int64} {Fz Fz' : Nat → Int32} {Iz Iz' : Nat → Nat → Int32} {Jz Jz' : Nat → Nat → Int64} (h : RK t K u o kd N F I J F' I' J') (c1 : u = u1 + f)
    (hc : cQ (kg (K u)) Fz Iz) (hF : ∀ c, (c < 6 ∨ 14 < c) → Fz c = F c) (hI : Iz 0 = I 0) (hJ : ∀ c, c ≠ 0 → c ≠ 2 → Jz c = J c) (hJ0 : ∀ k, k < gn (kg (K u)) → Jz 0 k = V2 k)
    (hm : mQ (kg (K u)) Fz' Iz') (hF' : ∀ c, c ≠ 5 → c ≠ 6 → Fz' c = F' c) (hI' : ∀ c, (c < 5 ∨ 16 < c) → Iz' c = I' c) (hJ' : ∀ c, c ≠ 0 → c ≠ 2 → Jz' c = J' c) (hJ0' : ∀ k, k < gn (kg (K u)) → Jz' 0 k = V2 k)
    (f13 : Fz 13 = nI o2) (f14 : Fz 14 = nI (u1 + 1)) (f5 : Fz' 5 = nI (u1 + 1)) (hPS : PS (shK K f u1 (kg (K u), kc (K u), km (K u), kr (K u), V2)) (u1 + 1) o2 Iz Jz Iz' Jz') : Rel (t + 1) (Fz, Iz, Jz) (Fz', Iz', Jz') := by
  have h3 := h.2.2.1 u (Nat.le_refl _)
  have h6 := h.2.2.2.2.2.1
  refine RK_end (k2 := (kg (K u), kc (K u), km (K u), kr (K u), V2)) (N2 := N) h c1 h3.1 (Nat.le_succ_of_le h3.2.1) h3.2.2 (Nat.le_refl _) (by omega) ⟨hc, fun i hi => ⟨by rw [hI]; exact (h.1.2.1 i hi).1, hJ0 i hi⟩, by rw [hF 5 (by omega)]; exact h.1.2.2⟩ ⟨hm, fun i hi => ⟨by rw [hI' 0 (by omega)]; exact (h.2.1.2.1 i hi).1, hJ0' i hi⟩, by rw [hF' 4 (by omega) (by omega)]; exact h.2.1.2.2.1, by rw [hF' 3 (by omega) (by omega)]; exact h.2.1.2.2.2⟩ (hF 2 (by omega)) (hF' 2 (by omega) (by omega)) (fun e he => by rw [hJ 1 (by omega) (by omega), hJ' 1 (by omega) (by omega)]; exact h.2.2.2.2.1 e he) (by rw [hF 1 (by omega)]; exact h6.2.1) (by rw [hI]; exact h6.2.2) f13 f14 f5 hPS (by rw [hF' 7 (by omega) (by omega), hF 3 (by omega)]; exact h.2.2.2.2.2.2.2.1) ?_
  intro s hs
  rw [hF (15 + s) (by omega), hF (21 + s) (by omega), hI' 17 (by omega), hI' 18 (by omega), hI' 19 (by omega), hJ (3 + s) (by omega) (by omega), hJ' 3 (by omega) (by omega)]
  exact h.2.2.2.2.2.2.2.2 s hs
theorem Ent_gX (g : zG) : gX g g := ⟨rfl, Nat.le_refl _, fun _ _ => ⟨rfl, rfl⟩⟩
theorem cQ_note {g : zG} {F2 : Nat → Int32} {I2 : Nat → Nat → Int32} (hc : cQ g F I) (hF : ∀ c, c ≠ 13 → c ≠ 14 → F2 c = F c) (hI : ∀ c, (c < 23 ∨ 25 < c) → I2 c = I c) : cQ g F2 I2 := by
  obtain ⟨a1, a2, a3, a4, a5, a6, a7⟩ := hc
  refine ⟨a1, by rw [hF 0 (by decide) (by decide)]; exact a2, by rw [hF 4 (by decide) (by decide)]; exact a3, fun e he => ?_, ?_, fcl_eq a6 (hF 6 (by decide) (by decide)) (hI 8 (by omega)) (hI 11 (by omega)), fcl_eq a7 (hF 7 (by decide) (by decide)) (hI 12 (by omega)) (hI 15 (by omega))⟩
  · rw [hI 1 (by omega), hI 2 (by omega), hI 3 (by omega), hI 4 (by omega)]; exact a4 e he
  · unfold gC
    rw [hI 5 (by omega), hI 6 (by omega)]; exact a5
theorem mQ_ch {g : zG} {I2 : Nat → Nat → Int32} {x : Int32} (hm : mQ g F I) (hI : ∀ c, (c < 5 ∨ 10 < c) → I2 c = I c) : mQ g (upd F 5 x) I2 := by
  obtain ⟨a1, a2, a3, a4⟩ := hm
  refine ⟨a1, by rw [upd_ne _ (by decide)]; exact a2, by rw [upd_ne _ (by decide)]; exact a3, fun e he => ?_⟩
  rw [hI 1 (by omega), hI 2 (by omega), hI 3 (by omega), hI 4 (by omega)]; exact a4 e he
theorem s_set {x : Int32} {v : Int64} (h : RK t K u o kd N F I J F' I' J') : AMi m_X6_set [.ref 0, .int x, .long v] (F, I, J) (fun r C => AMi m_X7_set [.ref 0, .int x, .long v] (F', I', J') (fun r' M => r' = r ∧ Rel (t + 1) C M)) := by
  have hc := h.1.1
  have hm := h.2.1.1
  have hn := hc.1.1
  have hmm := hc.1.2.1
  have h7 := h.2.2.2.2.2.2.1
  refine r_X6_set_0 _ _ F I J ?_
  refine c_isKnot hn hc.2.1 (fun a ha hx => ⟨fun _ => ⟨by rw [hx]; exact nIn (by omega) (by omega), ?_⟩, fun z => absurd z (by decide)⟩) (fun hx => ⟨fun z => absurd rfl z, fun _ => ?_⟩)
  · subst hx
    refine c_note h7.2.2.2.1 h7.2.2.2.2.1 h7.1 h7.2.1 (fun F2 I2 J2 o2 f u1 c1 c2 c3 c4 f13 f14 cF cI cJ c5 e1 e2 e3 e4 => ⟨nIn (by omega) (by omega), ?_⟩)
    refine r_X7_set_0 _ _ F' I' J' (m_onf_ok hm ha ?_)
    refine m_changes hn hmm h7.2.2.2.2.1 hm.2.1 hm.2.2.1 h7.2.2.1 (fun I2' J2' f2 u2 d1 d2 d3 dI dJ d4 d5 => ⟨nIn (by omega) (by omega), rfl, ?_⟩)
    have eu : u2 = u1 := by omega
    dsimp only at e4 ⊢
    rw [zN (show a < 2147483648 by omega)] at e4 ⊢
    refine RK_val (f := f) (u1 := u1) (o2 := o2) (V2 := un (kv (K u)) a v) h c1 (cQ_note hc cF cI) (fun c hc => cF c (by omega) (by omega)) (cI 0 (by omega)) (fun c c1 c2 => by rw [ul_ne _ _ c1]; exact cJ c c2) (fun k hk => ?_) (mQ_ch hm dI) (fun c c1 c2 => upd_ne _ c1) (fun c hc => dI c (by omega)) (fun c c1 c2 => by rw [ul_ne _ _ c1]; exact dJ c c2) (fun k hk => ?_) f13 f14 (by rw [upd_self, eu]) ?_
    · rw [ul_self]
      by_cases e : k = a
      · rw [e, updL_self, un_self]
      · rw [updL_ne _ e, un_ne _ _ e, cJ 0 (by decide)]; exact (h.1.2.1 k hk).2
    · rw [ul_self]
      by_cases e : k = a
      · rw [e, updL_self, un_self]
      · rw [updL_ne _ e, un_ne _ _ e, dJ 0 (by decide)]; exact (h.2.1.2.1 k hk).2
    · refine PS_fr (PS_push (k2 := (kg (K u), kc (K u), km (K u), kr (K u), un (kv (K u)) a v)) h7.2.2.2 (fun j hj => (h.2.2.1 j hj).1.1) h.2.1 c1 c2 c3 c4 c5 (cI 7 (by omega)) d1 d2 d3 d4 d5 e1 e2 e3 e4 ?_) (fun _ _ => rfl) (fun _ _ => rfl) (ul_ne _ _ (by decide)) (fun _ _ _ => rfl) (ul_ne _ _ (by decide))
      exact ⟨Ent_gX _, Nat.le_refl _, Or.inl ⟨rfl, rfl, fun _ _ => rfl, a, ha, rfl, (h.1.2.1 a ha).2, fun i _ hne => un_ne _ _ hne⟩⟩
  · exact r_X7_set_0 _ _ F' I' J' (m_onf_bad hm hx ⟨rfl, Rel_0 h⟩)
theorem m_add_loop {P : Int32 → zM → Prop} {l : Nat} {K : Nat → Nat} (v : Int64) (hl : l < 100) (hF : F 6 = nI (l + 1)) (hK : ∀ i, i ≤ l → I 15 i = nI (K i) ∧ K i < 100) (hi : ∀ i j, i ≤ l → j ≤ l → K i = K j → i = j)
    (hP : ∀ J2 : Nat → Nat → Int64, (∀ j, j ≠ 0 → J2 j = J j) → (∀ k, J2 0 k = zif (∃ i, i ≤ l ∧ K i = k) (J 0 k + v) (J 0 k)) → P (nI (l + 1)) (F, I, J2)) :
    ∀ d i J2, i + d = l + 1 → (∀ j, j ≠ 0 → J2 j = J j) → (∀ k, J2 0 k = zif (∃ j, j < i ∧ K j = k) (J 0 k + v) (J 0 k)) → AW m_X7_add (z_pi P) 38 [some (.ref 0), none, none, some (.long v), none, some (.int (nI i))] [] (F, I, J2) := by
  intro d
  induction d with
  | zero =>
    intro i J2 hd g1 g2
    refine r_X7_add_38 _ _ F I J2 ?_
    rw [hF, nLe (by omega) (by omega)]
    refine ⟨fun _ => hP J2 g1 (fun k => by rw [g2 k]; exact zif_congr ⟨fun ⟨j, j1, j2⟩ => ⟨j, by omega, j2⟩, fun ⟨j, j1, j2⟩ => ⟨j, by omega, j2⟩⟩ _ _), fun z => absurd (show l + 1 ≤ i by omega) z⟩
  | succ d ih =>
    intro i J2 hd g1 g2
    have hk := hK i (by omega)
    refine r_X7_add_38 _ _ F I J2 ?_
    rw [hF, nLe (by omega) (by omega), zN (show i < 2147483648 by omega), hk.1, zN (show K i < 2147483648 by omega), nI_1 i]
    refine ⟨fun z => absurd z (by omega), fun _ => ⟨nIn (by omega) (by omega), nIn (by omega) (by omega), nIn (by omega) (by omega), ih (i + 1) _ (by omega) (fun j hj => by rw [ul_ne _ _ hj]; exact g1 j hj) (fun k => ?_)⟩⟩
    rw [ul_self]
    by_cases e : k = K i
    · subst e
      rw [updL_self, g2 (K i), zif_neg, zif_pos]
      · exact ⟨i, by omega, rfl⟩
      · rintro ⟨j, j1, j2⟩
        have := hi j i (by omega) (by omega) j2
        omega
    · rw [updL_ne _ e, g2 k]
      refine zif_congr ⟨fun ⟨j, j1, j2⟩ => ⟨j, by omega, j2⟩, fun ⟨j, j1, j2⟩ => ⟨j, ?_, j2⟩⟩ _ _
      by_cases e2 : j = i
      · subst e2; exact absurd j2.symm e
      · omega
theorem s_add {x y : Int32} {v : Int64} (h : RK t K u o kd N F I J F' I' J') : AMi m_X6_add [.ref 0, .int x, .int y, .long v] (F, I, J) (fun r C => AMi m_X7_add [.ref 0, .int x, .int y, .long v] (F', I', J') (fun r' M => r' = r ∧ Rel (t + 1) C M)) := by
  have hc := h.1.1
  have hm := h.2.1.1
  have hn := hc.1.1
  have hmm := hc.1.2.1
  refine r_X6_add_0 _ _ _ F I J ?_
  refine c_layTrack hc (fun hx => ⟨fun z => absurd rfl z, fun _ => ?_⟩) (fun a b F2 I2 ha hb hx hy hno h8 hQ hfr => ⟨fun _ => ⟨fun z => absurd rfl z, fun _ => ?_⟩, fun z => absurd z (by decide)⟩) (fun a b F2 I2 l K2 S ha hb hx hy hw hl h8 hK hS hQ hfr => ⟨fun _ => ⟨fun _ => ?_, fun z => by rw [nNe (by omega)] at z; exact z.elim⟩, fun z => by rw [nNe2 (by omega)] at z; exact z.elim⟩)
  · exact r_X7_add_0 _ _ _ F' I' J' (m_two_bad hm hx ⟨rfl, Rel_0 h⟩)
  · subst hx; subst hy
    refine r_X7_add_0 _ _ _ F' I' J' (m_two_ok hm ha hb (m_finds hm ha hb (fun I3 q1 q2 _ _ => ⟨fun z => absurd rfl z, fun _ => ⟨rfl, ?_⟩⟩) (fun F3 I3 l3 K3 S3 _ _ w _ _ _ _ _ => absurd (isW_all w) hno)))
    exact ⟨K, u, o, kd, N, RK_q h hQ hfr q1 q2⟩
  · subst hx; subst hy
    have h7 := h.2.2.2.2.2.2.1
    have a13 : F2 13 = nI o := by rw [hfr.1 13 (by omega)]; exact h7.1
    have a14 : F2 14 = nI u := by rw [hfr.1 14 (by omega)]; exact h7.2.1
    refine c_note h7.2.2.2.1 h7.2.2.2.2.1 a13 a14 (fun F3 I3 J3 o2 f u1 c1 c2 c3 c4 f13 f14 cF cI cJ c5 e1 e2 e3 e4 => ?_)
    refine c_addOnTrack (l := l) (K := K2) v (by omega) (by rw [cF 8 (by decide) (by decide)]; exact h8) (fun i hi => ⟨by rw [cI 16 (by omega)]; exact (hK i hi).1, by have := (hK i hi).2; omega⟩) hw.2.2.2 (fun J4 j1 j2 => ?_)
    refine r_X7_add_0 _ _ _ F' I' J' (m_two_ok hm ha hb (m_finds hm ha hb (fun I3 q1 q2 z _ => absurd (isW_all hw) z) (fun F5 I5 l3 K3 S3 q1 q2 w w2 e6 e15 _ _ => ⟨fun _ => ?_, fun z => absurd z (by decide)⟩)))
    have hR := RK_fr h hQ hfr q1 q2
    have hR7 := hR.2.2.2.2.2.2.1
    refine m_changes hn hmm h7.2.2.2.2.1 q1.2.1 q1.2.2.1 hR7.2.2.1 (fun I6 J6 f2 u2 d1 d2 d3 dI dJ d4 d5 => ?_)
    have eu : u2 = u1 := by omega
    obtain ⟨o1, o2', -⟩ := isW_one (RK_fo h) _ _ _ _ _ _ _ _ w hw
    subst o1
    refine m_add_loop (l := l3) (K := K3) v (by omega) (by rw [upd_ne _ (by decide)]; exact e6) (fun i hi => ⟨by rw [dI 15 (by omega)]; exact (e15 i hi).1, by have := (e15 i hi).2; omega⟩) w.2.2.2 (fun J7 p1 p2 => ⟨rfl, ?_⟩) (l3 + 1) 0 J6 (by omega) (fun _ _ => rfl) (fun k => by rw [zif_neg (fun ⟨j, j1, _⟩ => by omega)])
    have kk : ∀ k, (∃ i, i ≤ l3 ∧ K3 i = k) ↔ (∃ i, i ≤ l3 ∧ K2 i = k) := fun k => ⟨fun ⟨i, i1, i2⟩ => ⟨i, i1, by rw [← o2' i i1]; exact i2⟩, fun ⟨i, i1, i2⟩ => ⟨i, i1, by rw [o2' i i1]; exact i2⟩⟩
    refine RK_val (f := f) (u1 := u1) (o2 := o2) (V2 := fun k => zif (∃ i, i ≤ l3 ∧ K2 i = k) (kv (K u) k + v) (kv (K u) k)) hR c1 (cQ_note hQ cF cI) (fun c hc => cF c (by omega) (by omega)) (cI 0 (by omega)) (fun c c1 c2 => by rw [j1 c c1]; exact cJ c c2) (fun k hk => ?_) (mQ_ch q1 dI) (fun c c1 c2 => upd_ne _ c1) (fun c hc => dI c (by omega)) (fun c c1 c2 => by rw [p1 c c1]; exact dJ c c2) (fun k hk => ?_) f13 f14 (by rw [upd_self, eu]) ?_
    · rw [j2 k, cJ 0 (by decide), (h.1.2.1 k hk).2]
    · rw [p2 k, dJ 0 (by decide), (h.2.1.2.1 k hk).2]
      exact zif_congr (kk k) _ _
    · refine PS_fr (PS_push (k2 := (kg (K u), kc (K u), km (K u), kr (K u), fun k => zif (∃ i, i ≤ l3 ∧ K2 i = k) (kv (K u) k + v) (kv (K u) k))) hR7.2.2.2 (fun j hj => (h.2.2.1 j hj).1.1) hR.2.1 c1 c2 c3 c4 c5 (cI 7 (by omega)) d1 d2 d3 d4 d5 e1 e2 e3 e4 ?_) (fun _ _ => rfl) (fun _ _ => rfl) (j1 2 (by decide)) (fun _ _ _ => rfl) (p1 2 (by decide))
      exact ⟨Ent_gX _, Nat.le_refl _, Or.inr (Or.inl ⟨rfl, rfl, fun _ _ => rfl, a, b, l3, K2, S, ha, hb, rfl, rfl, hw, fun i _ => rfl⟩)⟩
end
