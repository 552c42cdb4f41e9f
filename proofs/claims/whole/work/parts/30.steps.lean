/-! THE RELATION of class and reference after t calls, and the steps that only ask -/
def tR (F : Nat → Int32) (J : Nat → Nat → Int64) (I' : Nat → Nat → Int32) (J' : Nat → Nat → Int64) : Prop :=
  ∀ t, t < 6 → ∃ th L, F (15 + t) = nI th ∧ I' 17 t = nI th ∧ th ≤ 4 ∧ L ≤ 100 ∧ F (21 + t) = nI L ∧ (th = 1 → L = 1 ∧ J (3 + t) 0 = (I' 19 (100 * t)).toInt64) ∧ (2 ≤ th → I' 18 t = nI L) ∧ (th = 2 ∨ th = 4 → ∀ i, i < L → J (3 + t) i = (I' 19 (100 * t + i)).toInt64) ∧ (th = 3 → ∀ i, i < L → J (3 + t) i = J' 3 (100 * t + i))
def RK (t : Nat) (K : Nat → zK) (u o kd N : Nat) (F : Nat → Int32) (I : Nat → Nat → Int32) (J : Nat → Nat → Int64) (F' : Nat → Int32) (I' : Nat → Nat → Int32) (J' : Nat → Nat → Int64) : Prop :=
  cM (K u) F I J ∧ mM (K u) F' I' J' ∧ (∀ j, j ≤ u → kI kd (K j) ∧ kr (K j) ≤ t ∧ ∀ i, i < gn (kg (K j)) → kc (K j) i ≤ N) ∧ (kd < 3 ∧ F 2 = nI kd ∧ F' 2 = nI kd) ∧ (∀ e, e < gm (kg (K u)) → J' 1 e = J 1 e) ∧ (N ≤ t ∧ F 1 = nI N ∧ ∀ i, gn (kg (K u)) ≤ i → i < 100 → I 0 i = 0) ∧ (F 13 = nI o ∧ F 14 = nI u ∧ F' 5 = nI u ∧ PS K u o I J I' J') ∧ F' 7 = F 3 ∧ tR F J I' J'
def Rel (t : Nat) (C M : zM) : Prop := ∃ K u o kd N, RK t K u o kd N C.1 C.2.1 C.2.2 M.1 M.2.1 M.2.2
section
variable {t : Nat} {K : Nat → zK} {u o kd N : Nat} {F : Nat → Int32} {I : Nat → Nat → Int32} {J : Nat → Nat → Int64} {F' : Nat → Int32} {I' : Nat → Nat → Int32} {J' : Nat → Nat → Int64}
theorem RK_q {F2 F2' : Nat → Int32} {I2 I2' : Nat → Nat → Int32} (h : RK t K u o kd N F I J F' I' J') (hc : cQ (kg (K u)) F2 I2) (hfc : frC F I F2 I2) (hm : mQ (kg (K u)) F2' I2') (hfm : frM F' I' F2' I2') : RK (t + 1) K u o kd N F2 I2 J F2' I2' J' := by
  obtain ⟨h1, h2, h3, h4, h5, h6, h7, h8, h9⟩ := h
  refine ⟨⟨hc, ?_, ?_⟩, ⟨hm, ?_, ?_, ?_⟩, ?_, ?_, h5, ?_, ?_, ?_, ?_⟩
  · rw [hfc.2 0 (by omega)]; exact h1.2.1
  · rw [hfc.1 5 (by omega)]; exact h1.2.2
  · rw [hfm.2 0 (by omega)]; exact h2.2.1
  · rw [hfm.1 4 (by omega)]; exact h2.2.2.1
  · rw [hfm.1 3 (by omega)]; exact h2.2.2.2
  · intro j hj
    obtain ⟨a, b, c⟩ := h3 j hj
    exact ⟨a, by omega, c⟩
  · rw [hfc.1 2 (by omega), hfm.1 2 (by omega)]; exact h4
  · rw [hfc.1 1 (by omega), hfc.2 0 (by omega)]; exact ⟨by omega, h6.2⟩
  · rw [hfc.1 13 (by omega), hfc.1 14 (by omega), hfm.1 5 (by omega)]
    exact ⟨h7.1, h7.2.1, h7.2.2.1, PS_fr h7.2.2.2 (fun p _ => by rw [hfc.2 7 (by omega)]) (fun c hc => hfc.2 c (by omega)) rfl (fun c c1 c2 => hfm.2 c (by omega)) rfl⟩
  · rw [hfm.1 7 (by omega), hfc.1 3 (by omega)]; exact h8
  · intro x hx
    rw [hfc.1 (15 + x) (by omega), hfc.1 (21 + x) (by omega), hfm.2 17 (by omega), hfm.2 18 (by omega), hfm.2 19 (by omega)]
    exact h9 x hx
theorem RK_0 (h : RK t K u o kd N F I J F' I' J') : RK (t + 1) K u o kd N F I J F' I' J' := RK_q h h.1.1 frC_refl h.2.1.1 frM_refl
theorem Rel_0 (h : RK t K u o kd N F I J F' I' J') : Rel (t + 1) (F, I, J) (F', I', J') := ⟨K, u, o, kd, N, RK_0 h⟩
theorem RK_fo (h : RK t K u o kd N F I J F' I' J') : fo (gm (kg (K u))) (ga (kg (K u))) (gb (kg (K u))) (Tr (kg (K u))) := (h.2.2.1 u (Nat.le_refl _)).1.2.1
/-- the names, of the class and of the reference -/
theorem RK_cN (h : RK t K u o kd N F I J F' I' J') (ht : t < 512) : ∀ k, k < gn (kg (K u)) → I 0 k = nI (kc (K u) k) ∧ kc (K u) k < 2147483648 := by
  intro k hk
  have h1 := (h.2.2.1 u (Nat.le_refl _)).2.2 k hk
  have h2 := h.2.2.2.2.2.1.1
  exact ⟨(h.1.2.1 k hk).1, by omega⟩
theorem RK_mN (h : RK t K u o kd N F I J F' I' J') (ht : t < 512) : ∀ k, k < gn (kg (K u)) → I' 0 k = nI (km (K u) k) ∧ km (K u) k < 2147483648 := by
  intro k hk
  have h1 := (h.2.2.1 u (Nat.le_refl _)).1.2.2.2.2.2.2.2 k hk
  have h2 := (h.2.2.1 u (Nat.le_refl _)).2.1
  exact ⟨(h.2.1.2.1 k hk).1, by omega⟩
theorem RK_rt (h : RK t K u o kd N F I J F' I' J') {a r r2 : Nat} (h1 : isRt (kg (K u)) (kc (K u)) a r) (h2 : isRt (kg (K u)) (km (K u)) a r2) : r2 = r := (isRt_one (isRt_map h1 (h.2.2.1 u (Nat.le_refl _)).1.2.2.2.2.2.1) h2).symm
end
section
variable {g : zG} {F : Nat → Int32} {I : Nat → Nat → Int32} {J : Nat → Nat → Int64}
theorem m_one_ok {A B : zM → Prop} (h : mQ g F I) {a : Nat} (ha : a < gn g) (hB : B (F, I, J)) : AMi m_X7_isKnot [.ref 0, .int (nI a)] (F, I, J) (fun r2 M2 => (r2 = 0 → A M2) ∧ (¬ r2 = 0 → B M2)) :=
  m_isKnot h.1.1 h.2.1 (fun _ _ _ => ⟨fun z => absurd z (by decide), fun _ => hB⟩) (fun z => absurd rfl (z a ha))
theorem m_one_bad {A B : zM → Prop} {x : Int32} (h : mQ g F I) (hx : ∀ a, a < gn g → x ≠ nI a) (hA : A (F, I, J)) : AMi m_X7_isKnot [.ref 0, .int x] (F, I, J) (fun r2 M2 => (r2 = 0 → A M2) ∧ (¬ r2 = 0 → B M2)) :=
  m_isKnot h.1.1 h.2.1 (fun a h1 h2 => absurd h2 (hx a h1)) (fun _ => ⟨fun _ => hA, fun z => absurd rfl z⟩)
theorem m_onf_ok {A B : zM → Prop} (h : mQ g F I) {a : Nat} (ha : a < gn g) (hB : B (F, I, J)) : AMi m_X7_isKnot [.ref 0, .int (nI a)] (F, I, J) (fun r2 M2 => (¬ r2 = 0 → B M2) ∧ (r2 = 0 → A M2)) :=
  m_isKnot h.1.1 h.2.1 (fun _ _ _ => ⟨fun _ => hB, fun z => absurd z (by decide)⟩) (fun z => absurd rfl (z a ha))
theorem m_onf_bad {A B : zM → Prop} {x : Int32} (h : mQ g F I) (hx : ∀ a, a < gn g → x ≠ nI a) (hA : A (F, I, J)) : AMi m_X7_isKnot [.ref 0, .int x] (F, I, J) (fun r2 M2 => (¬ r2 = 0 → B M2) ∧ (r2 = 0 → A M2)) :=
  m_isKnot h.1.1 h.2.1 (fun a h1 h2 => absurd h2 (hx a h1)) (fun _ => ⟨fun z => absurd rfl z, fun _ => hA⟩)
theorem m_two_ok {A B : zM → Prop} (h : mQ g F I) {a b : Nat} (ha : a < gn g) (hb : b < gn g) (hB : B (F, I, J)) : AMi m_X7_isKnot [.ref 0, .int (nI a)] (F, I, J) (fun r2 M2 => (r2 = 0 → A M2) ∧ (¬ r2 = 0 → AMi m_X7_isKnot [.ref 0, .int (nI b)] M2 (fun r3 M3 => (¬ r3 = 0 → B M3) ∧ (r3 = 0 → A M3)))) :=
  m_one_ok h ha (m_onf_ok h hb hB)
theorem m_two_bad {A B : zM → Prop} {x y : Int32} (h : mQ g F I) (hx : (∀ a, a < gn g → x ≠ nI a) ∨ (∀ b, b < gn g → y ≠ nI b)) (hA : A (F, I, J)) : AMi m_X7_isKnot [.ref 0, .int x] (F, I, J) (fun r2 M2 => (r2 = 0 → A M2) ∧ (¬ r2 = 0 → AMi m_X7_isKnot [.ref 0, .int y] M2 (fun r3 M3 => (¬ r3 = 0 → B M3) ∧ (r3 = 0 → A M3)))) := by
  refine m_isKnot h.1.1 h.2.1 (fun a h1 h2 => ⟨fun z => absurd z (by decide), fun _ => ?_⟩) (fun _ => ⟨fun _ => hA, fun z => absurd rfl z⟩)
  refine m_onf_bad h (hx.resolve_left (fun z => z a h1 h2)) hA
theorem m_isThere {P : Int32 → zM → Prop} {x : Int32} (h : mQ g F I) (h1 : ∀ e, e < gm g → x = nI e → gs g e ≠ 0 → P 1 (F, I, J)) (h0 : (∀ e, e < gm g → x = nI e → gs g e = 0) → P 0 (F, I, J)) : AMi m_X7_isThere [.ref 0, .int x] (F, I, J) P := by
  have hm := h.1.2.1
  refine r_X7_isThere_0 _ F I J ?_
  rw [h.2.2.1]
  rcases pk_ix x (n := gm g) (by omega) with z | z | ⟨e, he, z⟩
  · exact ⟨fun _ => h0 (fun e he q => by rw [q, nNeg (by omega)] at z; exact z.elim), fun q => absurd z q⟩
  · have a0 := h0 (fun e he q => by rw [q, nLe (by omega) (by omega)] at z; omega)
    exact ⟨fun _ => a0, fun _ => ⟨fun _ => a0, fun q => absurd z q⟩⟩
  · subst z
    have hw := h.1.2.2 e he
    rw [nNeg (by omega), nLe (by omega) (by omega), zN (by omega), (h.2.2.2 e he).2.2.1, n0, nEq (by omega) (by omega)]
    refine ⟨fun z => z.elim, fun _ => ⟨fun z => absurd z (by omega), fun _ => ⟨nIn (by omega) (by omega), fun z => h0 (fun e2 he2 q => ?_), fun z => h1 e he rfl z⟩⟩⟩
    rw [nEq (by omega) (by omega)] at q
    rw [← q]; exact z
theorem in_bad {A B : Prop} {x : Int32} {m : Nat} (hm : m ≤ 300) (hx : ∀ e, e < m → x ≠ nI e) (hA : A) : (x < 0 → A) ∧ (¬ x < 0 → ((x < nI m → B) ∧ (¬ x < nI m → A))) := by
  refine ⟨fun _ => hA, fun z => ⟨fun z2 => ?_, fun _ => hA⟩⟩
  rcases pk_ix x (n := m) (by omega) with q | q | ⟨e, he, q⟩
  · exact absurd q z
  · exact absurd z2 (Int32.not_lt.mpr q)
  · exact absurd q (hx e he)
theorem in_ok {A B : Prop} {e m : Nat} (hm : m ≤ 300) (he : e < m) (hB : B) : (nI e < 0 → A) ∧ (¬ nI e < 0 → ((nI e < nI m → B) ∧ (¬ nI e < nI m → A))) := by
  rw [nNeg (by omega), nLt (by omega) (by omega)]
  exact ⟨fun z => z.elim, fun _ => ⟨fun _ => hB, fun z => absurd he z⟩⟩
theorem nNe2 {k : Nat} (h : k < 2147483648) : (nI k = -2) = False := by
  refine eq_false (fun z => ?_)
  have h2 := congrArg Int32.toInt z
  rw [nToI h] at h2
  have h3 : (-2 : Int32).toInt = -2 := by decide
  omega
theorem ffl_ctp {T : Nat → Prop} {rt f l d y r L : Nat} {q : Nat → Nat} {R : Nat → Prop} {B dp : Nat → Nat} (h : ffl g T rt f l d y r L q R B dp F I) : ctp R (gn g) = L := by
  obtain ⟨b1, b2, b3, b4, b5, b6, -⟩ := h.1
  exact ctp_enum L R (fun i hi => (b4 i hi).1) b5 (fun k hk => ⟨b6 k, fun ⟨i, hi, e⟩ => e ▸ (b4 i hi).2.1⟩)
end
section
variable {t : Nat} {K : Nat → zK} {u o kd N : Nat} {F : Nat → Int32} {I : Nat → Nat → Int32} {J : Nat → Nat → Int64} {F' : Nat → Int32} {I' : Nat → Nat → Int32} {J' : Nat → Nat → Int64}
theorem s_status (h : RK t K u o kd N F I J F' I' J') : AMi m_X6_status [.ref 0] (F, I, J) (fun r C => AMi m_X7_status [.ref 0] (F', I', J') (fun r' M => r' = r ∧ Rel (t + 1) C M)) :=
  r_X6_status_0 F I J (r_X7_status_0 F' I' J' ⟨h.2.2.2.2.2.2.2.1, Rel_0 h⟩)
theorem s_value {x : Int32} (h : RK t K u o kd N F I J F' I' J') : AMl m_X6_value [.ref 0, .int x] (F, I, J) (fun r C => AMl m_X7_value [.ref 0, .int x] (F', I', J') (fun r' M => r' = r ∧ Rel (t + 1) C M)) := by
  have hc := h.1.1
  have hm := h.2.1.1
  have hn := hc.1.1
  refine r_X6_value_0 _ F I J ?_
  refine c_isKnot hn hc.2.1 (fun a ha hx => ⟨fun z => absurd z (by decide), fun _ => ?_⟩) (fun hx => ⟨fun _ => ?_, fun z => absurd rfl z⟩)
  · subst hx
    refine ⟨nIn (by omega) (by omega), r_X7_value_0 _ F' I' J' ?_⟩
    refine m_one_ok hm ha ⟨nIn (by omega) (by omega), ?_, Rel_0 h⟩
    dsimp only
    rw [zN (by omega), (h.1.2.1 a ha).2, (h.2.1.2.1 a ha).2]
  · exact r_X7_value_0 _ F' I' J' (m_one_bad hm hx ⟨rfl, Rel_0 h⟩)
theorem s_weight {x : Int32} (h : RK t K u o kd N F I J F' I' J') : AMl m_X6_weight [.ref 0, .int x] (F, I, J) (fun r C => AMl m_X7_weight [.ref 0, .int x] (F', I', J') (fun r' M => r' = r ∧ Rel (t + 1) C M)) := by
  have hc := h.1.1
  have hm := h.2.1.1
  have hn := hc.1.2.1
  refine r_X6_weight_0 _ F I J ?_
  refine c_hasCome hn hc.2.2.1 (fun e he hx => ⟨fun z => absurd z (by decide), fun _ => ?_⟩) (fun hx => ⟨fun _ => ?_, fun z => absurd rfl z⟩)
  · subst hx
    refine ⟨nIn (by omega) (by omega), r_X7_weight_0 _ F' I' J' ?_⟩
    rw [hm.2.2.1]
    refine in_ok hn he ⟨nIn (by omega) (by omega), ?_, Rel_0 h⟩
    dsimp only
    rw [zN (by omega)]
    exact h.2.2.2.2.1 e he
  · refine r_X7_weight_0 _ F' I' J' ?_
    rw [hm.2.2.1]
    exact in_bad hn hx ⟨rfl, Rel_0 h⟩
theorem s_together {x y : Int32} (h : RK t K u o kd N F I J F' I' J') : AMi m_X6_together [.ref 0, .int x, .int y] (F, I, J) (fun r C => AMi m_X7_together [.ref 0, .int x, .int y] (F', I', J') (fun r' M => r' = r ∧ Rel (t + 1) C M)) := by
  have hc := h.1.1
  have hm := h.2.1.1
  have hn := hc.1.1
  refine r_X6_together_0 _ _ F I J ?_
  refine c_layTrack hc (fun hx => ⟨fun z => absurd rfl z, fun _ => ?_⟩) (fun a b F2 I2 ha hb hx hy hno _ hQ hfr => ⟨fun _ => ⟨fun z => absurd rfl z, fun _ => ?_⟩, fun z => absurd z (by decide)⟩) (fun a b F2 I2 l K2 S ha hb hx hy hw hl _ _ _ hQ hfr => ⟨fun _ => ⟨fun _ => ?_, fun z => ?_⟩, fun z => ?_⟩)
  · exact r_X7_together_0 _ _ F' I' J' (m_two_bad hm hx ⟨rfl, Rel_0 h⟩)
  · subst hx; subst hy
    refine r_X7_together_0 _ _ F' I' J' (m_two_ok hm ha hb (m_isTogether hm ha hb (fun I3 _ _ z => absurd z hno) (fun I3 q1 q2 _ => ⟨fun _ => ⟨rfl, ?_⟩, fun z => absurd rfl z⟩)))
    exact ⟨K, u, o, kd, N, RK_q h hQ hfr q1 q2⟩
  · subst hx; subst hy
    refine r_X7_together_0 _ _ F' I' J' (m_two_ok hm ha hb (m_isTogether hm ha hb (fun I3 q1 q2 _ => ⟨fun z => absurd z (by decide), fun _ => ⟨rfl, ?_⟩⟩) (fun I3 _ _ z => absurd (isW_all hw) z)))
    exact ⟨K, u, o, kd, N, RK_q h hQ hfr q1 q2⟩
  · rw [nNe (by omega)] at z; exact z.elim
  · rw [nNe2 (by omega)] at z; exact z.elim
theorem s_size {x : Int32} (h : RK t K u o kd N F I J F' I' J') : AMi m_X6_size [.ref 0, .int x] (F, I, J) (fun r C => AMi m_X7_size [.ref 0, .int x] (F', I', J') (fun r' M => r' = r ∧ Rel (t + 1) C M)) := by
  have hc := h.1.1
  have hm := h.2.1.1
  have hn := hc.1.1
  refine r_X6_size_0 _ F I J ?_
  refine c_isKnot hn hc.2.1 (fun a ha hx => ⟨fun _ => ?_, fun z => absurd z (by decide)⟩) (fun hx => ⟨fun z => absurd rfl z, fun _ => ?_⟩)
  · subst hx
    refine c_floodPart hc ha (fun F2 I2 L q R B dp hf hQ hfr hR _ => ?_)
    refine r_X7_size_0 _ F' I' J' (m_one_ok hm ha ?_)
    refine m_part hm ha (fun I3 L' q' R' B' dp' hf' hQ' hfr' hR' _ => ⟨?_, K, u, o, kd, N, RK_q h hQ hfr hQ' hfr'⟩)
    dsimp only
    rw [hf.2.1, ← ffl_ctp hf, ← mfl_ctp hf', ctp_congr (fun k _ => (hR k).trans (hR' k).symm)]
  · exact r_X7_size_0 _ F' I' J' (m_one_bad hm hx ⟨rfl, Rel_0 h⟩)
theorem s_way {x y : Int32} (h : RK t K u o kd N F I J F' I' J') : AMi m_X6_way [.ref 0, .int x, .int y] (F, I, J) (fun r C => AMi m_X7_way [.ref 0, .int x, .int y] (F', I', J') (fun r' M => r' = r ∧ Rel (t + 1) C M)) := by
  have hc := h.1.1
  have hm := h.2.1.1
  have hn := hc.1.1
  refine r_X6_way_0 _ _ F I J ?_
  refine c_layTrack hc (fun hx => ?_) (fun a b F2 I2 ha hb hx hy hno _ hQ hfr => ?_) (fun a b F2 I2 l K2 S ha hb hx hy hw hl _ _ _ hQ hfr => ?_)
  · exact r_X7_way_0 _ _ F' I' J' (m_two_bad hm hx ⟨rfl, Rel_0 h⟩)
  · subst hx; subst hy
    refine r_X7_way_0 _ _ F' I' J' (m_two_ok hm ha hb (m_finds hm ha hb (fun I3 q1 q2 _ _ => ⟨fun _ => ⟨rfl, ?_⟩, fun z => absurd rfl z⟩) (fun F3 I3 l3 K3 S3 _ _ w _ _ _ _ _ => absurd (isW_all w) hno)))
    exact ⟨K, u, o, kd, N, RK_q h hQ hfr q1 q2⟩
  · subst hx; subst hy
    refine r_X7_way_0 _ _ F' I' J' (m_two_ok hm ha hb (m_finds hm ha hb (fun I3 q1 q2 z _ => absurd (isW_all hw) z) (fun F3 I3 l3 K3 S3 q1 q2 w _ e6 _ _ _ => ⟨fun z => absurd z (by decide), fun _ => ⟨?_, ?_⟩⟩)))
    · dsimp only
      rw [e6, n1, nSub (by omega), (isW_one (RK_fo h) _ _ _ _ _ _ _ _ w hw).1]
      rfl
    · exact ⟨K, u, o, kd, N, RK_q h hQ hfr q1 q2⟩
theorem s_between {x y i : Int32} (h : RK t K u o kd N F I J F' I' J') : AMi m_X6_between [.ref 0, .int x, .int y, .int i] (F, I, J) (fun r C => AMi m_X7_between [.ref 0, .int x, .int y, .int i] (F', I', J') (fun r' M => r' = r ∧ Rel (t + 1) C M)) := by
  have hc := h.1.1
  have hm := h.2.1.1
  have hn := hc.1.1
  refine r_X6_between_0 _ _ _ F I J ?_
  refine c_layTrack hc (fun hx => ⟨fun z => absurd rfl z, fun _ => ?_⟩) (fun a b F2 I2 ha hb hx hy hno _ hQ hfr => ⟨fun _ => ?_, fun z => absurd z (by decide)⟩) (fun a b F2 I2 l K2 S ha hb hx hy hw hl _ hK _ hQ hfr => ⟨fun _ => ?_, fun z => by rw [nNe2 (by omega)] at z; exact z.elim⟩)
  · exact r_X7_between_0 _ _ _ F' I' J' (m_two_bad hm hx ⟨rfl, Rel_0 h⟩)
  · subst hx; subst hy
    have go : AMi m_X7_between [.ref 0, .int (nI a), .int (nI b), .int i] (F', I', J') (fun r' M => r' = -1 ∧ Rel (t + 1) (F2, I2, J) M) := by
      refine r_X7_between_0 _ _ _ F' I' J' (m_two_ok hm ha hb (m_finds hm ha hb (fun I3 q1 q2 _ _ => ⟨fun _ => ⟨rfl, ?_⟩, fun z => absurd rfl z⟩) (fun F3 I3 l3 K3 S3 _ _ w _ _ _ _ _ => absurd (isW_all w) hno)))
      exact ⟨K, u, o, kd, N, RK_q h hQ hfr q1 q2⟩
    refine ⟨fun _ => go, fun z => ⟨fun z2 => ?_, fun _ => go⟩⟩
    exfalso
    have z3 : i.toInt ≤ (-1 : Int32).toInt := Int32.le_iff_toInt_le.mp z2
    have z4 : ¬ i.toInt < (0 : Int32).toInt := fun q => z (Int32.lt_iff_toInt_lt.mpr q)
    have e1 : (-1 : Int32).toInt = -1 := by decide
    have e2 : (0 : Int32).toInt = 0 := by decide
    omega
  · subst hx; subst hy
    have go : ∀ r, (∀ F3 I3 l3 K3 S3, mQ (kg (K u)) F3 I3 → frM F' I' F3 I3 → isW (gm (kg (K u))) (ga (kg (K u))) (gb (kg (K u))) (Tr (kg (K u))) a b l3 K3 S3 → F3 6 = nI (l3 + 1) → (∀ i, i ≤ l3 → I3 15 i = nI (K3 i) ∧ K3 i < gn (kg (K u))) → l3 = l → (∀ i, i ≤ l → K3 i = K2 i) → ((i < 0 → r = -1) ∧ (¬ i < 0 → ((F3 6 ≤ i → r = -1) ∧ (¬ F3 6 ≤ i → vp_in i 100 ∧ I3 15 (zn i) = r))))) →
        AMi m_X7_between [.ref 0, .int (nI a), .int (nI b), .int i] (F', I', J') (fun r' M => r' = r ∧ Rel (t + 1) (F2, I2, J) M) := by
      intro r hr
      refine r_X7_between_0 _ _ _ F' I' J' (m_two_ok hm ha hb (m_finds hm ha hb (fun I3 q1 q2 z _ => absurd (isW_all hw) z) (fun F3 I3 l3 K3 S3 q1 q2 w _ e6 e15 _ _ => ⟨fun z => absurd z (by decide), fun _ => ?_⟩)))
      have hR : Rel (t + 1) (F2, I2, J) (F3, I3, J') := ⟨K, u, o, kd, N, RK_q h hQ hfr q1 q2⟩
      obtain ⟨o1, o2, -⟩ := isW_one (RK_fo h) _ _ _ _ _ _ _ _ w hw
      obtain ⟨r1, r2⟩ := hr F3 I3 l3 K3 S3 q1 q2 w e6 e15 o1 (fun i hi => o2 i (by omega))
      exact ⟨fun z => ⟨(r1 z).symm, hR⟩, fun z => ⟨fun z2 => ⟨((r2 z).1 z2).symm, hR⟩, fun z2 => ⟨((r2 z).2 z2).1, ((r2 z).2 z2).2, hR⟩⟩⟩
    rcases pk_ix i (n := l + 1) (by omega) with z | z | ⟨j, hj, z⟩
    · exact ⟨fun _ => go _ (fun F3 I3 l3 K3 S3 q1 q2 w e6 e15 o1 o2 => ⟨fun _ => rfl, fun z2 => absurd z z2⟩), fun z2 => absurd z z2⟩
    · have hnl : ¬ i ≤ nI l := by
        intro z2
        have z3 := Int32.le_trans z z2
        rw [nLe (by omega) (by omega)] at z3
        omega
      have hg := go (-1) (fun F3 I3 l3 K3 S3 q1 q2 w e6 e15 o1 o2 => ⟨fun _ => rfl, fun _ => ⟨fun _ => rfl, fun z2 => absurd (by rw [e6, o1]; exact z) z2⟩⟩)
      exact ⟨fun _ => hg, fun _ => ⟨fun z2 => absurd z2 hnl, fun _ => hg⟩⟩
    · subst z
      have hjK := hK j (by omega)
      rw [nNeg (by omega), nLe (by omega) (by omega), zN (by omega)]
      refine ⟨fun z => z.elim, fun _ => ⟨fun _ => ⟨nIn (by omega) (by omega), go _ (fun F3 I3 l3 K3 S3 q1 q2 w e6 e15 o1 o2 => ?_)⟩, fun z => absurd (show j ≤ l by omega) z⟩⟩
      rw [nNeg (by omega), e6, nLe (by omega) (by omega), zN (by omega)]
      refine ⟨fun z => z.elim, fun _ => ⟨fun z => absurd z (by omega), fun _ => ⟨nIn (by omega) (by omega), ?_⟩⟩⟩
      dsimp only
      rw [(e15 j (by omega)).1, o2 j (by omega), hjK.1]
theorem s_heaviest {x y : Int32} (h : RK t K u o kd N F I J F' I' J') : AMi m_X6_heaviest [.ref 0, .int x, .int y] (F, I, J) (fun r C => AMi m_X7_heaviest [.ref 0, .int x, .int y] (F', I', J') (fun r' M => r' = r ∧ Rel (t + 1) C M)) := by
  have hc := h.1.1
  have hm := h.2.1.1
  have hn := hc.1.1
  have hmm := hc.1.2.1
  refine r_X6_heaviest_0 _ _ F I J ?_
  refine c_layTrack hc (fun hx => ⟨fun z => absurd rfl z, fun _ => ?_⟩) (fun a b F2 I2 ha hb hx hy hno h8 hQ hfr => ⟨fun _ => ?_, fun z => absurd z (by decide)⟩) (fun a b F2 I2 l K2 S ha hb hx hy hw hl h8 hK hS hQ hfr => ⟨fun _ => ?_, fun z => by rw [nNe2 (by omega)] at z; exact z.elim⟩)
  · exact r_X7_heaviest_0 _ _ F' I' J' (m_two_bad hm hx ⟨rfl, Rel_0 h⟩)
  · subst hx; subst hy
    refine c_heaviestOf_none h8 ?_
    refine r_X7_heaviest_0 _ _ F' I' J' (m_two_ok hm ha hb (m_finds hm ha hb (fun I3 q1 q2 _ _ => ⟨fun _ => ⟨rfl, ?_⟩, fun z => absurd rfl z⟩) (fun F3 I3 l3 K3 S3 _ _ w _ _ _ _ _ => absurd (isW_all w) hno)))
    exact ⟨K, u, o, kd, N, RK_q h hQ hfr q1 q2⟩
  · subst hx; subst hy
    have hSm : ∀ i, i < l → S i < gm (kg (K u)) := fun i hi => (hw.2.2.1 i hi).1
    refine c_heaviestOf (by omega) h8 (fun i hi => ⟨hS i hi, by have := hSm i hi; omega⟩) ?_
    refine r_X7_heaviest_0 _ _ F' I' J' (m_two_ok hm ha hb (m_finds hm ha hb (fun I3 q1 q2 z _ => absurd (isW_all hw) z) (fun F3 I3 l3 K3 S3 q1 q2 w w2 e6 _ e16 _ => ⟨fun z => absurd z (by decide), fun _ => ?_⟩)))
    obtain ⟨o1, -, o3⟩ := isW_one (RK_fo h) _ _ _ _ _ _ _ _ w hw
    refine m_heaviestOfWay (l := l3) (by omega) e6 (fun i hi => ⟨e16 i hi, by rw [o3 i hi]; have := hSm i (by omega); omega⟩) ⟨?_, K, u, o, kd, N, RK_q h hQ hfr q1 q2⟩
    rw [← o1]
    rw [hvs_congr (w := J' 1) (w' := J 1) (S := S3) (S' := S) l3 (fun i hi => ⟨o3 i hi, by rw [o3 i hi]; exact h.2.2.2.2.1 _ (hSm i (by omega))⟩)]
end
