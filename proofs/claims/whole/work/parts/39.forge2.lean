/-! forge -/
def smi (f : Nat → Int32) : Nat → Int32
  | 0 => 0
  | n + 1 => smi f n + f n
theorem smi_congr {f h : Nat → Int32} : ∀ n, (∀ i, i < n → f i = h i) → smi f n = smi h n
  | 0, _ => rfl
  | n + 1, q => by
    show smi f n + f n = smi h n + h n
    rw [smi_congr n (fun i hi => q i (by omega)), q n (by omega)]
section
variable {t : Nat} {K : Nat → zK} {u o kd N : Nat} {F : Nat → Int32} {I : Nat → Nat → Int32} {J : Nat → Nat → Int64} {F' : Nat → Int32} {I' : Nat → Nat → Int32} {J' : Nat → Nat → Int64}
theorem c_isTray {P : Int32 → zM → Prop} {x : Int32} (h1 : ∀ s, s < 6 → x = nI s → P 1 (F, I, J)) (h0 : (x < 0 ∨ nI 6 ≤ x) → P 0 (F, I, J)) : AMi m_X6_isTray [.ref 0, .int x] (F, I, J) P := by
  refine r_X6_isTray_0 _ F I J ⟨fun z => h0 (Or.inl z), fun z => ⟨fun z2 => h0 (Or.inr z2), fun z2 => ?_⟩⟩
  rcases pk_ix x (n := 6) (by omega) with q | q | ⟨i, hi, q⟩
  · exact absurd q z
  · exact absurd q z2
  · exact h1 i hi q
theorem c_like {P : Int32 → zM → Prop} {s L : Nat} {x : Int32} (hs : s < 6) (hL : F (21 + s) = nI L) (hL2 : L ≤ 100) (hP : P (nI (ctp (fun i => J (3 + s) i = x.toInt64) L)) (upd F 3 0, I, J)) :
    ∀ d i, i + d = L → AW m_X6_countLike (z_pi P) 23 [some (.ref 0), some (.ref (37 + 2 * s)), some (.int x), none, some (.int (nI (ctp (fun i => J (3 + s) i = x.toInt64) i))), some (.int (nI i))] [] (F, I, J) := by
  intro d
  induction d with
  | zero =>
    intro i hd
    refine r_X6_countLike_23 s hs _ _ _ F I J ?_
    rw [hL, nLe (by omega) (by omega)]
    exact ⟨fun _ => r_X6_grant_0 _ F I J (by rw [show i = L by omega]; exact hP), fun z => absurd (show L ≤ i by omega) z⟩
  | succ d ih =>
    intro i hd
    have nxt := ih (i + 1) (by omega)
    have e : ctp (fun i => J (3 + s) i = x.toInt64) (i + 1) = ctp (fun i => J (3 + s) i = x.toInt64) i + zif (J (3 + s) i = x.toInt64) 1 0 := rfl
    refine r_X6_countLike_23 s hs _ _ _ F I J ?_
    rw [hL, nLe (by omega) (by omega), zN (show i < 2147483648 by omega), lcmp_eq, nI_1 i, nI_1]
    refine ⟨fun z => absurd z (by omega), fun _ => ⟨nIn (by omega) (by omega), fun z => ?_, fun z => ?_⟩⟩
    · rw [e, zif_neg z] at nxt; exact nxt
    · rw [e, zif_pos z] at nxt; exact nxt
theorem m_like {P : Int32 → zM → Prop} {s L : Nat} {x : Int32} (hs : s < 6) (hL : I 18 s = nI L) (hL2 : L ≤ 100) (hP : P (nI (ctp (fun i => J 3 (100 * s + i) = x.toInt64) L)) (upd F 7 0, I, J)) :
    ∀ d i, i + d = L → AW m_X7_forge (z_pi P) 199 [some (.ref 0), some (.int (nI s)), none, some (.int x), none, some (.int (nI (100 * s))), some (.int (nI (ctp (fun i => J 3 (100 * s + i) = x.toInt64) i))), some (.int (nI i))] [] (F, I, J) := by
  intro d
  induction d with
  | zero =>
    intro i hd
    refine r_X7_forge_199 _ _ _ _ _ F I J ?_
    rw [zN (show s < 2147483648 by omega), hL, nLe (by omega) (by omega)]
    exact ⟨nIn (by omega) (by omega), fun _ => r_X7_done_0 _ F I J (by rw [show i = L by omega]; exact hP), fun z => absurd (show L ≤ i by omega) z⟩
  | succ d ih =>
    intro i hd
    have nxt := ih (i + 1) (by omega)
    have e : ctp (fun i => J 3 (100 * s + i) = x.toInt64) (i + 1) = ctp (fun i => J 3 (100 * s + i) = x.toInt64) i + zif (J 3 (100 * s + i) = x.toInt64) 1 0 := rfl
    refine r_X7_forge_199 _ _ _ _ _ F I J ?_
    rw [zN (show s < 2147483648 by omega), hL, nLe (by omega) (by omega), nAdd, zN (show 100 * s + i < 2147483648 by omega), lcmp_eq, nI_1 i, nI_1]
    refine ⟨nIn (by omega) (by omega), fun z => absurd z (by omega), fun _ => ⟨nIn (by omega) (by omega), fun z => ?_, fun z => ?_⟩⟩
    · rw [e, zif_neg z] at nxt; exact nxt
    · rw [e, zif_pos z] at nxt; exact nxt
theorem c_copy {P : Int32 → zM → Prop} {s m : Nat} (hs : s < 6) (hm : m ≤ 100) (hP : P (smi (fun i => (J (3 + s) i).toInt32) m) (upd F 3 0, I, J)) :
    ∀ d i, i + d = m → AW m_X6_sumOfCopy (z_pi P) 50 [some (.ref 0), some (.ref (37 + 2 * s)), some (.int (nI m)), none, some (.int (smi (fun i => (J (3 + s) i).toInt32) i)), some (.int (nI i))] [] (F, I, J) := by
  intro d
  induction d with
  | zero =>
    intro i hd
    refine r_X6_sumOfCopy_50 s hs _ _ _ F I J ?_
    rw [nLe (by omega) (by omega)]
    exact ⟨fun _ => r_X6_grant_0 _ F I J (by rw [show i = m by omega]; exact hP), fun z => absurd (show m ≤ i by omega) z⟩
  | succ d ih =>
    intro i hd
    refine r_X6_sumOfCopy_50 s hs _ _ _ F I J ?_
    rw [nLe (by omega) (by omega), zN (show i < 2147483648 by omega), nI_1 i]
    exact ⟨fun z => absurd z (by omega), fun _ => ⟨nIn (by omega) (by omega), ih (i + 1) (by omega)⟩⟩
theorem m_copy {P : Int32 → zM → Prop} {s m : Nat} (hs : s < 6) (hm : m ≤ 100) (hP : P (smi (fun i => I 19 (100 * s + i)) m) (upd F 7 0, I, J)) :
    ∀ d i, i + d = m → AW m_X7_forge (z_pi P) 296 [some (.ref 0), none, none, some (.int (nI m)), none, some (.int (nI (100 * s))), some (.int (smi (fun i => I 19 (100 * s + i)) i)), some (.int (nI i))] [] (F, I, J) := by
  intro d
  induction d with
  | zero =>
    intro i hd
    refine r_X7_forge_296 _ _ _ _ F I J ?_
    rw [nLe (by omega) (by omega)]
    exact ⟨fun _ => r_X7_done_0 _ F I J (by rw [show i = m by omega]; exact hP), fun z => absurd (show m ≤ i by omega) z⟩
  | succ d ih =>
    intro i hd
    refine r_X7_forge_296 _ _ _ _ F I J ?_
    rw [nLe (by omega) (by omega), nAdd, zN (show 100 * s + i < 2147483648 by omega), nI_1 i]
    exact ⟨fun z => absurd z (by omega), fun _ => ⟨nIn (by omega) (by omega), ih (i + 1) (by omega)⟩⟩
theorem m_forge_bad {P : Int32 → zM → Prop} {x1 x2 x3 : Int32} (hb : x1 < 0 ∨ 5 < x1 ∨ x2 < 0 ∨ 8 < x2 ∨ x3 < -100 ∨ ¬ x3 ≤ 100) (hP : P (-1) (upd F 7 1, I, J)) : AMi m_X7_forge [.ref 0, .int x1, .int x2, .int x3] (F, I, J) P := by
  refine r_X7_forge_0 _ _ _ F I J ?_
  have A := r_X7_refused_0 (P := P) 1 F I J hP
  refine ⟨fun _ => A, fun z1 => ⟨fun _ => A, fun z2 => ⟨fun _ => A, fun z3 => ⟨fun _ => A, fun z4 => ⟨fun _ => A, fun z5 => ⟨fun z6 => ?_, fun _ => A⟩⟩⟩⟩⟩⟩
  rcases hb with q | q | q | q | q | q
  · exact absurd q z1
  · exact absurd q z2
  · exact absurd q z3
  · exact absurd q z4
  · exact absurd q z5
  · exact absurd z6 q
theorem m_forge_ok {P : Int32 → zM → Prop} {s th : Nat} {x2 x3 : Int32} (hs : s < 6) (hT : I 17 s = nI th) (q3 : ¬ x2 < 0) (q4 : ¬ 8 < x2) (q5 : ¬ x3 < -100) (q6 : x3 ≤ 100)
    (hP : (x2 ≤ 3 → AW m_X7_forge (z_pi P) 61 [some (.ref 0), some (.int (nI s)), some (.int x2), some (.int x3), some (.int (nI th)), some (.int (nI (100 * s))), none, none] [] (F, I, J)) ∧ (¬ x2 ≤ 3 → ((¬ x2 = 5 → AW m_X7_forge (z_pi P) 97 [some (.ref 0), some (.int (nI s)), some (.int x2), some (.int x3), some (.int (nI th)), some (.int (nI (100 * s))), none, none] [] (F, I, J)) ∧ (x2 = 5 → AW m_X7_forge (z_pi P) 61 [some (.ref 0), some (.int (nI s)), some (.int x2), some (.int x3), some (.int (nI th)), some (.int (nI (100 * s))), none, none] [] (F, I, J))))) : AMi m_X7_forge [.ref 0, .int (nI s), .int x2, .int x3] (F, I, J) P := by
  refine r_X7_forge_0 _ _ _ F I J ?_
  have e1 : (nI s < 0) = False := nNeg (by omega)
  have e2 : (5 < nI s) = False := by rw [show (5 : Int32) = nI 5 from rfl, nLt (by omega) (by omega)]; exact eq_false (by omega)
  have e3 : (100 : Int32) * nI s = nI (100 * s) := by rw [n100]; exact nMul _ _
  rw [e1, e2, zN (show s < 2147483648 by omega), hT, e3]
  exact ⟨fun z => z.elim, fun _ => ⟨fun z => z.elim, fun _ => ⟨fun z => absurd z q3, fun _ => ⟨fun z => absurd z q4, fun _ => ⟨fun z => absurd z q5, fun _ => ⟨fun _ => ⟨nIn (by omega) (by omega), hP⟩, fun z => absurd q6 z⟩⟩⟩⟩⟩⟩
theorem s_forge {x1 x2 x3 : Int32} (h : RK t K u o kd N F I J F' I' J') : AMi m_X6_forge [.ref 0, .int x1, .int x2, .int x3] (F, I, J) (fun r C => AMi m_X7_forge [.ref 0, .int x1, .int x2, .int x3] (F', I', J') (fun r' M => r' = r ∧ Rel (t + 1) C M)) := by
  refine r_X6_forge_0 _ _ _ F I J ?_
  have bad : (x1 < 0 ∨ 5 < x1 ∨ x2 < 0 ∨ 8 < x2 ∨ x3 < -100 ∨ ¬ x3 ≤ 100) → AMi m_X6_refuse [.ref 0, .int 1] (F, I, J) (fun r C => AMi m_X7_forge [.ref 0, .int x1, .int x2, .int x3] (F', I', J') (fun r' M => r' = r ∧ Rel (t + 1) C M)) := fun hb => r_X6_refuse_0 _ F I J (m_forge_bad hb ⟨rfl, Rel_st h 1⟩)
  refine c_isTray (fun s hs hx => ⟨fun z => absurd z (by decide), fun _ => ?_⟩) (fun hb => ⟨fun _ => bad ?_, fun z => absurd rfl z⟩)
  · refine ⟨fun z => bad (by simp [z]), fun q3 => ⟨fun z => bad (by simp [z]), fun q4 => ⟨fun z => bad (by simp [z]), fun q5 => ⟨fun q6 => ?_, fun z => bad (by simp [z])⟩⟩⟩⟩
    subst hx
    obtain ⟨th, L, a1, a2, a3, a4, a5, a6, a7, a8, a9⟩ := h.2.2.2.2.2.2.2.2 s hs
    rw [zN (show s < 2147483648 by omega)]
    refine ⟨nIn (by omega) (by omega), ?_⟩
    have hok : ∀ {P : Int32 → zM → Prop}, _ → AMi m_X7_forge [.ref 0, .int (nI s), .int x2, .int x3] (F', I', J') P := fun {P} hP => m_forge_ok (P := P) hs a2 q3 q4 q5 q6 hP
    have e0 : (nI th = 0) = (th = 0) := by rw [n0, nEq (by omega) (by omega)]
    have e3 : (nI th = 3) = (th = 3) := by rw [n3, nEq (by omega) (by omega)]
    rcases pk_ix x2 (n := 9) (by omega) with q | q | ⟨j, hj, q⟩
    · exact absurd q q3
    · exact absurd (Int32.lt_of_lt_of_le (show (8 : Int32) < nI 9 by decide) q) q4
    · have : j = 0 ∨ j = 1 ∨ j = 2 ∨ j = 3 ∨ j = 4 ∨ j = 5 ∨ j = 6 ∨ j = 7 ∨ j = 8 := by omega
      rcases this with e | e | e | e | e | e | e | e | e <;> subst e
      · have q0 : x2 = (0 : Int32) := q
        subst q0
        have go : ∀ i, th = 1 → i < L → (0 : Int32) = nI i → AMi m_X7_forge [.ref 0, .int (nI s), .int 0, .int x3] (F', I', J') (fun r' M => r' = (J (3 + s) i).toInt32 ∧ Rel (t + 1) (upd F 3 0, I, J) M) := by
          intro i hz hi e
          obtain ⟨l1, l2⟩ := a6 hz
          have ei : i = 0 := by omega
          subst ei
          exact hok (⟨fun _ => m_61 a3 (w := 1) (by omega) (Or.inr ⟨by decide, by decide⟩) (fun z3 => by omega) (fun _ z3 => absurd hz z3) (fun _ => r_X7_forge_97 _ _ _ _ _ F' I' J' (⟨fun _ => ⟨nIn (by omega) (by omega), r_X7_done_0 _ F' I' J' ⟨by rw [zN (by omega), l2, i64_32], Rel_st h 0⟩⟩, fun z => absurd rfl z⟩)), fun z => absurd (by decide) z⟩)
        exact ⟨fun _ => c_pick (w := 1) hs a1 a3 a5 a4 (by omega) (fun z => hok (⟨fun _ => m_61 a3 (w := 1) (by omega) (Or.inr ⟨by decide, by decide⟩) (fun _ => ⟨rfl, Rel_st h 10⟩) (fun z2 => absurd z z2) (fun z2 => by omega), fun z => absurd (by decide) z⟩)) (fun z z2 => hok (⟨fun _ => m_61 a3 (w := 1) (by omega) (Or.inr ⟨by decide, by decide⟩) (fun z3 => absurd z3 z) (fun _ _ => ⟨rfl, Rel_st h 11⟩) (fun z3 => absurd z3 z2), fun z => absurd (by decide) z⟩)) (fun z w => absurd rfl (w 0 (by have := (a6 z).1; omega))) go, fun z => absurd rfl z⟩
      · have q0 : x2 = (1 : Int32) := q
        subst q0
        have go : ∀ i, th = 2 → i < L → x3 = nI i → AMi m_X7_forge [.ref 0, .int (nI s), .int 1, .int x3] (F', I', J') (fun r' M => r' = (J (3 + s) i).toInt32 ∧ Rel (t + 1) (upd F 3 0, I, J) M) := by
          intro i hz hi e
          subst e
          have l1 := a7 (by omega)
          have l2 := a8 (by omega) i hi
          refine hok (⟨fun _ => m_61 a3 (w := 2) (by omega) (Or.inr ⟨by decide, by decide⟩) (fun z3 => by omega) (fun _ z3 => absurd hz z3) (fun _ => r_X7_forge_97 _ _ _ _ _ F' I' J' (⟨fun z => absurd z (by decide), fun _ => ⟨fun _ => ?_, fun z => absurd rfl z⟩⟩)), fun z => absurd (by decide) z⟩)
          rw [nNeg (by omega), zN (show s < 2147483648 by omega), l1, nLt (by omega) (by omega), nAdd, zN (show 100 * s + i < 2147483648 by omega)]
          exact ⟨fun w => w.elim, fun _ => ⟨nIn (by omega) (by omega), fun _ => ⟨nIn (by omega) (by omega), r_X7_done_0 _ F' I' J' ⟨by rw [l2, i64_32], Rel_st h 0⟩⟩, fun w => absurd hi w⟩⟩
        have no : th = 2 → (∀ i, i < L → x3 ≠ nI i) → AMi m_X7_forge [.ref 0, .int (nI s), .int 1, .int x3] (F', I', J') (fun r' M => r' = -1 ∧ Rel (t + 1) (upd F 3 12, I, J) M) := by
          intro hz hno
          have l1 := a7 (by omega)
          refine hok (⟨fun _ => m_61 a3 (w := 2) (by omega) (Or.inr ⟨by decide, by decide⟩) (fun z3 => by omega) (fun _ z3 => absurd hz z3) (fun _ => r_X7_forge_97 _ _ _ _ _ F' I' J' (⟨fun z => absurd z (by decide), fun _ => ⟨fun _ => ?_, fun z => absurd rfl z⟩⟩)), fun z => absurd (by decide) z⟩)
          have R := r_X7_refused_0 (P := fun r' M => r' = -1 ∧ Rel (t + 1) (upd F 3 12, I, J) M) 12 F' I' J' ⟨rfl, Rel_st h 12⟩
          rw [zN (show s < 2147483648 by omega), l1]
          refine ⟨fun _ => R, fun w => ⟨nIn (by omega) (by omega), fun w2 => ?_, fun _ => R⟩⟩
          rcases pk_ix x3 (n := L) (by omega) with p | p | ⟨i, hi, p⟩
          · exact absurd p w
          · exact absurd w2 (Int32.not_lt.mpr p)
          · exact absurd p (hno i hi)
        exact ⟨fun z => absurd z (by decide), fun _ => ⟨fun _ => c_pick (w := 2) hs a1 a3 a5 a4 (by omega) (fun z => hok (⟨fun _ => m_61 a3 (w := 2) (by omega) (Or.inr ⟨by decide, by decide⟩) (fun _ => ⟨rfl, Rel_st h 10⟩) (fun z2 => absurd z z2) (fun z2 => by omega), fun z => absurd (by decide) z⟩)) (fun z z2 => hok (⟨fun _ => m_61 a3 (w := 2) (by omega) (Or.inr ⟨by decide, by decide⟩) (fun z3 => absurd z3 z) (fun _ _ => ⟨rfl, Rel_st h 11⟩) (fun z3 => absurd z3 z2), fun z => absurd (by decide) z⟩)) no go, fun z => absurd rfl z⟩⟩
      · have q0 : x2 = (2 : Int32) := q
        subst q0
        refine ⟨fun z => absurd z (by decide), fun _ => ⟨fun z => absurd z (by decide), fun _ => ⟨fun _ => r_X6_countLike_0 s hs _ F I J ?_, fun z => absurd rfl z⟩⟩⟩
        refine c_why (w := 3) hs a1 a3 (by omega) (fun z => ⟨fun w => absurd w (by decide), fun _ => r_X6_refuse_0 _ F I J (hok (⟨fun _ => m_61 a3 (w := 3) (by omega) (Or.inr ⟨by decide, by decide⟩) (fun _ => ⟨rfl, Rel_st h 10⟩) (fun z2 => absurd z z2) (fun z2 => by omega), fun z => absurd (by decide) z⟩))⟩) (fun z z2 => ⟨fun w => absurd w (by decide), fun _ => r_X6_refuse_0 _ F I J (hok (⟨fun _ => m_61 a3 (w := 3) (by omega) (Or.inr ⟨by decide, by decide⟩) (fun z3 => absurd z3 z) (fun _ _ => ⟨rfl, Rel_st h 11⟩) (fun z3 => absurd z3 z2), fun z => absurd (by decide) z⟩))⟩) (fun hz => ⟨fun _ => ?_, fun w => absurd rfl w⟩)
        refine c_like hs a5 a4 ?_ L 0 (by omega)
        refine hok (⟨fun _ => m_61 a3 (w := 3) (by omega) (Or.inr ⟨by decide, by decide⟩) (fun z3 => by omega) (fun _ z3 => absurd hz z3) (fun _ => r_X7_forge_97 _ _ _ _ _ F' I' J' (⟨fun z => absurd z (by decide), fun _ => ⟨fun z => absurd z (by decide), fun _ => ⟨fun _ => ?_, fun z => absurd rfl z⟩⟩⟩)), fun z => absurd (by decide) z⟩)
        refine m_like hs (a7 (by omega)) a4 ⟨?_, Rel_st h 0⟩ L 0 (by omega)
        rw [ctp_congr (p := fun i => J' 3 (100 * s + i) = x3.toInt64) (q := fun i => J (3 + s) i = x3.toInt64) (fun i hi => by rw [a9 hz i hi])]
      · have q0 : x2 = (3 : Int32) := q
        subst q0
        have go : ∀ i, th = 4 → i < L → x3 = nI i → AMi m_X7_forge [.ref 0, .int (nI s), .int 3, .int x3] (F', I', J') (fun r' M => r' = (J (3 + s) i).toInt32 ∧ Rel (t + 1) (upd F 3 0, I, J) M) := by
          intro i hz hi e
          subst e
          have l1 := a7 (by omega)
          have l2 := a8 (by omega) i hi
          refine hok (⟨fun _ => m_61 a3 (w := 4) (by omega) (Or.inr ⟨by decide, by decide⟩) (fun z3 => by omega) (fun _ z3 => absurd hz z3) (fun _ => r_X7_forge_97 _ _ _ _ _ F' I' J' (⟨fun z => absurd z (by decide), fun _ => ⟨fun z => absurd z (by decide), fun _ => ⟨fun z => absurd z (by decide), fun _ => ⟨fun _ => ?_, fun z => absurd rfl z⟩⟩⟩⟩)), fun z => absurd (by decide) z⟩)
          rw [nNeg (by omega), zN (show s < 2147483648 by omega), l1, nLt (by omega) (by omega), nAdd, zN (show 100 * s + i < 2147483648 by omega)]
          exact ⟨fun w => w.elim, fun _ => ⟨nIn (by omega) (by omega), fun _ => ⟨nIn (by omega) (by omega), r_X7_done_0 _ F' I' J' ⟨by rw [l2, i64_32], Rel_st h 0⟩⟩, fun w => absurd hi w⟩⟩
        have no : th = 4 → (∀ i, i < L → x3 ≠ nI i) → AMi m_X7_forge [.ref 0, .int (nI s), .int 3, .int x3] (F', I', J') (fun r' M => r' = -1 ∧ Rel (t + 1) (upd F 3 12, I, J) M) := by
          intro hz hno
          have l1 := a7 (by omega)
          refine hok (⟨fun _ => m_61 a3 (w := 4) (by omega) (Or.inr ⟨by decide, by decide⟩) (fun z3 => by omega) (fun _ z3 => absurd hz z3) (fun _ => r_X7_forge_97 _ _ _ _ _ F' I' J' (⟨fun z => absurd z (by decide), fun _ => ⟨fun z => absurd z (by decide), fun _ => ⟨fun z => absurd z (by decide), fun _ => ⟨fun _ => ?_, fun z => absurd rfl z⟩⟩⟩⟩)), fun z => absurd (by decide) z⟩)
          have R := r_X7_refused_0 (P := fun r' M => r' = -1 ∧ Rel (t + 1) (upd F 3 12, I, J) M) 12 F' I' J' ⟨rfl, Rel_st h 12⟩
          rw [zN (show s < 2147483648 by omega), l1]
          refine ⟨fun _ => R, fun w => ⟨nIn (by omega) (by omega), fun w2 => ?_, fun _ => R⟩⟩
          rcases pk_ix x3 (n := L) (by omega) with p | p | ⟨i, hi, p⟩
          · exact absurd p w
          · exact absurd w2 (Int32.not_lt.mpr p)
          · exact absurd p (hno i hi)
        exact ⟨fun z => absurd z (by decide), fun _ => ⟨fun z => absurd z (by decide), fun _ => ⟨fun z => absurd z (by decide), fun _ => ⟨fun _ => c_pick (w := 4) hs a1 a3 a5 a4 (by omega) (fun z => hok (⟨fun _ => m_61 a3 (w := 4) (by omega) (Or.inr ⟨by decide, by decide⟩) (fun _ => ⟨rfl, Rel_st h 10⟩) (fun z2 => absurd z z2) (fun z2 => by omega), fun z => absurd (by decide) z⟩)) (fun z z2 => hok (⟨fun _ => m_61 a3 (w := 4) (by omega) (Or.inr ⟨by decide, by decide⟩) (fun z3 => absurd z3 z) (fun _ _ => ⟨rfl, Rel_st h 11⟩) (fun z3 => absurd z3 z2), fun z => absurd (by decide) z⟩)) no go, fun z => absurd rfl z⟩⟩⟩⟩
      · have q0 : x2 = (4 : Int32) := q
        subst q0
        refine ⟨fun z => absurd z (by decide), fun _ => ⟨fun z => absurd z (by decide), fun _ => ⟨fun z => absurd z (by decide), fun _ => ⟨fun z => absurd z (by decide), fun _ => ⟨fun _ => ⟨fun z => r_X6_grant_0 _ F I J (hok ⟨fun z => absurd z (by decide), fun _ => ⟨fun _ => r_X7_forge_97 _ _ _ _ _ F' I' J' (⟨fun z => absurd z (by decide), fun _ => ⟨fun z => absurd z (by decide), fun _ => ⟨fun z => absurd z (by decide), fun _ => ⟨fun z => absurd z (by decide), fun _ => ⟨fun _ => ⟨fun _ => r_X7_done_0 _ F' I' J' ⟨rfl, Rel_st h 0⟩, fun w => absurd z w⟩, fun z => absurd rfl z⟩⟩⟩⟩⟩), fun z => absurd z (by decide)⟩⟩), fun z => r_X6_refuse_0 _ F I J (hok ⟨fun z => absurd z (by decide), fun _ => ⟨fun _ => r_X7_forge_97 _ _ _ _ _ F' I' J' (⟨fun z => absurd z (by decide), fun _ => ⟨fun z => absurd z (by decide), fun _ => ⟨fun z => absurd z (by decide), fun _ => ⟨fun z => absurd z (by decide), fun _ => ⟨fun _ => ⟨fun w => absurd w z, fun _ => r_X7_refused_0 _ F' I' J' ⟨rfl, Rel_st h 13⟩⟩, fun z => absurd rfl z⟩⟩⟩⟩⟩), fun z => absurd z (by decide)⟩⟩)⟩, fun z => absurd rfl z⟩⟩⟩⟩⟩
      · have q0 : x2 = (5 : Int32) := q
        subst q0
        refine ⟨fun z => absurd z (by decide), fun _ => ⟨fun z => absurd z (by decide), fun _ => ⟨fun z => absurd z (by decide), fun _ => ⟨fun z => absurd z (by decide), fun _ => ⟨fun z => absurd z (by decide), fun _ => ⟨fun _ => r_X6_sumOfCopy_0 s hs _ F I J ?_, fun z => absurd rfl z⟩⟩⟩⟩⟩⟩
        refine c_why (w := 2) hs a1 a3 (by omega) (fun z => ⟨fun w => absurd w (by decide), fun _ => r_X6_refuse_0 _ F I J (hok (⟨fun z => absurd z (by decide), fun _ => ⟨fun z => absurd rfl z, fun _ => m_61 a3 (w := 2) (by omega) (Or.inl ⟨rfl, rfl⟩) (fun _ => ⟨rfl, Rel_st h 10⟩) (fun z2 => absurd z z2) (fun z2 => by omega)⟩⟩))⟩) (fun z z2 => ⟨fun w => absurd w (by decide), fun _ => r_X6_refuse_0 _ F I J (hok (⟨fun z => absurd z (by decide), fun _ => ⟨fun z => absurd rfl z, fun _ => m_61 a3 (w := 2) (by omega) (Or.inl ⟨rfl, rfl⟩) (fun z3 => absurd z3 z) (fun _ _ => ⟨rfl, Rel_st h 11⟩) (fun z3 => absurd z3 z2)⟩⟩))⟩) (fun hz => ⟨fun _ => ?_, fun w => absurd rfl w⟩)
        have l1 := a7 (by omega)
        have no : (x3 < 0 ∨ nI L < x3 ∨ ¬ x3 + x3 ≤ 8) → AMi m_X6_refuse [.ref 0, .int 12] (F, I, J) (fun r C => AMi m_X7_forge [.ref 0, .int (nI s), .int 5, .int x3] (F', I', J') (fun r' M => r' = r ∧ Rel (t + 1) C M)) := by
          intro hb
          refine r_X6_refuse_0 _ F I J ?_
          refine hok (⟨fun z => absurd z (by decide), fun _ => ⟨fun z => absurd rfl z, fun _ => m_61 a3 (w := 2) (by omega) (Or.inl ⟨rfl, rfl⟩) (fun z3 => by omega) (fun _ z3 => absurd hz z3) (fun _ => r_X7_forge_97 _ _ _ _ _ F' I' J' (⟨fun z => absurd z (by decide), fun _ => ⟨fun z => absurd z (by decide), fun _ => ⟨fun z => absurd z (by decide), fun _ => ⟨fun z => absurd z (by decide), fun _ => ⟨fun z => absurd z (by decide), fun _ => ⟨fun _ => ?_, fun z => absurd rfl z⟩⟩⟩⟩⟩⟩))⟩⟩)
          have R := r_X7_refused_0 (P := fun r' M => r' = -1 ∧ Rel (t + 1) (upd F 3 12, I, J) M) 12 F' I' J' ⟨rfl, Rel_st h 12⟩
          rw [zN (show s < 2147483648 by omega), l1]
          refine ⟨fun _ => R, fun w => ⟨nIn (by omega) (by omega), fun _ => R, fun w2 => ⟨fun w3 => ?_, fun _ => R⟩⟩⟩
          rcases hb with p | p | p
          · exact absurd p w
          · exact absurd p w2
          · exact absurd w3 p
        dsimp only
        rw [a5]
        refine ⟨fun z => no (Or.inl z), fun w => ⟨fun z => no (Or.inr (Or.inl z)), fun w2 => ⟨fun w3 => ?_, fun z => no (Or.inr (Or.inr z))⟩⟩⟩
        rcases pk_ix x3 (n := L + 1) (by omega) with p | p | ⟨m, hm, p⟩
        · exact absurd p w
        · exact absurd (Int32.lt_of_lt_of_le (by rw [nLt (by omega) (by omega)]; omega) p) w2
        · subst p
          refine c_copy hs (by omega) ?_ m 0 (by omega)
          refine hok (⟨fun z => absurd z (by decide), fun _ => ⟨fun z => absurd rfl z, fun _ => m_61 a3 (w := 2) (by omega) (Or.inl ⟨rfl, rfl⟩) (fun z3 => by omega) (fun _ z3 => absurd hz z3) (fun _ => r_X7_forge_97 _ _ _ _ _ F' I' J' (⟨fun z => absurd z (by decide), fun _ => ⟨fun z => absurd z (by decide), fun _ => ⟨fun z => absurd z (by decide), fun _ => ⟨fun z => absurd z (by decide), fun _ => ⟨fun z => absurd z (by decide), fun _ => ⟨fun _ => ?_, fun z => absurd rfl z⟩⟩⟩⟩⟩⟩))⟩⟩)
          rw [zN (show s < 2147483648 by omega), l1]
          refine ⟨fun z => absurd z w, fun _ => ⟨nIn (by omega) (by omega), fun z => absurd z w2, fun _ => ⟨fun _ => ?_, fun z => absurd w3 z⟩⟩⟩
          refine m_copy hs (by omega) ⟨?_, Rel_st h 0⟩ m 0 (by omega)
          exact smi_congr m (fun i hi => by rw [a8 (by omega) i (by omega), i64_32])
      · have q0 : x2 = (6 : Int32) := q
        subst q0
        refine ⟨fun z => absurd z (by decide), fun _ => ⟨fun z => absurd z (by decide), fun _ => ⟨fun z => absurd z (by decide), fun _ => ⟨fun z => absurd z (by decide), fun _ => ⟨fun z => absurd z (by decide), fun _ => ⟨fun z => absurd z (by decide), fun _ => ⟨fun _ => r_X6_layIntoRows_0 s hs F I J ?_, fun z => absurd rfl z⟩⟩⟩⟩⟩⟩⟩
        rw [a1, e0, e3, a5]
        refine ⟨fun z => ⟨fun z2 => r_X6_refuse_0 _ F I J (hok ⟨fun z => absurd z (by decide), fun _ => ⟨fun _ => r_X7_forge_97 _ _ _ _ _ F' I' J' (⟨fun z => absurd z (by decide), fun _ => ⟨fun z => absurd z (by decide), fun _ => ⟨fun z => absurd z (by decide), fun _ => ⟨fun z => absurd z (by decide), fun _ => ⟨fun z => absurd z (by decide), fun _ => ⟨fun z => absurd z (by decide), fun _ => ⟨fun _ => ?_, fun z => absurd rfl z⟩⟩⟩⟩⟩⟩⟩), fun z => absurd z (by decide)⟩⟩), fun z2 => r_X6_grant_0 _ F I J (hok ⟨fun z => absurd z (by decide), fun _ => ⟨fun _ => r_X7_forge_97 _ _ _ _ _ F' I' J' (⟨fun z => absurd z (by decide), fun _ => ⟨fun z => absurd z (by decide), fun _ => ⟨fun z => absurd z (by decide), fun _ => ⟨fun z => absurd z (by decide), fun _ => ⟨fun z => absurd z (by decide), fun _ => ⟨fun z => absurd z (by decide), fun _ => ⟨fun _ => ?_, fun z => absurd rfl z⟩⟩⟩⟩⟩⟩⟩), fun z => absurd z (by decide)⟩⟩)⟩, fun z => r_X6_grant_0 _ F I J (hok ⟨fun z => absurd z (by decide), fun _ => ⟨fun _ => r_X7_forge_97 _ _ _ _ _ F' I' J' (⟨fun z => absurd z (by decide), fun _ => ⟨fun z => absurd z (by decide), fun _ => ⟨fun z => absurd z (by decide), fun _ => ⟨fun z => absurd z (by decide), fun _ => ⟨fun z => absurd z (by decide), fun _ => ⟨fun z => absurd z (by decide), fun _ => ⟨fun _ => ?_, fun z => absurd rfl z⟩⟩⟩⟩⟩⟩⟩), fun z => absurd z (by decide)⟩⟩)⟩
        · rw [e0, e3]
          exact ⟨fun _ => ⟨fun _ => r_X7_refused_0 _ F' I' J' ⟨rfl, Rel_st h 14⟩, fun w => absurd w z2⟩, fun w => absurd w z⟩
        · rw [e0, e3, zN (show s < 2147483648 by omega), a7 (by omega)]
          exact ⟨fun _ => ⟨fun w => absurd z2 w, fun _ => ⟨nIn (by omega) (by omega), r_X7_done_0 _ F' I' J' ⟨rfl, Rel_st h 0⟩⟩⟩, fun w => absurd w z⟩
        · rw [e0]
          exact ⟨fun w => absurd z w, fun _ => r_X7_done_0 _ F' I' J' ⟨rfl, Rel_st h 0⟩⟩
      · have q0 : x2 = (7 : Int32) := q
        subst q0
        refine ⟨fun z => absurd z (by decide), fun _ => ⟨fun z => absurd z (by decide), fun _ => ⟨fun z => absurd z (by decide), fun _ => ⟨fun z => absurd z (by decide), fun _ => ⟨fun z => absurd z (by decide), fun _ => ⟨fun z => absurd z (by decide), fun _ => ⟨fun z => absurd z (by decide), fun _ => ⟨fun _ => ⟨fun z => ⟨z, r_X6_grant_0 _ F I J (hok ⟨fun z => absurd z (by decide), fun _ => ⟨fun _ => r_X7_forge_97 _ _ _ _ _ F' I' J' (⟨fun z => absurd z (by decide), fun _ => ⟨fun z => absurd z (by decide), fun _ => ⟨fun z => absurd z (by decide), fun _ => ⟨fun z => absurd z (by decide), fun _ => ⟨fun z => absurd z (by decide), fun _ => ⟨fun z => absurd z (by decide), fun _ => ⟨fun z => absurd z (by decide), fun _ => ⟨fun _ => ⟨fun _ => ⟨z, r_X7_done_0 _ F' I' J' ⟨rfl, Rel_st h 0⟩⟩, fun w => absurd w z⟩, fun z => absurd rfl z⟩⟩⟩⟩⟩⟩⟩⟩), fun z => absurd z (by decide)⟩⟩)⟩, fun z => r_X6_refuse_0 _ F I J (hok ⟨fun z => absurd z (by decide), fun _ => ⟨fun _ => r_X7_forge_97 _ _ _ _ _ F' I' J' (⟨fun z => absurd z (by decide), fun _ => ⟨fun z => absurd z (by decide), fun _ => ⟨fun z => absurd z (by decide), fun _ => ⟨fun z => absurd z (by decide), fun _ => ⟨fun z => absurd z (by decide), fun _ => ⟨fun z => absurd z (by decide), fun _ => ⟨fun z => absurd z (by decide), fun _ => ⟨fun _ => ⟨fun w => absurd z w, fun _ => r_X7_refused_0 _ F' I' J' ⟨rfl, Rel_st h 15⟩⟩, fun z => absurd rfl z⟩⟩⟩⟩⟩⟩⟩⟩), fun z => absurd z (by decide)⟩⟩)⟩, fun z => absurd rfl z⟩⟩⟩⟩⟩⟩⟩⟩
      · have q0 : x2 = (8 : Int32) := q
        subst q0
        refine ⟨fun z => absurd z (by decide), fun _ => ⟨fun z => absurd z (by decide), fun _ => ⟨fun z => absurd z (by decide), fun _ => ⟨fun z => absurd z (by decide), fun _ => ⟨fun z => absurd z (by decide), fun _ => ⟨fun z => absurd z (by decide), fun _ => ⟨fun z => absurd z (by decide), fun _ => ⟨fun z => absurd z (by decide), fun _ => r_X6_refuse_0 _ F I J (hok ⟨fun z => absurd z (by decide), fun _ => ⟨fun _ => r_X7_forge_97 _ _ _ _ _ F' I' J' (⟨fun z => absurd z (by decide), fun _ => ⟨fun z => absurd z (by decide), fun _ => ⟨fun z => absurd z (by decide), fun _ => ⟨fun z => absurd z (by decide), fun _ => ⟨fun z => absurd z (by decide), fun _ => ⟨fun z => absurd z (by decide), fun _ => ⟨fun z => absurd z (by decide), fun _ => ⟨fun z => absurd z (by decide), fun _ => r_X7_refused_0 _ F' I' J' ⟨rfl, Rel_st h 10⟩⟩⟩⟩⟩⟩⟩⟩⟩), fun z => absurd z (by decide)⟩⟩)⟩⟩⟩⟩⟩⟩⟩⟩
  · rcases hb with q | q
    · exact Or.inl q
    · exact Or.inr (Or.inl (Int32.lt_of_lt_of_le (show (5 : Int32) < nI 6 by decide) q))
end
