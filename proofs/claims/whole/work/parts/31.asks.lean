/-! more steps that only ask -/
theorem lcmp_ge (x y : Int64) : (0 ≤ lg_cmp x y) = ¬ (x < y) := by
  unfold lg_cmp
  apply propext
  by_cases h1 : x > y
  · rw [if_pos h1]
    exact ⟨fun _ h => Int64.lt_irrefl (Int64.lt_trans h h1), fun _ => by decide⟩
  · rw [if_neg h1]
    by_cases h2 : x = y
    · rw [if_pos h2]
      exact ⟨fun _ h => by rw [h2] at h; exact Int64.lt_irrefl h, fun _ => by decide⟩
    · rw [if_neg h2]
      refine ⟨fun e => absurd e (by decide), fun e => ?_⟩
      exfalso
      rcases Int64.lt_or_lt_of_ne h2 with q | q
      · exact e q
      · exact h1 q
def lsm (f : Nat → Int64) : Nat → Int64
  | 0 => f 0
  | n + 1 => if f (n + 1) < lsm f n then f (n + 1) else lsm f n
theorem lsm_congr {f h : Nat → Int64} : ∀ n, (∀ i, i ≤ n → f i = h i) → lsm f n = lsm h n
  | 0, q => q 0 (Nat.le_refl _)
  | n + 1, q => by
    show (if f (n + 1) < lsm f n then f (n + 1) else lsm f n) = (if h (n + 1) < lsm h n then h (n + 1) else lsm h n)
    rw [lsm_congr n (fun i hi => q i (by omega)), q (n + 1) (Nat.le_refl _)]
section
variable {g : zG} {F : Nat → Int32} {I : Nat → Nat → Int32} {J : Nat → Nat → Int64}
theorem m_three_ok {A B : zM → Prop} (h : mQ g F I) {a b : Nat} (ha : a < gn g) (hb : b < gn g) (hB : B (F, I, J)) : AMi m_X7_isKnot [.ref 0, .int (nI a)] (F, I, J) (fun r2 M2 => (r2 = 0 → A M2) ∧ (¬ r2 = 0 → AMi m_X7_isKnot [.ref 0, .int (nI b)] M2 (fun r3 M3 => (r3 = 0 → A M3) ∧ (¬ r3 = 0 → B M3)))) :=
  m_one_ok h ha (m_one_ok h hb hB)
theorem m_three_bad {A B : zM → Prop} {x y : Int32} (h : mQ g F I) (hx : (∀ a, a < gn g → x ≠ nI a) ∨ (∀ b, b < gn g → y ≠ nI b)) (hA : A (F, I, J)) : AMi m_X7_isKnot [.ref 0, .int x] (F, I, J) (fun r2 M2 => (r2 = 0 → A M2) ∧ (¬ r2 = 0 → AMi m_X7_isKnot [.ref 0, .int y] M2 (fun r3 M3 => (r3 = 0 → A M3) ∧ (¬ r3 = 0 → B M3)))) := by
  refine m_isKnot h.1.1 h.2.1 (fun a h1 h2 => ⟨fun z => absurd z (by decide), fun _ => ?_⟩) (fun _ => ⟨fun _ => hA, fun z => absurd rfl z⟩)
  refine m_one_bad h (hx.resolve_left (fun z => z a h1 h2)) hA
theorem c_sum_loop {P : Int64 → zM → Prop} {l : Nat} {K : Nat → Nat} (hl : l < 100) (hK : ∀ i, i ≤ l → I 16 i = nI (K i) ∧ K i < 100) (hP : P (sml (fun i => J 0 (K i)) (l + 1)) (F, I, J)) :
    ∀ d i, i + d = l + 1 → AW m_X6_sum (z_pl P) 21 [some (.ref 0), none, none, some (.int (nI l)), some (.long (sml (fun i => J 0 (K i)) i)), none, some (.int (nI i))] [] (F, I, J) := by
  intro d
  induction d with
  | zero =>
    intro i hd
    refine r_X6_sum_21 _ _ _ F I J ?_
    rw [nLt (by omega) (by omega)]
    exact ⟨fun _ => by rw [show i = l + 1 by omega]; exact hP, fun z => absurd (show l < i by omega) z⟩
  | succ d ih =>
    intro i hd
    have hk := hK i (by omega)
    refine r_X6_sum_21 _ _ _ F I J ?_
    rw [nLt (by omega) (by omega), zN (show i < 2147483648 by omega), hk.1, zN (show K i < 2147483648 by omega), nI_1 i]
    exact ⟨fun z => absurd z (by omega), fun _ => ⟨nIn (by omega) (by omega), nIn (by omega) (by omega), ih (i + 1) (by omega)⟩⟩
theorem m_sum_loop {P : Int64 → zM → Prop} {l : Nat} {K : Nat → Nat} (hl : l < 100) (h6 : F 6 = nI (l + 1)) (hK : ∀ i, i ≤ l → I 15 i = nI (K i) ∧ K i < 100) (hP : P (sml (fun i => J 0 (K i)) (l + 1)) (F, I, J)) :
    ∀ d i, i + d = l + 1 → AW m_X7_sum (z_pl P) 34 [some (.ref 0), none, none, some (.long (sml (fun i => J 0 (K i)) i)), none, some (.int (nI i))] [] (F, I, J) := by
  intro d
  induction d with
  | zero =>
    intro i hd
    refine r_X7_sum_34 _ _ F I J ?_
    rw [h6, nLe (by omega) (by omega)]
    exact ⟨fun _ => by rw [show i = l + 1 by omega]; exact hP, fun z => absurd (show l + 1 ≤ i by omega) z⟩
  | succ d ih =>
    intro i hd
    have hk := hK i (by omega)
    refine r_X7_sum_34 _ _ F I J ?_
    rw [h6, nLe (by omega) (by omega), zN (show i < 2147483648 by omega), hk.1, zN (show K i < 2147483648 by omega), nI_1 i]
    exact ⟨fun z => absurd z (by omega), fun _ => ⟨nIn (by omega) (by omega), nIn (by omega) (by omega), ih (i + 1) (by omega)⟩⟩
theorem c_least_loop {P : Int64 → zM → Prop} {l : Nat} {K : Nat → Nat} (hl : l < 100) (hK : ∀ i, i ≤ l → I 16 i = nI (K i) ∧ K i < 100) (hP : P (lsm (fun i => J 0 (K i)) l) (F, I, J)) :
    ∀ d i, i + d = l → AW m_X6_least (z_pl P) 34 [some (.ref 0), none, none, some (.int (nI l)), some (.long (lsm (fun i => J 0 (K i)) i)), none, some (.int (nI (i + 1)))] [] (F, I, J) := by
  intro d
  induction d with
  | zero =>
    intro i hd
    refine r_X6_least_34 _ _ _ F I J ?_
    rw [nLt (by omega) (by omega)]
    exact ⟨fun _ => by rw [show i = l by omega]; exact hP, fun z => absurd (show l < i + 1 by omega) z⟩
  | succ d ih =>
    intro i hd
    have hk := hK (i + 1) (by omega)
    refine r_X6_least_34 _ _ _ F I J ?_
    rw [nLt (by omega) (by omega), zN (show i + 1 < 2147483648 by omega), hk.1, zN (show K (i + 1) < 2147483648 by omega), nI_1 (i + 1)]
    exact ⟨fun z => absurd z (by omega), fun _ => ⟨nIn (by omega) (by omega), nIn (by omega) (by omega), ih (i + 1) (by omega)⟩⟩
theorem m_least_loop {P : Int64 → zM → Prop} {l : Nat} {K : Nat → Nat} (hl : l < 100) (h6 : F 6 = nI (l + 1)) (hK : ∀ i, i ≤ l → I 15 i = nI (K i) ∧ K i < 100) (hP : P (lsm (fun i => J 0 (K i)) l) (F, I, J)) :
    ∀ d i, i + d = l → AW m_X7_least (z_pl P) 39 [some (.ref 0), none, none, some (.long (lsm (fun i => J 0 (K i)) i)), none, some (.int (nI (i + 1)))] [] (F, I, J) := by
  intro d
  induction d with
  | zero =>
    intro i hd
    refine r_X7_least_39 _ _ F I J ?_
    rw [h6, nLe (by omega) (by omega)]
    exact ⟨fun _ => by rw [show i = l by omega]; exact hP, fun z => absurd (show l + 1 ≤ i + 1 by omega) z⟩
  | succ d ih =>
    intro i hd
    have hk := hK (i + 1) (by omega)
    have nxt := ih (i + 1) (by omega)
    have e : lsm (fun i => J 0 (K i)) (i + 1) = if J 0 (K (i + 1)) < lsm (fun i => J 0 (K i)) i then J 0 (K (i + 1)) else lsm (fun i => J 0 (K i)) i := rfl
    refine r_X7_least_39 _ _ F I J ?_
    rw [h6, nLe (by omega) (by omega), zN (show i + 1 < 2147483648 by omega), hk.1, zN (show K (i + 1) < 2147483648 by omega), nI_1 (i + 1), lcmp_ge]
    have b1 : vp_in (nI (i + 1)) 100 := nIn (by omega) (by omega)
    have b2 : vp_in (nI (K (i + 1))) 100 := nIn (by omega) (by omega)
    refine ⟨fun z => absurd z (by omega), fun _ => ⟨b1, b2, fun z => ?_, fun z => ⟨b1, b2, ?_⟩⟩⟩
    · rw [e, if_neg z] at nxt; exact nxt
    · rw [e, if_pos (Classical.not_not.mp z)] at nxt; exact nxt
/-- member: the answer, of a row of truths -/
def mbA (p : Nat → Bool) (n : Nat) (x : Int32) : Nat → Nat → Nat → Int32
  | 0, _, _ => -1
  | d + 1, c, k => if p k then (if nI c = x then nI k else mbA p n x d (c + 1) (k + 1)) else mbA p n x d c (k + 1)
theorem c_member_loop {P : Int32 → zM → Prop} {n : Nat} {p : Nat → Bool} {x : Int32} (hn : n ≤ 100) (hF : F 0 = nI n) (hp : ∀ k, k < n → (p k = true → I 11 k = 1) ∧ (p k = false → I 11 k = 0)) (r : Int32) (hP : P r (F, I, J)) :
    ∀ d k c, k + d = n → mbA p n x d c k = r → AW m_X6_member (z_pi P) 21 [some (.ref 0), none, some (.int x), some (.int (nI c)), some (.int (nI k))] [] (F, I, J) := by
  intro d
  induction d with
  | zero =>
    intro k c hd hr
    refine r_X6_member_21 _ _ _ F I J ?_
    rw [hF, nLe (by omega) (by omega)]
    have e : r = -1 := hr.symm
    exact ⟨fun _ => by rw [e] at hP; exact hP, fun z => absurd (show n ≤ k by omega) z⟩
  | succ d ih =>
    intro k c hd hr
    refine r_X6_member_21 _ _ _ F I J ?_
    rw [hF, nLe (by omega) (by omega), zN (show k < 2147483648 by omega), nI_1 k, nI_1 c]
    unfold mbA at hr
    refine ⟨fun z => absurd z (by omega), fun _ => ⟨nIn (by omega) (by omega), fun z => ?_, fun z => ?_⟩⟩
    · cases hpk : p k with
      | true => rw [(hp k (by omega)).1 hpk] at z; exact absurd z (by decide)
      | false =>
        rw [hpk] at hr
        exact ih (k + 1) c (by omega) hr
    · cases hpk : p k with
      | false => exact absurd ((hp k (by omega)).2 hpk) z
      | true =>
        rw [hpk, if_pos rfl] at hr
        refine ⟨fun z2 => ?_, fun z2 => ?_⟩
        · rw [if_neg z2] at hr
          exact ih (k + 1) (c + 1) (by omega) hr
        · rw [if_pos z2] at hr
          rw [hr]
          exact hP
theorem m_member_loop {P : Int32 → zM → Prop} {n : Nat} {p : Nat → Bool} {x : Int32} (hn : n ≤ 100) (hF : F 0 = nI n) (hp : ∀ k, k < n → (p k = true → I 11 k = 1) ∧ (p k = false → I 11 k = 0)) (r : Int32) (hP : P r (F, I, J)) :
    ∀ d k c, k + d = n → mbA p n x d c k = r → AW m_X7_member (z_pi P) 22 [some (.ref 0), none, some (.int x), some (.int (nI c)), some (.int (nI k))] [] (F, I, J) := by
  intro d
  induction d with
  | zero =>
    intro k c hd hr
    refine r_X7_member_22 _ _ _ F I J ?_
    rw [hF, nLe (by omega) (by omega)]
    have e : r = -1 := hr.symm
    exact ⟨fun _ => by rw [e] at hP; exact hP, fun z => absurd (show n ≤ k by omega) z⟩
  | succ d ih =>
    intro k c hd hr
    refine r_X7_member_22 _ _ _ F I J ?_
    rw [hF, nLe (by omega) (by omega), zN (show k < 2147483648 by omega), nI_1 k, nI_1 c]
    unfold mbA at hr
    refine ⟨fun z => absurd z (by omega), fun _ => ⟨nIn (by omega) (by omega), fun z => ?_, fun z => ?_⟩⟩
    · cases hpk : p k with
      | true => rw [(hp k (by omega)).1 hpk] at z; exact absurd z (by decide)
      | false =>
        rw [hpk] at hr
        exact ih (k + 1) c (by omega) hr
    · cases hpk : p k with
      | false => exact absurd ((hp k (by omega)).2 hpk) z
      | true =>
        rw [hpk, if_pos rfl] at hr
        refine ⟨fun z2 => ?_, fun z2 => ?_⟩
        · rw [if_neg z2] at hr
          exact ih (k + 1) (c + 1) (by omega) hr
        · rw [if_pos z2] at hr
          rw [hr]
          exact hP
/-- the sum of the weights of tree edges -/
theorem c_total {P : Int64 → zM → Prop} (hW : gW g) (hF : F 4 = nI (gm g)) (hE : gE g I) (hP : P (sml (fun e => zif (gs g e = 1) (J 1 e) 0) (gm g)) (F, I, J)) : AMl m_X6_total [.ref 0] (F, I, J) P := by
  have hm := hW.2.1
  have lp : ∀ d i, i + d = gm g → AW m_X6_total (z_pl P) 4 [some (.ref 0), some (.long (sml (fun e => zif (gs g e = 1) (J 1 e) 0) i)), none, some (.int (nI i))] [] (F, I, J) := by
    intro d
    induction d with
    | zero =>
      intro i hd
      refine r_X6_total_4 _ _ F I J ?_
      rw [hF, nLe (by omega) (by omega)]
      exact ⟨fun _ => by rw [show i = gm g by omega]; exact hP, fun z => absurd (show gm g ≤ i by omega) z⟩
    | succ d ih =>
      intro i hd
      have hw := hW.2.2 i (by omega)
      have nxt := ih (i + 1) (by omega)
      have e : sml (fun e => zif (gs g e = 1) (J 1 e) 0) (i + 1) = sml (fun e => zif (gs g e = 1) (J 1 e) 0) i + zif (gs g i = 1) (J 1 i) 0 := rfl
      refine r_X6_total_4 _ _ F I J ?_
      rw [hF, nLe (by omega) (by omega), zN (show i < 2147483648 by omega), (hE i (by omega)).2.2.1, n1, nEq (by omega) (by omega), ← n1, nI_1 i]
      refine ⟨fun z => absurd z (by omega), fun _ => ⟨nIn (by omega) (by omega), fun z => ?_, fun z => ⟨nIn (by omega) (by omega), ?_⟩⟩⟩
      · rw [e, zif_neg z, Int64.add_zero] at nxt; exact nxt
      · rw [e, zif_pos z] at nxt; exact nxt
  refine r_X6_total_0 F I J ?_
  exact lp (gm g) 0 (by omega)
theorem m_total {P : Int64 → zM → Prop} (hW : gW g) (hF : F 1 = nI (gm g)) (hE : gE g I) (hP : P (sml (fun e => zif (gs g e = 1) (J 1 e) 0) (gm g)) (F, I, J)) : AMl m_X7_total [.ref 0] (F, I, J) P := by
  have hm := hW.2.1
  have lp : ∀ d i, i + d = gm g → AW m_X7_total (z_pl P) 4 [some (.ref 0), some (.long (sml (fun e => zif (gs g e = 1) (J 1 e) 0) i)), none, some (.int (nI i))] [] (F, I, J) := by
    intro d
    induction d with
    | zero =>
      intro i hd
      refine r_X7_total_4 _ _ F I J ?_
      rw [hF, nLe (by omega) (by omega)]
      exact ⟨fun _ => by rw [show i = gm g by omega]; exact hP, fun z => absurd (show gm g ≤ i by omega) z⟩
    | succ d ih =>
      intro i hd
      have hw := hW.2.2 i (by omega)
      have nxt := ih (i + 1) (by omega)
      have e : sml (fun e => zif (gs g e = 1) (J 1 e) 0) (i + 1) = sml (fun e => zif (gs g e = 1) (J 1 e) 0) i + zif (gs g i = 1) (J 1 i) 0 := rfl
      refine r_X7_total_4 _ _ F I J ?_
      rw [hF, nLe (by omega) (by omega), zN (show i < 2147483648 by omega), (hE i (by omega)).2.2.1, n1, nEq (by omega) (by omega), ← n1, nI_1 i]
      refine ⟨fun z => absurd z (by omega), fun _ => ⟨nIn (by omega) (by omega), fun z => ?_, fun z => ⟨nIn (by omega) (by omega), ?_⟩⟩⟩
      · rw [e, zif_neg z, Int64.add_zero] at nxt; exact nxt
      · rw [e, zif_pos z] at nxt; exact nxt
  refine r_X7_total_0 F I J ?_
  exact lp (gm g) 0 (by omega)
end
section
variable {t : Nat} {K : Nat → zK} {u o kd N : Nat} {F : Nat → Int32} {I : Nat → Nat → Int32} {J : Nat → Nat → Int64} {F' : Nat → Int32} {I' : Nat → Nat → Int32} {J' : Nat → Nat → Int64}
theorem s_total (h : RK t K u o kd N F I J F' I' J') : AMl m_X6_total [.ref 0] (F, I, J) (fun r C => AMl m_X7_total [.ref 0] (F', I', J') (fun r' M => r' = r ∧ Rel (t + 1) C M)) := by
  refine c_total h.1.1.1 h.1.1.2.2.1 h.1.1.2.2.2.1 (m_total h.1.1.1 h.2.1.1.2.2.1 h.2.1.1.2.2.2 ⟨?_, Rel_0 h⟩)
  exact sml_congr (fun e he => by rw [h.2.2.2.2.1 e he])
theorem s_sum {x y : Int32} (h : RK t K u o kd N F I J F' I' J') : AMl m_X6_sum [.ref 0, .int x, .int y] (F, I, J) (fun r C => AMl m_X7_sum [.ref 0, .int x, .int y] (F', I', J') (fun r' M => r' = r ∧ Rel (t + 1) C M)) := by
  have hc := h.1.1
  have hm := h.2.1.1
  have hn := hc.1.1
  refine r_X6_sum_0 _ _ F I J ?_
  refine c_layTrack hc (fun hx => ⟨fun z => absurd z (by decide), fun _ => ?_⟩) (fun a b F2 I2 ha hb hx hy hno h8 hQ hfr => ⟨fun z => absurd z (by decide), fun _ => ?_⟩) (fun a b F2 I2 l K2 S ha hb hx hy hw hl h8 hK hS hQ hfr => ⟨fun _ => ?_, fun z => absurd (nPos l (by omega)) z⟩)
  · exact r_X7_sum_0 _ _ F' I' J' (m_three_bad hm hx ⟨rfl, Rel_0 h⟩)
  · subst hx; subst hy
    refine r_X7_sum_0 _ _ F' I' J' (m_three_ok hm ha hb (m_finds hm ha hb (fun I3 q1 q2 _ _ => ⟨fun z => absurd rfl z, fun _ => ⟨rfl, ?_⟩⟩) (fun F3 I3 l3 K3 S3 _ _ w _ _ _ _ _ => absurd (isW_all w) hno)))
    exact ⟨K, u, o, kd, N, RK_q h hQ hfr q1 q2⟩
  · subst hx; subst hy
    refine c_sum_loop (l := l) (K := K2) (by omega) (fun i hi => ⟨(hK i hi).1, by have := (hK i hi).2; omega⟩) ?_ (l + 1) 0 (by omega)
    refine r_X7_sum_0 _ _ F' I' J' (m_three_ok hm ha hb (m_finds hm ha hb (fun I3 q1 q2 z _ => absurd (isW_all hw) z) (fun F3 I3 l3 K3 S3 q1 q2 w w2 e6 e15 _ _ => ⟨fun _ => ?_, fun z => absurd z (by decide)⟩)))
    obtain ⟨o1, o2, -⟩ := isW_one (RK_fo h) _ _ _ _ _ _ _ _ w hw
    refine m_sum_loop (l := l3) (K := K3) (by omega) e6 (fun i hi => ⟨(e15 i hi).1, by have := (e15 i hi).2; omega⟩) ⟨?_, K, u, o, kd, N, RK_q h hQ hfr q1 q2⟩ (l3 + 1) 0 (by omega)
    rw [o1]
    refine sml_congr (fun i hi => ?_)
    have e := o2 i (by omega)
    have hk := (hK i (by omega)).2
    rw [e, (h.1.2.1 _ hk).2, (h.2.1.2.1 _ hk).2]
theorem s_least {x y : Int32} (h : RK t K u o kd N F I J F' I' J') : AMl m_X6_least [.ref 0, .int x, .int y] (F, I, J) (fun r C => AMl m_X7_least [.ref 0, .int x, .int y] (F', I', J') (fun r' M => r' = r ∧ Rel (t + 1) C M)) := by
  have hc := h.1.1
  have hm := h.2.1.1
  have hn := hc.1.1
  refine r_X6_least_0 _ _ F I J ?_
  refine c_layTrack hc (fun hx => ⟨fun z => absurd z (by decide), fun _ => ?_⟩) (fun a b F2 I2 ha hb hx hy hno h8 hQ hfr => ⟨fun z => absurd z (by decide), fun _ => ?_⟩) (fun a b F2 I2 l K2 S ha hb hx hy hw hl h8 hK hS hQ hfr => ⟨fun _ => ?_, fun z => absurd (nPos l (by omega)) z⟩)
  · exact r_X7_least_0 _ _ F' I' J' (m_three_bad hm hx ⟨rfl, Rel_0 h⟩)
  · subst hx; subst hy
    refine r_X7_least_0 _ _ F' I' J' (m_three_ok hm ha hb (m_finds hm ha hb (fun I3 q1 q2 _ _ => ⟨fun z => absurd rfl z, fun _ => ⟨rfl, ?_⟩⟩) (fun F3 I3 l3 K3 S3 _ _ w _ _ _ _ _ => absurd (isW_all w) hno)))
    exact ⟨K, u, o, kd, N, RK_q h hQ hfr q1 q2⟩
  · subst hx; subst hy
    have hk0 := hK 0 (by omega)
    dsimp only
    rw [show zn 0 = 0 from by rw [n0]; exact zN (by omega), hk0.1, zN (show K2 0 < 2147483648 by omega)]
    refine ⟨by rw [n0]; exact nIn (by omega) (by omega), nIn (by omega) (by omega), ?_⟩
    refine c_least_loop (l := l) (K := K2) (by omega) (fun i hi => ⟨(hK i hi).1, by have := (hK i hi).2; omega⟩) ?_ l 0 (by omega)
    refine r_X7_least_0 _ _ F' I' J' (m_three_ok hm ha hb (m_finds hm ha hb (fun I3 q1 q2 z _ => absurd (isW_all hw) z) (fun F3 I3 l3 K3 S3 q1 q2 w w2 e6 e15 _ _ => ⟨fun _ => ⟨nIn (by omega) (by omega), ?_⟩, fun z => absurd z (by decide)⟩)))
    obtain ⟨o1, o2, -⟩ := isW_one (RK_fo h) _ _ _ _ _ _ _ _ w hw
    dsimp only
    rw [zN (show a < 2147483648 by omega)]
    have e0 := e15 0 (by omega)
    have w0 : K3 0 = a := w.1
    refine r_X7_least_39 _ _ F3 I3 J' ?_
    rw [e6, n0, nLe (by omega) (by omega), zN (show 0 < 2147483648 by omega), e0.1, zN (show K3 0 < 2147483648 by omega), w0, ← n0, lcmp_ge, show ((0 : Int32) + 1) = nI (0 + 1) from rfl]
    refine ⟨fun z => absurd z (by omega), fun _ => ⟨by rw [n0]; exact nIn (by omega) (by omega), nIn (by omega) (by omega), fun _ => ?_, fun z => absurd Int64.lt_irrefl z⟩⟩
    have fin := m_least_loop (F := F3) (I := I3) (J := J') (P := fun r' M => r' = lsm (fun i => J 0 (K2 i)) l ∧ Rel (t + 1) (F2, I2, J) M) (l := l3) (K := K3) (by omega) e6 (fun i hi => ⟨(e15 i hi).1, by have := (e15 i hi).2; omega⟩) ⟨?_, K, u, o, kd, N, RK_q h hQ hfr q1 q2⟩ l3 0 (by omega)
    · have e : lsm (fun i => J' 0 (K3 i)) 0 = J' 0 a := by rw [← w0]; rfl
      rw [e] at fin
      exact fin
    · rw [o1]
      refine lsm_congr l (fun i hi => ?_)
      have e := o2 i (by omega)
      have hk := (hK i (by omega)).2
      rw [e, (h.1.2.1 _ hk).2, (h.2.1.2.1 _ hk).2]
theorem s_member {x y : Int32} (h : RK t K u o kd N F I J F' I' J') : AMi m_X6_member [.ref 0, .int x, .int y] (F, I, J) (fun r C => AMi m_X7_member [.ref 0, .int x, .int y] (F', I', J') (fun r' M => r' = r ∧ Rel (t + 1) C M)) := by
  have hc := h.1.1
  have hm := h.2.1.1
  have hn := hc.1.1
  refine r_X6_member_0 _ _ F I J ?_
  refine c_isKnot hn hc.2.1 (fun a ha hx => ⟨fun _ => ?_, fun z => absurd z (by decide)⟩) (fun hx => ⟨fun z => absurd rfl z, fun _ => ?_⟩)
  · subst hx
    refine c_floodPart hc ha (fun F2 I2 L q R B dp hf hQ hfr hR _ => ?_)
    obtain ⟨p, hp⟩ : ∃ p : Nat → Bool, ∀ k, p k = true ↔ cn (gm (kg (K u))) (ga (kg (K u))) (gb (kg (K u))) (Tr (kg (K u))) a k := ⟨fun k => @decide _ (Classical.propDecidable (cn (gm (kg (K u))) (ga (kg (K u))) (gb (kg (K u))) (Tr (kg (K u))) a k)), fun k => @decide_eq_true_iff _ (Classical.propDecidable _)⟩
    refine c_member_loop (n := gn (kg (K u))) (p := p) hn hQ.2.1 (fun k hk => ?_) (mbA p (gn (kg (K u))) y (gn (kg (K u))) 0 0) ?_ (gn (kg (K u))) 0 0 (by omega) rfl
    · have hr := hf.2.2.2.2.2.2 k (by omega)
      exact ⟨fun z => hr.1 ((hR k).mpr ((hp k).mp z)), fun z => hr.2 (fun z2 => by rw [(hp k).mpr ((hR k).mp z2)] at z; cases z)⟩
    · refine r_X7_member_0 _ _ F' I' J' (m_onf_ok hm ha ?_)
      refine m_part hm ha (fun I3 L' q' R' B' dp' hf' hQ' hfr' hR' _ => ?_)
      refine m_member_loop (n := gn (kg (K u))) (p := p) hn hQ'.2.1 (fun k hk => ?_) (mbA p (gn (kg (K u))) y (gn (kg (K u))) 0 0) ⟨rfl, K, u, o, kd, N, RK_q h hQ hfr hQ' hfr'⟩ (gn (kg (K u))) 0 0 (by omega) rfl
      have hr := hf'.2.2.2.2 k (by omega)
      exact ⟨fun z => hr.1 ((hR' k).mpr ((hp k).mp z)), fun z => hr.2 (fun z2 => by rw [(hp k).mpr ((hR' k).mp z2)] at z; cases z)⟩
  · exact r_X7_member_0 _ _ F' I' J' (m_onf_bad hm hx ⟨rfl, Rel_0 h⟩)
end
