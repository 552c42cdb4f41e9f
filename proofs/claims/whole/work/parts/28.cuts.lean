/-! bridges, cut knots, parts: the reference, and the counts of both -/
theorem ctp_all {p q : Nat → Prop} {n : Nat} (hs : ∀ k, k < n → p k → q k) (hc : ctp q n ≤ ctp p n) {y : Nat} (hy : y < n) (hq : q y) : p y := by
  refine Classical.byContradiction fun z => ?_
  have h1 := ctp_drop (p := q) hq hy
  have h2 : ctp p n ≤ ctp (fun k => q k ∧ k ≠ y) n := ctp_mono (fun k hk hp => ⟨hs k hk hp, fun e => z (e ▸ hp)⟩)
  omega
theorem ctp_some {p q : Nat → Prop} {n : Nat} (hc : ctp p n < ctp q n) : ∃ y, y < n ∧ q y ∧ ¬ p y := by
  refine Classical.byContradiction fun z => ?_
  have h2 : ctp q n ≤ ctp p n := ctp_mono (fun k hk hq => Classical.byContradiction fun z2 => z ⟨k, hk, hq, z2⟩)
  omega
section
variable {g : zG} {F : Nat → Int32} {I : Nat → Nat → Int32} {J : Nat → Nat → Int64}
theorem mfl_ctp {T : Nat → Prop} {rt r L : Nat} {q : Nat → Nat} {R : Nat → Prop} {B dp : Nat → Nat} (h : mfl g T rt r L q R B dp I) : ctp R (gn g) = L := by
  obtain ⟨b1, b2, b3, b4, b5, b6, -⟩ := h.1
  exact ctp_enum L R (fun i hi => (b4 i hi).1) b5 (fun k hk => ⟨b6 k, fun ⟨i, hi, e⟩ => e ▸ (b4 i hi).2.1⟩)
theorem nPos (x : Nat) (hx : x < 2147483648) : (0 : Int32) ≤ nI x := by rw [n0, nLe (by omega) hx]; omega
theorem mT_br (hW : gW g) {e : Nat} (he : e < gm g) (f : Nat) (hf : f < gm g) : (Al g f ∧ f ≠ e) ↔ mT g 0 1 (nI e) (-1) f := by
  have h1 := hW.2.1
  have h2 := hW.2.2 f hf
  have h3 := hW.1
  unfold mT Al
  rw [nNe (by omega), nNe (by omega), nEq (by omega) (by omega)]
  exact ⟨fun h => ⟨h.2, h.1, fun _ => by decide, fun _ => by decide, id, id⟩, fun h => ⟨h.2.1, h.1⟩⟩
theorem mT_al (hW : gW g) (f : Nat) (hf : f < gm g) : Al g f ↔ mT g 0 1 (-1) (-1) f := by
  have h1 := hW.2.1
  have h2 := hW.2.2 f hf
  have h3 := hW.1
  unfold mT Al
  rw [nNe (by omega), nNe (by omega), nNe (by omega)]
  exact ⟨fun h => ⟨id, h, fun _ => by decide, fun _ => by decide, id, id⟩, fun h => h.2.1⟩
theorem mT_avo (hW : gW g) {v : Nat} (hv : v < gn g) (f : Nat) (hf : f < gm g) : avo (ga g) (gb g) (Al g) v f ↔ mT g 0 1 (-1) (nI v) f := by
  have h1 := hW.2.1
  have h2 := hW.2.2 f hf
  have h3 := hW.1
  unfold mT avo Al
  rw [nNe (by omega), nEq (by omega) (by omega), nEq (by omega) (by omega)]
  exact ⟨fun h => ⟨id, h.1, fun _ => by decide, fun _ => by decide, h.2.1, h.2.2⟩, fun h => ⟨h.2.1, h.2.2.2.2.1, h.2.2.2.2.2⟩⟩
theorem m_isBridge {P : Int32 → zM → Prop} (h : mQ g F I) {e : Nat} (he : e < gm g) (hs : gs g e ≠ 0)
    (h1 : ∀ I2, mQ g F I2 → frM F I F I2 → gBr g e → P 1 (F, I2, J)) (h0 : ∀ I2, mQ g F I2 → frM F I F I2 → ¬ gBr g e → P 0 (F, I2, J)) :
    AMi m_X7_isBridge [.ref 0, .int (nI e)] (F, I, J) P := by
  refine r_X7_isBridge_0 _ F I J ?_
  have hn := h.1.1
  have hm := h.1.2.1
  have hw := h.1.2.2 e he
  have b1 : vp_in (nI e) 300 := nIn (by omega) (by omega)
  rw [zN (show e < 2147483648 by omega), (h.2.2.2 e he).1]
  refine ⟨b1, ?_⟩
  refine m_reach_a (T := fun f => Al g f ∧ f ≠ e) h.1 h.2.2.2 h.2.1 h.2.2.1 (fun f hf => mT_br h.1 he f hf) hw.1 (by rw [nNe (by omega)]; exact id) (fun I2 L q R B dp hf hI hR => ?_)
  have hfr : frM F I F I2 := ⟨fun _ _ => rfl, fun j hj => hI j (by omega) (by omega) (by omega)⟩
  have hQ := mQ_fr h hfr
  dsimp only
  rw [(hQ.2.2.2 e he).2.1, zN (show gb g e < 2147483648 by omega)]
  refine ⟨b1, nIn (by omega) (by omega), fun z => h0 I2 hQ hfr (fun w => ?_), fun z => h1 I2 hQ hfr ⟨hs, fun w => ?_⟩⟩
  · exact z ((hf.2.2.2.2 _ hw.2.1).2 (fun z2 => w.2 ((hR _).mp z2)))
  · rw [(hf.2.2.2.2 _ hw.2.1).1 ((hR _).mpr w)] at z
    exact absurd z (by decide)
theorem m_isCut {P : Int32 → zM → Prop} (h : mQ g F I) {v : Nat} (hv : v < gn g)
    (h1 : ∀ I2, mQ g F I2 → frM F I F I2 → gCu g v → P 1 (F, I2, J)) (h0 : ∀ I2, mQ g F I2 → frM F I F I2 → ¬ gCu g v → P 0 (F, I2, J)) :
    AMi m_X7_isCut [.ref 0, .int (nI v)] (F, I, J) P := by
  refine r_X7_isCut_0 _ F I J ?_
  have hn := h.1.1
  have hm := h.1.2.1
  refine m_reach_b (T := Al g) h.1 h.2.2.2 h.2.1 h.2.2.1 (fun f hf => mT_al h.1 f hf) hv (by rw [nNe (by omega)]; exact id) (fun I1 L q R B dp hf hI hR => ?_)
  have hfr : frM F I F I1 := ⟨fun _ _ => rfl, fun j hj => hI j (by omega) (by omega) (by omega)⟩
  have hQ := mQ_fr h hfr
  have lp : ∀ d i (o : Option Nat), i + d = gn g → (o = none → ctp (fun k => R k ∧ k ≠ v) i = 0) → (∀ f, o = some f → f < gn g ∧ R f ∧ f ≠ v) →
      AW m_X7_isCut (z_pi P) 21 [some (.ref 0), some (.int (nI v)), some (.int (oI o)), some (.int (nI (ctp (fun k => R k ∧ k ≠ v) i))), some (.int (nI i))] [] (F, I1, J) := by
    intro d
    induction d with
    | zero =>
      intro i o hd ho hs
      have hin : i = gn g := by omega
      subst hin
      have hle := ctp_le (fun k => R k ∧ k ≠ v) (gn g)
      refine r_X7_isCut_21 _ _ _ _ F I1 J ?_
      rw [h.2.1, nLe (by omega) (by omega), n1, nLe (by omega) (by omega)]
      refine ⟨fun _ => ⟨fun z => h0 I1 hQ hfr (fun w => ?_), fun z => ?_⟩, fun z => absurd (Nat.le_refl _) z⟩
      · obtain ⟨u, w, z1, z2, z3, z4, z5⟩ := w
        have hu := bf_R hf.1 ((hR u).mpr z3)
        have hw := bf_R hf.1 ((hR w).mpr z4)
        have hne : u ≠ w := fun e => z5 (e ▸ cn_refl _)
        have := ctp_two (p := fun k => R k ∧ k ≠ v) hu hw hne ⟨(hR u).mpr z3, z1⟩ ⟨(hR w).mpr z4, z2⟩
        omega
      · cases o with
        | none => have := ho rfl; omega
        | some f =>
          obtain ⟨s1, s2, s3⟩ := hs f rfl
          have hsub : ∀ k, cn (gm g) (ga g) (gb g) (avo (ga g) (gb g) (Al g) v) f k → R k ∧ k ≠ v := by
            intro k hc
            refine cn_ind (P := fun k => R k ∧ k ≠ v) ⟨s2, s3⟩ (fun x y _ hx hst => ?_) hc
            obtain ⟨e, e1, e2, e3⟩ := hst
            refine ⟨(hR y).mpr (cn_step ((hR x).mp hx.1) ⟨e, e1, e2.1, e3⟩), fun z2 => ?_⟩
            rcases e3 with ⟨q1, q2⟩ | ⟨q1, q2⟩
            · exact e2.2.2 (by rw [q2]; exact z2)
            · exact e2.2.1 (by rw [q1]; exact z2)
          refine m_reach_a (T := avo (ga g) (gb g) (Al g) v) hQ.1 hQ.2.2.2 hQ.2.1 hQ.2.2.1 (fun f hf => mT_avo h.1 hv f hf) s1 (by rw [nEq (by omega) (by omega)]; exact s3) (fun I2 L2 q2 R2 B2 dp2 hf2 hI2 hR2 => ?_)
          have hfr2 : frM F I1 F I2 := ⟨fun _ _ => rfl, fun j hj => hI2 j (by omega) (by omega) (by omega)⟩
          have hQ2 := mQ_fr hQ hfr2
          have hL2 := mfl_ctp hf2
          have hLn := hf2.1.1
          rw [nLe (by omega) (by omega)]
          refine ⟨fun z2 => h0 I2 hQ2 (frM_trans hfr hfr2) (fun w => ?_), fun z2 => h1 I2 hQ2 (frM_trans hfr hfr2) ?_⟩
          · obtain ⟨u, w, z3, z4, z5, z6, z7⟩ := w
            have al : ∀ y, y ≠ v → cn (gm g) (ga g) (gb g) (Al g) v y → R2 y := by
              intro y y1 y2
              have hRy := (hR y).mpr y2
              exact ctp_all (p := R2) (q := fun k => R k ∧ k ≠ v) (fun k hk hp => hsub k ((hR2 k).mp hp)) (by omega) (bf_R hf.1 hRy) ⟨hRy, y1⟩
            exact z7 (cn_trans (cn_symm ((hR2 u).mp (al u z3 z5))) ((hR2 w).mp (al w z4 z6)))
          · obtain ⟨y, y1, y2, y3⟩ := ctp_some (p := R2) (q := fun k => R k ∧ k ≠ v) (n := gn g) (by omega)
            exact ⟨f, y, s3, y2.2, (hR f).mp s2, (hR y).mp y2.1, fun z3 => y3 ((hR2 y).mpr z3)⟩
    | succ d ih =>
      intro i o hd ho hs
      have hle := ctp_le (fun k => R k ∧ k ≠ v) i
      have hct : ctp (fun k => R k ∧ k ≠ v) (i + 1) = ctp (fun k => R k ∧ k ≠ v) i + zif (R i ∧ i ≠ v) 1 0 := rfl
      refine r_X7_isCut_21 _ _ _ _ F I1 J ?_
      rw [h.2.1, nLe (by omega) (by omega), zN (show i < 2147483648 by omega), nI_1 i, nEq (by omega) (by omega)]
      refine ⟨fun z => absurd z (by omega), fun _ => ⟨nIn (by omega) (by omega), fun z => ?_, fun z => ⟨fun z2 => ?_, fun z2 => ?_⟩⟩⟩
      · have hRi : ¬ R i := fun w => by rw [(hf.2.2.2.2 i (by omega)).1 w] at z; exact absurd z (by decide)
        rw [zif_neg (fun w => hRi w.1)] at hct
        have := ih (i + 1) o (by omega) (fun e => by rw [hct]; exact ho e) hs
        rw [hct] at this
        exact this
      · have hRi : R i := Classical.byContradiction fun w => z ((hf.2.2.2.2 i (by omega)).2 w)
        rw [zif_pos ⟨hRi, z2⟩] at hct
        rw [nI_1]
        cases o with
        | some f =>
          have s := hs f rfl
          refine ⟨fun _ => ?_, fun z3 => ?_⟩
          · have := ih (i + 1) (some f) (by omega) (fun e => by cases e) hs
            rw [hct] at this
            exact this
          · have z4 : nI f = -1 := z3
            rw [nNe (by omega)] at z4
            exact z4.elim
        | none =>
          refine ⟨fun z3 => absurd rfl z3, fun _ => ?_⟩
          have := ih (i + 1) (some i) (by omega) (fun e => by cases e) (fun f e => by cases e; exact ⟨by omega, hRi, z2⟩)
          rw [hct] at this
          exact this
      · rw [zif_neg (fun w => w.2 z2)] at hct
        have := ih (i + 1) o (by omega) (fun e => by rw [hct]; exact ho e) hs
        rw [hct] at this
        exact this
  exact lp (gn g) 0 none (by omega) (fun _ => rfl) (fun f e => by cases e)
/-- the counts of edges in a state -/
theorem c_howMany {P : Int32 → zM → Prop} (hW : gW g) (hF : F 4 = nI (gm g)) (hE : gE g I) {s : Nat} (hs : s < 2147483648) (hP : P (nI (ctp (fun e => gs g e = s) (gm g))) (F, I, J)) : AMi m_X0_howMany [.ref 3, .int (nI s)] (F, I, J) P := by
  have hm := hW.2.1
  have lp : ∀ d i, i + d = gm g → AW m_X0_howMany (z_pi P) 4 [some (.ref 3), some (.int (nI s)), some (.int (nI (ctp (fun e => gs g e = s) i))), some (.int (nI i))] [] (F, I, J) := by
    intro d
    induction d with
    | zero =>
      intro i hd
      refine r_X0_howMany_4 _ _ _ F I J ?_
      rw [hF, nLe (by omega) (by omega)]
      refine ⟨fun _ => by rw [show i = gm g by omega]; exact hP, fun z => absurd (show gm g ≤ i by omega) z⟩
    | succ d ih =>
      intro i hd
      have hw := hW.2.2 i (by omega)
      have hct : ctp (fun e => gs g e = s) (i + 1) = ctp (fun e => gs g e = s) i + zif (gs g i = s) 1 0 := rfl
      refine r_X0_howMany_4 _ _ _ F I J ?_
      have := ih (i + 1) (by omega)
      rw [hF, nLe (by omega) (by omega), zN (show i < 2147483648 by omega), (hE i (by omega)).2.2.1, nEq (by omega) (by omega), nI_1 i, nI_1]
      refine ⟨fun z => absurd z (by omega), fun _ => ⟨nIn (by omega) (by omega), fun z => ?_, fun z => ?_⟩⟩
      · rw [zif_neg z] at hct; rw [hct] at this; exact this
      · rw [zif_pos z] at hct; rw [hct] at this; exact this
  refine r_X0_howMany_0 _ F I J ?_
  exact lp (gm g) 0 (by omega)
end
/-- k is the lowest knot of its part -/
def low (m : Nat) (a b : Nat → Nat) (T : Nat → Prop) (k : Nat) : Prop := ∀ j, j < k → ¬ cn m a b T k j
section
variable {m : Nat} {a b : Nat → Nat} {T : Nat → Prop}
theorem low_ex : ∀ N u, u < N → ∃ l, l ≤ u ∧ cn m a b T u l ∧ low m a b T l := by
  intro N
  induction N with
  | zero => intro u hu; omega
  | succ N ih =>
    intro u hu
    by_cases h : low m a b T u
    · exact ⟨u, Nat.le_refl _, cn_refl _, h⟩
    · have : ∃ j, j < u ∧ cn m a b T u j := Classical.byContradiction fun z => h (fun j hj hc => z ⟨j, hj, hc⟩)
      obtain ⟨j, hj, hc⟩ := this
      obtain ⟨l, l1, l2, l3⟩ := ih j (by omega)
      exact ⟨l, by omega, cn_trans hc l2, l3⟩
theorem low_one {x y : Nat} (hx : low m a b T x) (hy : low m a b T y) (hc : cn m a b T x y) : x = y := by
  rcases Nat.lt_trichotomy x y with z | z | z
  · exact absurd (cn_symm hc) (hy x z)
  · exact z
  · exact absurd hc (hx y z)
theorem low_add {e u v lu lv : Nat} (he : e < m) (hj : jn a b e u v) (hu : cn m a b T u lu) (hv : cn m a b T v lv) (l1 : low m a b T lu) (l2 : low m a b T lv) (hlt : lu < lv) :
    (∀ k, low m a b T k ↔ k = lv ∨ low m a b (fun f => T f ∨ f = e) k) ∧ ¬ low m a b (fun f => T f ∨ f = e) lv := by
  have mono : ∀ {x y}, cn m a b T x y → cn m a b (fun f => T f ∨ f = e) x y := fun h => cn_sub h (fun _ _ z => Or.inl z)
  have hed : cn m a b (fun f => T f ∨ f = e) u v := cn_edge he (Or.inr rfl) hj
  refine ⟨fun k => ⟨fun hk => ?_, fun hk => ?_⟩, fun z => z lu hlt (cn_trans (cn_symm (mono hv)) (cn_trans (cn_symm hed) (mono hu)))⟩
  · by_cases ek : k = lv
    · exact Or.inl ek
    · refine Or.inr (fun j hjk hc => ?_)
      have two : (cn m a b T k u ∧ cn m a b T v j) ∨ (cn m a b T k v ∧ cn m a b T u j) → False := by
        rintro (⟨q1, q2⟩ | ⟨q1, q2⟩)
        · have e1 : k = lu := low_one hk l1 (cn_trans q1 hu)
          have h2 := l2 j
          by_cases hj2 : j < lv
          · exact h2 hj2 (cn_trans (cn_symm hv) q2)
          · omega
        · exact ek (low_one hk l2 (cn_trans q1 hv))
      rcases cn_add hc with z | z | z
      · exact hk j hjk z
      · rcases hj with ⟨q1, q2⟩ | ⟨q1, q2⟩
        · rw [q1, q2] at z; exact two (Or.inl z)
        · rw [q1, q2] at z; exact two (Or.inr z)
      · rcases hj with ⟨q1, q2⟩ | ⟨q1, q2⟩
        · rw [q1, q2] at z; exact two (Or.inr z)
        · rw [q1, q2] at z; exact two (Or.inl z)
  · rcases hk with z | z
    · rw [z]; exact l2
    · exact fun j hj2 hc => z j hj2 (mono hc)
theorem low_congr {T' : Nat → Prop} (h : ∀ e, e < m → (T e ↔ T' e)) (k : Nat) : low m a b T k ↔ low m a b T' k :=
  ⟨fun q j hj hc => q j hj (cn_sub hc (fun e he z => (h e he).mpr z)), fun q j hj hc => q j hj (cn_sub hc (fun e he z => (h e he).mp z))⟩
theorem low_all (n : Nat) (hT : ∀ e, e < m → ¬ T e) : ∀ k, k < n → low m a b T k := by
  intro k _ j hj hc
  have : ∀ y, cn m a b T k y → y = k := fun y hy => cn_ind (P := fun y => y = k) rfl (fun x y _ _ hst => absurd hst.elim (fun z => (z (fun e q => hT e q.1 q.2.1)))) hy
  exact absurd (this j hc) (by omega)
theorem ctp_full {p : Nat → Prop} : ∀ {n : Nat}, (∀ k, k < n → p k) → ctp p n = n
  | 0, _ => rfl
  | n + 1, h => by
    show ctp p n + zif (p n) 1 0 = n + 1
    rw [ctp_full (fun k hk => h k (by omega)), zif_pos (h n (by omega))]
/-- parts and edges of a forest -/
theorem low_count {n : Nat} (hab : ∀ e, e < m → a e < n ∧ b e < n) (hf : fo m a b T) : ∀ i, i ≤ m → ctp (low m a b (fun f => T f ∧ f < i)) n + ctp T i = n := by
  intro i
  induction i with
  | zero =>
    intro _
    rw [ctp_full (low_all n (fun e _ z => absurd z.2 (by omega)))]
    rfl
  | succ i ih =>
    intro hi
    have ih := ih (by omega)
    have hct : ctp T (i + 1) = ctp T i + zif (T i) 1 0 := rfl
    by_cases hTi : T i
    · rw [zif_pos hTi] at hct
      have hcg : ∀ k, low m a b (fun f => T f ∧ f < i + 1) k ↔ low m a b (fun f => (T f ∧ f < i) ∨ f = i) k := fun k => low_congr (fun e _ => ⟨fun z => by
        by_cases e1 : e = i
        · exact Or.inr e1
        · exact Or.inl ⟨z.1, by omega⟩, fun z => z.elim (fun q => ⟨q.1, by omega⟩) (fun q => ⟨by rw [q]; exact hTi, by omega⟩)⟩) k
      rw [ctp_congr (fun k _ => hcg k)]
      have hnc : ¬ cn m a b (fun f => T f ∧ f < i) (a i) (b i) := fun z => hf i (by omega) hTi (cn_sub z (fun e _ q => ⟨q.1, by omega⟩))
      obtain ⟨la, la1, la2, la3⟩ := low_ex (m := m) (a := a) (b := b) (T := fun f => T f ∧ f < i) (a i + 1) (a i) (by omega)
      obtain ⟨lb, lb1, lb2, lb3⟩ := low_ex (m := m) (a := a) (b := b) (T := fun f => T f ∧ f < i) (b i + 1) (b i) (by omega)
      have hne : la ≠ lb := fun e => hnc (cn_trans la2 (by rw [e]; exact cn_symm lb2))
      have hb := hab i (by omega)
      rcases Nat.lt_or_gt_of_ne hne with z | z
      · obtain ⟨g1, g2⟩ := low_add (e := i) (by omega) (jn_ab i) la2 lb2 la3 lb3 z
        have := ctp_ins (p := low m a b (fun f => (T f ∧ f < i) ∨ f = i)) (q := low m a b (fun f => T f ∧ f < i)) (n := n) (y := lb) (by omega) g2 (fun k _ => g1 k)
        omega
      · obtain ⟨g1, g2⟩ := low_add (e := i) (by omega) (jn_symm (jn_ab i)) lb2 la2 lb3 la3 z
        have := ctp_ins (p := low m a b (fun f => (T f ∧ f < i) ∨ f = i)) (q := low m a b (fun f => T f ∧ f < i)) (n := n) (y := la) (by omega) g2 (fun k _ => g1 k)
        omega
    · rw [zif_neg hTi] at hct
      have e2 : ctp (low m a b (fun f => T f ∧ f < i + 1)) n = ctp (low m a b (fun f => T f ∧ f < i)) n := ctp_congr (fun k _ => low_congr (T' := fun f => T f ∧ f < i) (fun e _ => ⟨fun z => ⟨z.1, by
        by_cases e1 : e = i
        · exact absurd (e1 ▸ z.1) hTi
        · omega⟩, fun z => ⟨z.1, by omega⟩⟩) k)
      omega
end
section
variable {g : zG} {F : Nat → Int32} {I : Nat → Nat → Int32} {J : Nat → Nat → Int64}
theorem low_parts (hW : gW g) (hf : fo (gm g) (ga g) (gb g) (Tr g)) : ctp (low (gm g) (ga g) (gb g) (Tr g)) (gn g) + ctp (fun e => gs g e = 1) (gm g) = gn g := by
  have h := low_count (n := gn g) (fun e he => ⟨(hW.2.2 e he).1, (hW.2.2 e he).2.1⟩) hf (gm g) (Nat.le_refl _)
  rw [ctp_congr (fun k _ => low_congr (T' := Tr g) (fun e he => ⟨fun z => z.1, fun z => ⟨z, he⟩⟩) k)] at h
  exact h
theorem m_parts {P : Int32 → zM → Prop} (h : mQ g F I) (hP : ∀ I2, mQ g F I2 → frM F I F I2 → P (nI (ctp (low (gm g) (ga g) (gb g) (Tr g)) (gn g))) (F, I2, J)) : AMi m_X7_parts [.ref 0] (F, I, J) P := by
  have hn := h.1.1
  have lp : ∀ d i I1, i + d = gn g → mQ g F I1 → frM F I F I1 → AW m_X7_parts (z_pi P) 4 [some (.ref 0), some (.int (nI (ctp (low (gm g) (ga g) (gb g) (Tr g)) i))), some (.int (nI i)), none, none] [] (F, I1, J) := by
    intro d
    induction d with
    | zero =>
      intro i I1 hd hQ hfr
      refine r_X7_parts_4 _ _ F I1 J ?_
      rw [h.2.1, nLe (by omega) (by omega)]
      refine ⟨fun _ => by rw [show i = gn g by omega]; exact hP I1 hQ hfr, fun z => absurd (show gn g ≤ i by omega) z⟩
    | succ d ih =>
      intro i I1 hd hQ hfr
      refine r_X7_parts_4 _ _ F I1 J ?_
      rw [h.2.1, nLe (by omega) (by omega)]
      refine ⟨fun z => absurd z (by omega), fun _ => ?_⟩
      refine m_part hQ (show i < gn g by omega) (fun I2 L q R B dp hf hQ2 hfr2 hR _ => ?_)
      have hct : ctp (low (gm g) (ga g) (gb g) (Tr g)) (i + 1) = ctp (low (gm g) (ga g) (gb g) (Tr g)) i + zif (low (gm g) (ga g) (gb g) (Tr g) i) 1 0 := rfl
      have nxt := ih (i + 1) I2 (by omega) hQ2 (frM_trans hfr hfr2)
      have inn : ∀ d2 j (x : Nat), j + d2 = i → (x = 0 → ∃ y, y < j ∧ R y) → (x ≠ 0 → x = 1 ∧ ∀ y, y < j → ¬ R y) → AW m_X7_parts (z_pi P) 23 [some (.ref 0), some (.int (nI (ctp (low (gm g) (ga g) (gb g) (Tr g)) i))), some (.int (nI i)), some (.int (nI x)), some (.int (nI j))] [] (F, I2, J) := by
        intro d2
        induction d2 with
        | zero =>
          intro j x hj h1 h2
          have hx : x < 2 := by
            by_cases e : x = 0
            · omega
            · have := (h2 e).1; omega
          refine r_X7_parts_23 _ _ _ _ F I2 J ?_
          rw [nLe (by omega) (by omega), n0, nEq (by omega) (by omega), nI_1 i, nI_1]
          refine ⟨fun _ => ⟨fun z => ?_, fun z => ?_⟩, fun z => absurd (show i ≤ j by omega) z⟩
          · obtain ⟨y, y1, y2⟩ := h1 z
            rw [zif_neg (fun w => w y (by omega) ((hR y).mp y2))] at hct
            rw [hct] at nxt
            exact nxt
          · rw [zif_pos (p := low (gm g) (ga g) (gb g) (Tr g) i) (fun y hy hc => (h2 z).2 y (by omega) ((hR y).mpr hc))] at hct
            rw [hct] at nxt
            exact nxt
        | succ d2 ih2 =>
          intro j x hj h1 h2
          refine r_X7_parts_23 _ _ _ _ F I2 J ?_
          rw [nLe (by omega) (by omega), zN (show j < 2147483648 by omega), nI_1 j]
          refine ⟨fun z => absurd z (by omega), fun _ => ⟨nIn (by omega) (by omega), fun z => ?_, fun z => ?_⟩⟩
          · have hRj : ¬ R j := fun w => by rw [(hf.2.2.2.2 j (by omega)).1 w] at z; exact absurd z (by decide)
            refine ih2 (j + 1) x (by omega) (fun e => ?_) (fun e => ⟨(h2 e).1, fun y hy hy2 => ?_⟩)
            · obtain ⟨y, y1, y2⟩ := h1 e
              exact ⟨y, by omega, y2⟩
            · by_cases e2 : y = j
              · exact hRj (e2 ▸ hy2)
              · exact (h2 e).2 y (by omega) hy2
          · have hRj : R j := Classical.byContradiction fun w => z ((hf.2.2.2.2 j (by omega)).2 w)
            exact ih2 (j + 1) 0 (by omega) (fun _ => ⟨j, by omega, hRj⟩) (fun e => absurd rfl e)
      exact inn i 0 1 (by omega) (fun e => by omega) (fun _ => ⟨rfl, fun y hy => by omega⟩)
  refine r_X7_parts_0 F I J ?_
  exact lp (gn g) 0 I (by omega) h frM_refl
end
