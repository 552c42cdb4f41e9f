/-! counts and sums -/
noncomputable def zif {α : Type} (p : Prop) (x y : α) : α := @ite α p (Classical.propDecidable p) x y
theorem zif_pos {α : Type} {p : Prop} (h : p) (x y : α) : zif p x y = x := if_pos h
theorem zif_neg {α : Type} {p : Prop} (h : ¬ p) (x y : α) : zif p x y = y := if_neg h
theorem zif_congr {α : Type} {p q : Prop} (h : p ↔ q) (x y : α) : zif p x y = zif q x y := by
  by_cases hp : p
  · rw [zif_pos hp, zif_pos (h.mp hp)]
  · rw [zif_neg hp, zif_neg (fun z => hp (h.mpr z))]
noncomputable def ctp (p : Nat → Prop) : Nat → Nat
  | 0 => 0
  | n + 1 => ctp p n + zif (p n) 1 0
theorem ctp_congr {p q : Nat → Prop} : ∀ {n : Nat}, (∀ k, k < n → (p k ↔ q k)) → ctp p n = ctp q n
  | 0, _ => rfl
  | n + 1, h => by
    unfold ctp
    rw [ctp_congr (fun k hk => h k (by omega)), zif_congr (h n (by omega))]
theorem ctp_le (p : Nat → Prop) : ∀ n, ctp p n ≤ n
  | 0 => Nat.le_refl _
  | n + 1 => by
    unfold ctp
    have := ctp_le p n
    by_cases h : p n
    · rw [zif_pos h]; omega
    · rw [zif_neg h]; omega
theorem ctp_drop {p : Nat → Prop} {y : Nat} (hp : p y) : ∀ {n : Nat}, y < n → ctp p n = ctp (fun k => p k ∧ k ≠ y) n + 1
  | 0, h => by omega
  | n + 1, h => by
    unfold ctp
    by_cases e : y = n
    · subst e
      rw [zif_pos hp, zif_neg (fun z => z.2 rfl), ctp_congr (q := fun k => p k ∧ k ≠ y) (fun k hk => ⟨fun z => ⟨z, by omega⟩, fun z => z.1⟩)]
    · rw [ctp_drop hp (show y < n by omega), zif_congr (show p n ↔ p n ∧ n ≠ y from ⟨fun z => ⟨z, fun q => e q.symm⟩, fun z => z.1⟩)]
      omega
theorem ctp_enum {q : Nat → Nat} {n : Nat} : ∀ (L : Nat) (p : Nat → Prop), (∀ i, i < L → q i < n) → (∀ i j, i < L → j < L → q i = q j → i = j) → (∀ k, k < n → (p k ↔ ∃ i, i < L ∧ q i = k)) → ctp p n = L
  | 0, p, _, _, h => by
    have : ∀ n', n' ≤ n → ctp p n' = 0 := by
      intro n' hn
      induction n' with
      | zero => rfl
      | succ n' ih =>
        unfold ctp
        rw [ih (by omega), zif_neg (fun z => by obtain ⟨i, hi, -⟩ := (h n' (by omega)).mp z; omega)]
    exact this n (Nat.le_refl _)
  | L + 1, p, h1, h2, h3 => by
    have hp : p (q L) := (h3 _ (h1 L (by omega))).mpr ⟨L, by omega, rfl⟩
    rw [ctp_drop hp (h1 L (by omega))]
    rw [ctp_enum L (fun k => p k ∧ k ≠ q L) (fun i hi => h1 i (by omega)) (fun i j hi hj => h2 i j (by omega) (by omega)) (fun k hk => ?_)]
    constructor
    · rintro ⟨z1, z2⟩
      obtain ⟨i, hi, hq⟩ := (h3 k hk).mp z1
      refine ⟨i, ?_, hq⟩
      rcases Nat.lt_or_ge i L with z | z
      · exact z
      · have : i = L := by omega
        rw [this] at hq
        exact absurd hq.symm z2
    · rintro ⟨i, hi, hq⟩
      refine ⟨(h3 k hk).mpr ⟨i, by omega, hq⟩, fun z => ?_⟩
      rw [← hq] at z
      have := h2 i L (by omega) (by omega) z
      omega
def sml (f : Nat → Int64) : Nat → Int64
  | 0 => 0
  | n + 1 => sml f n + f n
theorem sml_congr {f h : Nat → Int64} : ∀ {n : Nat}, (∀ k, k < n → f k = h k) → sml f n = sml h n
  | 0, _ => rfl
  | n + 1, q => by
    unfold sml
    rw [sml_congr (fun k hk => q k (by omega)), q n (by omega)]
theorem sml_drop {x : Nat → Int64} {p : Nat → Prop} {y : Nat} (hp : p y) : ∀ {n : Nat}, y < n → sml (fun k => zif (p k) (x k) 0) n = sml (fun k => zif (p k ∧ k ≠ y) (x k) 0) n + x y
  | 0, h => by omega
  | n + 1, h => by
    unfold sml
    by_cases e : y = n
    · subst e
      rw [zif_pos hp, zif_neg (fun z => z.2 rfl), sml_congr (h := fun k => zif (p k ∧ k ≠ y) (x k) 0) (fun k hk => zif_congr ⟨fun z => ⟨z, by omega⟩, fun z => z.1⟩ _ _), Int64.add_zero]
    · rw [sml_drop hp (show y < n by omega), zif_congr (show p n ↔ p n ∧ n ≠ y from ⟨fun z => ⟨z, fun q => e q.symm⟩, fun z => z.1⟩)]
      rw [Int64.add_assoc, Int64.add_assoc, Int64.add_comm (x y)]
theorem sml_zero (n : Nat) {f : Nat → Int64} (h : ∀ k, k < n → f k = 0) : sml f n = 0 := by
  induction n with
  | zero => rfl
  | succ n ih =>
    unfold sml
    rw [ih (fun k hk => h k (by omega)), h n (by omega)]
    rfl
theorem sml_enum {x : Nat → Int64} {q : Nat → Nat} {n : Nat} : ∀ (L : Nat) (p : Nat → Prop), (∀ i, i < L → q i < n) → (∀ i j, i < L → j < L → q i = q j → i = j) → (∀ k, k < n → (p k ↔ ∃ i, i < L ∧ q i = k)) → sml (fun i => x (q i)) L = sml (fun k => zif (p k) (x k) 0) n
  | 0, p, _, _, h => by
    rw [sml_zero n (fun k hk => zif_neg (fun z => by obtain ⟨i, hi, -⟩ := (h k hk).mp z; omega) _ _)]
    rfl
  | L + 1, p, h1, h2, h3 => by
    have hp : p (q L) := (h3 _ (h1 L (by omega))).mpr ⟨L, by omega, rfl⟩
    rw [sml_drop hp (h1 L (by omega))]
    rw [← sml_enum L (fun k => p k ∧ k ≠ q L) (fun i hi => h1 i (by omega)) (fun i j hi hj => h2 i j (by omega) (by omega)) (fun k hk => ?_)]
    · rfl
    constructor
    · rintro ⟨z1, z2⟩
      obtain ⟨i, hi, hq⟩ := (h3 k hk).mp z1
      refine ⟨i, ?_, hq⟩
      rcases Nat.lt_or_ge i L with z | z
      · exact z
      · have : i = L := by omega
        rw [this] at hq
        exact absurd hq.symm z2
    · rintro ⟨i, hi, hq⟩
      refine ⟨(h3 k hk).mpr ⟨i, by omega, hq⟩, fun z => ?_⟩
      rw [← hq] at z
      have := h2 i L (by omega) (by omega) z
      omega
/-! ways cut, below -/
section
variable {m : Nat} {a b : Nat → Nat} {T : Nat → Prop}
theorem isW_drop {u v l : Nat} {K S : Nat → Nat} (hw : isW m a b T u v l K S) {i : Nat} (hi : i ≤ l) : isW m a b T (K i) v (l - i) (fun j => K (i + j)) (fun j => S (i + j)) := by
  refine ⟨rfl, ?_, fun j hj => hw.2.2.1 (i + j) (by omega), fun j k h1 h2 h3 => ?_⟩
  · show K (i + (l - i)) = v
    rw [show i + (l - i) = l by omega]
    exact hw.2.1
  · have := hw.2.2.2 (i + j) (i + k) (by omega) (by omega) h3
    omega
/-- u stands on k's way to r -/
def blw (m : Nat) (a b : Nat → Nat) (T : Nat → Prop) (r u k : Nat) : Prop := ∃ l K S i, isW m a b T k r l K S ∧ i ≤ l ∧ K i = u
theorem blw_iff (hf : fo m a b T) {r u : Nat} {lu : Nat} {Ku Su : Nat → Nat} (hu : isW m a b T u r (lu + 1) Ku Su) (hex : ∀ k, cn m a b T r k → ∃ l K S, isW m a b T k r l K S) (k : Nat) :
    cn m a b (fun f => T f ∧ f ≠ Su 0) u k ↔ blw m a b T r u k := by
  obtain ⟨e1, e2, e3⟩ := hu.2.2.1 0 (by omega)
  rw [hu.1] at e3
  constructor
  · intro h
    have hrk : cn m a b T r k := cn_trans (cn_symm (isW_all hu)) (cn_sub h (fun _ _ z => z.1))
    obtain ⟨l, K, S, hw⟩ := hex k hrk
    apply Classical.byContradiction
    intro hno
    have hkr : cn m a b (fun f => T f ∧ f ≠ Su 0) (K 0) (K (0 + l)) := isW_cn _ hw 0 l (by omega) (fun j _ h2 => by
      obtain ⟨g1, g2, g3⟩ := hw.2.2.1 j (by omega)
      refine ⟨g2, fun z => ?_⟩
      rw [z] at g3
      rcases jn_two g3 e3 with ⟨q, -⟩ | ⟨q, -⟩
      · exact hno ⟨l, K, S, j, hw, by omega, q.symm⟩
      · exact hno ⟨l, K, S, j + 1, hw, by omega, q.symm⟩)
    rw [Nat.zero_add, hw.1, hw.2.1] at hkr
    exact fo_jn hf e1 e2 e3 (cn_trans h (cn_trans hkr (cn_symm (isW_rest hu))))
  · rintro ⟨l, K, S, i, hw, hi, hK⟩
    have hd := isW_drop hw hi
    rw [hK] at hd
    obtain ⟨f1, f2, f3⟩ := isW_one hf _ _ _ _ _ _ _ _ hd hu
    have hS : S i = Su 0 := by have := f3 0 (by omega); simpa using this
    have := isW_cn (fun f => T f ∧ f ≠ Su 0) hw 0 i (by omega) (fun j _ h2 => by
      obtain ⟨g1, g2, g3⟩ := hw.2.2.1 j (by omega)
      refine ⟨g2, fun z => ?_⟩
      rw [← hS] at z
      have hh := (hw.2.2.1 i (by omega)).2.2
      rw [← z] at hh
      rcases isW_at hw hi (show j < l by omega) hh with q | q
      · omega
      · subst q
        rcases jn_two g3 hh with ⟨q1, q2⟩ | ⟨q1, q2⟩
        · have := hw.2.2.2 (j + 1) j (by omega) (by omega) q1
          omega
        · have := hw.2.2.2 (j + 1 + 1) j (by omega) (by omega) q2
          omega)
    rw [Nat.zero_add, hw.1, hK] at this
    exact cn_symm this
theorem blw_root {r k : Nat} (hex : ∀ k, cn m a b T r k → ∃ l K S, isW m a b T k r l K S) : cn m a b T r k ↔ blw m a b T r r k := by
  constructor
  · intro h
    obtain ⟨l, K, S, hw⟩ := hex k h
    exact ⟨l, K, S, l, hw, Nat.le_refl _, hw.2.1⟩
  · rintro ⟨l, K, S, i, hw, -, -⟩
    exact cn_symm (isW_all hw)
end
/-! roots -/
def isRt (g : zG) (nm : Nat → Nat) (u r : Nat) : Prop := r < gn g ∧ cn (gm g) (ga g) (gb g) (Tr g) u r ∧ ∀ k, k < gn g → cn (gm g) (ga g) (gb g) (Tr g) u k → nm k < nm r ∨ (nm k = nm r ∧ r ≤ k)
theorem isRt_one {g : zG} {nm : Nat → Nat} {u r r2 : Nat} (h : isRt g nm u r) (h2 : isRt g nm u r2) : r = r2 := by
  have a1 := h.2.2 r2 h2.1 h2.2.1
  have a2 := h2.2.2 r h.1 h.2.1
  omega
theorem isRt_map {g : zG} {nm nm2 : Nat → Nat} {u r : Nat} (h : isRt g nm u r) (ho : ∀ i j, i < gn g → j < gn g → (nm i < nm j ↔ nm2 i < nm2 j)) : isRt g nm2 u r := by
  refine ⟨h.1, h.2.1, fun k hk hc => ?_⟩
  have o1 := ho k r hk h.1
  have o2 := ho r k h.1 hk
  rcases h.2.2 k hk hc with z | ⟨z, z2⟩
  · exact Or.inl (o1.mp z)
  · refine Or.inr ⟨?_, z2⟩
    have q1 : ¬ nm2 k < nm2 r := fun q => by have := o1.mpr q; omega
    have q2 : ¬ nm2 r < nm2 k := fun q => by have := o2.mpr q; omega
    omega
section
variable {g : zG} {F : Nat → Int32} {I : Nat → Nat → Int32} {J : Nat → Nat → Int64} {nm : Nat → Nat}
theorem c_findRoot_loop {P : Int32 → zM → Prop} {u L : Nat} {q : Nat → Nat} {R : Nat → Prop} {B dp : Nat → Nat} (hn : gn g ≤ 100) (hf : ffl g (Tr g) u 6 8 9 10 11 L q R B dp F I) (hR : ∀ x, R x ↔ cn (gm g) (ga g) (gb g) (Tr g) u x) (hN : ∀ k, k < gn g → I 0 k = nI (nm k) ∧ nm k < 2147483648)
    (hP : ∀ r, isRt g nm u r → P (nI r) (F, I, J)) :
    ∀ d i r, i + d = L → R r → (∀ j, j < i → nm (q j) < nm r ∨ (nm (q j) = nm r ∧ r ≤ q j)) → AW m_X6_findRoot (z_pi P) 18 [some (.ref 0), none, some (.int (nI r)), some (.int (nI i)), none] [] (F, I, J) := by
  have hL := hf.1.1
  intro d
  induction d with
  | zero =>
    intro i r hd hr hi
    refine r_X6_findRoot_18 _ _ F I J ?_
    rw [hf.2.1, nLe (by omega) (by omega)]
    refine ⟨fun _ => hP r ⟨bf_R hf.1 hr, (hR r).mp hr, fun k hk hc => ?_⟩, fun z => absurd (show L ≤ i by omega) z⟩
    obtain ⟨j, hj, hq⟩ := hf.1.2.2.2.2.2.1 k ((hR k).mpr hc)
    rw [← hq]
    exact hi j (by omega)
  | succ d ih =>
    intro i r hd hr hi
    have hqi := hf.1.2.2.2.1 i (by omega)
    have hrn := bf_R hf.1 hr
    obtain ⟨n1', n2'⟩ := hN (q i) hqi.1
    obtain ⟨n3', n4'⟩ := hN r hrn
    refine r_X6_findRoot_18 _ _ F I J ?_
    rw [hf.2.1, nLe (by omega) (by omega), zN (show i < 2147483648 by omega), hf.2.2.1 i (by omega), zN (show q i < 2147483648 by omega), zN (show r < 2147483648 by omega), n1', n3', nLt n4' n2', nEq n2' n4', nLe (by omega) (by omega), nI_1]
    have b1 : vp_in (nI (q i)) 100 := nIn (by omega) (by omega)
    have b2 : vp_in (nI r) 100 := nIn (by omega) (by omega)
    refine ⟨fun z => absurd z (by omega), fun _ => ⟨nIn (by omega) (by omega), b1, b2, fun z => ?_, fun z => ⟨b1, b2, fun z2 => ?_, fun z2 => ⟨fun z3 => ?_, fun z3 => ?_⟩⟩⟩⟩
    · refine ih (i + 1) (q i) (by omega) hqi.2.1 (fun j hj => ?_)
      rcases Nat.lt_or_ge j i with w | w
      · have := hi j w; omega
      · rw [show j = i by omega]; omega
    · refine ih (i + 1) r (by omega) hr (fun j hj => ?_)
      rcases Nat.lt_or_ge j i with w | w
      · exact hi j w
      · rw [show j = i by omega]; omega
    · refine ih (i + 1) r (by omega) hr (fun j hj => ?_)
      rcases Nat.lt_or_ge j i with w | w
      · exact hi j w
      · rw [show j = i by omega]; omega
    · refine ih (i + 1) (q i) (by omega) hqi.2.1 (fun j hj => ?_)
      rcases Nat.lt_or_ge j i with w | w
      · have := hi j w; omega
      · rw [show j = i by omega]; omega
/-- spread from a knot over all tree edges -/
theorem c_spreadAll {P : zM → Prop} (h : cQ g F I) {k : Nat} (hk : k < gn g)
    (hP : ∀ F2 I2 L q R B dp, ffl g (Tr g) k 6 8 9 10 11 L q R B dp F2 I2 → cQ g F2 I2 → frC F I F2 I2 → (∀ x, R x ↔ cn (gm g) (ga g) (gb g) (Tr g) k x) → P (F2, I2, J)) : AMv m_X1_spread [.ref 12, .ref 3, .int (nI k), .int (-1), .int 0] (F, I, J) P := by
  refine c_spread_a (T := Tr g) h.1 h.2.2.2.1 h.2.2.2.2.1 h.2.2.2.2.2.1 (fun e he => Tr_iff e h.1 he) hk (fun F2 I2 L q R B dp hf hF hI hR => ?_)
  have hfr : frC F I F2 I2 := ⟨fun j hj => hF j (by omega), fun j hj => hI j (by omega) (by omega) (by omega) (by omega)⟩
  exact hP F2 I2 L q R B dp hf (cQ_fr h hfr (ffl_fcl h.1.1 hf) (fcl_eq h.2.2.2.2.2.2 (hF 7 (by decide)) (hI 12 (by decide) (by decide) (by decide) (by decide)) (hI 15 (by decide) (by decide) (by decide) (by decide)))) hfr hR
theorem c_findRoot {P : Int32 → zM → Prop} (h : cQ g F I) (hN : ∀ k, k < gn g → I 0 k = nI (nm k) ∧ nm k < 2147483648) {u : Nat} (hu : u < gn g) (hP : ∀ r F2 I2, isRt g nm u r → cQ g F2 I2 → frC F I F2 I2 → P (nI r) (F2, I2, J)) : AMi m_X6_findRoot [.ref 0, .int (nI u)] (F, I, J) P := by
  refine r_X6_findRoot_0 _ F I J ?_
  refine c_spreadAll h hu (fun F2 I2 L q R B dp hf hQ hfr hR => ?_)
  exact c_findRoot_loop h.1.1 hf hR (fun k hk => by rw [hfr.2 0 (by omega)]; exact hN k hk) (fun r hr => hP r F2 I2 hr hQ hfr) L 0 u (by omega) ((hR u).mpr (cn_refl u)) (fun j hj => by omega)
theorem c_floodFromRoot {P : zM → Prop} (h : cQ g F I) (hN : ∀ k, k < gn g → I 0 k = nI (nm k) ∧ nm k < 2147483648) {u : Nat} (hu : u < gn g)
    (hP : ∀ r F2 I2 L q R B dp, isRt g nm u r → ffl g (Tr g) r 6 8 9 10 11 L q R B dp F2 I2 → cQ g F2 I2 → frC F I F2 I2 → (∀ x, R x ↔ cn (gm g) (ga g) (gb g) (Tr g) r x) → P (F2, I2, J)) : AMv m_X6_floodFromRoot [.ref 0, .int (nI u)] (F, I, J) P := by
  refine r_X6_floodFromRoot_0 _ F I J ?_
  refine c_findRoot h hN hu (fun r F2 I2 hr hQ hfr => ?_)
  exact c_spreadAll hQ hr.1 (fun F3 I3 L q R B dp hf hQ3 hfr3 hR => hP r F3 I3 L q R B dp hr hf hQ3 (frC_trans hfr hfr3) hR)
/-- ForestKeeper.floodBelow: just those below -/
theorem c_floodBelow {P : zM → Prop} (h : cQ g F I) (hfo : fo (gm g) (ga g) (gb g) (Tr g)) (hN : ∀ k, k < gn g → I 0 k = nI (nm k) ∧ nm k < 2147483648) {u : Nat} (hu : u < gn g)
    (hP : ∀ (r : Nat) (F2 : Nat → Int32) (I2 : Nat → Nat → Int32) (L : Nat) (q : Nat → Nat), isRt g nm u r → F2 6 = nI L → L ≤ gn g → (∀ i, i < L → I2 8 i = nI (q i) ∧ q i < gn g) → (∀ i j, i < L → j < L → q i = q j → i = j) → (∀ k, k < gn g → (blw (gm g) (ga g) (gb g) (Tr g) r u k ↔ ∃ i, i < L ∧ q i = k)) → cQ g F2 I2 → frC F I F2 I2 → P (F2, I2, J)) : AMv m_X6_floodBelow [.ref 0, .int (nI u)] (F, I, J) P := by
  refine r_X6_floodBelow_0 _ F I J ?_
  have hn := h.1.1
  refine c_findRoot h hN hu (fun r F2 I2 hr hQ hfr => ?_)
  refine c_spreadAll hQ hr.1 (fun F3 I3 L q R B dp hf hQ3 hfr3 hR => ?_)
  dsimp only
  rw [zN (by omega)]
  refine ⟨nIn (by omega) (by omega), ?_⟩
  have hRu : R u := (hR u).mpr (cn_symm hr.2.1)
  have hex : ∀ k, cn (gm g) (ga g) (gb g) (Tr g) r k → ∃ l K S, isW (gm g) (ga g) (gb g) (Tr g) k r l K S := fun k hk => ⟨_, _, _, bf_way hf.1 ((hR k).mpr hk)⟩
  have fin : ∀ (T : Nat → Prop), (∀ e, e < gm g → (T e ↔ gs g e = 1 ∧ ¬ nI e = I3 10 u ∧ ¬ nI (gv g e) < 0)) → (∀ k, cn (gm g) (ga g) (gb g) T u k ↔ blw (gm g) (ga g) (gb g) (Tr g) r u k) →
      AMv m_X1_spread [.ref 12, .ref 3, .int (nI u), .int (I3 10 u), .int 0] (F3, I3, J) (fun M37 => P M37) := by
    intro T hT hb
    refine c_spread_a (T := T) hQ3.1 hQ3.2.2.2.1 hQ3.2.2.2.2.1 hQ3.2.2.2.2.2.1 hT hu (fun F4 I4 L4 q4 R4 B4 dp4 hf4 hF4 hI4 hR4 => ?_)
    have hfr4 : frC F3 I3 F4 I4 := ⟨fun j hj => hF4 j (by omega), fun j hj => hI4 j (by omega) (by omega) (by omega) (by omega)⟩
    refine hP r F4 I4 L4 q4 hr hf4.2.1 hf4.1.1 (fun i hi => ⟨hf4.2.2.1 i hi, (hf4.1.2.2.2.1 i hi).1⟩) hf4.1.2.2.2.2.1 (fun k hk => ?_) (cQ_fr hQ3 hfr4 (ffl_fcl h.1.1 hf4) (fcl_eq hQ3.2.2.2.2.2.2 (hF4 7 (by decide)) (hI4 12 (by decide) (by decide) (by decide) (by decide)) (hI4 15 (by decide) (by decide) (by decide) (by decide)))) (frC_trans hfr (frC_trans hfr3 hfr4))
    rw [← hb k, ← hR4 k]
    exact ⟨hf4.1.2.2.2.2.2.1 k, fun ⟨i, hi, hq⟩ => by rw [← hq]; exact (hf4.1.2.2.2.1 i hi).2.1⟩
  by_cases hur : u = r
  · have e : I3 10 u = -1 := by rw [hur]; exact hf.2.2.2.2.1
    refine fin (Tr g) (fun e' he' => by rw [e]; exact Tr_iff e' h.1 he') (fun k => ?_)
    rw [hur]
    exact blw_root hex
  · have e : I3 10 u = nI (B u) := hf.2.2.2.1 u hRu hur
    have hw := bf_way hf.1 hRu
    obtain ⟨d, hd⟩ : ∃ d, dp u = d + 1 := by
      obtain ⟨-, -, p, -, -, g5⟩ := hf.1.2.2.2.2.2.2.2 u hRu hur
      exact ⟨_, g5⟩
    rw [hd] at hw
    have hB := (hf.1.2.2.2.2.2.2.2 u hRu hur).1
    have hm := h.1.2.1
    refine fin (fun f => Tr g f ∧ f ≠ B u) (fun e' he' => ?_) (fun k => ?_)
    · rw [e, nEq (by omega) (by omega)]
      have := Tr_iff (g := g) e' h.1 he'
      constructor
      · rintro ⟨z1, z2⟩
        exact ⟨z1, z2, (this.mp z1).2.2⟩
      · rintro ⟨z1, z2, -⟩
        exact ⟨z1, z2⟩
    · exact blw_iff hfo hw hex k
end
