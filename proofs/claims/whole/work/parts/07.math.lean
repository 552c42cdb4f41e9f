/-! GRAPHS: edges e < m between knots a e and b e; T: which of them count -/
def jn (a b : Nat → Nat) (e u v : Nat) : Prop := (a e = u ∧ b e = v) ∨ (a e = v ∧ b e = u)
theorem jn_symm {a b : Nat → Nat} {e u v : Nat} (h : jn a b e u v) : jn a b e v u := h.elim Or.inr Or.inl
theorem jn_ab {a b : Nat → Nat} (e : Nat) : jn a b e (a e) (b e) := Or.inl ⟨rfl, rfl⟩
def ot (a b : Nat → Nat) (e k : Nat) : Nat := if a e = k then b e else a e
theorem jn_ot {a b : Nat → Nat} {e u v : Nat} (h : jn a b e u v) : ot a b e u = v := by
  unfold ot
  rcases h with ⟨h1, h2⟩ | ⟨h1, h2⟩
  · rw [if_pos h1, h2]
  · by_cases h3 : a e = u
    · rw [if_pos h3, h2, ← h3, h1]
    · rw [if_neg h3, h1]
theorem jn_ot' {a b : Nat → Nat} {e u v : Nat} (h : jn a b e u v) : ot a b e v = u := jn_ot (jn_symm h)
theorem ot_jn {a b : Nat → Nat} {e k : Nat} (h : a e = k ∨ b e = k) : jn a b e k (ot a b e k) := by
  unfold ot
  by_cases h1 : a e = k
  · rw [if_pos h1]; exact Or.inl ⟨h1, rfl⟩
  · rw [if_neg h1]; exact Or.inr ⟨rfl, h.resolve_left h1⟩
theorem jn_two {a b : Nat → Nat} {e u v x y : Nat} (h : jn a b e u v) (h2 : jn a b e x y) : (x = u ∧ y = v) ∨ (x = v ∧ y = u) := by
  rcases h with ⟨h1, h1'⟩ | ⟨h1, h1'⟩ <;> rcases h2 with ⟨h3, h3'⟩ | ⟨h3, h3'⟩ <;> omega
def st1 (m : Nat) (a b : Nat → Nat) (T : Nat → Prop) (u v : Nat) : Prop := ∃ e, e < m ∧ T e ∧ jn a b e u v
def cnk (m : Nat) (a b : Nat → Nat) (T : Nat → Prop) : Nat → Nat → Nat → Prop
  | 0, u, v => u = v
  | k + 1, u, v => ∃ x, cnk m a b T k u x ∧ st1 m a b T x v
def cn (m : Nat) (a b : Nat → Nat) (T : Nat → Prop) (u v : Nat) : Prop := ∃ k, cnk m a b T k u v
section
variable {m : Nat} {a b : Nat → Nat} {T : Nat → Prop}
theorem cn_refl (u : Nat) : cn m a b T u u := ⟨0, rfl⟩
theorem cn_step {u x v : Nat} (h : cn m a b T u x) (h2 : st1 m a b T x v) : cn m a b T u v := h.elim fun k h => ⟨k + 1, x, h, h2⟩
theorem cn_ind {u v : Nat} (P : Nat → Prop) (h0 : P u) (hs : ∀ x y, cn m a b T u x → P x → st1 m a b T x y → P y) (h : cn m a b T u v) : P v := by
  obtain ⟨k, h⟩ := h
  induction k generalizing v with
  | zero => exact (show u = v from h) ▸ h0
  | succ k ih =>
    obtain ⟨x, h1, h2⟩ := h
    exact hs x v ⟨k, h1⟩ (ih h1) h2
theorem cn_trans {u x v : Nat} (h : cn m a b T u x) (h2 : cn m a b T x v) : cn m a b T u v := cn_ind (P := fun y => cn m a b T u y) h (fun _ _ _ q s => cn_step q s) h2
theorem st1_symm {u v : Nat} (h : st1 m a b T u v) : st1 m a b T v u := h.elim fun e h => ⟨e, h.1, h.2.1, jn_symm h.2.2⟩
theorem cn_one {u v : Nat} (h : st1 m a b T u v) : cn m a b T u v := cn_step (cn_refl u) h
theorem cn_symm {u v : Nat} (h : cn m a b T u v) : cn m a b T v u := cn_ind (P := fun y => cn m a b T y u) (cn_refl u) (fun _ _ _ q s => cn_trans (cn_one (st1_symm s)) q) h
theorem cn_edge {e u v : Nat} (he : e < m) (hT : T e) (hj : jn a b e u v) : cn m a b T u v := cn_one ⟨e, he, hT, hj⟩
theorem cn_closed {u v : Nat} (R : Nat → Prop) (h0 : R u) (hs : ∀ x y e, e < m → T e → jn a b e x y → R x → R y) (h : cn m a b T u v) : R v := cn_ind (P := R) h0 (fun x y _ q s => s.elim fun e s => hs x y e s.1 s.2.1 s.2.2 q) h
end
theorem cn_mono {m m' : Nat} {a b a' b' : Nat → Nat} {T T' : Nat → Prop} {u v : Nat} (h : cn m a b T u v) (hs : ∀ e, e < m → T e → e < m' ∧ T' e ∧ a' e = a e ∧ b' e = b e) : cn m' a' b' T' u v := by
  refine cn_ind (P := fun y => cn m' a' b' T' u y) (cn_refl u) (fun x y _ q s => ?_) h
  obtain ⟨e, h1, h2, h3⟩ := s
  obtain ⟨g1, g2, g3, g4⟩ := hs e h1 h2
  refine cn_step q ⟨e, g1, g2, ?_⟩
  unfold jn at h3 ⊢
  rw [g3, g4]
  exact h3
theorem cn_sub {m : Nat} {a b : Nat → Nat} {T T' : Nat → Prop} {u v : Nat} (h : cn m a b T u v) (hs : ∀ e, e < m → T e → T' e) : cn m a b T' u v := cn_mono h (fun e h1 h2 => ⟨h1, hs e h1 h2, rfl, rfl⟩)
/-! WAYS -/
/-- knots K 0 .. K l, all unlike, edges S 0 .. S (l-1) between them -/
def isW (m : Nat) (a b : Nat → Nat) (T : Nat → Prop) (u v l : Nat) (K S : Nat → Nat) : Prop :=
  K 0 = u ∧ K l = v ∧ (∀ i, i < l → S i < m ∧ T (S i) ∧ jn a b (S i) (K i) (K (i + 1))) ∧ ∀ i j, i ≤ l → j ≤ l → K i = K j → i = j
/-- no rings -/
def fo (m : Nat) (a b : Nat → Nat) (T : Nat → Prop) : Prop := ∀ e, e < m → T e → ¬ cn m a b (fun f => T f ∧ f ≠ e) (a e) (b e)
section
variable {m : Nat} {a b : Nat → Nat} {T : Nat → Prop}
theorem fo_jn (h : fo m a b T) {e u v : Nat} (he : e < m) (hT : T e) (hj : jn a b e u v) : ¬ cn m a b (fun f => T f ∧ f ≠ e) u v := by
  rcases hj with ⟨h1, h2⟩ | ⟨h1, h2⟩
  · subst h1; subst h2; exact h e he hT
  · subst h1; subst h2; exact fun q => h e he hT (cn_symm q)
/-- along a way, from place i on -/
theorem isW_cn {u v l : Nat} {K S : Nat → Nat} (T' : Nat → Prop) (hw : isW m a b T u v l K S) (i : Nat) : ∀ d, i + d ≤ l → (∀ j, i ≤ j → j < i + d → T' (S j)) → cn m a b T' (K i) (K (i + d))
  | 0, _, _ => cn_refl _
  | d + 1, h, hT => cn_step (isW_cn T' hw i d (by omega) (fun j h1 h2 => hT j h1 (by omega))) ⟨S (i + d), (hw.2.2.1 (i + d) (by omega)).1, hT (i + d) (by omega) (by omega), (hw.2.2.1 (i + d) (by omega)).2.2⟩
theorem isW_all {u v l : Nat} {K S : Nat → Nat} (hw : isW m a b T u v l K S) : cn m a b T u v := by
  have h := isW_cn T hw 0 l (by omega) (fun j _ h2 => (hw.2.2.1 j (by omega)).2.1)
  rw [Nat.zero_add, hw.1, hw.2.1] at h
  exact h
/-- edges of a way that touch knot K i stand beside it -/
theorem isW_at {u v l : Nat} {K S : Nat → Nat} (hw : isW m a b T u v l K S) {i j x : Nat} (hi : i ≤ l) (hj : j < l) (h : jn a b (S j) (K i) x) : i = j ∨ i = j + 1 := by
  have h2 := (hw.2.2.1 j hj).2.2
  rcases jn_two h2 h with ⟨q, -⟩ | ⟨q, -⟩
  · exact Or.inl (hw.2.2.2 i j hi (by omega) q)
  · exact Or.inr (hw.2.2.2 i (j + 1) hi (by omega) q)
theorem isW_tail {u v l : Nat} {K S : Nat → Nat} (hw : isW m a b T u v (l + 1) K S) : isW m a b T (K 1) v l (fun i => K (i + 1)) (fun i => S (i + 1)) :=
  ⟨rfl, hw.2.1, fun i h => hw.2.2.1 (i + 1) (by omega), fun i j h1 h2 h3 => by have := hw.2.2.2 (i + 1) (j + 1) (by omega) (by omega) h3; omega⟩
/-- the rest of a way, and all of a way that begins otherwise, go without its first edge -/
theorem isW_rest {u v l : Nat} {K S : Nat → Nat} (hw : isW m a b T u v (l + 1) K S) : cn m a b (fun f => T f ∧ f ≠ S 0) (K 1) v := by
  have h := isW_cn (fun f => T f ∧ f ≠ S 0) hw 1 l (by omega) (fun j h1 h2 => ⟨(hw.2.2.1 j (by omega)).2.1, fun q => by
    have h3 := (hw.2.2.1 0 (by omega)).2.2
    rw [← q] at h3
    rcases isW_at hw (i := 0) (by omega) (show j < l + 1 by omega) h3 with h4 | h4 <;> omega⟩)
  rw [show 1 + l = l + 1 by omega, hw.2.1] at h
  exact h
theorem isW_other {u v l : Nat} {K S : Nat → Nat} (hw : isW m a b T u v l K S) {e y : Nat} (hj : jn a b e u y) (hne : 0 < l → e ≠ S 0) : cn m a b (fun f => T f ∧ f ≠ e) u v := by
  have h := isW_cn (fun f => T f ∧ f ≠ e) hw 0 l (by omega) (fun j h1 h2 => ⟨(hw.2.2.1 j (by omega)).2.1, fun q => by
    rw [← q] at hj
    rw [← hw.1] at hj
    rcases isW_at hw (i := 0) (by omega) (show j < l by omega) hj with h4 | h4
    · subst h4
      exact hne (by omega) q.symm
    · omega⟩)
  rw [Nat.zero_add, hw.1, hw.2.1] at h
  exact h
/-- in a forest there is one way -/
theorem isW_one (hf : fo m a b T) : ∀ (l1 : Nat) (u v l2 : Nat) (K1 S1 K2 S2 : Nat → Nat), isW m a b T u v l1 K1 S1 → isW m a b T u v l2 K2 S2 → l1 = l2 ∧ (∀ i, i ≤ l1 → K1 i = K2 i) ∧ ∀ i, i < l1 → S1 i = S2 i
  | 0, u, v, l2, K1, S1, K2, S2, h1, h2 => by
    have e : K2 0 = K2 l2 := by rw [h2.1, h2.2.1, ← h1.1, ← h1.2.1]
    have := h2.2.2.2 0 l2 (by omega) (by omega) e
    refine ⟨this, fun i hi => ?_, fun i hi => by omega⟩
    have hi0 : i = 0 := by omega
    rw [hi0, h1.1, h2.1]
  | l + 1, u, v, 0, K1, S1, K2, S2, h1, h2 => by
    have e : K1 0 = K1 (l + 1) := by rw [h1.1, h1.2.1, ← h2.1, ← h2.2.1]
    have := h1.2.2.2 0 (l + 1) (by omega) (by omega) e
    omega
  | l + 1, u, v, k + 1, K1, S1, K2, S2, h1, h2 => by
    have e0 : S1 0 = S2 0 := by
      apply Classical.byContradiction
      intro hne
      obtain ⟨q1, q2, q3⟩ := h1.2.2.1 0 (by omega)
      rw [h1.1] at q3
      exact fo_jn hf q1 q2 q3 (cn_trans (isW_other h2 q3 (fun _ => hne)) (cn_symm (isW_rest h1)))
    have e1 : K1 1 = K2 1 := by
      have q3 := (h1.2.2.1 0 (by omega)).2.2
      have p3 := (h2.2.2.1 0 (by omega)).2.2
      rw [h1.1] at q3
      rw [h2.1, ← e0] at p3
      rw [← jn_ot q3, ← jn_ot p3]
    have h2' := isW_tail h2
    rw [← e1] at h2'
    obtain ⟨r1, r2, r3⟩ := isW_one hf l (K1 1) v k _ _ _ _ (isW_tail h1) h2'
    refine ⟨by omega, fun i hi => ?_, fun i hi => ?_⟩
    · cases i with
      | zero => rw [h1.1, h2.1]
      | succ i => exact r2 i (by omega)
    · cases i with
      | zero => exact e0
      | succ i => exact r3 i (by omega)
end
/-! FLOODS: q 0 .. q (L-1) the knots in the order they were reached, R which, B by which edge, dp how far -/
def bf (n m : Nat) (a b : Nat → Nat) (T : Nat → Prop) (r L : Nat) (q : Nat → Nat) (R : Nat → Prop) (B dp : Nat → Nat) : Prop :=
  L ≤ n ∧ 0 < L ∧ q 0 = r ∧ (∀ i, i < L → q i < n ∧ R (q i) ∧ dp (q i) ≤ i) ∧ (∀ i j, i < L → j < L → q i = q j → i = j) ∧ (∀ k, R k → ∃ i, i < L ∧ q i = k) ∧ dp r = 0 ∧
  ∀ x, R x → x ≠ r → B x < m ∧ T (B x) ∧ ∃ p, R p ∧ jn a b (B x) p x ∧ dp x = dp p + 1
def un {α : Type} (f : Nat → α) (i : Nat) (x : α) : Nat → α := fun j => if j = i then x else f j
theorem un_self {α : Type} (f : Nat → α) (i : Nat) (x : α) : un f i x i = x := if_pos rfl
theorem un_ne {α : Type} (f : Nat → α) {i j : Nat} (x : α) (h : j ≠ i) : un f i x j = f j := if_neg h
theorem holes_ : ∀ (m n : Nat) (f : Nat → Nat), (∀ i, i < n → f i < m) → (∀ i j, i < j → j < n → f i ≠ f j) → n ≤ m := by
  intro m
  induction m with
  | zero =>
    intro n f h _
    cases n with
    | zero => exact Nat.le_refl _
    | succ n => exact absurd (h 0 (by omega)) (by omega)
  | succ m ih =>
    intro n f h hi
    cases n with
    | zero => omega
    | succ n =>
      -- swap the value m away
      have key := ih n (fun i => if f i = m then f n else f i) (fun i hin => by
        have h1 := h i (by omega)
        have h2 := h n (by omega)
        have h3 := hi i n hin (by omega)
        (try dsimp only)
        by_cases e : f i = m
        · rw [if_pos e]; omega
        · rw [if_neg e]; omega) (fun i j hij hj => by
        have h1 := hi i j hij (by omega)
        have h2 := hi i n (by omega) (by omega)
        have h3 := hi j n hj (by omega)
        (try dsimp only)
        by_cases e : f i = m <;> by_cases e' : f j = m
        · omega
        · rw [if_pos e, if_neg e']; omega
        · rw [if_neg e, if_pos e']; omega
        · rw [if_neg e, if_neg e']; omega)
      omega
section
variable {n m : Nat} {a b : Nat → Nat} {T : Nat → Prop} {r L : Nat} {q : Nat → Nat} {R : Nat → Prop} {B dp : Nat → Nat}
theorem bf_R (h : bf n m a b T r L q R B dp) {k : Nat} (hk : R k) : k < n := by
  obtain ⟨i, h1, h2⟩ := h.2.2.2.2.2.1 k hk
  rw [← h2]
  exact (h.2.2.2.1 i h1).1
theorem bf_start (hr : r < n) (q : Nat → Nat) (B dp : Nat → Nat) (hq : q 0 = r) (hd : dp r = 0) : bf n m a b T r 1 q (fun k => k = r) B dp := by
  refine ⟨by omega, by omega, hq, fun i hi => ?_, fun i j hi hj _ => by omega, fun k hk => ⟨0, by omega, by rw [hq, hk]⟩, hd, fun x hx hne => absurd hx hne⟩
  have : i = 0 := by omega
  subst this
  rw [hq]
  exact ⟨hr, rfl, by omega⟩
theorem bf_push (h : bf n m a b T r L q R B dp) {e p y : Nat} (he : e < m) (hT : T e) (hp : R p) (hj : jn a b e p y) (hy : y < n) (hR : ¬ R y) :
    L + 1 ≤ n ∧ bf n m a b T r (L + 1) (un q L y) (fun k => k = y ∨ R k) (un B y e) (un dp y (dp p + 1)) := by
  obtain ⟨h1, h2, h3, h4, h5, h6, h7, h8⟩ := h
  have hne : ∀ x, R x → x ≠ y := fun x hx e => hR (e ▸ hx)
  have hqn : ∀ i, i < L → q i ≠ y := fun i hi => hne _ (h4 i hi).2.1
  have hLn : L + 1 ≤ n := by
    refine holes_ n (L + 1) (un q L y) (fun i hi => ?_) (fun i j hij hj => ?_)
    · by_cases e : i = L
      · rw [e, un_self]; exact hy
      · rw [un_ne _ _ e]; exact (h4 i (by omega)).1
    · rw [un_ne _ _ (show i ≠ L by omega)]
      by_cases e : j = L
      · rw [e, un_self]; exact hqn i (by omega)
      · rw [un_ne _ _ e]; exact fun q' => by have := h5 i j (by omega) (by omega) q'; omega
  have hr : R r := by rw [← h3]; exact (h4 0 h2).2.1
  obtain ⟨ip, hip, hqp⟩ := h6 p hp
  have hdp : dp p ≤ ip := by rw [← hqp]; exact (h4 ip hip).2.2
  refine ⟨hLn, hLn, by omega, by rw [un_ne _ _ (show 0 ≠ L by omega)]; exact h3, fun i hi => ?_, fun i j hi hj hq => ?_, fun k hk => ?_, by rw [un_ne _ _ (hne r hr)]; exact h7, fun x hx hxr => ?_⟩
  · by_cases e : i = L
    · rw [e, un_self, un_self]; exact ⟨hy, Or.inl rfl, by omega⟩
    · have := h4 i (by omega)
      rw [un_ne _ _ e, un_ne _ _ (hqn i (by omega))]; exact ⟨this.1, Or.inr this.2.1, this.2.2⟩
  · by_cases e : i = L <;> by_cases e' : j = L
    · omega
    · rw [e, un_self, un_ne _ _ e'] at hq; exact absurd hq.symm (hqn j (by omega))
    · rw [e', un_self, un_ne _ _ e] at hq; exact absurd hq (hqn i (by omega))
    · rw [un_ne _ _ e, un_ne _ _ e'] at hq; exact h5 i j (by omega) (by omega) hq
  · rcases hk with hk | hk
    · exact ⟨L, by omega, by rw [un_self, hk]⟩
    · obtain ⟨i, hi, hq⟩ := h6 k hk
      exact ⟨i, by omega, by rw [un_ne _ _ (show i ≠ L by omega)]; exact hq⟩
  · by_cases e' : x = y
    · rw [e', un_self, un_self]
      exact ⟨he, hT, p, Or.inr hp, hj, by rw [un_ne _ _ (hne p hp)]⟩
    · have hx' : R x := hx.resolve_left e'
      obtain ⟨g1, g2, p', g3, g4, g5⟩ := h8 x hx' hxr
      rw [un_ne _ _ e', un_ne _ _ e']
      exact ⟨g1, g2, p', Or.inr g3, g4, by rw [un_ne _ _ (hne p' g3)]; exact g5⟩
/-- what was reached hangs together with the start -/
theorem bf_cn (h : bf n m a b T r L q R B dp) : ∀ d x, R x → dp x = d → cn m a b T r x := by
  intro d
  induction d with
  | zero =>
    intro x hx hd
    by_cases e : x = r
    · rw [e]; exact cn_refl r
    · obtain ⟨-, -, p, -, -, g⟩ := h.2.2.2.2.2.2.2 x hx e
      omega
  | succ d ih =>
    intro x hx hd
    by_cases e : x = r
    · rw [e]; exact cn_refl r
    · obtain ⟨g1, g2, p, g3, g4, g5⟩ := h.2.2.2.2.2.2.2 x hx e
      exact cn_step (ih p g3 (by omega)) ⟨B x, g1, g2, g4⟩
theorem bf_iff (h : bf n m a b T r L q R B dp) (hc : ∀ x y e, e < m → T e → jn a b e x y → R x → R y) (k : Nat) : R k ↔ cn m a b T r k := by
  refine ⟨fun hk => bf_cn h _ k hk rfl, fun hk => cn_closed R ?_ hc hk⟩
  rw [← h.2.2.1]
  exact (h.2.2.2.1 0 h.2.1).2.1
/-- the way back to the start -/
def bk (a b : Nat → Nat) (B : Nat → Nat) (k : Nat) : Nat → Nat
  | 0 => k
  | i + 1 => ot a b (B (bk a b B k i)) (bk a b B k i)
theorem bf_back (h : bf n m a b T r L q R B dp) {k : Nat} (hk : R k) : ∀ i, i ≤ dp k → R (bk a b B k i) ∧ dp (bk a b B k i) + i = dp k := by
  intro i
  induction i with
  | zero => intro _; exact ⟨hk, rfl⟩
  | succ i ih =>
    intro hi
    obtain ⟨h1, h2⟩ := ih (by omega)
    have hne : bk a b B k i ≠ r := fun e => by rw [e, h.2.2.2.2.2.2.1] at h2; omega
    obtain ⟨g1, g2, p, g3, g4, g5⟩ := h.2.2.2.2.2.2.2 _ h1 hne
    have e : bk a b B k (i + 1) = p := jn_ot' g4
    rw [e]
    exact ⟨g3, by omega⟩
theorem bf_way (h : bf n m a b T r L q R B dp) {k : Nat} (hk : R k) : isW m a b T k r (dp k) (bk a b B k) (fun i => B (bk a b B k i)) := by
  refine ⟨rfl, ?_, fun i hi => ?_, fun i j hi hj e => ?_⟩
  · obtain ⟨h1, h2⟩ := bf_back h hk (dp k) (Nat.le_refl _)
    apply Classical.byContradiction
    intro hne
    obtain ⟨-, -, p, -, -, g5⟩ := h.2.2.2.2.2.2.2 _ h1 hne
    omega
  · obtain ⟨h1, h2⟩ := bf_back h hk i (by omega)
    have hne : bk a b B k i ≠ r := fun e => by rw [e, h.2.2.2.2.2.2.1] at h2; omega
    obtain ⟨g1, g2, p, g3, g4, g5⟩ := h.2.2.2.2.2.2.2 _ h1 hne
    have e : bk a b B k (i + 1) = p := jn_ot' g4
    exact ⟨g1, g2, by rw [e]; exact jn_symm g4⟩
  · have h1 := (bf_back h hk i hi).2
    have h2 := (bf_back h hk j hj).2
    rw [e] at h1
    omega
theorem bf_dp_lt (h : bf n m a b T r L q R B dp) {k : Nat} (hk : R k) : dp k < n := by
  obtain ⟨i, h1, h2⟩ := h.2.2.2.2.2.1 k hk
  have h3 := (h.2.2.2.1 i h1).2.2
  have h4 := h.1
  rw [h2] at h3
  omega
end
