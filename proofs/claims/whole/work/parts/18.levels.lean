/-! forests change by an edge -/
section
variable {m : Nat} {a b : Nat → Nat}
theorem cn_add {X : Nat → Prop} {h u w : Nat} (hc : cn m a b (fun f => X f ∨ f = h) u w) : cn m a b X u w ∨ (cn m a b X u (a h) ∧ cn m a b X (b h) w) ∨ (cn m a b X u (b h) ∧ cn m a b X (a h) w) := by
  refine cn_ind (P := fun w => cn m a b X u w ∨ (cn m a b X u (a h) ∧ cn m a b X (b h) w) ∨ (cn m a b X u (b h) ∧ cn m a b X (a h) w)) (Or.inl (cn_refl u)) (fun x y _ ih hs => ?_) hc
  obtain ⟨e, he, hX, hj⟩ := hs
  rcases hX with hX | hX
  · have s : st1 m a b X x y := ⟨e, he, hX, hj⟩
    rcases ih with q | ⟨q1, q2⟩ | ⟨q1, q2⟩
    · exact Or.inl (cn_step q s)
    · exact Or.inr (Or.inl ⟨q1, cn_step q2 s⟩)
    · exact Or.inr (Or.inr ⟨q1, cn_step q2 s⟩)
  · subst hX
    rcases hj with ⟨g1, g2⟩ | ⟨g1, g2⟩
    · subst g1; subst g2
      rcases ih with q | ⟨q1, q2⟩ | ⟨q1, q2⟩
      · exact Or.inr (Or.inl ⟨q, cn_refl _⟩)
      · exact Or.inr (Or.inl ⟨q1, cn_refl _⟩)
      · exact Or.inl q1
    · subst g1; subst g2
      rcases ih with q | ⟨q1, q2⟩ | ⟨q1, q2⟩
      · exact Or.inr (Or.inr ⟨q, cn_refl _⟩)
      · exact Or.inl q1
      · exact Or.inr (Or.inr ⟨q1, cn_refl _⟩)
theorem fo_sub {T T' : Nat → Prop} (hf : fo m a b T) (h : ∀ e, e < m → T' e → T e) : fo m a b T' := fun e he hT hc => hf e he (h e he hT) (cn_sub hc (fun f hf z => ⟨h f hf z.1, z.2⟩))
theorem fo_add {T : Nat → Prop} {h : Nat} (hh : h < m) (hf : fo m a b T) (hn : ¬ cn m a b T (a h) (b h)) : fo m a b (fun f => T f ∨ f = h) := by
  intro f hfm hT hc
  by_cases e : f = h
  · subst e
    refine hn (cn_sub hc (fun x _ z => z.1.resolve_right z.2))
  · have hTf : T f := hT.resolve_right e
    have hc2 : cn m a b (fun x => (T x ∧ x ≠ f) ∨ x = h) (a f) (b f) := cn_sub hc (fun x _ z => z.1.elim (fun q => Or.inl ⟨q, z.2⟩) Or.inr)
    have up : ∀ {u w}, cn m a b (fun x => T x ∧ x ≠ f) u w → cn m a b T u w := fun z => cn_sub z (fun _ _ q => q.1)
    have ef : cn m a b T (a f) (b f) := cn_edge hfm hTf (jn_ab f)
    rcases cn_add hc2 with q | ⟨q1, q2⟩ | ⟨q1, q2⟩
    · exact hf f hfm hTf q
    · exact hn (cn_trans (cn_symm (up q1)) (cn_trans ef (cn_symm (up q2))))
    · exact hn (cn_trans (up q2) (cn_trans (cn_symm ef) (up q1)))
/-- with one edge e less: together still, or on both sides of e -/
theorem cn_less {T : Nat → Prop} {e u w : Nat} (hc : cn m a b T u w) : cn m a b (fun f => T f ∧ f ≠ e) u w ∨ (cn m a b (fun f => T f ∧ f ≠ e) u (a e) ∧ cn m a b (fun f => T f ∧ f ≠ e) (b e) w) ∨ (cn m a b (fun f => T f ∧ f ≠ e) u (b e) ∧ cn m a b (fun f => T f ∧ f ≠ e) (a e) w) :=
  cn_add (X := fun f => T f ∧ f ≠ e) (cn_sub hc (fun f _ z => (Classical.em (f = e)).elim Or.inr (fun q => Or.inl ⟨z, q⟩)))
end
/-! more counting -/
theorem ctp_mono {p q : Nat → Prop} : ∀ {n : Nat}, (∀ k, k < n → p k → q k) → ctp p n ≤ ctp q n
  | 0, _ => Nat.le_refl _
  | n + 1, h => by
    unfold ctp
    have h1 := ctp_mono (p := p) (q := q) (n := n) (fun k hk => h k (by omega))
    by_cases hp : p n
    · rw [zif_pos hp, zif_pos (h n (by omega) hp)]; omega
    · rw [zif_neg hp]; omega
theorem ctp_or {p q : Nat → Prop} : ∀ {n : Nat}, (∀ k, k < n → ¬ (p k ∧ q k)) → ctp p n + ctp q n = ctp (fun k => p k ∨ q k) n
  | 0, _ => rfl
  | n + 1, h => by
    unfold ctp
    have h1 := ctp_or (p := p) (q := q) (n := n) (fun k hk => h k (by omega))
    have h2 := h n (by omega)
    by_cases hp : p n
    · rw [zif_pos hp, zif_neg (fun z => h2 ⟨hp, z⟩), zif_pos (Or.inl hp)]; omega
    · by_cases hq : q n
      · rw [zif_neg hp, zif_pos hq, zif_pos (Or.inr hq)]; omega
      · rw [zif_neg hp, zif_neg hq, zif_neg (fun z => z.elim hp hq)]; omega
theorem ctp_two {p : Nat → Prop} {n x y : Nat} (hx : x < n) (hy : y < n) (hne : x ≠ y) (h1 : p x) (h2 : p y) : 2 ≤ ctp p n := by
  rw [ctp_drop h1 hx, ctp_drop (p := fun k => p k ∧ k ≠ x) ⟨h2, hne.symm⟩ hy]
  omega
theorem ctp_pos {p : Nat → Prop} {n x : Nat} (hx : x < n) (h1 : p x) : 1 ≤ ctp p n := by
  rw [ctp_drop h1 hx]
  omega
/-! LEVELS -/
def Tl (s v : Nat → Nat) (e i f : Nat) : Prop := s f = 1 ∧ f ≠ e ∧ i ≤ v f
def Tg (s v : Nat → Nat) (i f : Nat) : Prop := s f = 1 ∧ i ≤ v f
/-- the smaller side at level i when e goes -/
noncomputable def Sm (n m : Nat) (a b s v : Nat → Nat) (e i k : Nat) : Prop :=
  zif (ctp (cn m a b (Tl s v e i) (a e)) n ≤ ctp (cn m a b (Tl s v e i) (b e)) n) (cn m a b (Tl s v e i) (a e) k) (cn m a b (Tl s v e i) (b e) k)
def LvI (n m : Nat) (a b s v : Nat → Nat) : Prop :=
  (∀ f, f < m → s f = 2 → cn m a b (Tg s v (v f)) (a f) (b f)) ∧ (∀ i k, k < n → 2 ≤ ctp (cn m a b (Tg s v i) k) n → ctp (cn m a b (Tg s v i) k) n * 2 ^ i ≤ 100) ∧ ∀ f, f < m → v f ≤ 5
def bothS (a b : Nat → Nat) (S : Nat → Prop) (f : Nat) : Prop := S (a f) ∧ S (b f)
def oneS (a b : Nat → Nat) (S : Nat → Prop) (f : Nat) : Prop := (S (a f) ∧ ¬ S (b f)) ∨ (¬ S (a f) ∧ S (b f))
section
variable {n m : Nat} {a b s v : Nat → Nat} {e : Nat}
theorem Sm_cases (i : Nat) : ((∀ k, Sm n m a b s v e i k ↔ cn m a b (Tl s v e i) (a e) k) ∧ ctp (cn m a b (Tl s v e i) (a e)) n ≤ ctp (cn m a b (Tl s v e i) (b e)) n) ∨ ((∀ k, Sm n m a b s v e i k ↔ cn m a b (Tl s v e i) (b e) k) ∧ ctp (cn m a b (Tl s v e i) (b e)) n < ctp (cn m a b (Tl s v e i) (a e)) n) := by
  by_cases h : ctp (cn m a b (Tl s v e i) (a e)) n ≤ ctp (cn m a b (Tl s v e i) (b e)) n
  · refine Or.inl ⟨fun k => ?_, h⟩
    unfold Sm
    rw [zif_pos h]
  · refine Or.inr ⟨fun k => ?_, by omega⟩
    unfold Sm
    rw [zif_neg h]
/-- S is one whole part at its level -/
theorem Sm_part (i : Nat) : ∃ x, (x = a e ∨ x = b e) ∧ ∀ k, Sm n m a b s v e i k ↔ cn m a b (Tl s v e i) x k := by
  rcases Sm_cases (n := n) (m := m) (a := a) (b := b) (s := s) (v := v) (e := e) i with ⟨h, -⟩ | ⟨h, -⟩
  · exact ⟨a e, Or.inl rfl, h⟩
  · exact ⟨b e, Or.inr rfl, h⟩
theorem Sm_closed {i x y f : Nat} (hf : f < m) (hT : Tl s v e i f) (hj : jn a b f x y) : Sm n m a b s v e i x ↔ Sm n m a b s v e i y := by
  obtain ⟨z, -, h⟩ := Sm_part (n := n) (m := m) (a := a) (b := b) (s := s) (v := v) (e := e) i
  rw [h, h]
  exact ⟨fun q => cn_step q ⟨f, hf, hT, hj⟩, fun q => cn_step q ⟨f, hf, hT, jn_symm hj⟩⟩
theorem Sm_size (hab : ∀ f, f < m → a f < n ∧ b f < n ∧ a f ≠ b f) (hfo : fo m a b (fun f => s f = 1)) (hL : LvI n m a b s v) (he : e < m) (hs : s e = 1) {i : Nat} (hi : i ≤ v e) : ctp (Sm n m a b s v e i) n * 2 ^ (i + 1) ≤ 100 := by
  have hab' := hab e he
  have dis : ∀ k, k < n → ¬ (cn m a b (Tl s v e i) (a e) k ∧ cn m a b (Tl s v e i) (b e) k) := fun k _ z => hfo e he hs (cn_sub (cn_trans z.1 (cn_symm z.2)) (fun f _ q => ⟨q.1, q.2.1⟩))
  have hsum := ctp_or dis
  have up : ∀ {u w}, cn m a b (Tl s v e i) u w → cn m a b (Tg s v i) u w := fun z => cn_sub z (fun f _ q => ⟨q.1, q.2.2⟩)
  have ee : cn m a b (Tg s v i) (a e) (b e) := cn_edge he ⟨hs, hi⟩ (jn_ab e)
  have hle : ctp (fun k => cn m a b (Tl s v e i) (a e) k ∨ cn m a b (Tl s v e i) (b e) k) n ≤ ctp (cn m a b (Tg s v i) (a e)) n := ctp_mono (fun k _ z => z.elim up (fun q => cn_trans ee (up q)))
  have h2 : 2 ≤ ctp (cn m a b (Tg s v i) (a e)) n := ctp_two hab'.1 hab'.2.1 hab'.2.2 (cn_refl _) ee
  have h3 := hL.2.1 i (a e) hab'.1 h2
  have h4 : 2 * ctp (Sm n m a b s v e i) n ≤ ctp (cn m a b (Tg s v i) (a e)) n := by
    rcases Sm_cases (n := n) (m := m) (a := a) (b := b) (s := s) (v := v) (e := e) i with ⟨q, q2⟩ | ⟨q, q2⟩
    · rw [ctp_congr (fun k _ => q k)]; omega
    · rw [ctp_congr (fun k _ => q k)]; omega
  have h5 : 2 * ctp (Sm n m a b s v e i) n * 2 ^ i ≤ ctp (cn m a b (Tg s v i) (a e)) n * 2 ^ i := Nat.mul_le_mul_right _ h4
  rw [Nat.pow_succ, Nat.mul_comm (2 ^ i) 2, ← Nat.mul_assoc, Nat.mul_comm _ 2]
  omega
theorem pow_small {c i : Nat} (h : c * 2 ^ i ≤ 100) (hc : 2 ≤ c) : i ≤ 5 := by
  rcases Nat.lt_or_ge 5 i with q | q
  · exfalso
    obtain ⟨j, rfl⟩ : ∃ j, i = 6 + j := ⟨i - 6, by omega⟩
    rw [Nat.pow_add] at h
    have h1 : 1 ≤ 2 ^ j := Nat.one_le_two_pow
    have h2 : 2 * (2 ^ 6 * 2 ^ j) ≤ c * (2 ^ 6 * 2 ^ j) := Nat.mul_le_mul_right _ hc
    omega
  · exact q
/-- what rises gets no level beyond 5 -/
theorem Sm_level (hab : ∀ f, f < m → a f < n ∧ b f < n ∧ a f ≠ b f) (hfo : fo m a b (fun f => s f = 1)) (hL : LvI n m a b s v) (he : e < m) (hs : s e = 1) {i f : Nat} (hi : i ≤ v e) (hf : f < m) (h : bothS a b (Sm n m a b s v e i) f) : i + 1 ≤ 5 := by
  have h1 := Sm_size hab hfo hL he hs hi
  have hf' := hab f hf
  exact pow_small h1 (ctp_two hf'.1 hf'.2.1 hf'.2.2 h.1 h.2)
/-- what has risen: at levels above i, and at level i the tree edges below ct and the spare ones below cs -/
def rz (n m : Nat) (a b s v : Nat → Nat) (e i ct cs f : Nat) : Prop :=
  f < m ∧ f ≠ e ∧ v f ≤ v e ∧ ((i < v f ∧ (s f = 1 ∨ s f = 2)) ∨ (v f = i ∧ ((s f = 1 ∧ f < ct) ∨ (s f = 2 ∧ f < cs)))) ∧ bothS a b (Sm n m a b s v e (v f)) f
noncomputable def lvc (n m : Nat) (a b s v : Nat → Nat) (e i ct cs : Nat) : Nat → Nat := fun f => zif (rz n m a b s v e i ct cs f) (v f + 1) (v f)
theorem lvc_or (i ct cs f : Nat) : (lvc n m a b s v e i ct cs f = v f + 1 ∧ rz n m a b s v e i ct cs f) ∨ (lvc n m a b s v e i ct cs f = v f ∧ ¬ rz n m a b s v e i ct cs f) := by
  unfold lvc
  by_cases h : rz n m a b s v e i ct cs f
  · exact Or.inl ⟨zif_pos h _ _, h⟩
  · exact Or.inr ⟨zif_neg h _ _, h⟩
/-- levels up to i are still told by the first levels -/
theorem lvc_ge {i ct cs f j : Nat} (hj : j ≤ i) : j ≤ lvc n m a b s v e i ct cs f ↔ j ≤ v f := by
  rcases lvc_or (n := n) (m := m) (a := a) (b := b) (s := s) (v := v) (e := e) i ct cs f with ⟨h1, h2⟩ | ⟨h1, h2⟩
  · rw [h1]
    obtain ⟨-, -, -, h3, -⟩ := h2
    rcases h3 with h3 | h3 <;> omega
  · rw [h1]
theorem lvc_next (i : Nat) : lvc n m a b s v e (i + 1) m m = lvc n m a b s v e i 0 0 := by
  funext f
  unfold lvc
  apply zif_congr
  unfold rz
  constructor
  · rintro ⟨h1, h2, h3, h4, h5⟩
    refine ⟨h1, h2, h3, Or.inl ?_, h5⟩
    rcases h4 with ⟨q1, q2⟩ | ⟨q1, q2⟩
    · exact ⟨by omega, q2⟩
    · exact ⟨by omega, q2.elim (fun z => Or.inl z.1) (fun z => Or.inr z.1)⟩
  · rintro ⟨h1, h2, h3, h4, h5⟩
    refine ⟨h1, h2, h3, ?_, h5⟩
    rcases h4 with ⟨q1, q2⟩ | ⟨q1, q2⟩
    · by_cases e1 : v f = i + 1
      · exact Or.inr ⟨e1, q2.elim (fun z => Or.inl ⟨z, h1⟩) (fun z => Or.inr ⟨z, h1⟩)⟩
      · exact Or.inl ⟨by omega, q2⟩
    · omega
theorem lvc_start : lvc n m a b s v e (v e) 0 0 = v := by
  funext f
  unfold lvc
  rw [zif_neg]
  rintro ⟨h1, h2, h3, h4, h5⟩
  omega
end
