/-! an edge more: forests and levels -/
section
variable {m : Nat} {a b : Nat → Nat} {x y : Nat}
theorem cn_up {T T2 : Nat → Prop} {u w : Nat} (h : cn m a b T u w) (hT : ∀ f, f < m → T f → T2 f) : cn (m + 1) (un a m x) (un b m y) T2 u w :=
  cn_mono h (fun e he t => ⟨by omega, hT e he t, un_ne _ _ (by omega), un_ne _ _ (by omega)⟩)
theorem cn_dn {T T2 : Nat → Prop} {u w : Nat} (h : cn (m + 1) (un a m x) (un b m y) T2 u w) (hT : ∀ f, f < m + 1 → T2 f → f < m ∧ T f) : cn m a b T u w :=
  cn_mono h (fun e he t => by
    obtain ⟨q1, q2⟩ := hT e he t
    exact ⟨q1, q2, (un_ne _ _ (by omega)).symm, (un_ne _ _ (by omega)).symm⟩)
theorem fo_up {T T2 : Nat → Prop} (hf : fo m a b T) (hT : ∀ f, f < m + 1 → T2 f → f < m ∧ T f) : fo (m + 1) (un a m x) (un b m y) T2 := by
  intro e he ht hc
  obtain ⟨e1, e2⟩ := hT e he ht
  rw [un_ne _ _ (by omega), un_ne _ _ (by omega)] at hc
  exact hf e e1 e2 (cn_dn hc (fun f hf z => ⟨(hT f hf z.1).1, (hT f hf z.1).2, z.2⟩))
theorem fo_new {T T2 : Nat → Prop} (hf : fo m a b T) (hn : ¬ cn m a b T x y) (hT : ∀ f, f < m + 1 → T2 f → f = m ∨ (f < m ∧ T f)) : fo (m + 1) (un a m x) (un b m y) T2 := by
  have h1 : fo (m + 1) (un a m x) (un b m y) (fun f => f < m ∧ T f) := fo_up hf (fun f _ z => z)
  have h2 := fo_add (h := m) (by omega) h1 (by rw [un_self, un_self]; exact fun z => hn (cn_dn z (fun _ _ q => q)))
  exact fo_sub h2 (fun e he t => (hT e he t).elim Or.inr Or.inl)
theorem isW_split {T : Nat → Prop} {u v l : Nat} {K S : Nat → Nat} (hw : isW m a b T u v l K S) {i : Nat} (hi : i < l) : cn m a b (fun f => T f ∧ f ≠ S i) u (K i) ∧ cn m a b (fun f => T f ∧ f ≠ S i) (K (i + 1)) v := by
  have ne : ∀ j, j < l → j ≠ i → S j ≠ S i := fun j hj hne e => by
    have h1 := (hw.2.2.1 i hi).2.2
    have h2 := (hw.2.2.1 j hj).2.2
    have h3 : jn a b (S j) (K i) (K (i + 1)) := by rw [e]; exact h1
    have h4 : jn a b (S i) (K j) (K (j + 1)) := by rw [← e]; exact h2
    have h5 := isW_at hw (by omega) hj h3
    have h6 := isW_at hw (by omega) hi h4
    omega
  have c1 := isW_cn (fun f => T f ∧ f ≠ S i) hw 0 i (by omega) (fun j h1 h2 => ⟨(hw.2.2.1 j (by omega)).2.1, ne j (by omega) (by omega)⟩)
  have c2 := isW_cn (fun f => T f ∧ f ≠ S i) hw (i + 1) (l - (i + 1)) (by omega) (fun j h1 h2 => ⟨(hw.2.2.1 j (by omega)).2.1, ne j (by omega) (by omega)⟩)
  rw [Nat.zero_add, hw.1] at c1
  rw [show i + 1 + (l - (i + 1)) = l by omega, hw.2.1] at c2
  exact ⟨c1, c2⟩
/-- the swap: an edge of the way from x to y goes, a new one between x and y comes -/
theorem swap_no {T : Nat → Prop} {l : Nat} {K S : Nat → Nat} (hf : fo m a b T) (hw : isW m a b T x y l K S) {i : Nat} (hi : i < l) : ¬ cn m a b (fun f => T f ∧ f ≠ S i) x y := by
  intro hc
  obtain ⟨c1, c2⟩ := isW_split hw hi
  obtain ⟨s1, s2, s3⟩ := hw.2.2.1 i hi
  exact fo_jn hf s1 s2 s3 (cn_trans (cn_symm c1) (cn_trans hc (cn_symm c2)))
theorem swap_cn {T T2 : Nat → Prop} {l : Nat} {K S : Nat → Nat} (hw : isW m a b T x y l K S) {i : Nat} (hi : i < l) (h1 : ∀ f, f < m → T f → f ≠ S i → T2 f) (h2 : T2 m) {u w : Nat} (hc : cn m a b T u w) : cn (m + 1) (un a m x) (un b m y) T2 u w := by
  obtain ⟨c1, c2⟩ := isW_split hw hi
  have up : ∀ {u w}, cn m a b (fun f => T f ∧ f ≠ S i) u w → cn (m + 1) (un a m x) (un b m y) T2 u w := fun z => cn_up z (fun f hf q => h1 f hf q.1 q.2)
  have new : cn (m + 1) (un a m x) (un b m y) T2 x y := cn_edge (e := m) (by omega) h2 (Or.inl ⟨un_self _ _ _, un_self _ _ _⟩)
  have mid : cn (m + 1) (un a m x) (un b m y) T2 (K i) (K (i + 1)) := cn_trans (cn_symm (up c1)) (cn_trans new (cn_symm (up c2)))
  have mid2 : cn (m + 1) (un a m x) (un b m y) T2 (a (S i)) (b (S i)) := by
    rcases (hw.2.2.1 i hi).2.2 with ⟨z1, z2⟩ | ⟨z1, z2⟩
    · rw [z1, z2]; exact mid
    · rw [z1, z2]; exact cn_symm mid
  rcases cn_less (e := S i) hc with z | ⟨z1, z2⟩ | ⟨z1, z2⟩
  · exact up z
  · exact cn_trans (up z1) (cn_trans mid2 (up z2))
  · exact cn_trans (up z1) (cn_trans (cn_symm mid2) (up z2))
/-- levels: a new edge of level 0 -/
theorem LvI_new {n : Nat} {s v s2 : Nat → Nat} (hn : n ≤ 100) (hs : ∀ f, f < m → s2 f = s f) (hnew : s2 m = 2 → cn m a b (fun f => s f = 1) x y) (h : LvI n m a b s v) : LvI n (m + 1) (un a m x) (un b m y) s2 (un v m 0) := by
  obtain ⟨h1, h2, h3⟩ := h
  have tg : ∀ i f, f < m → Tg s v i f → Tg s2 (un v m 0) i f := fun i f hf z => ⟨by rw [hs f hf]; exact z.1, by rw [un_ne _ _ (by omega)]; exact z.2⟩
  refine ⟨fun f hf hs2 => ?_, fun i k hk hc => ?_, fun f hf => ?_⟩
  · by_cases e : f = m
    · subst e
      rw [un_self, un_self, un_self]
      exact cn_up (hnew hs2) (fun f hf z => tg 0 f hf ⟨z, Nat.zero_le _⟩)
    · rw [un_ne _ _ e, un_ne _ _ e, un_ne _ _ e]
      rw [hs f (by omega)] at hs2
      exact cn_up (h1 f (by omega) hs2) (fun f hf z => tg _ f hf z)
  · by_cases e : i = 0
    · subst e
      have := ctp_le (cn (m + 1) (un a m x) (un b m y) (Tg s2 (un v m 0) 0) k) n
      rw [Nat.pow_zero]
      omega
    · have ec : ctp (cn (m + 1) (un a m x) (un b m y) (Tg s2 (un v m 0) i) k) n = ctp (cn m a b (Tg s v i) k) n := by
        refine ctp_congr (fun w _ => ⟨fun z => cn_dn z (fun f hf q => ?_), fun z => cn_up z (tg i)⟩)
        obtain ⟨q1, q2⟩ := q
        by_cases e2 : f = m
        · rw [e2, un_self] at q2; omega
        · rw [un_ne _ _ e2] at q2
          rw [hs f (by omega)] at q1
          exact ⟨by omega, q1, q2⟩
      rw [ec] at hc ⊢
      exact h2 i k hk hc
  · by_cases e : f = m
    · rw [e, un_self]; omega
    · rw [un_ne _ _ e]; exact h3 f (by omega)
end
