/-! the first that fits -/
noncomputable def fstp (p : Nat → Prop) : Nat → Option Nat
  | 0 => none
  | m + 1 => match fstp p m with
    | some f => some f
    | none => zif (p m) (some m) none
theorem fstp_spec (p : Nat → Prop) : ∀ m, (∃ f, fstp p m = some f ∧ f < m ∧ p f ∧ ∀ x, x < f → ¬ p x) ∨ (fstp p m = none ∧ ∀ x, x < m → ¬ p x)
  | 0 => Or.inr ⟨rfl, fun x hx => by omega⟩
  | m + 1 => by
    rcases fstp_spec p m with ⟨f, h1, h2, h3, h4⟩ | ⟨h1, h2⟩
    · refine Or.inl ⟨f, ?_, by omega, h3, h4⟩
      unfold fstp
      rw [h1]
    · by_cases hp : p m
      · refine Or.inl ⟨m, ?_, by omega, hp, h2⟩
        unfold fstp
        rw [h1]
        exact zif_pos hp _ _
      · refine Or.inr ⟨?_, fun x hx => ?_⟩
        · unfold fstp
          rw [h1]
          exact zif_neg hp _ _
        · rcases Nat.lt_or_ge x m with q | q
          · exact h2 x q
          · rw [show x = m by omega]; exact hp
theorem fstp_found {p : Nat → Prop} {m f : Nat} (hf : f < m) (hp : p f) (hx : ∀ x, x < f → ¬ p x) : fstp p m = some f := by
  rcases fstp_spec p m with ⟨g, h1, h2, h3, h4⟩ | ⟨h1, h2⟩
  · have : g = f := by
      rcases Nat.lt_or_ge g f with q | q
      · exact absurd h3 (hx g q)
      · rcases Nat.lt_or_ge f g with q2 | q2
        · exact absurd hp (h4 f q2)
        · omega
    rw [h1, this]
  · exact absurd hp (h2 f hf)
theorem fstp_no {p : Nat → Prop} {m : Nat} (hx : ∀ x, x < m → ¬ p x) : fstp p m = none := by
  rcases fstp_spec p m with ⟨g, h1, h2, h3, h4⟩ | ⟨h1, h2⟩
  · exact absurd h3 (hx g h2)
  · exact h1
/-- a spare edge of level i that leaves the smaller side -/
def cand (n m : Nat) (a b s v : Nat → Nat) (e i f : Nat) : Prop := s f = 2 ∧ v f = i ∧ oneS a b (Sm n m a b s v e i) f
/-- the heir, from level i - 1 down -/
noncomputable def hsr (n m : Nat) (a b s v : Nat → Nat) (e : Nat) : Nat → Option (Nat × Nat)
  | 0 => none
  | i + 1 => match fstp (cand n m a b s v e i) m with
    | some h => some (i, h)
    | none => hsr n m a b s v e i
section
variable {n m : Nat} {a b s v : Nat → Nat} {e : Nat}
theorem hsr_found {i h : Nat} (hh : h < m) (hc : cand n m a b s v e i h) (hx : ∀ x, x < h → ¬ cand n m a b s v e i x) : hsr n m a b s v e (i + 1) = some (i, h) := by
  unfold hsr
  rw [fstp_found hh hc hx]
theorem hsr_next {i : Nat} (hx : ∀ x, x < m → ¬ cand n m a b s v e i x) : hsr n m a b s v e (i + 1) = hsr n m a b s v e i := by
  conv => lhs; unfold hsr
  rw [fstp_no hx]
theorem hsr_spec : ∀ k, (∃ i h, hsr n m a b s v e k = some (i, h) ∧ i < k ∧ h < m ∧ cand n m a b s v e i h ∧ (∀ x, x < h → ¬ cand n m a b s v e i x) ∧ ∀ j, i < j → j < k → ∀ x, x < m → ¬ cand n m a b s v e j x) ∨ (hsr n m a b s v e k = none ∧ ∀ j, j < k → ∀ x, x < m → ¬ cand n m a b s v e j x)
  | 0 => Or.inr ⟨rfl, fun j hj => by omega⟩
  | k + 1 => by
    rcases fstp_spec (cand n m a b s v e k) m with ⟨h, h1, h2, h3, h4⟩ | ⟨h1, h2⟩
    · exact Or.inl ⟨k, h, hsr_found h2 h3 h4, by omega, h2, h3, h4, fun j _ _ => by omega⟩
    · rw [hsr_next h2]
      rcases hsr_spec k with ⟨i, h, q1, q2, q3, q4, q5, q6⟩ | ⟨q1, q2⟩
      · refine Or.inl ⟨i, h, q1, by omega, q3, q4, q5, fun j hj hk x hx => ?_⟩
        rcases Nat.lt_or_ge j k with w | w
        · exact q6 j hj w x hx
        · rw [show j = k by omega]; exact h2 x hx
      · refine Or.inr ⟨q1, fun j hj x hx => ?_⟩
        rcases Nat.lt_or_ge j k with w | w
        · exact q2 j w x hx
        · rw [show j = k by omega]; exact h2 x hx
theorem Tl_less {i : Nat} {u w : Nat} : cn m a b (fun f => Tg s v i f ∧ f ≠ e) u w ↔ cn m a b (Tl s v e i) u w :=
  ⟨fun z => cn_sub z (fun f _ q => ⟨q.1.1, q.2, q.1.2⟩), fun z => cn_sub z (fun f _ q => ⟨⟨q.1, q.2.2⟩, q.2.1⟩)⟩
/-- a spare edge within: together still; else it goes from one side to the other -/
theorem spare_sides (hL : LvI n m a b s v) {f : Nat} (hf : f < m) (hs : s f = 2) : cn m a b (Tl s v e (v f)) (a f) (b f) ∨ (cn m a b (Tl s v e (v f)) (a f) (a e) ∧ cn m a b (Tl s v e (v f)) (b e) (b f)) ∨ (cn m a b (Tl s v e (v f)) (a f) (b e) ∧ cn m a b (Tl s v e (v f)) (a e) (b f)) := by
  have h := cn_less (e := e) (hL.1 f hf hs)
  rw [Tl_less, Tl_less, Tl_less, Tl_less, Tl_less] at h
  exact h
theorem spare_one (hfo : fo m a b (fun f => s f = 1)) (he : e < m) (hse : s e = 1) {f i : Nat} (h : (cn m a b (Tl s v e i) (a f) (a e) ∧ cn m a b (Tl s v e i) (b e) (b f)) ∨ (cn m a b (Tl s v e i) (a f) (b e) ∧ cn m a b (Tl s v e i) (a e) (b f))) : oneS a b (Sm n m a b s v e i) f := by
  have dis : ∀ k, cn m a b (Tl s v e i) (a e) k → cn m a b (Tl s v e i) (b e) k → False := fun k z1 z2 => hfo e he hse (cn_sub (cn_trans z1 (cn_symm z2)) (fun f _ q => ⟨q.1, q.2.1⟩))
  unfold oneS
  rcases Sm_cases (n := n) (m := m) (a := a) (b := b) (s := s) (v := v) (e := e) i with ⟨q, -⟩ | ⟨q, -⟩ <;> rw [q, q] <;> rcases h with ⟨h1, h2⟩ | ⟨h1, h2⟩
  · exact Or.inl ⟨cn_symm h1, fun z => dis _ z h2⟩
  · exact Or.inr ⟨fun z => dis _ z (cn_symm h1), h2⟩
  · exact Or.inr ⟨fun z => dis _ (cn_symm h1) z, h2⟩
  · exact Or.inl ⟨cn_symm h1, fun z => dis _ h2 z⟩
theorem cand_across (hL : LvI n m a b s v) {f i : Nat} (hf : f < m) (hc : cand n m a b s v e i f) : (cn m a b (Tl s v e i) (a f) (a e) ∧ cn m a b (Tl s v e i) (b e) (b f)) ∨ (cn m a b (Tl s v e i) (a f) (b e) ∧ cn m a b (Tl s v e i) (a e) (b f)) := by
  obtain ⟨h1, h2, h3⟩ := hc
  subst h2
  rcases spare_sides (e := e) hL hf h1 with q | q
  · exfalso
    obtain ⟨x, -, hx⟩ := Sm_part (n := n) (m := m) (a := a) (b := b) (s := s) (v := v) (e := e) (v f)
    rcases h3 with ⟨z1, z2⟩ | ⟨z1, z2⟩
    · rw [hx] at z1 z2
      exact z2 (cn_trans z1 q)
    · rw [hx] at z1 z2
      exact z1 (cn_trans z2 (cn_symm q))
  · exact q
/-- LEVELS hold when a tree edge e goes; H: the heir, if there is one -/
theorem LvI_cut (hn : n ≤ 100) (hab : ∀ f, f < m → a f < n ∧ b f < n ∧ a f ≠ b f) (hfo : fo m a b (fun f => s f = 1)) (hL : LvI n m a b s v) (he : e < m) (hse : s e = 1) {i0 cs : Nat} {H : Nat → Prop} {s2 : Nat → Nat}
    (h1 : ∀ f, f < m → (s2 f = 1 ↔ (s f = 1 ∧ f ≠ e) ∨ H f)) (h2 : ∀ f, f < m → s2 f = 2 → s f = 2 ∧ ¬ H f) (hi0 : i0 ≤ v e) (hH : ∀ f, f < m → H f → cand n m a b s v e i0 f ∧ ¬ f < cs)
    (hcand : ∀ j f, j ≤ v e → f < m → cand n m a b s v e j f → j ≤ i0 ∧ ∃ h, h < m ∧ H h) : LvI n m a b s2 (lvc n m a b s v e i0 m cs) := by
  have hvH : ∀ f, f < m → H f → lvc n m a b s v e i0 m cs f = i0 := by
    intro f hf hHf
    obtain ⟨⟨q1, q2, q3⟩, q4⟩ := hH f hf hHf
    rcases lvc_or (n := n) (m := m) (a := a) (b := b) (s := s) (v := v) (e := e) i0 m cs f with ⟨z1, z2⟩ | ⟨z1, z2⟩
    · exfalso
      obtain ⟨-, -, -, z3, -⟩ := z2
      omega
    · rw [z1, q2]
  have hvge : ∀ f, v f ≤ lvc n m a b s v e i0 m cs f := by
    intro f
    rcases lvc_or (n := n) (m := m) (a := a) (b := b) (s := s) (v := v) (e := e) i0 m cs f with ⟨z1, z2⟩ | ⟨z1, z2⟩ <;> omega
  have lift : ∀ {j u w}, cn m a b (Tl s v e j) u w → cn m a b (Tg s2 (lvc n m a b s v e i0 m cs) j) u w := fun z => cn_sub z (fun f hf q => ⟨(h1 f hf).mpr (Or.inl ⟨q.1, q.2.1⟩), by have := hvge f; have := q.2.2; omega⟩)
  refine ⟨fun f hf hs => ?_, fun i k hk hsz => ?_, fun f hf => ?_⟩
  · obtain ⟨hsf, hnH⟩ := h2 f hf hs
    rcases lvc_or (n := n) (m := m) (a := a) (b := b) (s := s) (v := v) (e := e) i0 m cs f with ⟨z1, z2⟩ | ⟨z1, z2⟩
    · -- it has risen with its side
      obtain ⟨-, -, z3, z4, z5⟩ := z2
      rw [z1]
      obtain ⟨x, -, hx⟩ := Sm_part (n := n) (m := m) (a := a) (b := b) (s := s) (v := v) (e := e) (v f)
      have key : ∀ y, cn m a b (Tl s v e (v f)) x y → cn m a b (Tg s2 (lvc n m a b s v e i0 m cs) (v f + 1)) x y := by
        intro y hy
        refine cn_ind (P := fun y => cn m a b (Tg s2 (lvc n m a b s v e i0 m cs) (v f + 1)) x y) (cn_refl x) (fun p q hp ih hs => ?_) hy
        obtain ⟨t, ht, hT, hj⟩ := hs
        refine cn_step ih ⟨t, ht, ⟨(h1 t ht).mpr (Or.inl ⟨hT.1, hT.2.1⟩), ?_⟩, hj⟩
        by_cases hvt : v t = v f
        · have hr : rz n m a b s v e i0 m cs t := by
            refine ⟨ht, hT.2.1, by omega, ?_, ?_⟩
            · by_cases q2 : i0 < v t
              · exact Or.inl ⟨q2, Or.inl hT.1⟩
              · exact Or.inr ⟨by omega, Or.inl ⟨hT.1, ht⟩⟩
            · rw [hvt]
              have hSp : Sm n m a b s v e (v f) p := (hx p).mpr hp
              have hSq : Sm n m a b s v e (v f) q := (Sm_closed ht hT hj).mp hSp
              rcases hj with ⟨g1, g2⟩ | ⟨g1, g2⟩
              · exact ⟨by rw [g1]; exact hSp, by rw [g2]; exact hSq⟩
              · exact ⟨by rw [g1]; exact hSq, by rw [g2]; exact hSp⟩
          unfold lvc
          rw [zif_pos hr]
          omega
        · have := hvge t
          have := hT.2.2
          omega
      exact cn_trans (cn_symm (key _ ((hx _).mp z5.1))) (key _ ((hx _).mp z5.2))
    · rw [z1]
      rcases Nat.lt_or_ge (v e) (v f) with q | q
      · refine lift (cn_sub (hL.1 f hf hsf) (fun t _ z => ⟨z.1, fun z3 => ?_, z.2⟩))
        have := z.2
        rw [z3] at this
        omega
      · rcases spare_sides (e := e) hL hf hsf with w | w
        · exact lift w
        · have hcd : cand n m a b s v e (v f) f := ⟨hsf, rfl, spare_one hfo he hse w⟩
          obtain ⟨hle, h, hh, hHh⟩ := hcand (v f) f q hf hcd
          have hac := cand_across hL hh (hH h hh hHh).1
          have low : ∀ {u w}, cn m a b (Tl s v e i0) u w → cn m a b (Tl s v e (v f)) u w := fun z => cn_sub z (fun t _ z => ⟨z.1, z.2.1, by have := z.2.2; omega⟩)
          have eh : cn m a b (Tg s2 (lvc n m a b s v e i0 m cs) (v f)) (a h) (b h) := cn_edge hh ⟨(h1 h hh).mpr (Or.inr hHh), by rw [hvH h hh hHh]; exact hle⟩ (jn_ab h)
          have ee : cn m a b (Tg s2 (lvc n m a b s v e i0 m cs) (v f)) (a e) (b e) := by
            rcases hac with ⟨g1, g2⟩ | ⟨g1, g2⟩
            · exact cn_trans (cn_symm (lift (low g1))) (cn_trans eh (cn_symm (lift (low g2))))
            · exact cn_trans (lift (low g2)) (cn_trans (cn_symm eh) (lift (low g1)))
          rcases w with ⟨g1, g2⟩ | ⟨g1, g2⟩
          · exact cn_trans (lift g1) (cn_trans ee (lift g2))
          · exact cn_trans (lift g1) (cn_trans (cn_symm ee) (lift g2))
  · -- sizes
    have by_sub : (∀ y, cn m a b (Tg s2 (lvc n m a b s v e i0 m cs) i) k y → cn m a b (Tg s v i) k y) → ctp (cn m a b (Tg s2 (lvc n m a b s v e i0 m cs) i) k) n * 2 ^ i ≤ 100 := by
      intro hsub
      have hle := ctp_mono (n := n) (fun y _ => hsub y)
      have := hL.2.1 i k hk (by omega)
      exact Nat.le_trans (Nat.mul_le_mul_right _ hle) this
    rcases Nat.lt_or_ge i0 i with q | q
    · -- above the heir's level
      obtain ⟨j, rfl⟩ : ∃ j, i = j + 1 := ⟨i - 1, by omega⟩
      have cls : ∀ t, t < m → Tg s2 (lvc n m a b s v e i0 m cs) (j + 1) t → (Tl s v e j t ∧ (j + 1 ≤ v t ∨ (j ≤ v e ∧ bothS a b (Sm n m a b s v e j) t))) := by
        intro t ht hT
        rcases (h1 t ht).mp hT.1 with ⟨w1, w2⟩ | w
        · rcases lvc_or (n := n) (m := m) (a := a) (b := b) (s := s) (v := v) (e := e) i0 m cs t with ⟨z1, z2⟩ | ⟨z1, z2⟩
          · have hl := hT.2
            rw [z1] at hl
            refine ⟨⟨w1, w2, by omega⟩, ?_⟩
            by_cases q3 : j + 1 ≤ v t
            · exact Or.inl q3
            · have e3 : v t = j := by omega
              obtain ⟨-, -, z3, -, z5⟩ := z2
              rw [e3] at z3 z5
              exact Or.inr ⟨z3, z5⟩
          · have hl := hT.2
            rw [z1] at hl
            exact ⟨⟨w1, w2, by omega⟩, Or.inl hl⟩
        · have := hvH t ht w
          have hl := hT.2
          omega
      by_cases hS : j ≤ v e ∧ Sm n m a b s v e j k
      · have hin : ∀ y, cn m a b (Tg s2 (lvc n m a b s v e i0 m cs) (j + 1)) k y → Sm n m a b s v e j y := fun y hy => cn_closed (Sm n m a b s v e j) hS.2 (fun x y t ht hT hj hx => (Sm_closed ht (cls t ht hT).1 hj).mp hx) hy
        have hle := ctp_mono (n := n) (fun y _ => hin y)
        have := Sm_size hab hfo hL he hse hS.1
        exact Nat.le_trans (Nat.mul_le_mul_right _ hle) this
      · refine by_sub (fun y hy => ?_)
        have hout : ∀ y, cn m a b (Tg s2 (lvc n m a b s v e i0 m cs) (j + 1)) k y → ¬ (j ≤ v e ∧ Sm n m a b s v e j y) := fun y hy => cn_closed (fun y => ¬ (j ≤ v e ∧ Sm n m a b s v e j y)) hS (fun x y t ht hT hj hx z => hx ⟨z.1, (Sm_closed ht (cls t ht hT).1 hj).mpr z.2⟩) hy
        refine cn_ind (P := fun y => cn m a b (Tg s v (j + 1)) k y) (cn_refl k) (fun p q' hp ih hs => ?_) hy
        obtain ⟨t, ht, hT, hj⟩ := hs
        obtain ⟨c1, c2⟩ := cls t ht hT
        refine cn_step ih ⟨t, ht, ⟨c1.1, ?_⟩, hj⟩
        rcases c2 with c2 | ⟨c2, c3⟩
        · exact c2
        · exfalso
          refine hout p hp ⟨c2, ?_⟩
          rcases hj with ⟨g1, g2⟩ | ⟨g1, g2⟩
          · rw [← g1]; exact c3.1
          · rw [← g2]; exact c3.2
    · refine by_sub (fun y hy => ?_)
      refine cn_ind (P := fun y => cn m a b (Tg s v i) k y) (cn_refl k) (fun p q' hp ih hs => ?_) hy
      obtain ⟨t, ht, hT, hj⟩ := hs
      rcases (h1 t ht).mp hT.1 with ⟨w1, w2⟩ | w
      · refine cn_step ih ⟨t, ht, ⟨w1, ?_⟩, hj⟩
        exact (lvc_ge (n := n) (m := m) (a := a) (b := b) (s := s) (v := v) (e := e) (ct := m) (cs := cs) (f := t) q).mp hT.2
      · obtain ⟨⟨g1, g2, -⟩, -⟩ := hH t ht w
        have hc := hL.1 t ht g1
        rw [g2] at hc
        have hc2 : cn m a b (Tg s v i) (a t) (b t) := cn_sub hc (fun f _ z => ⟨z.1, by have := z.2; omega⟩)
        rcases hj with ⟨j1, j2⟩ | ⟨j1, j2⟩
        · rw [← j1] at ih
          rw [← j2]
          exact cn_trans ih hc2
        · rw [← j2] at ih
          rw [← j1]
          exact cn_trans ih (cn_symm hc2)
  · rcases lvc_or (n := n) (m := m) (a := a) (b := b) (s := s) (v := v) (e := e) i0 m cs f with ⟨z1, z2⟩ | ⟨z1, z2⟩
    · obtain ⟨q1, q2, q3, q4, q5⟩ := z2
      rw [z1]
      exact Sm_level hab hfo hL he hse q3 q1 q5
    · rw [z1]; exact hL.2.2 f hf
/-- no rings when the heir of a gone edge comes in -/
theorem fo_heir (hfo : fo m a b (fun f => s f = 1)) (he : e < m) (hse : s e = 1) {h : Nat} (hh : h < m) (hac : (cn m a b (fun f => s f = 1 ∧ f ≠ e) (a h) (a e) ∧ cn m a b (fun f => s f = 1 ∧ f ≠ e) (b e) (b h)) ∨ (cn m a b (fun f => s f = 1 ∧ f ≠ e) (a h) (b e) ∧ cn m a b (fun f => s f = 1 ∧ f ≠ e) (a e) (b h))) : fo m a b (fun f => (s f = 1 ∧ f ≠ e) ∨ f = h) := by
  refine fo_add hh (fo_sub hfo (fun f _ z => z.1)) (fun z => ?_)
  rcases hac with ⟨h1, h2⟩ | ⟨h1, h2⟩
  · exact hfo e he hse (cn_trans (cn_symm h1) (cn_trans z (cn_symm h2)))
  · exact hfo e he hse (cn_trans h2 (cn_trans (cn_symm z) h1))
end
