/-! THE GRAPH that both hold: knots, edges that came, first and second knots, how, level -/
abbrev zG : Type := Nat × Nat × (Nat → Nat) × (Nat → Nat) × (Nat → Nat) × (Nat → Nat)
def gn (g : zG) : Nat := g.1
def gm (g : zG) : Nat := g.2.1
def ga (g : zG) : Nat → Nat := g.2.2.1
def gb (g : zG) : Nat → Nat := g.2.2.2.1
def gs (g : zG) : Nat → Nat := g.2.2.2.2.1
def gv (g : zG) : Nat → Nat := g.2.2.2.2.2
def gW (g : zG) : Prop := gn g ≤ 100 ∧ gm g ≤ 300 ∧ ∀ e, e < gm g → ga g e < gn g ∧ gb g e < gn g ∧ ga g e ≠ gb g e ∧ gs g e < 3 ∧ gv g e < 100
def gE (g : zG) (I : Nat → Nat → Int32) : Prop := ∀ e, e < gm g → I 1 e = nI (ga g e) ∧ I 2 e = nI (gb g e) ∧ I 3 e = nI (gs g e) ∧ I 4 e = nI (gv g e)
/-- the knot of a link -/
def ep (g : zG) (l : Nat) : Nat := if l % 2 = 0 then ga g (l / 2) else gb g (l / 2)
/-- x is the last link of knot k below bd -/
def nx (g : zG) (bd k : Nat) (x : Int32) : Prop := (x = -1 ∧ ∀ l, l < bd → ep g l ≠ k) ∨ ∃ l, l < bd ∧ x = nI l ∧ ep g l = k ∧ ∀ l', l < l' → l' < bd → ep g l' ≠ k
def gC (g : zG) (I : Nat → Nat → Int32) : Prop := (∀ k, k < 100 → nx g (2 * gm g) k (I 5 k)) ∧ ∀ l, l < 2 * gm g → nx g l (ep g l) (I 6 l)
/-- the class's memory holds the graph -/
def cR (g : zG) (C : zM) : Prop := gW g ∧ C.1 0 = nI (gn g) ∧ C.1 4 = nI (gm g) ∧ gE g C.2.1 ∧ gC g C.2.1
section
variable {g : zG} {F : Nat → Int32} {I : Nat → Nat → Int32} {J : Nat → Nat → Int64}
theorem c_across {P : Int32 → zM → Prop} {e k : Nat} (hW : gW g) (hE : gE g I) (he : e < gm g) (hk : k < 2147483648) (h : P (nI (ot (ga g) (gb g) e k)) (F, I, J)) : AMi m_X0_across [.ref 3, .int (nI e), .int (nI k)] (F, I, J) P := by
  obtain ⟨h1, h2, -⟩ := hE e he
  obtain ⟨w1, w2, w3⟩ := hW
  have we := w3 e he
  have b1 : vp_in (nI e) 300 := nIn (by omega) (by omega)
  refine r_X0_across_0 _ _ F I J ?_
  rw [zN (by omega), h1, h2, nEq (by omega) hk]
  unfold ot at h
  refine ⟨b1, fun q => ⟨b1, ?_⟩, fun q => ⟨b1, ?_⟩⟩
  · rw [if_neg q] at h; exact h
  · rw [if_pos q] at h; exact h
theorem c_hasCome {P : Int32 → zM → Prop} {x : Int32} {m : Nat} (hm : m ≤ 300) (hF : F 4 = nI m) (h1 : ∀ e, e < m → x = nI e → P 1 (F, I, J)) (h0 : (∀ e, e < m → x ≠ nI e) → P 0 (F, I, J)) : AMi m_X0_hasCome [.ref 3, .int x] (F, I, J) P := by
  refine r_X0_hasCome_0 _ F I J ?_
  rw [hF]
  refine ⟨fun q => h0 fun e he z => ?_, fun q => ⟨fun q2 => h0 fun e he z => ?_, fun q2 => ?_⟩⟩
  · rw [z, nNeg (by omega)] at q; exact q
  · rw [z, nLe (by omega) (by omega)] at q2; omega
  · rcases pk_ix x (n := m) (by omega) with z | z | ⟨j, hj, z⟩
    · exact absurd z q
    · exact absurd z q2
    · exact h1 j hj z
theorem c_isThere {P : Int32 → zM → Prop} {x : Int32} (hW : gW g) (hE : gE g I) (hF : F 4 = nI (gm g)) (h1 : ∀ e, e < gm g → x = nI e → gs g e ≠ 0 → P 1 (F, I, J)) (h0 : (∀ e, e < gm g → x = nI e → gs g e = 0) → P 0 (F, I, J)) : AMi m_X0_isThere [.ref 3, .int x] (F, I, J) P := by
  refine r_X0_isThere_0 _ F I J ?_
  refine c_hasCome hW.2.1 hF (fun e he z => ?_) (fun z => ?_)
  · refine ⟨fun q => absurd q (by decide), fun _ => ?_⟩
    have hm := hW.2.1
    have := hW.2.2 e he
    refine ⟨by rw [z]; exact nIn (by omega) (by omega), ?_⟩
    dsimp only
    rw [z, zN (by omega), (hE e he).2.2.1, n0, nEq (by omega) (by omega)]
    refine ⟨fun q => h0 fun e' he' z' => ?_, fun q => h1 e he z q⟩
    rw [z, nEq (by omega) (by omega)] at z'
    rw [← z']; exact q
  · exact ⟨fun _ => h0 fun e he z' => absurd z' (z e he), fun q => absurd rfl q⟩
theorem c_isAt {P : Int32 → zM → Prop} {e : Nat} {x y : Nat} (hW : gW g) (hE : gE g I) (he : e < gm g) (hx : x < 2147483648) (hy : y < 2147483648) (h1 : gs g e = x → gv g e = y → P 1 (F, I, J)) (h0 : ¬ (gs g e = x ∧ gv g e = y) → P 0 (F, I, J)) : AMi m_X0_isAt [.ref 3, .int (nI e), .int (nI x), .int (nI y)] (F, I, J) P := by
  have hm := hW.2.1
  have := hW.2.2 e he
  refine r_X0_isAt_0 _ _ _ F I J ?_
  have b1 : vp_in (nI e) 300 := nIn (by omega) (by omega)
  rw [zN (by omega), (hE e he).2.2.1, (hE e he).2.2.2, nEq (by omega) hx, nEq (by omega) hy]
  exact ⟨b1, fun q => h0 fun z => q z.1, fun q => ⟨b1, fun q2 => h0 fun z => q2 z.2, fun q2 => h1 q q2⟩⟩
/-- heavier -/
def hv (w : Nat → Int64) (e f : Nat) : Prop := w f < w e ∨ (w e = w f ∧ f < e)
theorem lcmp_eq (x y : Int64) : (lg_cmp x y = 0) = (x = y) := by
  unfold lg_cmp
  apply propext
  by_cases h1 : x > y
  · rw [if_pos h1]
    exact ⟨fun e => absurd e (by decide), fun e => by subst e; exact absurd h1 Int64.lt_irrefl⟩
  · rw [if_neg h1]
    by_cases h2 : x = y
    · rw [if_pos h2]
      exact ⟨fun _ => h2, fun _ => rfl⟩
    · rw [if_neg h2]
      exact ⟨fun e => absurd e (by decide), fun e => absurd e h2⟩
theorem lcmp_le (x y : Int64) : (lg_cmp x y ≤ 0) = ¬ (y < x) := by
  unfold lg_cmp
  apply propext
  by_cases h1 : x > y
  · rw [if_pos h1]
    exact ⟨fun e => absurd e (by decide), fun e => absurd h1 e⟩
  · rw [if_neg h1]
    refine ⟨fun _ => h1, fun _ => ?_⟩
    by_cases h2 : x = y
    · rw [if_pos h2]; decide
    · rw [if_neg h2]; decide
theorem c_isHeavier {P : Int32 → zM → Prop} {e f : Nat} (he : e < 300) (hf : f < 300) (h1 : hv (J 1) e f → P 1 (F, I, J)) (h0 : ¬ hv (J 1) e f → P 0 (F, I, J)) : AMi m_X0_isHeavier [.ref 3, .int (nI e), .int (nI f)] (F, I, J) P := by
  refine r_X0_isHeavier_0 _ _ F I J ?_
  have b1 : vp_in (nI e) 300 := nIn (by omega) (by omega)
  have b2 : vp_in (nI f) 300 := nIn (by omega) (by omega)
  rw [zN (by omega), zN (by omega), lcmp_eq, lcmp_le, nLe (by omega) (by omega)]
  refine ⟨b1, b2, fun q => ⟨fun q2 => h0 ?_, fun q2 => h1 (Or.inr ⟨q, by omega⟩)⟩, fun q => ⟨b1, b2, fun q2 => h0 ?_, fun q2 => h1 (Or.inl (Classical.not_not.mp q2))⟩⟩
  · rintro (z | ⟨-, z⟩)
    · rw [q] at z; exact Int64.lt_irrefl z
    · omega
  · rintro (z | ⟨z, -⟩)
    · exact q2 z
    · exact q z
theorem c_chain {P : zM → Prop} {l k : Nat} (hl : l < 600) (hk : k < 100) (h : P (F, z_ui (z_ui I 6 l (I 5 k)) 5 k (nI l), J)) : AMv m_X0_chain [.ref 3, .int (nI l), .int (nI k)] (F, I, J) P := by
  refine r_X0_chain_0 _ _ F I J ?_
  rw [zN (by omega), zN (by omega)]
  exact ⟨nIn hk (by omega), nIn hl (by omega), nIn hk (by omega), h⟩
end
