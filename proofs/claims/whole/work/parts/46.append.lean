/-! a new edge in the chains -/
/-- the graph with one more edge -/
def gA (g : zG) (a b st : Nat) : zG := (gn g, gm g + 1, un (ga g) (gm g) a, un (gb g) (gm g) b, un (gs g) (gm g) st, un (gv g) (gm g) 0)
section
variable {g : zG} {a b st : Nat} {F : Nat → Int32} {I : Nat → Nat → Int32} {J : Nat → Nat → Int64}
theorem ep_old {l : Nat} (hl : l < 2 * gm g) : ep (gA g a b st) l = ep g l := by
  unfold ep
  have : l / 2 ≠ gm g := by omega
  show (if l % 2 = 0 then un (ga g) (gm g) a (l / 2) else un (gb g) (gm g) b (l / 2)) = _
  rw [un_ne _ _ this, un_ne _ _ this]
theorem ep_new0 : ep (gA g a b st) (2 * gm g) = a := by
  unfold ep
  rw [if_pos (by omega), show 2 * gm g / 2 = gm g by omega]
  exact un_self _ _ _
theorem ep_new1 : ep (gA g a b st) (2 * gm g + 1) = b := by
  unfold ep
  rw [if_neg (by omega), show (2 * gm g + 1) / 2 = gm g by omega]
  exact un_self _ _ _
theorem nx_old {bd k : Nat} {x : Int32} (hb : bd ≤ 2 * gm g) : nx (gA g a b st) bd k x ↔ nx g bd k x := by
  unfold nx
  constructor
  · rintro (⟨z1, z2⟩ | ⟨l, z1, z2, z3, z4⟩)
    · exact Or.inl ⟨z1, fun l hl => by rw [← ep_old (a := a) (b := b) (st := st) (show l < 2 * gm g by omega)]; exact z2 l hl⟩
    · exact Or.inr ⟨l, z1, z2, by rw [← ep_old (a := a) (b := b) (st := st) (show l < 2 * gm g by omega)]; exact z3, fun l' h1 h2 => by rw [← ep_old (a := a) (b := b) (st := st) (show l' < 2 * gm g by omega)]; exact z4 l' h1 h2⟩
  · rintro (⟨z1, z2⟩ | ⟨l, z1, z2, z3, z4⟩)
    · exact Or.inl ⟨z1, fun l hl => by rw [ep_old (show l < 2 * gm g by omega)]; exact z2 l hl⟩
    · exact Or.inr ⟨l, z1, z2, by rw [ep_old (show l < 2 * gm g by omega)]; exact z3, fun l' h1 h2 => by rw [ep_old (show l' < 2 * gm g by omega)]; exact z4 l' h1 h2⟩
/-- a bound one higher: the link itself, or the one before -/
theorem nx_self {h : zG} {l : Nat} : nx h (l + 1) (ep h l) (nI l) := Or.inr ⟨l, by omega, rfl, rfl, fun l' h1 h2 => by omega⟩
theorem nx_up {h : zG} {l k : Nat} {x : Int32} (hk : ep h l ≠ k) (hx : nx h l k x) : nx h (l + 1) k x := by
  rcases hx with ⟨z1, z2⟩ | ⟨m, z1, z2, z3, z4⟩
  · refine Or.inl ⟨z1, fun l' hl => ?_⟩
    by_cases e : l' = l
    · rw [e]; exact hk
    · exact z2 l' (by omega)
  · refine Or.inr ⟨m, by omega, z2, z3, fun l' h1 h2 => ?_⟩
    by_cases e : l' = l
    · rw [e]; exact hk
    · exact z4 l' h1 (by omega)
theorem nx_down {h : zG} {l k : Nat} {x : Int32} (hk : ep h l ≠ k) (hx : nx h (l + 1) k x) : nx h l k x := by
  rcases hx with ⟨z1, z2⟩ | ⟨m, z1, z2, z3, z4⟩
  · exact Or.inl ⟨z1, fun l' hl => z2 l' (by omega)⟩
  · by_cases e : m = l
    · rw [e] at z3; exact absurd z3 hk
    · exact Or.inr ⟨m, by omega, z2, z3, fun l' h1 h2 => z4 l' h1 (by omega)⟩
/-- the chains after append -/
theorem gC_append (hab : a ≠ b) (ha : a < 100) (hb : b < 100) (hC : gC g I) {I2 : Nat → Nat → Int32} (h5 : I2 5 = upd (upd (I 5) a (nI (2 * gm g))) b (nI (2 * gm g + 1))) (h6 : I2 6 = upd (upd (I 6) (2 * gm g) (I 5 a)) (2 * gm g + 1) (I 5 b)) : gC (gA g a b st) I2 := by
  obtain ⟨c1, c2⟩ := hC
  have e0 := ep_new0 (g := g) (a := a) (b := b) (st := st)
  have e1 := ep_new1 (g := g) (a := a) (b := b) (st := st)
  have eb : 2 * gm (gA g a b st) = 2 * gm g + 1 + 1 := by show 2 * (gm g + 1) = _; omega
  refine ⟨fun k hk => ?_, fun l hl => ?_⟩
  · rw [eb, h5]
    by_cases k1 : k = b
    · subst k1
      rw [upd_self]
      have := nx_self (h := gA g a k st) (l := 2 * gm g + 1)
      rw [e1] at this
      exact this
    · rw [upd_ne _ k1]
      refine nx_up (by rw [e1]; exact fun z => k1 z.symm) ?_
      by_cases k2 : k = a
      · subst k2
        rw [upd_self]
        have := nx_self (h := gA g k b st) (l := 2 * gm g)
        rw [e0] at this
        exact this
      · rw [upd_ne _ k2]
        exact nx_up (by rw [e0]; exact fun z => k2 z.symm) ((nx_old (Nat.le_refl _)).mpr (c1 k hk))
  · rw [eb] at hl
    rw [h6]
    by_cases l1 : l = 2 * gm g + 1
    · subst l1
      rw [upd_self, e1]
      exact nx_up (by rw [e0]; exact hab) ((nx_old (Nat.le_refl _)).mpr (c1 b hb))
    · rw [upd_ne _ l1]
      by_cases l2 : l = 2 * gm g
      · subst l2
        rw [upd_self, e0]
        exact (nx_old (Nat.le_refl _)).mpr (c1 a ha)
      · rw [upd_ne _ l2, ep_old (by omega)]
        exact (nx_old (by omega)).mpr (c2 l (by omega))
end
