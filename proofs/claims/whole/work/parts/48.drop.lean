/-! Edges.dropLatest: the chains without the latest edge -/
section
variable {g g2 : zG} {F : Nat → Int32} {I : Nat → Nat → Int32} {J : Nat → Nat → Int64}
theorem ep_X {l : Nat} (hX : gX g g2) (hl : l < 2 * gm g) : ep g2 l = ep g l := by
  have h := hX.2.2 (l / 2) (by omega)
  unfold ep
  rw [h.1, h.2]
theorem nx_X {bd k : Nat} {x : Int32} (hX : gX g g2) (hb : bd ≤ 2 * gm g) (h : nx g2 bd k x) : nx g bd k x := by
  rcases h with ⟨z1, z2⟩ | ⟨l, z1, z2, z3, z4⟩
  · exact Or.inl ⟨z1, fun l hl => by rw [← ep_X hX (show l < 2 * gm g by omega)]; exact z2 l hl⟩
  · exact Or.inr ⟨l, z1, z2, by rw [← ep_X hX (show l < 2 * gm g by omega)]; exact z3, fun l' h1 h2 => by rw [← ep_X hX (show l' < 2 * gm g by omega)]; exact z4 l' h1 h2⟩
theorem gC_drop (hX : gX g g2) (hm : gm g2 = gm g + 1) (hW : gW g2) (hC : gC g2 I) {I2 : Nat → Nat → Int32} (h5 : I2 5 = upd (upd (I 5) (ga g2 (gm g)) (I 6 (2 * gm g))) (gb g2 (gm g)) (I 6 (2 * gm g + 1))) (h6 : I2 6 = I 6) : gC g I2 := by
  obtain ⟨c1, c2⟩ := hC
  have hw := hW.2.2 (gm g) (by omega)
  have e0 : ep g2 (2 * gm g) = ga g2 (gm g) := by
    unfold ep
    rw [if_pos (by omega), show 2 * gm g / 2 = gm g by omega]
  have e1 : ep g2 (2 * gm g + 1) = gb g2 (gm g) := by
    unfold ep
    rw [if_neg (by omega), show (2 * gm g + 1) / 2 = gm g by omega]
  refine ⟨fun k hk => ?_, fun l hl => ?_⟩
  · rw [h5]
    by_cases k1 : k = gb g2 (gm g)
    · subst k1
      rw [upd_self]
      have := c2 (2 * gm g + 1) (by omega)
      rw [e1] at this
      exact nx_X hX (Nat.le_refl _) (nx_down (by rw [e0]; exact hw.2.2.1) this)
    · rw [upd_ne _ k1]
      by_cases k2 : k = ga g2 (gm g)
      · subst k2
        rw [upd_self]
        have := c2 (2 * gm g) (by omega)
        rw [e0] at this
        exact nx_X hX (Nat.le_refl _) this
      · rw [upd_ne _ k2]
        have := c1 k hk
        rw [hm, show 2 * (gm g + 1) = 2 * gm g + 1 + 1 by omega] at this
        exact nx_X hX (Nat.le_refl _) (nx_down (by rw [e0]; exact fun z => k2 z.symm) (nx_down (by rw [e1]; exact fun z => k1 z.symm) this))
  · rw [h6]
    have := c2 l (by omega)
    rw [ep_X hX hl] at this
    exact nx_X hX (by omega) this
end
