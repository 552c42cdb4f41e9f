/-! Edges.append -/
section
variable {g : zG} {a b st : Nat} {F : Nat → Int32} {I : Nat → Nat → Int32} {J : Nat → Nat → Int64}
theorem gW_app (hW : gW g) (hm : gm g < 300) (ha : a < gn g) (hb : b < gn g) (hab : a ≠ b) (hst : st < 3) : gW (gA g a b st) := by
  refine ⟨hW.1, hm, fun e he => ?_⟩
  have he2 : e < gm g + 1 := he
  show un (ga g) (gm g) a e < gn g ∧ un (gb g) (gm g) b e < gn g ∧ un (ga g) (gm g) a e ≠ un (gb g) (gm g) b e ∧ un (gs g) (gm g) st e < 3 ∧ un (gv g) (gm g) 0 e < 100
  by_cases e1 : e = gm g
  · rw [e1, un_self, un_self, un_self, un_self]; exact ⟨ha, hb, hab, hst, by omega⟩
  · rw [un_ne _ _ e1, un_ne _ _ e1, un_ne _ _ e1, un_ne _ _ e1]; exact hW.2.2 e (by omega)
theorem gE_app (hE : gE g I) {I2 : Nat → Nat → Int32} (h1 : I2 1 = upd (I 1) (gm g) (nI a)) (h2 : I2 2 = upd (I 2) (gm g) (nI b)) (h3 : I2 3 = upd (I 3) (gm g) (nI st)) (h4 : I2 4 = upd (I 4) (gm g) 0) : gE (gA g a b st) I2 := by
  intro e he
  have he2 : e < gm g + 1 := he
  show I2 1 e = nI (un (ga g) (gm g) a e) ∧ I2 2 e = nI (un (gb g) (gm g) b e) ∧ I2 3 e = nI (un (gs g) (gm g) st e) ∧ I2 4 e = nI (un (gv g) (gm g) 0 e)
  rw [h1, h2, h3, h4]
  by_cases e1 : e = gm g
  · rw [e1, un_self, un_self, un_self, un_self, upd_self, upd_self, upd_self, upd_self]; exact ⟨rfl, rfl, rfl, rfl⟩
  · rw [un_ne _ _ e1, un_ne _ _ e1, un_ne _ _ e1, un_ne _ _ e1, upd_ne _ e1, upd_ne _ e1, upd_ne _ e1, upd_ne _ e1]; exact hE e (by omega)
theorem c_append {P : Int32 → zM → Prop} (h : cQ g F I) (hm : gm g < 300) (ha : a < gn g) (hb : b < gn g) (hab : a ≠ b) (hst : st < 3) (w : Int64)
    (hP : ∀ I2, cQ (gA g a b st) (upd F 4 (nI (gm g + 1))) I2 → (∀ c, (c = 0 ∨ 6 < c) → I2 c = I c) → P (nI (gm g)) (upd F 4 (nI (gm g + 1)), I2, z_ul J 1 (gm g) w)) :
    AMi m_X0_append [.ref 3, .int (nI a), .int (nI b), .long w, .int (nI st)] (F, I, J) P := by
  have hn := h.1.1
  refine r_X0_append_0 _ _ _ _ F I J ?_
  have b1 : vp_in (nI (gm g)) 300 := nIn (by omega) (by omega)
  rw [h.2.2.1, zN (show gm g < 2147483648 by omega), n2, nMul, n1, nAdd]
  refine ⟨b1, b1, b1, b1, b1, r_X0_chain_0 _ _ _ _ _ ⟨nIn (by omega) (by omega), nIn (by omega) (by omega), nIn (by omega) (by omega), r_X0_chain_0 _ _ _ _ _ ⟨nIn (by omega) (by omega), nIn (by omega) (by omega), nIn (by omega) (by omega), ?_⟩⟩⟩
  rw [zN (show a < 2147483648 by omega), zN (show b < 2147483648 by omega), zN (show 2 * gm g < 2147483648 by omega), zN (show 2 * gm g + 1 < 2147483648 by omega)]
  dsimp only
  rw [h.2.2.1, nAdd]
  have two : ∀ (I1 : Nat → Nat → Int32) (c : Nat), c ≠ 5 → c ≠ 6 → z_ui (z_ui (z_ui (z_ui I1 6 (2 * gm g) (I1 5 a)) 5 a (nI (2 * gm g))) 6 (2 * gm g + 1) (z_ui (z_ui I1 6 (2 * gm g) (I1 5 a)) 5 a (nI (2 * gm g)) 5 b)) 5 b (nI (2 * gm g + 1)) c = I1 c := fun I1 c c5 c6 => by rw [ui_ne _ _ c5, ui_ne _ _ c6, ui_ne _ _ c5, ui_ne _ _ c6]
  refine hP _ ⟨gW_app h.1 hm ha hb hab hst, by rw [upd_ne _ (by decide)]; exact h.2.1, upd_self _ _ _, gE_app h.2.2.2.1 ?_ ?_ ?_ ?_, gC_append hab (by omega) (by omega) h.2.2.2.2.1 ?_ ?_, fcl_eq h.2.2.2.2.2.1 (upd_ne _ (by decide)) ?_ ?_, fcl_eq h.2.2.2.2.2.2 (upd_ne _ (by decide)) ?_ ?_⟩ (fun c hc => ?_)
  · rw [two _ 1 (by decide) (by decide), ui_ne _ _ (by decide), ui_ne _ _ (by decide), ui_ne _ _ (by decide), ui_self]
  · rw [two _ 2 (by decide) (by decide), ui_ne _ _ (by decide), ui_ne _ _ (by decide), ui_self, ui_ne _ _ (by decide)]
  · rw [two _ 3 (by decide) (by decide), ui_ne _ _ (by decide), ui_self, ui_ne _ _ (by decide), ui_ne _ _ (by decide)]
  · rw [two _ 4 (by decide) (by decide), ui_self, ui_ne _ _ (by decide), ui_ne _ _ (by decide), ui_ne _ _ (by decide)]
  · rw [ui_self, ui_ne _ _ (by decide), ui_self, ui_ne _ _ (by decide), ui_ne _ _ (by decide), ui_ne _ _ (by decide), ui_ne _ _ (by decide), ui_ne _ _ (by decide)]
  · rw [ui_ne _ _ (by decide), ui_self, ui_ne _ _ (by decide), ui_self, ui_self, ui_ne _ _ (by decide), upd_ne _ hab.symm, ui_ne _ _ (by decide), ui_ne _ _ (by decide), ui_ne _ _ (by decide), ui_ne _ _ (by decide), ui_ne _ _ (by decide), ui_ne _ _ (by decide), ui_ne _ _ (by decide), ui_ne _ _ (by decide), ui_ne _ _ (by decide), ui_ne _ _ (by decide), ui_ne _ _ (by decide), ui_ne _ _ (by decide)]
  · rw [two _ 8 (by decide) (by decide), ui_ne _ _ (by decide), ui_ne _ _ (by decide), ui_ne _ _ (by decide), ui_ne _ _ (by decide)]
  · rw [two _ 11 (by decide) (by decide), ui_ne _ _ (by decide), ui_ne _ _ (by decide), ui_ne _ _ (by decide), ui_ne _ _ (by decide)]
  · rw [two _ 12 (by decide) (by decide), ui_ne _ _ (by decide), ui_ne _ _ (by decide), ui_ne _ _ (by decide), ui_ne _ _ (by decide)]
  · rw [two _ 15 (by decide) (by decide), ui_ne _ _ (by decide), ui_ne _ _ (by decide), ui_ne _ _ (by decide), ui_ne _ _ (by decide)]
  · rw [two _ c (by omega) (by omega), ui_ne _ _ (by omega), ui_ne _ _ (by omega), ui_ne _ _ (by omega), ui_ne _ _ (by omega)]
end
