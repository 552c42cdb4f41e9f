/-! trays: put of the reference -/
/-- what put leaves alone in the reference's rows -/
def frT (s : Nat) (I I2 : Nat → Nat → Int32) : Prop := (∀ c, c ≠ 18 → c ≠ 19 → I2 c = I c) ∧ (∀ r, r ≠ s → I2 18 r = I 18 r) ∧ ∀ q, (q < 100 * s ∨ 100 * s + 100 ≤ q) → I2 19 q = I 19 q
section
variable {F : Nat → Int32} {I : Nat → Nat → Int32} {J : Nat → Nat → Int64}
theorem frT_refl {s : Nat} : frT s I I := ⟨fun _ _ _ => rfl, fun _ _ => rfl, fun _ _ => rfl⟩
theorem frT_up {s : Nat} {I2 : Nat → Nat → Int32} (h : frT s I I2) {j : Nat} (hj : j < 100) (x y : Int32) : frT s I (z_ui (z_ui I2 18 s x) 19 (100 * s + j) y) := by
  refine ⟨fun c c1 c2 => by rw [ui_ne _ _ c2, ui_ne _ _ c1]; exact h.1 c c1 c2, fun r hr => ?_, fun q hq => ?_⟩
  · rw [ui_ne _ _ (by decide), ui_self, upd_ne _ hr]; exact h.2.1 r hr
  · rw [ui_self, upd_ne _ (by omega), ui_ne _ _ (by decide)]; exact h.2.2 q hq
theorem m_put_end {P : Int32 → zM → Prop} {x1 x2 x5 x6 : Int32} (hx : ¬ x2 = 3) (hP : P 1 (upd F 7 0, I, J)) : AW m_X7_put (z_pi P) 238 [some (.ref 0), some (.int x1), some (.int x2), none, none, some (.int x5), some (.int x6)] [] (F, I, J) :=
  r_X7_put_238 _ _ _ _ F I J ⟨fun _ => r_X7_done_0 _ F I J hP, fun _ => ⟨fun _ => r_X7_done_0 _ F I J hP, fun z => absurd z hx⟩⟩
theorem m_put_skip {P : Int32 → zM → Prop} {x1 x2 x5 : Int32} (h2 : ¬ x2 = 2) (h4 : ¬ x2 = 4) (hP : AW m_X7_put (z_pi P) 238 [some (.ref 0), some (.int x1), some (.int x2), none, none, some (.int x5), some (.int 1)] [] (F, I, J)) {x6 : Int32} : AW m_X7_put (z_pi P) 137 [some (.ref 0), some (.int x1), some (.int x2), none, none, some (.int x5), some (.int x6)] [] (F, I, J) :=
  r_X7_put_137 _ _ _ _ F I J ⟨fun _ => hP, fun _ => ⟨fun z => absurd z h2, fun _ => ⟨fun _ => hP, fun z => absurd z h4⟩⟩⟩
theorem m_putKnots_loop {P : Int32 → zM → Prop} {s n : Nat} {p : Nat → Prop} (hs : s < 6) (hn : n ≤ 100) (h0 : F 0 = nI n) (hp : ∀ k, k < n → (p k → I 11 k = 1) ∧ (¬ p k → I 11 k = 0))
    (hP : ∀ I2, frT s I I2 → I2 18 s = nI (ctp p n) → (∀ k, k < n → p k → I2 19 (100 * s + ctp p k) = nI k) → P 1 (upd F 7 0, I2, J)) :
    ∀ d i I2, i + d = n → frT s I I2 → I2 18 s = nI (ctp p i) → (∀ k, k < i → p k → I2 19 (100 * s + ctp p k) = nI k) → AW m_X7_put (z_pi P) 137 [some (.ref 0), some (.int (nI s)), some (.int 2), none, none, some (.int (nI (100 * s))), some (.int (nI i))] [] (F, I2, J) := by
  intro d
  induction d with
  | zero =>
    intro i I2 hd g1 g2 g3
    have e : i = n := by omega
    subst e
    refine r_X7_put_137 _ _ _ _ F I2 J ?_
    rw [h0, nLe (by omega) (by omega)]
    exact ⟨fun _ => m_put_end (by decide) (hP I2 g1 g2 g3), fun z => absurd (Nat.le_refl _) z⟩
  | succ d ih =>
    intro i I2 hd g1 g2 g3
    have hle := ctp_le p i
    have e : ctp p (i + 1) = ctp p i + zif (p i) 1 0 := rfl
    refine r_X7_put_137 _ _ _ _ F I2 J ?_
    rw [h0, nLe (by omega) (by omega)]
    refine ⟨fun z => absurd z (by omega), fun _ => ⟨fun _ => r_X7_put_156 _ _ _ _ F I2 J ?_, fun z => absurd rfl z⟩⟩
    rw [zN (show i < 2147483648 by omega), zN (show s < 2147483648 by omega), g2, nAdd, zN (show 100 * s + ctp p i < 2147483648 by omega), nI_1 i, nI_1, g1.1 11 (by decide) (by decide)]
    refine ⟨fun _ => ⟨nIn (by omega) (by omega), fun z => ?_, fun z => ⟨nIn (by omega) (by omega), nIn (by omega) (by omega), nIn (by omega) (by omega), ?_⟩⟩, fun z => absurd z (by decide)⟩
    · have hp2 : ¬ p i := fun w => by rw [(hp i (by omega)).1 w] at z; exact absurd z (by decide)
      rw [zif_neg hp2] at e
      refine ih (i + 1) I2 (by omega) g1 (by rw [e]; exact g2) (fun k hk hpk => g3 k ?_ hpk)
      by_cases e2 : k = i
      · subst e2; exact absurd hpk hp2
      · omega
    · have hp2 : p i := Classical.byContradiction fun w => z ((hp i (by omega)).2 w)
      rw [zif_pos hp2] at e
      refine ih (i + 1) _ (by omega) (frT_up g1 (by omega) _ _) (by rw [ui_ne _ _ (by decide), ui_self, upd_self, e]) (fun k hk hpk => ?_)
      rw [ui_self]
      by_cases e2 : k = i
      · rw [e2, upd_self]
      · have := ctp_lt hpk (n := i) (by omega)
        rw [upd_ne _ (by omega), ui_ne _ _ (by decide)]
        exact g3 k (by omega) hpk
theorem m_putTruths_loop {P : Int32 → zM → Prop} {s n : Nat} {p : Nat → Prop} (hs : s < 6) (hn : n ≤ 100) (h0 : F 0 = nI n) (hp : ∀ k, k < n → (p k → I 11 k = 1) ∧ (¬ p k → I 11 k = 0))
    (hP : ∀ I2, frT s I I2 → I2 18 s = nI n → (∀ k, k < n → I2 19 (100 * s + k) = zif (p k) 1 0) → P 1 (upd F 7 0, I2, J)) :
    ∀ d i I2, i + d = n → frT s I I2 → I2 18 s = nI i → (∀ k, k < i → I2 19 (100 * s + k) = zif (p k) 1 0) → AW m_X7_put (z_pi P) 137 [some (.ref 0), some (.int (nI s)), some (.int 4), none, none, some (.int (nI (100 * s))), some (.int (nI i))] [] (F, I2, J) := by
  intro d
  induction d with
  | zero =>
    intro i I2 hd g1 g2 g3
    have e : i = n := by omega
    subst e
    refine r_X7_put_137 _ _ _ _ F I2 J ?_
    rw [h0, nLe (by omega) (by omega)]
    exact ⟨fun _ => m_put_end (by decide) (hP I2 g1 g2 g3), fun z => absurd (Nat.le_refl _) z⟩
  | succ d ih =>
    intro i I2 hd g1 g2 g3
    refine r_X7_put_137 _ _ _ _ F I2 J ?_
    rw [h0, nLe (by omega) (by omega)]
    refine ⟨fun z => absurd z (by omega), fun _ => ⟨fun z => absurd z (by decide), fun _ => ⟨fun z => absurd rfl z, fun _ => r_X7_put_156 _ _ _ _ F I2 J ?_⟩⟩⟩
    rw [zN (show i < 2147483648 by omega), zN (show s < 2147483648 by omega), g2, nAdd, zN (show 100 * s + i < 2147483648 by omega), nI_1 i, g1.1 11 (by decide) (by decide)]
    have go : ∀ x : Int32, x = zif (p i) 1 0 → AW m_X7_put (z_pi P) 137 [some (.ref 0), some (.int (nI s)), some (.int 4), none, none, some (.int (nI (100 * s))), some (.int (nI (i + 1)))] [] (F, z_ui (z_ui I2 18 s (nI (i + 1))) 19 (100 * s + i) x, J) := by
      intro x hx
      refine ih (i + 1) _ (by omega) (frT_up g1 (by omega) _ _) (by rw [ui_ne _ _ (by decide), ui_self, upd_self]) (fun k hk => ?_)
      rw [ui_self]
      by_cases e2 : k = i
      · rw [e2, upd_self]; exact hx
      · rw [upd_ne _ (by omega), ui_ne _ _ (by decide)]
        exact g3 k (by omega)
    refine ⟨fun z => absurd rfl z, fun _ => ⟨nIn (by omega) (by omega), nIn (by omega) (by omega), nIn (by omega) (by omega), fun z => ⟨nIn (by omega) (by omega), go 0 ?_⟩, fun z => ⟨nIn (by omega) (by omega), go 1 ?_⟩⟩⟩
    · have hp2 : ¬ p i := fun w => by rw [(hp i (by omega)).1 w] at z; exact absurd z (by decide)
      rw [zif_neg hp2]
    · have hp2 : p i := Classical.byContradiction fun w => z ((hp i (by omega)).2 w)
      rw [zif_pos hp2]
theorem m_putWeights_loop {P : Int32 → zM → Prop} {s l : Nat} {S : Nat → Nat} (hs : s < 6) (hl : l < 100) (h6 : F 6 = nI (l + 1)) (hS : ∀ i, i < l → I 16 (i + 1) = nI (S i) ∧ S i < 300)
    (hP : ∀ I2 J2, (∀ c, c ≠ 18 → I2 c = I c) → (∀ r, r ≠ s → I2 18 r = I 18 r) → (∀ c, c ≠ 3 → J2 c = J c) → (∀ q, (q < 100 * s ∨ 100 * s + 100 ≤ q) → J2 3 q = J 3 q) → I2 18 s = nI l → (∀ i, i < l → J2 3 (100 * s + i) = J 1 (S i)) → P 1 (upd F 7 0, I2, J2)) :
    ∀ d i I2 J2, i + d = l → (∀ c, c ≠ 18 → I2 c = I c) → (∀ r, r ≠ s → I2 18 r = I 18 r) → (∀ c, c ≠ 3 → J2 c = J c) → (∀ q, (q < 100 * s ∨ 100 * s + 100 ≤ q) → J2 3 q = J 3 q) → I2 18 s = nI i → (∀ k, k < i → J2 3 (100 * s + k) = J 1 (S k)) → AW m_X7_put (z_pi P) 238 [some (.ref 0), some (.int (nI s)), some (.int 3), none, none, some (.int (nI (100 * s))), some (.int (nI (i + 1)))] [] (F, I2, J2) := by
  intro d
  induction d with
  | zero =>
    intro i I2 J2 hd g1 g2 g3 g4 g5 g6
    have e : i = l := by omega
    subst e
    refine r_X7_put_238 _ _ _ _ F I2 J2 ?_
    rw [h6, nLe (by omega) (by omega)]
    exact ⟨fun _ => r_X7_done_0 _ F I2 J2 (hP I2 J2 g1 g2 g3 g4 g5 g6), fun z => absurd (Nat.le_refl _) z⟩
  | succ d ih =>
    intro i I2 J2 hd g1 g2 g3 g4 g5 g6
    have hk := hS i (by omega)
    refine r_X7_put_238 _ _ _ _ F I2 J2 ?_
    rw [h6, nLe (by omega) (by omega), zN (show s < 2147483648 by omega), zN (show i + 1 < 2147483648 by omega), g5, g1 16 (by decide), hk.1, zN (show S i < 2147483648 by omega), nAdd, zN (show 100 * s + i < 2147483648 by omega), nI_1 (i + 1), nI_1 i]
    refine ⟨fun z => absurd z (by omega), fun _ => ⟨fun z => absurd rfl z, fun _ => ⟨nIn (by omega) (by omega), nIn (by omega) (by omega), nIn (by omega) (by omega), nIn (by omega) (by omega), nIn (by omega) (by omega), ?_⟩⟩⟩
    refine ih (i + 1) _ _ (by omega) (fun c hc => by rw [ui_ne _ _ hc]; exact g1 c hc) (fun r hr => by rw [ui_self, upd_ne _ hr]; exact g2 r hr) (fun c hc => by rw [ul_ne _ _ hc]; exact g3 c hc) (fun q hq => by rw [ul_self, updL_ne _ (by omega)]; exact g4 q hq) (by rw [ui_self, upd_self]) (fun k hk2 => ?_)
    rw [ul_self]
    by_cases e2 : k = i
    · rw [e2, updL_self, g3 1 (by decide)]
    · rw [updL_ne _ (by omega)]; exact g6 k (by omega)
end
