/-! rows copied -/
def cpf {α : Type} (dst src : Nat → α) (off cnt : Nat) : Nat → α := fun p => if off ≤ p ∧ p < off + cnt then src (p - off) else dst p
theorem cpf_0 {α : Type} (dst src : Nat → α) (off : Nat) : cpf dst src off 0 = dst := by
  funext p
  unfold cpf
  rw [if_neg (by omega)]
theorem cpf_in {α : Type} {dst src : Nat → α} {off cnt k : Nat} (h : k < cnt) : cpf dst src off cnt (off + k) = src k := by
  unfold cpf
  rw [if_pos (by omega), show off + k - off = k by omega]
theorem cpf_out {α : Type} {dst src : Nat → α} {off cnt p : Nat} (h : p < off ∨ off + cnt ≤ p) : cpf dst src off cnt p = dst p := by
  unfold cpf
  rw [if_neg (by omega)]
theorem cpf_S (dst src : Nat → Int32) (off i : Nat) : upd (cpf dst src off i) (off + i) (src i) = cpf dst src off (i + 1) := by
  funext p
  by_cases h : p = off + i
  · rw [h, upd_self, cpf_in (by omega)]
  · rw [upd_ne _ h]
    unfold cpf
    by_cases h2 : off ≤ p ∧ p < off + i
    · rw [if_pos h2, if_pos (by omega)]
    · rw [if_neg h2, if_neg (by omega)]
theorem cpf_SL (dst src : Nat → Int64) (off i : Nat) : vp_updL (cpf dst src off i) (off + i) (src i) = cpf dst src off (i + 1) := by
  funext p
  by_cases h : p = off + i
  · rw [h, updL_self, cpf_in (by omega)]
  · rw [updL_ne _ h]
    unfold cpf
    by_cases h2 : off ≤ p ∧ p < off + i
    · rw [if_pos h2, if_pos (by omega)]
    · rw [if_neg h2, if_neg (by omega)]
theorem n100m {x k : Nat} : 100 * nI x + nI k = nI (100 * x + k) := by
  rw [show (100 : Int32) = nI 100 from rfl, nMul, nAdd]
theorem n300m {x k : Nat} : 300 * nI x + nI k = nI (300 * x + k) := by
  rw [show (300 : Int32) = nI 300 from rfl, nMul, nAdd]
section
variable {F : Nat → Int32} {I : Nat → Nat → Int32} {J : Nat → Nat → Int64}
/-- the reference keeps its state as snapshot t -/
theorem m_keep {P : zM → Prop} {n m t : Nat} (hn : n ≤ 100) (hm : m ≤ 300) (ht : t ≤ 20) (h0 : F 0 = nI n) (h1 : F 1 = nI m)
    (hP : ∀ I2 J2, (∀ c, (c < 5 ∨ 10 < c) → I2 c = I c) → (∀ c, c ≠ 2 → J2 c = J c) → I2 5 = cpf (I 5) (I 0) (100 * t) n → J2 2 = cpf (J 2) (J 0) (100 * t) n → I2 6 = cpf (I 6) (I 3) (300 * t) m → I2 7 = cpf (I 7) (I 4) (300 * t) m → I2 8 = upd (I 8) t (F 1) → I2 9 = upd (I 9) t (F 3) → I2 10 = upd (I 10) t (F 4) → P (F, I2, J2)) :
    AMv m_X7_keep [.ref 0, .int (nI t)] (F, I, J) P := by
  refine r_X7_keep_0 _ F I J ?_
  have lp2 : ∀ d i I2 J2, i + d = m → (∀ c, (c < 5 ∨ 7 < c) → I2 c = I c) → (∀ c, c ≠ 2 → J2 c = J c) → I2 5 = cpf (I 5) (I 0) (100 * t) n → J2 2 = cpf (J 2) (J 0) (100 * t) n → I2 6 = cpf (I 6) (I 3) (300 * t) i → I2 7 = cpf (I 7) (I 4) (300 * t) i → AW m_X7_keep (z_pv P) 52 [some (.ref 0), some (.int (nI t)), some (.int (nI i))] [] (F, I2, J2) := by
    intro d
    induction d with
    | zero =>
      intro i I2 J2 hd g1 g2 g3 g4 g5 g6
      have e : i = m := by omega
      subst e
      refine r_X7_keep_52 _ _ F I2 J2 ?_
      have b1 : vp_in (nI t) 21 := nIn (by omega) (by omega)
      rw [h1, nLe (by omega) (by omega), zN (by omega)]
      refine ⟨fun _ => ⟨b1, b1, b1, ?_⟩, fun z => absurd (Nat.le_refl _) z⟩
      refine hP _ J2 (fun c hc => by rw [ui_ne _ _ (by omega), ui_ne _ _ (by omega), ui_ne _ _ (by omega)]; exact g1 c (by omega)) g2 ?_ g4 ?_ ?_ ?_ ?_ ?_
      · rw [ui_ne _ _ (by decide), ui_ne _ _ (by decide), ui_ne _ _ (by decide)]; exact g3
      · rw [ui_ne _ _ (by decide), ui_ne _ _ (by decide), ui_ne _ _ (by decide)]; exact g5
      · rw [ui_ne _ _ (by decide), ui_ne _ _ (by decide), ui_ne _ _ (by decide)]; exact g6
      · rw [ui_ne _ _ (by decide), ui_ne _ _ (by decide), ui_self, g1 8 (by omega), h1]
      · rw [ui_ne _ _ (by decide), ui_self, ui_ne _ _ (by decide), g1 9 (by omega)]
      · rw [ui_self, ui_ne _ _ (by decide), ui_ne _ _ (by decide), g1 10 (by omega)]
    | succ d ih =>
      intro i I2 J2 hd g1 g2 g3 g4 g5 g6
      refine r_X7_keep_52 _ _ F I2 J2 ?_
      have b1 : vp_in (nI i) 300 := nIn (by omega) (by omega)
      have b2 : vp_in (nI (300 * t + i)) 6300 := nIn (by omega) (by omega)
      rw [h1, nLe (by omega) (by omega), n300m, zN (show i < 2147483648 by omega), zN (show 300 * t + i < 2147483648 by omega), nI_1 i]
      refine ⟨fun z => absurd z (by omega), fun _ => ⟨b1, b2, b1, b2, ?_⟩⟩
      refine ih (i + 1) _ _ (by omega) (fun c hc => by rw [ui_ne _ _ (by omega), ui_ne _ _ (by omega)]; exact g1 c hc) g2 ?_ g4 ?_ ?_
      · rw [ui_ne _ _ (by decide), ui_ne _ _ (by decide)]; exact g3
      · rw [ui_ne _ _ (by decide), ui_self, g5, g1 3 (by omega)]; exact cpf_S _ _ _ _
      · rw [ui_self, ui_ne _ _ (by decide), g6, g1 4 (by omega)]; exact cpf_S _ _ _ _
  have lp1 : ∀ d i I2 J2, i + d = n → (∀ c, c ≠ 5 → I2 c = I c) → (∀ c, c ≠ 2 → J2 c = J c) → I2 5 = cpf (I 5) (I 0) (100 * t) i → J2 2 = cpf (J 2) (J 0) (100 * t) i → AW m_X7_keep (z_pv P) 2 [some (.ref 0), some (.int (nI t)), some (.int (nI i))] [] (F, I2, J2) := by
    intro d
    induction d with
    | zero =>
      intro i I2 J2 hd g1 g2 g3 g4
      have e : i = n := by omega
      subst e
      refine r_X7_keep_2 _ _ F I2 J2 ?_
      rw [h0, nLe (by omega) (by omega)]
      refine ⟨fun _ => lp2 m 0 I2 J2 (by omega) (fun c hc => g1 c (by omega)) g2 g3 g4 ?_ ?_, fun z => absurd (Nat.le_refl _) z⟩
      · rw [cpf_0, g1 6 (by decide)]
      · rw [cpf_0, g1 7 (by decide)]
    | succ d ih =>
      intro i I2 J2 hd g1 g2 g3 g4
      refine r_X7_keep_2 _ _ F I2 J2 ?_
      have b1 : vp_in (nI i) 100 := nIn (by omega) (by omega)
      have b2 : vp_in (nI (100 * t + i)) 2100 := nIn (by omega) (by omega)
      rw [h0, nLe (by omega) (by omega), n100m, zN (show i < 2147483648 by omega), zN (show 100 * t + i < 2147483648 by omega), nI_1 i]
      refine ⟨fun z => absurd z (by omega), fun _ => ⟨b1, b2, b1, b2, ?_⟩⟩
      refine ih (i + 1) _ _ (by omega) (fun c hc => by rw [ui_ne _ _ hc]; exact g1 c hc) (fun c hc => by rw [ul_ne _ _ hc]; exact g2 c hc) ?_ ?_
      · rw [ui_self, g3, g1 0 (by decide)]; exact cpf_S _ _ _ _
      · rw [ul_self, g4, g2 0 (by decide)]; exact cpf_SL _ _ _ _
  exact lp1 n 0 I J (by omega) (fun _ _ => rfl) (fun _ _ => rfl) (by rw [cpf_0]) (by rw [cpf_0])
/-- the reference takes snapshot t back -/
theorem m_back {P : zM → Prop} {n m t : Nat} (hn : n ≤ 100) (hm : m ≤ 300) (ht : t ≤ 20) (h0 : F 0 = nI n) (h1 : I 8 t = nI m)
    (hP : ∀ I2 J2, (∀ c, c ≠ 0 → c ≠ 3 → c ≠ 4 → I2 c = I c) → (∀ c, c ≠ 0 → J2 c = J c) → (∀ k, k < n → I2 0 k = I 5 (100 * t + k) ∧ J2 0 k = J 2 (100 * t + k)) → (∀ e, e < m → I2 3 e = I 6 (300 * t + e) ∧ I2 4 e = I 7 (300 * t + e)) → P (upd (upd (upd F 1 (nI m)) 3 (I 9 t)) 4 (I 10 t), I2, J2)) :
    AMv m_X7_back [.ref 0, .int (nI t)] (F, I, J) P := by
  refine r_X7_back_0 _ F I J ?_
  have b0 : vp_in (nI t) 21 := nIn (by omega) (by omega)
  have lp2 : ∀ d i I2 J2, i + d = m → (∀ c, c ≠ 0 → c ≠ 3 → c ≠ 4 → I2 c = I c) → (∀ c, c ≠ 0 → J2 c = J c) → (∀ k, k < n → I2 0 k = I 5 (100 * t + k) ∧ J2 0 k = J 2 (100 * t + k)) → (∀ e, e < i → I2 3 e = I 6 (300 * t + e) ∧ I2 4 e = I 7 (300 * t + e)) → AW m_X7_back (z_pv P) 62 [some (.ref 0), some (.int (nI t)), some (.int (nI i))] [] (upd F 1 (nI m), I2, J2) := by
    intro d
    induction d with
    | zero =>
      intro i I2 J2 hd g1 g2 g3 g4
      have e : i = m := by omega
      subst e
      refine r_X7_back_62 _ _ _ I2 J2 ?_
      rw [upd_self, nLe (by omega) (by omega), zN (by omega), g1 9 (by decide) (by decide) (by decide), g1 10 (by decide) (by decide) (by decide)]
      exact ⟨fun _ => ⟨b0, b0, hP I2 J2 g1 g2 g3 g4⟩, fun z => absurd (Nat.le_refl _) z⟩
    | succ d ih =>
      intro i I2 J2 hd g1 g2 g3 g4
      refine r_X7_back_62 _ _ _ I2 J2 ?_
      have b1 : vp_in (nI i) 300 := nIn (by omega) (by omega)
      have b2 : vp_in (nI (300 * t + i)) 6300 := nIn (by omega) (by omega)
      rw [upd_self, nLe (by omega) (by omega), n300m, zN (show i < 2147483648 by omega), zN (show 300 * t + i < 2147483648 by omega), nI_1 i]
      refine ⟨fun z => absurd z (by omega), fun _ => ⟨b2, b1, b2, b1, ?_⟩⟩
      refine ih (i + 1) _ _ (by omega) (fun c q1 q2 q3 => by rw [ui_ne _ _ q3, ui_ne _ _ q2]; exact g1 c q1 q2 q3) g2 (fun k hk => by rw [ui_ne _ _ (by decide), ui_ne _ _ (by decide)]; exact g3 k hk) (fun e he => ?_)
      rw [ui_ne _ _ (show 3 ≠ 4 by decide), ui_self, ui_self, ui_ne _ _ (show 4 ≠ 3 by decide)]
      by_cases q : e = i
      · rw [q, upd_self, upd_self, g1 6 (by decide) (by decide) (by decide), g1 7 (by decide) (by decide) (by decide)]
        exact ⟨rfl, rfl⟩
      · rw [upd_ne _ q, upd_ne _ q]; exact g4 e (by omega)
  have lp1 : ∀ d i I2 J2, i + d = n → (∀ c, c ≠ 0 → I2 c = I c) → (∀ c, c ≠ 0 → J2 c = J c) → (∀ k, k < i → I2 0 k = I 5 (100 * t + k) ∧ J2 0 k = J 2 (100 * t + k)) → AW m_X7_back (z_pv P) 2 [some (.ref 0), some (.int (nI t)), some (.int (nI i))] [] (F, I2, J2) := by
    intro d
    induction d with
    | zero =>
      intro i I2 J2 hd g1 g2 g3
      have e : i = n := by omega
      subst e
      refine r_X7_back_2 _ _ F I2 J2 ?_
      rw [h0, nLe (by omega) (by omega), zN (by omega), g1 8 (by decide), h1]
      exact ⟨fun _ => ⟨b0, lp2 m 0 I2 J2 (by omega) (fun c q _ _ => g1 c q) g2 g3 (fun e he => by omega)⟩, fun z => absurd (Nat.le_refl _) z⟩
    | succ d ih =>
      intro i I2 J2 hd g1 g2 g3
      refine r_X7_back_2 _ _ F I2 J2 ?_
      have b1 : vp_in (nI i) 100 := nIn (by omega) (by omega)
      have b2 : vp_in (nI (100 * t + i)) 2100 := nIn (by omega) (by omega)
      rw [h0, nLe (by omega) (by omega), n100m, zN (show i < 2147483648 by omega), zN (show 100 * t + i < 2147483648 by omega), nI_1 i]
      refine ⟨fun z => absurd z (by omega), fun _ => ⟨b2, b1, b2, b1, ?_⟩⟩
      refine ih (i + 1) _ _ (by omega) (fun c hc => by rw [ui_ne _ _ hc]; exact g1 c hc) (fun c hc => by rw [ul_ne _ _ hc]; exact g2 c hc) (fun k hk => ?_)
      rw [ui_self, ul_self]
      by_cases q : k = i
      · rw [q, upd_self, updL_self, g1 5 (by decide), g2 2 (by decide)]
        exact ⟨rfl, rfl⟩
      · rw [upd_ne _ q, updL_ne _ q]; exact g3 k (by omega)
  exact lp1 n 0 I J (by omega) (fun _ _ => rfl) (fun _ _ => rfl) (fun k hk => by omega)
/-- snapshot x becomes snapshot y -/
theorem m_move {P : zM → Prop} {x y : Nat} (hx : x ≤ 20) (hy : y ≤ 20) (hxy : x ≠ y)
    (hP : ∀ I2 J2, (∀ c, (c < 5 ∨ 10 < c) → I2 c = I c) → (∀ c, c ≠ 2 → J2 c = J c) → I2 5 = cpf (I 5) (fun k => I 5 (100 * x + k)) (100 * y) 100 → J2 2 = cpf (J 2) (fun k => J 2 (100 * x + k)) (100 * y) 100 → I2 6 = cpf (I 6) (fun k => I 6 (300 * x + k)) (300 * y) 300 → I2 7 = cpf (I 7) (fun k => I 7 (300 * x + k)) (300 * y) 300 → I2 8 = upd (I 8) y (I 8 x) → I2 9 = upd (I 9) y (I 9 x) → I2 10 = upd (I 10) y (I 10 x) → P (F, I2, J2)) :
    AMv m_X7_move [.ref 0, .int (nI x), .int (nI y)] (F, I, J) P := by
  refine r_X7_move_0 _ _ F I J ?_
  have bx : vp_in (nI x) 21 := nIn (by omega) (by omega)
  have by' : vp_in (nI y) 21 := nIn (by omega) (by omega)
  have lp2 : ∀ d i I2 J2, i + d = 300 → (∀ c, (c < 5 ∨ 7 < c) → I2 c = I c) → (∀ c, c ≠ 2 → J2 c = J c) → I2 5 = cpf (I 5) (fun k => I 5 (100 * x + k)) (100 * y) 100 → J2 2 = cpf (J 2) (fun k => J 2 (100 * x + k)) (100 * y) 100 → I2 6 = cpf (I 6) (fun k => I 6 (300 * x + k)) (300 * y) i → I2 7 = cpf (I 7) (fun k => I 7 (300 * x + k)) (300 * y) i → AW m_X7_move (z_pv P) 60 [some (.ref 0), some (.int (nI x)), some (.int (nI y)), some (.int (nI i))] [] (F, I2, J2) := by
    intro d
    induction d with
    | zero =>
      intro i I2 J2 hd g1 g2 g3 g4 g5 g6
      have e : i = 300 := by omega
      subst e
      refine r_X7_move_60 _ _ _ F I2 J2 ?_
      rw [n300, nLe (by omega) (by omega), zN (show x < 2147483648 by omega), zN (show y < 2147483648 by omega)]
      refine ⟨fun _ => ⟨bx, by', bx, by', bx, by', ?_⟩, fun z => absurd (Nat.le_refl _) z⟩
      refine hP _ J2 (fun c hc => by rw [ui_ne _ _ (by omega), ui_ne _ _ (by omega), ui_ne _ _ (by omega)]; exact g1 c (by omega)) g2 ?_ g4 ?_ ?_ ?_ ?_ ?_
      · rw [ui_ne _ _ (by decide), ui_ne _ _ (by decide), ui_ne _ _ (by decide)]; exact g3
      · rw [ui_ne _ _ (by decide), ui_ne _ _ (by decide), ui_ne _ _ (by decide)]; exact g5
      · rw [ui_ne _ _ (by decide), ui_ne _ _ (by decide), ui_ne _ _ (by decide)]; exact g6
      · rw [ui_ne _ _ (by decide), ui_ne _ _ (by decide), ui_self, g1 8 (by omega)]
      · rw [ui_ne _ _ (by decide), ui_self, ui_ne _ _ (by decide), g1 9 (by omega)]
      · rw [ui_self, ui_ne _ _ (by decide), ui_ne _ _ (by decide), g1 10 (by omega)]
    | succ d ih =>
      intro i I2 J2 hd g1 g2 g3 g4 g5 g6
      refine r_X7_move_60 _ _ _ F I2 J2 ?_
      have b2 : vp_in (nI (300 * x + i)) 6300 := nIn (by omega) (by omega)
      have b3 : vp_in (nI (300 * y + i)) 6300 := nIn (by omega) (by omega)
      rw [n300m, n300m, zN (show 300 * x + i < 2147483648 by omega), zN (show 300 * y + i < 2147483648 by omega), nI_1 i, n300, nLe (by omega) (by omega)]
      refine ⟨fun z => absurd z (by omega), fun _ => ⟨b2, b3, b2, b3, ?_⟩⟩
      refine ih (i + 1) _ _ (by omega) (fun c hc => by rw [ui_ne _ _ (by omega), ui_ne _ _ (by omega)]; exact g1 c hc) g2 ?_ g4 ?_ ?_
      · rw [ui_ne _ _ (by decide), ui_ne _ _ (by decide)]; exact g3
      · rw [ui_ne _ _ (by decide), ui_self, g5, cpf_out (p := 300 * x + i) (by omega)]; exact cpf_S _ (fun k => I 6 (300 * x + k)) _ _
      · rw [ui_self, ui_ne _ _ (by decide), g6, cpf_out (p := 300 * x + i) (by omega)]; exact cpf_S _ (fun k => I 7 (300 * x + k)) _ _
  have lp1 : ∀ d i I2 J2, i + d = 100 → (∀ c, c ≠ 5 → I2 c = I c) → (∀ c, c ≠ 2 → J2 c = J c) → I2 5 = cpf (I 5) (fun k => I 5 (100 * x + k)) (100 * y) i → J2 2 = cpf (J 2) (fun k => J 2 (100 * x + k)) (100 * y) i → AW m_X7_move (z_pv P) 2 [some (.ref 0), some (.int (nI x)), some (.int (nI y)), some (.int (nI i))] [] (F, I2, J2) := by
    intro d
    induction d with
    | zero =>
      intro i I2 J2 hd g1 g2 g3 g4
      have e : i = 100 := by omega
      subst e
      refine r_X7_move_2 _ _ _ F I2 J2 ?_
      rw [n100, nLe (by omega) (by omega)]
      refine ⟨fun _ => lp2 300 0 I2 J2 (by omega) (fun c hc => g1 c (by omega)) g2 g3 g4 ?_ ?_, fun z => absurd (Nat.le_refl _) z⟩
      · rw [cpf_0, g1 6 (by decide)]
      · rw [cpf_0, g1 7 (by decide)]
    | succ d ih =>
      intro i I2 J2 hd g1 g2 g3 g4
      refine r_X7_move_2 _ _ _ F I2 J2 ?_
      have b2 : vp_in (nI (100 * x + i)) 2100 := nIn (by omega) (by omega)
      have b3 : vp_in (nI (100 * y + i)) 2100 := nIn (by omega) (by omega)
      rw [n100m, n100m, zN (show 100 * x + i < 2147483648 by omega), zN (show 100 * y + i < 2147483648 by omega), nI_1 i, n100, nLe (by omega) (by omega)]
      refine ⟨fun z => absurd z (by omega), fun _ => ⟨b2, b3, b2, b3, ?_⟩⟩
      refine ih (i + 1) _ _ (by omega) (fun c hc => by rw [ui_ne _ _ hc]; exact g1 c hc) (fun c hc => by rw [ul_ne _ _ hc]; exact g2 c hc) ?_ ?_
      · rw [ui_self, g3, cpf_out (p := 100 * x + i) (by omega)]; exact cpf_S _ (fun k => I 5 (100 * x + k)) _ _
      · rw [ul_self, g4, cpf_out (p := 100 * x + i) (by omega)]; exact cpf_SL _ (fun k => J 2 (100 * x + k)) _ _
  exact lp1 100 0 I J (by omega) (fun _ _ => rfl) (fun _ _ => rfl) (by rw [cpf_0]) (by rw [cpf_0])
end
