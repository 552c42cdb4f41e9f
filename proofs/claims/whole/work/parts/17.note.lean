/-- snapshot i of one memory is snapshot j of another -/
def sEq (I : Nat → Nat → Int32) (J : Nat → Nat → Int64) (i : Nat) (I2 : Nat → Nat → Int32) (J2 : Nat → Nat → Int64) (j : Nat) : Prop :=
  (∀ k, k < 100 → I2 5 (100 * j + k) = I 5 (100 * i + k) ∧ J2 2 (100 * j + k) = J 2 (100 * i + k)) ∧ (∀ e, e < 300 → I2 6 (300 * j + e) = I 6 (300 * i + e) ∧ I2 7 (300 * j + e) = I 7 (300 * i + e)) ∧ I2 8 j = I 8 i ∧ I2 9 j = I 9 i ∧ I2 10 j = I 10 i
/-- snapshot j is the state itself -/
def sCur (n m : Nat) (F : Nat → Int32) (I : Nat → Nat → Int32) (J : Nat → Nat → Int64) (I2 : Nat → Nat → Int32) (J2 : Nat → Nat → Int64) (j : Nat) : Prop :=
  (∀ k, k < n → I2 5 (100 * j + k) = I 0 k ∧ J2 2 (100 * j + k) = J 0 k) ∧ (∀ e, e < m → I2 6 (300 * j + e) = I 3 e ∧ I2 7 (300 * j + e) = I 4 e) ∧ I2 8 j = F 1 ∧ I2 9 j = F 3 ∧ I2 10 j = F 4
theorem sEq_refl {I : Nat → Nat → Int32} {J : Nat → Nat → Int64} {i : Nat} : sEq I J i I J i := ⟨fun _ _ => ⟨rfl, rfl⟩, fun _ _ => ⟨rfl, rfl⟩, rfl, rfl, rfl⟩
theorem sEq_trans {I I2 I3 : Nat → Nat → Int32} {J J2 J3 : Nat → Nat → Int64} {i j k : Nat} (h : sEq I J i I2 J2 j) (h2 : sEq I2 J2 j I3 J3 k) : sEq I J i I3 J3 k :=
  ⟨fun x hx => ⟨by rw [(h2.1 x hx).1, (h.1 x hx).1], by rw [(h2.1 x hx).2, (h.1 x hx).2]⟩, fun x hx => ⟨by rw [(h2.2.1 x hx).1, (h.2.1 x hx).1], by rw [(h2.2.1 x hx).2, (h.2.1 x hx).2]⟩, by rw [h2.2.2.1, h.2.2.1], by rw [h2.2.2.2.1, h.2.2.2.1], by rw [h2.2.2.2.2, h.2.2.2.2]⟩
section
variable {F : Nat → Int32} {I : Nat → Nat → Int32} {J : Nat → Nat → Int64}
theorem m_keep_s {P : zM → Prop} {n m t : Nat} (hn : n ≤ 100) (hm : m ≤ 300) (ht : t ≤ 20) (h0 : F 0 = nI n) (h1 : F 1 = nI m)
    (hP : ∀ I2 J2, (∀ c, (c < 5 ∨ 10 < c) → I2 c = I c) → (∀ c, c ≠ 2 → J2 c = J c) → (∀ j, j ≠ t → sEq I J j I2 J2 j) → sCur n m F I J I2 J2 t → P (F, I2, J2)) :
    AMv m_X7_keep [.ref 0, .int (nI t)] (F, I, J) P := by
  refine m_keep hn hm ht h0 h1 (fun I2 J2 g1 g2 g3 g4 g5 g6 g7 g8 g9 => hP I2 J2 g1 g2 (fun j hj => ⟨fun k hk => ⟨?_, ?_⟩, fun e he => ⟨?_, ?_⟩, ?_, ?_, ?_⟩) ⟨fun k hk => ⟨?_, ?_⟩, fun e he => ⟨?_, ?_⟩, ?_, ?_, ?_⟩)
  · rw [g3, cpf_out (by omega)]
  · rw [g4, cpf_out (by omega)]
  · rw [g5, cpf_out (by omega)]
  · rw [g6, cpf_out (by omega)]
  · rw [g7, upd_ne _ hj]
  · rw [g8, upd_ne _ hj]
  · rw [g9, upd_ne _ hj]
  · rw [g3, cpf_in hk]
  · rw [g4, cpf_in hk]
  · rw [g5, cpf_in he]
  · rw [g6, cpf_in he]
  · rw [g7, upd_self]
  · rw [g8, upd_self]
  · rw [g9, upd_self]
theorem m_move_s {P : zM → Prop} {x y : Nat} (hx : x ≤ 20) (hy : y ≤ 20) (hxy : x ≠ y)
    (hP : ∀ I2 J2, (∀ c, (c < 5 ∨ 10 < c) → I2 c = I c) → (∀ c, c ≠ 2 → J2 c = J c) → (∀ j, j ≠ y → sEq I J j I2 J2 j) → sEq I J x I2 J2 y → P (F, I2, J2)) :
    AMv m_X7_move [.ref 0, .int (nI x), .int (nI y)] (F, I, J) P := by
  refine m_move hx hy hxy (fun I2 J2 g1 g2 g3 g4 g5 g6 g7 g8 g9 => hP I2 J2 g1 g2 (fun j hj => ⟨fun k hk => ⟨?_, ?_⟩, fun e he => ⟨?_, ?_⟩, ?_, ?_, ?_⟩) ⟨fun k hk => ⟨?_, ?_⟩, fun e he => ⟨?_, ?_⟩, ?_, ?_, ?_⟩)
  · rw [g3, cpf_out (by omega)]
  · rw [g4, cpf_out (by omega)]
  · rw [g5, cpf_out (by omega)]
  · rw [g6, cpf_out (by omega)]
  · rw [g7, upd_ne _ hj]
  · rw [g8, upd_ne _ hj]
  · rw [g9, upd_ne _ hj]
  · rw [g3, cpf_in hk]
  · rw [g4, cpf_in hk]
  · rw [g5, cpf_in he]
  · rw [g6, cpf_in he]
  · rw [g7, upd_self]
  · rw [g8, upd_self]
  · rw [g9, upd_self]
/-- a change is about to come: o oldest ones fall out, the state itself is kept behind the u1 that stay -/
theorem m_changes {P : zM → Prop} {n m u : Nat} (hn : n ≤ 100) (hm : m ≤ 300) (hu : u ≤ 20) (h0 : F 0 = nI n) (h1 : F 1 = nI m) (h5 : F 5 = nI u)
    (hP : ∀ I2 J2 o u1, u = u1 + o → u1 < 20 → (o = 0 ∨ (o = 1 ∧ u = 20)) → (∀ c, (c < 5 ∨ 10 < c) → I2 c = I c) → (∀ c, c ≠ 2 → J2 c = J c) → (∀ j, j < u1 → sEq I J (j + o) I2 J2 j) → sCur n m F I J I2 J2 u1 → P (upd F 5 (nI (u1 + 1)), I2, J2)) :
    AMv m_X7_changes [.ref 0] (F, I, J) P := by
  refine r_X7_changes_0 F I J ?_
  rw [h5, n20, nEq (by omega) (by omega), nI_1]
  refine ⟨fun z => ?_, fun z => ?_⟩
  · refine m_keep_s hn hm hu (by rw [upd_ne _ (by decide)]; exact h0) (by rw [upd_ne _ (by decide)]; exact h1) (fun I2 J2 g1 g2 g3 g4 => ?_)
    refine hP I2 J2 0 u rfl (by omega) (Or.inl rfl) g1 g2 (fun j hj => g3 j (by omega)) ?_
    unfold sCur at g4 ⊢
    rw [upd_ne _ (by decide), upd_ne _ (by decide), upd_ne _ (by decide)] at g4
    exact g4
  · have lp : ∀ d i I2 J2, i + d = 20 → 1 ≤ i → (∀ c, (c < 5 ∨ 10 < c) → I2 c = I c) → (∀ c, c ≠ 2 → J2 c = J c) → (∀ j, j + 1 < i → sEq I J (j + 1) I2 J2 j) → (∀ j, i ≤ j → sEq I J j I2 J2 j) → AW m_X7_changes (z_pv P) 11 [some (.ref 0), some (.int (nI i))] [] (F, I2, J2) := by
      intro d
      induction d with
      | zero =>
        intro i I2 J2 hd hi g1 g2 g3 g4
        have e : i = 20 := by omega
        subst e
        refine r_X7_changes_11 _ F I2 J2 ?_
        rw [h5, n20, nLe (by omega) (by omega), z, n1, nSub (by omega), nAdd]
        refine ⟨fun _ => ?_, fun z => absurd (Nat.le_refl _) z⟩
        have fe : upd (upd F 5 (nI (20 - 1))) 5 (nI (20 - 1 + 1)) = upd F 5 (nI 20) := by
          funext p
          by_cases h : p = 5
          · rw [h, upd_self, upd_self]
          · rw [upd_ne _ h, upd_ne _ h, upd_ne _ h]
        rw [fe]
        refine m_keep_s (t := 19) hn hm (by omega) (by rw [upd_ne _ (by decide)]; exact h0) (by rw [upd_ne _ (by decide)]; exact h1) (fun I3 J3 k1 k2 k3 k4 => ?_)
        refine hP I3 J3 1 19 z (by omega) (Or.inr ⟨rfl, z⟩) (fun c hc => by rw [k1 c hc]; exact g1 c hc) (fun c hc => by rw [k2 c hc]; exact g2 c hc) (fun j hj => sEq_trans (g3 j (by omega)) (k3 j (by omega))) ?_
        unfold sCur at k4 ⊢
        rw [upd_ne _ (by decide), upd_ne _ (by decide), upd_ne _ (by decide), g1 0 (by omega), g1 3 (by omega), g1 4 (by omega), g2 0 (by decide)] at k4
        exact k4
      | succ d ih =>
        intro i I2 J2 hd hi g1 g2 g3 g4
        refine r_X7_changes_11 _ F I2 J2 ?_
        rw [n20, nLe (by omega) (by omega), show nI i - 1 = nI (i - 1) from by rw [n1, nSub hi], nI_1]
        refine ⟨fun z => absurd z (by omega), fun _ => ?_⟩
        refine m_move_s (by omega) (by omega) (by omega) (fun I3 J3 k1 k2 k3 k4 => ?_)
        refine ih (i + 1) I3 J3 (by omega) (by omega) (fun c hc => by rw [k1 c hc]; exact g1 c hc) (fun c hc => by rw [k2 c hc]; exact g2 c hc) (fun j hj => ?_) (fun j hj => sEq_trans (g4 j (by omega)) (k3 j (by omega)))
        by_cases e : j = i - 1
        · rw [e, show i - 1 + 1 = i by omega]
          exact sEq_trans (g4 i (Nat.le_refl _)) k4
        · exact sEq_trans (g3 j (by omega)) (k3 j e)
    rw [n1]
    exact lp 19 1 I J (by omega) (by omega) (fun _ _ => rfl) (fun _ _ => rfl) (fun j hj => by omega) (fun j _ => sEq_refl)
end
/-! the class's changes: entry j stands at place (o + j) mod 20 -/
def eEq (I : Nat → Nat → Int32) (J : Nat → Nat → Int64) (p : Nat) (I2 : Nat → Nat → Int32) (J2 : Nat → Nat → Int64) (q : Nat) : Prop := I2 23 q = I 23 p ∧ I2 24 q = I 24 p ∧ I2 25 q = I 25 p ∧ J2 2 q = J 2 p
theorem nRem20 {x : Nat} (h : x < 2147483648) : nI x - nI x / 20 * 20 = nI (x % 20) := by
  rw [n20]
  exact pk_rem (by omega) (by omega) (by omega)
section
variable {F : Nat → Int32} {I : Nat → Nat → Int32} {J : Nat → Nat → Int64}
theorem c_note {P : zM → Prop} {x1 x2 x3 : Int32} {l4 : Int64} {o u : Nat} (ho : o < 20) (hu : u ≤ 20) (h13 : F 13 = nI o) (h14 : F 14 = nI u)
    (hP : ∀ F2 I2 J2 o2 f u1, u = u1 + f → u1 < 20 → (f = 0 ∨ (f = 1 ∧ u = 20)) → o2 < 20 → F2 13 = nI o2 → F2 14 = nI (u1 + 1) → (∀ c, c ≠ 13 → c ≠ 14 → F2 c = F c) → (∀ c, (c < 23 ∨ 25 < c) → I2 c = I c) → (∀ c, c ≠ 2 → J2 c = J c) →
      (∀ j, j < u1 → eEq I J ((o + (j + f)) % 20) I2 J2 ((o2 + j) % 20)) → I2 23 ((o2 + u1) % 20) = x1 → I2 24 ((o2 + u1) % 20) = x2 → I2 25 ((o2 + u1) % 20) = x3 → J2 2 ((o2 + u1) % 20) = l4 → P (F2, I2, J2)) :
    AMv m_X3_note [.ref 31, .int x1, .int x2, .int x3, .long l4] (F, I, J) P := by
  have fin : ∀ F2 o2 u1 f, u = u1 + f → u1 < 20 → (f = 0 ∨ (f = 1 ∧ u = 20)) → o2 < 20 → F2 13 = nI o2 → F2 14 = nI u1 → (∀ c, c ≠ 13 → c ≠ 14 → F2 c = F c) → (∀ j, (o2 + j) % 20 = (o + (j + f)) % 20) →
      AW m_X3_note (z_pv P) 32 [some (.ref 31), some (.int x1), some (.int x2), some (.int x3), some (.long l4), none, none] [] (F2, I, J) := by
    intro F2 o2 u1 f e1 e2 e3 e4 e5 e6 e7 e8
    refine r_X3_note_32 _ _ _ _ F2 I J ?_
    rw [e5, e6, nAdd, nRem20 (by omega), zN (by omega), nI_1]
    have b1 : vp_in (nI ((o2 + u1) % 20)) 20 := nIn (by omega) (by omega)
    have hne : ∀ j, j < u1 → (o2 + j) % 20 ≠ (o2 + u1) % 20 := fun j hj => by omega
    refine ⟨b1, b1, b1, b1, ?_⟩
    refine hP _ _ _ o2 f u1 e1 e2 e3 e4 (by rw [upd_ne _ (by decide)]; exact e5) (upd_self _ _ _) (fun c q1 q2 => by rw [upd_ne _ q2]; exact e7 c q1 q2) (fun c hc => by rw [ui_ne _ _ (by omega), ui_ne _ _ (by omega), ui_ne _ _ (by omega)]) (fun c hc => by rw [ul_ne _ _ hc]) (fun j hj => ?_) ?_ ?_ ?_ ?_
    · have h1 := hne j hj
      rw [← e8 j]
      refine ⟨?_, ?_, ?_, ?_⟩
      · rw [ui_ne _ _ (by decide), ui_ne _ _ (by decide), ui_self, upd_ne _ h1]
      · rw [ui_ne _ _ (by decide), ui_self, upd_ne _ h1, ui_ne _ _ (by decide)]
      · rw [ui_self, upd_ne _ h1, ui_ne _ _ (by decide), ui_ne _ _ (by decide)]
      · rw [ul_self, updL_ne _ h1]
    · rw [ui_ne _ _ (by decide), ui_ne _ _ (by decide), ui_self, upd_self]
    · rw [ui_ne _ _ (by decide), ui_self, upd_self]
    · rw [ui_self, upd_self]
    · rw [ul_self, updL_self]
  refine r_X3_note_0 _ _ _ _ F I J ?_
  rw [h14, h13, n20, nEq (by omega) (by omega)]
  refine ⟨fun z => fin F o u 0 rfl (by omega) (Or.inl rfl) ho h13 h14 (fun _ _ _ => rfl) (fun j => by rw [Nat.add_zero]), fun z => ?_⟩
  rw [nI_1, ← n20, nRem20 (by omega), show nI u - 1 = nI 19 from by rw [z]; rfl]
  exact fin _ ((o + 1) % 20) 19 1 z (by omega) (Or.inr ⟨rfl, z⟩) (by omega) (by rw [upd_ne _ (by decide), upd_self]) (upd_self _ _ _) (fun c q1 q2 => by rw [upd_ne _ q2, upd_ne _ q1]) (fun j => by omega)
theorem c_takeLatest {P : Int32 → zM → Prop} {o u : Nat} (ho : o < 20) (hu : u ≤ 20) (h13 : F 13 = nI o) (h14 : F 14 = nI u) (h0 : u = 0 → P (-1) (F, I, J)) (h1 : ∀ u1, u = u1 + 1 → P (nI ((o + u1) % 20)) (upd F 14 (nI u1), I, J)) : AMi m_X3_takeLatest [.ref 31] (F, I, J) P := by
  refine r_X3_takeLatest_0 F I J ?_
  rw [h14, h13, n0, nEq (by omega) (by omega)]
  refine ⟨fun z => ?_, fun z => h0 z⟩
  have e : nI u - 1 = nI (u - 1) := by rw [n1, nSub (by omega)]
  rw [e, nAdd, nRem20 (by omega)]
  exact h1 (u - 1) (by omega)
end
