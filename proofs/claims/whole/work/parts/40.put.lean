/-! trays: the loops of put -/
theorem ctp_hit {p : Nat → Prop} : ∀ {n r : Nat}, r < ctp p n → ∃ k, k < n ∧ p k ∧ ctp p k = r
  | 0, r, h => absurd h (Nat.not_lt_zero _)
  | n + 1, r, h => by
    have e : ctp p (n + 1) = ctp p n + zif (p n) 1 0 := rfl
    by_cases hp : p n
    · rw [e, zif_pos hp] at h
      by_cases e2 : r = ctp p n
      · exact ⟨n, by omega, hp, e2.symm⟩
      · obtain ⟨k, k1, k2, k3⟩ := ctp_hit (p := p) (n := n) (r := r) (by omega)
        exact ⟨k, by omega, k2, k3⟩
    · rw [e, zif_neg hp] at h
      obtain ⟨k, k1, k2, k3⟩ := ctp_hit (p := p) (n := n) (r := r) (by omega)
      exact ⟨k, by omega, k2, k3⟩
theorem ctp_lt {p : Nat → Prop} {k : Nat} (hp : p k) : ∀ {n : Nat}, k < n → ctp p k < ctp p n
  | 0, h => by omega
  | n + 1, h => by
    have e : ctp p (n + 1) = ctp p n + zif (p n) 1 0 := rfl
    by_cases e2 : k = n
    · subst e2; rw [e, zif_pos hp]; omega
    · have := ctp_lt hp (n := n) (by omega)
      omega
section
variable {t : Nat} {K : Nat → zK} {u o kd N : Nat} {F : Nat → Int32} {I : Nat → Nat → Int32} {J : Nat → Nat → Int64} {F' : Nat → Int32} {I' : Nat → Nat → Int32} {J' : Nat → Nat → Int64}
theorem RK_tray2 {Fz Fz' : Nat → Int32} {Iz Iz' : Nat → Nat → Int32} {Jz Jz' : Nat → Nat → Int64} (h : RK t K u o kd N F I J F' I' J') (hc : cQ (kg (K u)) Fz Iz) (hF : ∀ c, c ≠ 3 → (c < 6 ∨ 12 < c) → (c < 15 ∨ 26 < c) → Fz c = F c) (hI : ∀ c, (c < 8 ∨ 22 < c) → Iz c = I c) (hJ : ∀ c, c < 3 → Jz c = J c) (hm : mQ (kg (K u)) Fz' Iz') (hF' : ∀ c, c ≠ 6 → c ≠ 7 → Fz' c = F' c) (hI' : ∀ c, (c < 11 ∨ 19 < c) → Iz' c = I' c) (hJ' : ∀ c, c < 3 → Jz' c = J' c) (h7 : Fz' 7 = Fz 3) (hT : tR Fz Jz Iz' Jz') : Rel (t + 1) (Fz, Iz, Jz) (Fz', Iz', Jz') := by
  obtain ⟨⟨c, c2, c3⟩, ⟨m, m2, m3, m4⟩, h3, h4, h5, h6, h8, -, -⟩ := h
  refine ⟨K, u, o, kd, N, ⟨hc, fun i hi => ⟨(congrFun (hI 0 (by omega)) i).trans (c2 i hi).1, (congrFun (hJ 0 (by omega)) i).trans (c2 i hi).2⟩, (hF 5 (by decide) (by omega) (by omega)).trans c3⟩, ⟨hm, fun i hi => ⟨(congrFun (hI' 0 (by omega)) i).trans (m2 i hi).1, (congrFun (hJ' 0 (by omega)) i).trans (m2 i hi).2⟩, (hF' 4 (by decide) (by decide)).trans m3, (hF' 3 (by decide) (by decide)).trans m4⟩, fun j hj => ⟨(h3 j hj).1, Nat.le_succ_of_le (h3 j hj).2.1, (h3 j hj).2.2⟩, ⟨h4.1, (hF 2 (by decide) (by omega) (by omega)).trans h4.2.1, (hF' 2 (by decide) (by decide)).trans h4.2.2⟩, fun e he => ?_, ⟨Nat.le_succ_of_le h6.1, (hF 1 (by decide) (by omega) (by omega)).trans h6.2.1, fun i hi hi2 => (congrFun (hI 0 (by omega)) i).trans (h6.2.2 i hi hi2)⟩, ⟨(hF 13 (by decide) (by omega) (by omega)).trans h8.1, (hF 14 (by decide) (by omega) (by omega)).trans h8.2.1, (hF' 5 (by decide) (by decide)).trans h8.2.2.1, PS_fr h8.2.2.2 (fun p _ => congrFun (hI 7 (by omega)) p) (fun c hc => hI c (by omega)) (hJ 2 (by omega)) (fun c c1 c2 => hI' c (by omega)) (hJ' 2 (by omega))⟩, h7, hT⟩
  show Jz' 1 e = Jz 1 e
  rw [hJ' 1 (by omega), hJ 1 (by omega)]; exact h5 e he
/-- one tray changes, the others stay -/
theorem tR_one {Fz : Nat → Int32} {Jz : Nat → Nat → Int64} {Iz' : Nat → Nat → Int32} {Jz' : Nat → Nat → Int64} {s th L : Nat} (hT : tR F J I' J') (hs : s < 6) (hF : ∀ r, r < 6 → r ≠ s → Fz (15 + r) = F (15 + r) ∧ Fz (21 + r) = F (21 + r) ∧ Jz (3 + r) = J (3 + r) ∧ Iz' 17 r = I' 17 r ∧ Iz' 18 r = I' 18 r ∧ ∀ i, i < 100 → Iz' 19 (100 * r + i) = I' 19 (100 * r + i) ∧ Jz' 3 (100 * r + i) = J' 3 (100 * r + i))
    (h : Fz (15 + s) = nI th ∧ Iz' 17 s = nI th ∧ th ≤ 4 ∧ L ≤ 100 ∧ Fz (21 + s) = nI L ∧ (th = 1 → L = 1 ∧ Jz (3 + s) 0 = (Iz' 19 (100 * s)).toInt64) ∧ (2 ≤ th → Iz' 18 s = nI L) ∧ (th = 2 ∨ th = 4 → ∀ i, i < L → Jz (3 + s) i = (Iz' 19 (100 * s + i)).toInt64) ∧ (th = 3 → ∀ i, i < L → Jz (3 + s) i = Jz' 3 (100 * s + i))) : tR Fz Jz Iz' Jz' := by
  intro r hr
  by_cases e : r = s
  · subst e; exact ⟨th, L, h⟩
  · obtain ⟨f1, f2, f3, f4, f5, f6⟩ := hF r hr e
    obtain ⟨th2, L2, a1, a2, a3, a4, a5, a6, a7, a8, a9⟩ := hT r hr
    refine ⟨th2, L2, by rw [f1]; exact a1, by rw [f4]; exact a2, a3, a4, by rw [f2]; exact a5, fun z => ⟨(a6 z).1, ?_⟩, fun z => by rw [f5]; exact a7 z, fun z i hi => ?_, fun z i hi => ?_⟩
    · have := (f6 0 (by omega)).1
      rw [Nat.add_zero] at this
      rw [f3, this]; exact (a6 z).2
    · rw [f3, (f6 i (by omega)).1]; exact a8 z i hi
    · rw [f3, (f6 i (by omega)).2]; exact a9 z i hi
theorem c_lay1 {P : zM → Prop} {s L : Nat} {x : Int64} (hs : s < 6) (hL : F (21 + s) = nI L) (hL2 : L < 100) (hP : P (upd F (21 + s) (nI (L + 1)), I, z_ul J (3 + s) L x)) : AMv m_X4_lay [.ref (37 + 2 * s), .long x] (F, I, J) P := by
  refine r_X4_lay_0 s hs _ F I J ?_
  rw [hL, n100, nLe (by omega) (by omega), zN (by omega), nI_1]
  exact ⟨fun z => by omega, fun _ => ⟨nIn (by omega) (by omega), hP⟩⟩
theorem c_putKnots_loop {P : zM → Prop} {s n : Nat} {p : Nat → Prop} (hs : s < 6) (hn : n ≤ 100) (h0 : F 0 = nI n) (hp : ∀ k, k < n → (p k → I 11 k = 1) ∧ (¬ p k → I 11 k = 0))
    (hP : ∀ J2 : Nat → Nat → Int64, (∀ c, c ≠ 3 + s → J2 c = J c) → (∀ k, k < n → p k → J2 (3 + s) (ctp p k) = (nI k).toInt64) → P (upd F (21 + s) (nI (ctp p n)), I, J2)) :
    ∀ d i J2, i + d = n → (∀ c, c ≠ 3 + s → J2 c = J c) → (∀ k, k < i → p k → J2 (3 + s) (ctp p k) = (nI k).toInt64) → ∀ F2, (∀ c, c ≠ 21 + s → F2 c = F c) → F2 (21 + s) = nI (ctp p i) → AW m_X6_putKnots (z_pv P) 12 [some (.ref 0), some (.ref (37 + 2 * s)), none, some (.int (nI i))] [] (F2, I, J2) := by
  intro d
  induction d with
  | zero =>
    intro i J2 hd g1 g2 F2 g3 g4
    have e : i = n := by omega
    subst e
    refine r_X6_putKnots_12 s hs _ F2 I J2 ?_
    rw [g3 0 (by omega), h0, nLe (by omega) (by omega)]
    have eF : F2 = upd F (21 + s) (nI (ctp p i)) := by
      funext c
      by_cases ec : c = 21 + s
      · rw [ec, upd_self]; exact g4
      · rw [upd_ne _ ec]; exact g3 c ec
    exact ⟨fun _ => by rw [eF]; exact hP J2 g1 g2, fun z => absurd (Nat.le_refl _) z⟩
  | succ d ih =>
    intro i J2 hd g1 g2 F2 g3 g4
    have hle := ctp_le p i
    have e : ctp p (i + 1) = ctp p i + zif (p i) 1 0 := rfl
    refine r_X6_putKnots_12 s hs _ F2 I J2 ?_
    rw [g3 0 (by omega), h0, nLe (by omega) (by omega), zN (show i < 2147483648 by omega), nI_1 i]
    refine ⟨fun z => absurd z (by omega), fun _ => ⟨nIn (by omega) (by omega), fun z => ?_, fun z => ?_⟩⟩
    · have hp2 : ¬ p i := fun w => by rw [(hp i (by omega)).1 w] at z; exact absurd z (by decide)
      rw [zif_neg hp2] at e
      refine ih (i + 1) J2 (by omega) g1 (fun k hk hpk => g2 k ?_ hpk) F2 g3 (by rw [e]; exact g4)
      by_cases e2 : k = i
      · subst e2; exact absurd hpk hp2
      · omega
    · have hp2 : p i := Classical.byContradiction fun w => z ((hp i (by omega)).2 w)
      rw [zif_pos hp2] at e
      refine c_lay1 hs g4 (by omega) ?_
      refine ih (i + 1) _ (by omega) (fun c hc => by rw [ul_ne _ _ hc]; exact g1 c hc) (fun k hk hpk => ?_) _ (fun c hc => by rw [upd_ne _ hc]; exact g3 c hc) (by rw [upd_self, e])
      rw [ul_self]
      by_cases e2 : k = i
      · rw [e2, updL_self]
      · have := ctp_lt hpk (n := i) (by omega)
        rw [updL_ne _ (by omega)]
        exact g2 k (by omega) hpk
theorem c_putTruths_loop {P : zM → Prop} {s n : Nat} {p : Nat → Prop} (hs : s < 6) (hn : n ≤ 100) (h0 : F 0 = nI n) (hp : ∀ k, k < n → (p k → I 11 k = 1) ∧ (¬ p k → I 11 k = 0))
    (hP : ∀ J2 : Nat → Nat → Int64, (∀ c, c ≠ 3 + s → J2 c = J c) → (∀ k, k < n → J2 (3 + s) k = zif (p k) 1 0) → P (upd F (21 + s) (nI n), I, J2)) :
    ∀ d i J2, i + d = n → (∀ c, c ≠ 3 + s → J2 c = J c) → (∀ k, k < i → J2 (3 + s) k = zif (p k) 1 0) → ∀ F2, (∀ c, c ≠ 21 + s → F2 c = F c) → F2 (21 + s) = nI i → AW m_X6_putTruths (z_pv P) 12 [some (.ref 0), some (.ref (37 + 2 * s)), none, some (.int (nI i))] [] (F2, I, J2) := by
  intro d
  induction d with
  | zero =>
    intro i J2 hd g1 g2 F2 g3 g4
    have e : i = n := by omega
    subst e
    refine r_X6_putTruths_12 s hs _ F2 I J2 ?_
    rw [g3 0 (by omega), h0, nLe (by omega) (by omega)]
    have eF : F2 = upd F (21 + s) (nI i) := by
      funext c
      by_cases ec : c = 21 + s
      · rw [ec, upd_self]; exact g4
      · rw [upd_ne _ ec]; exact g3 c ec
    exact ⟨fun _ => by rw [eF]; exact hP J2 g1 g2, fun z => absurd (Nat.le_refl _) z⟩
  | succ d ih =>
    intro i J2 hd g1 g2 F2 g3 g4
    refine r_X6_putTruths_12 s hs _ F2 I J2 ?_
    rw [g3 0 (by omega), h0, nLe (by omega) (by omega), zN (show i < 2147483648 by omega), nI_1 i]
    have go : ∀ x : Int64, x = zif (p i) 1 0 → AMv m_X4_lay [.ref (37 + 2 * s), .long x] (F2, I, J2) (fun M => AW m_X6_putTruths (z_pv P) 12 [some (.ref 0), some (.ref (37 + 2 * s)), none, some (.int (nI (i + 1)))] [] M) := by
      intro x hx
      refine c_lay1 hs g4 (by omega) ?_
      refine ih (i + 1) _ (by omega) (fun c hc => by rw [ul_ne _ _ hc]; exact g1 c hc) (fun k hk => ?_) _ (fun c hc => by rw [upd_ne _ hc]; exact g3 c hc) (upd_self _ _ _)
      rw [ul_self]
      by_cases e2 : k = i
      · rw [e2, updL_self]; exact hx
      · rw [updL_ne _ e2]; exact g2 k (by omega)
    refine ⟨fun z => absurd z (by omega), fun _ => ⟨nIn (by omega) (by omega), fun z => go 0 ?_, fun z => go 1 ?_⟩⟩
    · have hp2 : ¬ p i := fun w => by rw [(hp i (by omega)).1 w] at z; exact absurd z (by decide)
      rw [zif_neg hp2]
    · have hp2 : p i := Classical.byContradiction fun w => z ((hp i (by omega)).2 w)
      rw [zif_pos hp2]
theorem c_putWeights_loop {P : zM → Prop} {s l : Nat} {S : Nat → Nat} (hs : s < 6) (hl : l < 100) (hS : ∀ i, i < l → I 17 i = nI (S i) ∧ S i < 300)
    (hP : ∀ J2 : Nat → Nat → Int64, (∀ c, c ≠ 3 + s → J2 c = J c) → (∀ i, i < l → J2 (3 + s) i = J 1 (S i)) → P (upd F (21 + s) (nI l), I, J2)) :
    ∀ d i J2, i + d = l → (∀ c, c ≠ 3 + s → J2 c = J c) → (∀ k, k < i → J2 (3 + s) k = J 1 (S k)) → ∀ F2, (∀ c, c ≠ 21 + s → F2 c = F c) → F2 (21 + s) = nI i → AW m_X6_putWeights (z_pv P) 16 [some (.ref 0), some (.ref (37 + 2 * s)), none, none, some (.int (nI l)), some (.int (nI i))] [] (F2, I, J2) := by
  intro d
  induction d with
  | zero =>
    intro i J2 hd g1 g2 F2 g3 g4
    have e : i = l := by omega
    subst e
    refine r_X6_putWeights_16 s hs _ _ F2 I J2 ?_
    rw [nLe (by omega) (by omega)]
    have eF : F2 = upd F (21 + s) (nI i) := by
      funext c
      by_cases ec : c = 21 + s
      · rw [ec, upd_self]; exact g4
      · rw [upd_ne _ ec]; exact g3 c ec
    exact ⟨fun _ => by rw [eF]; exact hP J2 g1 g2, fun z => absurd (Nat.le_refl _) z⟩
  | succ d ih =>
    intro i J2 hd g1 g2 F2 g3 g4
    have hk := hS i (by omega)
    refine r_X6_putWeights_16 s hs _ _ F2 I J2 ?_
    rw [nLe (by omega) (by omega), zN (show i < 2147483648 by omega), hk.1, zN (show S i < 2147483648 by omega), nI_1 i]
    refine ⟨fun z => absurd z (by omega), fun _ => ⟨nIn (by omega) (by omega), nIn (by omega) (by omega), c_lay1 hs g4 (by omega) ?_⟩⟩
    refine ih (i + 1) _ (by omega) (fun c hc => by rw [ul_ne _ _ hc]; exact g1 c hc) (fun k hk2 => ?_) _ (fun c hc => by rw [upd_ne _ hc]; exact g3 c hc) (upd_self _ _ _)
    rw [ul_self]
    by_cases e2 : k = i
    · rw [e2, updL_self, g1 1 (by omega)]
    · rw [updL_ne _ e2]; exact g2 k (by omega)
end
