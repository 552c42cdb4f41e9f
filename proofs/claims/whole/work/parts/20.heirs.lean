/-! HEIRS of the class -/
def gV (g : zG) (v : Nat → Nat) : zG := (g.1, g.2.1, g.2.2.1, g.2.2.2.1, g.2.2.2.2.1, v)
def gL (g : zG) : Prop := LvI (gn g) (gm g) (ga g) (gb g) (gs g) (gv g)
noncomputable def gSm (g : zG) (e i k : Nat) : Prop := Sm (gn g) (gm g) (ga g) (gb g) (gs g) (gv g) e i k
def gCand (g : zG) (e i f : Nat) : Prop := cand (gn g) (gm g) (ga g) (gb g) (gs g) (gv g) e i f
def rowS (g : zG) (S : Nat → Prop) (r : Nat) (I : Nat → Nat → Int32) : Prop := ∀ k, k < gn g → (S k → I r k = 1) ∧ (¬ S k → I r k = 0)
def sumN (v : Nat → Nat) : Nat → Nat
  | 0 => 0
  | m + 1 => sumN v m + v m
theorem sumN_congr {v w : Nat → Nat} : ∀ {m : Nat}, (∀ f, f < m → v f = w f) → sumN v m = sumN w m
  | 0, _ => rfl
  | m + 1, h => by
    unfold sumN
    rw [sumN_congr (fun f hf => h f (by omega)), h m (by omega)]
theorem sumN_un {v : Nat → Nat} {f x : Nat} : ∀ {m : Nat}, f < m → sumN (un v f x) m + v f = sumN v m + x
  | 0, h => by omega
  | m + 1, h => by
    unfold sumN
    by_cases e : f = m
    · subst e
      rw [un_self, sumN_congr (w := v) (fun k hk => un_ne _ _ (by omega))]
      omega
    · rw [un_ne _ _ (fun q => e q.symm)]
      have := sumN_un (v := v) (f := f) (x := x) (m := m) (by omega)
      omega
theorem sumN_le {v : Nat → Nat} {c : Nat} : ∀ {m : Nat}, (∀ f, f < m → v f ≤ c) → sumN v m ≤ m * c
  | 0, _ => by simp [sumN]
  | m + 1, h => by
    unfold sumN
    have h1 := sumN_le (v := v) (c := c) (m := m) (fun f hf => h f (by omega))
    have h2 := h m (by omega)
    rw [Nat.succ_mul]
    omega
/-- how often edge f stands in the log from lo on -/
noncomputable def oc (r : Nat → Int32) (f lo hi : Nat) : Nat := ctp (fun p => lo ≤ p ∧ r p = nI f) hi
theorem oc_succ (r : Nat → Int32) (f lo hi : Nat) : oc r f lo (hi + 1) = oc r f lo hi + zif (lo ≤ hi ∧ r hi = nI f) 1 0 := rfl
theorem oc_congr {r r2 : Nat → Int32} {f lo hi : Nat} (h : ∀ p, lo ≤ p → p < hi → r2 p = r p) : oc r2 f lo hi = oc r f lo hi := ctp_congr (fun p hp => ⟨fun z => ⟨z.1, by rw [← h p z.1 hp]; exact z.2⟩, fun z => ⟨z.1, by rw [h p z.1 hp]; exact z.2⟩⟩)
theorem oc_self (r : Nat → Int32) (f lo : Nat) : oc r f lo lo = 0 := by
  unfold oc
  have : ∀ k, k ≤ lo → ctp (fun p => lo ≤ p ∧ r p = nI f) k = 0 := by
    intro k hk
    induction k with
    | zero => rfl
    | succ k ih =>
      rw [ctp, ih (by omega), zif_neg (fun z => by omega)]
  exact this lo (Nat.le_refl _)
theorem oneS_not {a b : Nat → Nat} {S : Nat → Prop} {f : Nat} (h : oneS a b S f) (h2 : bothS a b S f) : False := h.elim (fun z => z.2 h2.2) (fun z => z.1 h2.1)
section
variable {n m : Nat} {a b s v : Nat → Nat} {e : Nat}
theorem lvc_t_at {i ct cs f : Nat} (hs : s f = 1 ∨ s f = 2) (ht : (s f = 1 → ct ≤ f) ∧ (s f = 2 → cs ≤ f) := by constructor <;> intro <;> omega) : lvc n m a b s v e i ct cs f = i ↔ v f = i := by
  rcases lvc_or (n := n) (m := m) (a := a) (b := b) (s := s) (v := v) (e := e) i ct cs f with ⟨h1, h2⟩ | ⟨h1, h2⟩
  · rw [h1]
    obtain ⟨-, -, -, h3, -⟩ := h2
    rcases h3 with h3 | ⟨h3, h4⟩
    · omega
    · rcases h4 with h4 | h4
      · have := ht.1 h4.1; omega
      · have := ht.2 h4.1; omega
  · rw [h1]
theorem lvc_t_no {i f : Nat} (h : ¬ (s f = 1 ∧ v f = i ∧ bothS a b (Sm n m a b s v e i) f)) : lvc n m a b s v e i (f + 1) 0 = lvc n m a b s v e i f 0 := by
  funext x
  unfold lvc
  apply zif_congr
  unfold rz
  constructor
  · rintro ⟨h1, h2, h3, h4, h5⟩
    refine ⟨h1, h2, h3, ?_, h5⟩
    rcases h4 with h4 | ⟨h4, h6⟩
    · exact Or.inl h4
    · refine Or.inr ⟨h4, ?_⟩
      rcases h6 with ⟨q1, q2⟩ | ⟨q1, q2⟩
      · refine Or.inl ⟨q1, ?_⟩
        rcases Nat.lt_or_ge x f with w | w
        · exact w
        · have e1 : x = f := by omega
          subst e1
          rw [h4] at h5
          exact absurd ⟨q1, h4, h5⟩ h
      · omega
  · rintro ⟨h1, h2, h3, h4, h5⟩
    refine ⟨h1, h2, h3, ?_, h5⟩
    rcases h4 with h4 | ⟨h4, h6⟩
    · exact Or.inl h4
    · refine Or.inr ⟨h4, ?_⟩
      rcases h6 with ⟨q1, q2⟩ | ⟨q1, q2⟩
      · exact Or.inl ⟨q1, by omega⟩
      · omega
theorem lvc_s_no {i f : Nat} (h : ¬ (s f = 2 ∧ v f = i ∧ bothS a b (Sm n m a b s v e i) f)) : lvc n m a b s v e i m (f + 1) = lvc n m a b s v e i m f := by
  funext x
  unfold lvc
  apply zif_congr
  unfold rz
  constructor
  · rintro ⟨h1, h2, h3, h4, h5⟩
    refine ⟨h1, h2, h3, ?_, h5⟩
    rcases h4 with h4 | ⟨h4, h6⟩
    · exact Or.inl h4
    · refine Or.inr ⟨h4, ?_⟩
      rcases h6 with ⟨q1, q2⟩ | ⟨q1, q2⟩
      · exact Or.inl ⟨q1, q2⟩
      · refine Or.inr ⟨q1, ?_⟩
        rcases Nat.lt_or_ge x f with w | w
        · exact w
        · have e1 : x = f := by omega
          subst e1
          rw [h4] at h5
          exact absurd ⟨q1, h4, h5⟩ h
  · rintro ⟨h1, h2, h3, h4, h5⟩
    refine ⟨h1, h2, h3, ?_, h5⟩
    rcases h4 with h4 | ⟨h4, h6⟩
    · exact Or.inl h4
    · refine Or.inr ⟨h4, ?_⟩
      rcases h6 with ⟨q1, q2⟩ | ⟨q1, q2⟩
      · exact Or.inl ⟨q1, q2⟩
      · exact Or.inr ⟨q1, by omega⟩
theorem lvc_up {i ct cs ct2 cs2 f : Nat} (hf : f < m) (hne : f ≠ e) (hi : i ≤ v e) (hv : v f = i) (hb : bothS a b (Sm n m a b s v e i) f) (hc : (s f = 1 ∧ ct = f ∧ ct2 = f + 1 ∧ cs2 = cs) ∨ (s f = 2 ∧ cs = f ∧ cs2 = f + 1 ∧ ct2 = ct)) :
    lvc n m a b s v e i ct2 cs2 = un (lvc n m a b s v e i ct cs) f (lvc n m a b s v e i ct cs f + 1) := by
  have h0 : lvc n m a b s v e i ct cs f = v f := by
    rcases lvc_or (n := n) (m := m) (a := a) (b := b) (s := s) (v := v) (e := e) i ct cs f with ⟨h1, h2⟩ | ⟨h1, h2⟩
    · exfalso
      obtain ⟨-, -, -, h3, -⟩ := h2
      omega
    · exact h1
  rw [h0]
  funext x
  by_cases e1 : x = f
  · rw [e1, un_self]
    unfold lvc
    rw [zif_pos]
    refine ⟨hf, hne, by omega, Or.inr ⟨hv, ?_⟩, by rw [hv]; exact hb⟩
    rcases hc with ⟨q1, q2, q3, q4⟩ | ⟨q1, q2, q3, q4⟩
    · exact Or.inl ⟨q1, by omega⟩
    · exact Or.inr ⟨q1, by omega⟩
  · rw [un_ne _ _ e1]
    unfold lvc
    apply zif_congr
    unfold rz
    constructor
    · rintro ⟨h1, h2, h3, h4, h5⟩
      refine ⟨h1, h2, h3, ?_, h5⟩
      rcases h4 with h4 | ⟨h4, h6⟩
      · exact Or.inl h4
      · refine Or.inr ⟨h4, ?_⟩
        rcases hc with ⟨c1, c2, c3, c4⟩ | ⟨c1, c2, c3, c4⟩ <;> rcases h6 with ⟨q1, q2⟩ | ⟨q1, q2⟩
        · exact Or.inl ⟨q1, by omega⟩
        · exact Or.inr ⟨q1, by omega⟩
        · exact Or.inl ⟨q1, by omega⟩
        · exact Or.inr ⟨q1, by omega⟩
    · rintro ⟨h1, h2, h3, h4, h5⟩
      refine ⟨h1, h2, h3, ?_, h5⟩
      rcases h4 with h4 | ⟨h4, h6⟩
      · exact Or.inl h4
      · refine Or.inr ⟨h4, ?_⟩
        rcases hc with ⟨c1, c2, c3, c4⟩ | ⟨c1, c2, c3, c4⟩ <;> rcases h6 with ⟨q1, q2⟩ | ⟨q1, q2⟩
        · exact Or.inl ⟨q1, by omega⟩
        · exact Or.inr ⟨q1, by omega⟩
        · exact Or.inl ⟨q1, by omega⟩
        · exact Or.inr ⟨q1, by omega⟩
theorem lvc_le (hab : ∀ f, f < m → a f < n ∧ b f < n ∧ a f ≠ b f) (hfo : fo m a b (fun f => s f = 1)) (hL : LvI n m a b s v) (he : e < m) (hs : s e = 1) (i ct cs f : Nat) (hf : f < m) : lvc n m a b s v e i ct cs f ≤ 5 := by
  rcases lvc_or (n := n) (m := m) (a := a) (b := b) (s := s) (v := v) (e := e) i ct cs f with ⟨h1, h2⟩ | ⟨h1, h2⟩
  · obtain ⟨q1, q2, q3, q4, q5⟩ := h2
    rw [h1]
    exact Sm_level hab hfo hL he hs q3 q1 q5
  · rw [h1]; exact hL.2.2 f hf
theorem Sm_e (hfo : fo m a b (fun f => s f = 1)) (he : e < m) (hs : s e = 1) (i : Nat) : ¬ bothS a b (Sm n m a b s v e i) e := by
  rintro ⟨h1, h2⟩
  obtain ⟨x, -, hx⟩ := Sm_part (n := n) (m := m) (a := a) (b := b) (s := s) (v := v) (e := e) i
  rw [hx] at h1 h2
  exact hfo e he hs (cn_sub (cn_trans (cn_symm h1) h2) (fun f _ q => ⟨q.1, q.2.1⟩))
end
/-- the class's memory while an edge e goes: levels risen so far, the log of rises since ρ0; F0, I0: before -/
def lgS (g : zG) (e i ct cs ρ0 : Nat) (F0 : Nat → Int32) (I0 : Nat → Nat → Int32) (F : Nat → Int32) (I : Nat → Nat → Int32) : Prop :=
  ((∃ ρ, F 5 = nI ρ ∧ ρ = sumN (lvc (gn g) (gm g) (ga g) (gb g) (gs g) (gv g) e i ct cs) (gm g) ∧ ρ0 ≤ ρ ∧ (∀ p, ρ0 ≤ p → p < ρ → ∃ f, f < gm g ∧ I 7 p = nI f) ∧ (∀ f, f < gm g → lvc (gn g) (gm g) (ga g) (gb g) (gs g) (gv g) e i ct cs f = gv g f + oc (I 7) f ρ0 ρ) ∧ ∀ p, p < ρ0 → I 7 p = I0 7 p) ∧ F 4 = nI (gm g) ∧ gE (gV g (lvc (gn g) (gm g) (ga g) (gb g) (gs g) (gv g) e i ct cs)) I) ∧ True ∧
  (∀ c, c ≠ 5 → F c = F0 c) ∧ ∀ c, c ≠ 4 → c ≠ 7 → I c = I0 c
section
variable {g : zG} {e i ct cs ρ0 : Nat} {F0 : Nat → Int32} {I0 : Nat → Nat → Int32} {F : Nat → Int32} {I : Nat → Nat → Int32}
theorem gab (hW : gW g) : ∀ f, f < gm g → ga g f < gn g ∧ gb g f < gn g ∧ ga g f ≠ gb g f := fun f hf => ⟨(hW.2.2 f hf).1, (hW.2.2 f hf).2.1, (hW.2.2 f hf).2.2.1⟩
theorem lgS_gW (hW : gW g) (hfo : fo (gm g) (ga g) (gb g) (Tr g)) (hL : gL g) (he : e < gm g) (hse : gs g e = 1) (hi : i ≤ gv g e) (h : lgS g e i ct cs ρ0 F0 I0 F I) : gW (gV g (lvc (gn g) (gm g) (ga g) (gb g) (gs g) (gv g) e i ct cs)) := by
  refine ⟨hW.1, hW.2.1, fun f hf => ?_⟩
  have h1 := hW.2.2 f hf
  have h2 := lvc_le (gab hW) hfo hL he hse i ct cs f hf
  exact ⟨h1.1, h1.2.1, h1.2.2.1, h1.2.2.2.1, by show lvc _ _ _ _ _ _ _ _ _ _ _ < 100; omega⟩
/-- one more rise -/
theorem lgS_raise {ct2 cs2 c : Nat} (hW : gW g) (hfo : fo (gm g) (ga g) (gb g) (Tr g)) (hL : gL g) (he : e < gm g) (hse : gs g e = 1) (hi : i ≤ gv g e) (h : lgS g e i ct cs ρ0 F0 I0 F I) {f : Nat} (hf : f < gm g)
    (hc : (c = 1 ∧ gs g f = 1 ∧ gv g f = i ∧ ct = f ∧ ct2 = f + 1) ∨ (c = 2 ∧ gs g f = 2 ∧ gv g f = i ∧ cs = f ∧ cs2 = f + 1)) (hb : bothS (ga g) (gb g) (gSm g e i) f) :
    F 5 = nI (sumN (lvc (gn g) (gm g) (ga g) (gb g) (gs g) (gv g) e i ct cs) (gm g)) ∧ sumN (lvc (gn g) (gm g) (ga g) (gb g) (gs g) (gv g) e i ct cs) (gm g) < 1500 ∧
    lgS g e i (if c = 1 then ct2 else ct) (if c = 1 then cs else cs2) ρ0 F0 I0 (upd F 5 (nI (sumN (lvc (gn g) (gm g) (ga g) (gb g) (gs g) (gv g) e i ct cs) (gm g) + 1))) (z_ui (z_ui I 7 (sumN (lvc (gn g) (gm g) (ga g) (gb g) (gs g) (gv g) e i ct cs) (gm g)) (nI f)) 4 f (nI (lvc (gn g) (gm g) (ga g) (gb g) (gs g) (gv g) e i ct cs f + 1))) := by
  obtain ⟨⟨⟨ρ, q1, q2, q3, q4, q5, q6⟩, q7, q8⟩, -, q9, q10⟩ := h
  have hm := hW.2.1
  have hne : f ≠ e := fun z => Sm_e hfo he hse i (by rw [z] at hb; exact hb)
  have hvf : gv g f = i := by rcases hc with z | z <;> exact z.2.2.1
  have hup : lvc (gn g) (gm g) (ga g) (gb g) (gs g) (gv g) e i (if c = 1 then ct2 else ct) (if c = 1 then cs else cs2) = un (lvc (gn g) (gm g) (ga g) (gb g) (gs g) (gv g) e i ct cs) f (lvc (gn g) (gm g) (ga g) (gb g) (gs g) (gv g) e i ct cs f + 1) := by
    refine lvc_up hf hne hi hvf hb ?_
    rcases hc with ⟨z1, z2, z3, z4, z5⟩ | ⟨z1, z2, z3, z4, z5⟩
    · exact Or.inl ⟨z2, z4, by rw [if_pos z1]; exact z5, by rw [if_pos z1]⟩
    · exact Or.inr ⟨z2, z4, by rw [if_neg (by omega)]; exact z5, by rw [if_neg (by omega)]⟩
  have hsum : sumN (lvc (gn g) (gm g) (ga g) (gb g) (gs g) (gv g) e i (if c = 1 then ct2 else ct) (if c = 1 then cs else cs2)) (gm g) = ρ + 1 := by
    rw [hup, q2]
    have := sumN_un (v := lvc (gn g) (gm g) (ga g) (gb g) (gs g) (gv g) e i ct cs) (f := f) (x := lvc (gn g) (gm g) (ga g) (gb g) (gs g) (gv g) e i ct cs f + 1) hf
    omega
  have hbd := sumN_le (v := lvc (gn g) (gm g) (ga g) (gb g) (gs g) (gv g) e i (if c = 1 then ct2 else ct) (if c = 1 then cs else cs2)) (c := 5) (m := gm g) (fun x hx => lvc_le (gab hW) hfo hL he hse i _ _ x hx)
  rw [hsum] at hbd
  rw [← q2]
  refine ⟨q1, by omega, ⟨⟨ρ + 1, upd_self _ _ _, hsum.symm, by omega, fun p hp1 hp2 => ?_, fun x hx => ?_, fun p hp => ?_⟩, by rw [upd_ne _ (by decide)]; exact q7, ?_⟩, trivial, fun c' hc' => by rw [upd_ne _ hc']; exact q9 c' hc', fun c' h4 h7 => by rw [ui_ne _ _ h4, ui_ne _ _ h7]; exact q10 c' h4 h7⟩
  · rw [ui_ne _ _ (by decide), ui_self]
    by_cases z : p = ρ
    · rw [z, upd_self]; exact ⟨f, hf, rfl⟩
    · rw [upd_ne _ z]; exact q4 p hp1 (by omega)
  · rw [hup, ui_ne _ _ (by decide), ui_self, oc_succ]
    have hoc : oc (upd (I 7) ρ (nI f)) x ρ0 ρ = oc (I 7) x ρ0 ρ := oc_congr (fun p _ hp => upd_ne _ (by omega))
    rw [hoc, upd_self]
    by_cases z : x = f
    · rw [z, un_self, zif_pos ⟨q3, rfl⟩, q5 f hf]; omega
    · rw [un_ne _ _ z, zif_neg (fun z2 => z (by have := z2.2; rw [nEq (by omega) (by omega)] at this; exact this.symm)), q5 x hx]; rfl
  · rw [ui_ne _ _ (by decide), ui_self, upd_ne _ (by omega)]; exact q6 p hp
  · rw [hup]
    intro x hx
    obtain ⟨g1, g2, g3, g4⟩ := q8 x hx
    refine ⟨?_, ?_, ?_, ?_⟩
    · rw [ui_ne _ _ (by decide), ui_ne _ _ (by decide)]; exact g1
    · rw [ui_ne _ _ (by decide), ui_ne _ _ (by decide)]; exact g2
    · rw [ui_ne _ _ (by decide), ui_ne _ _ (by decide)]; exact g3
    · rw [ui_self, ui_ne _ _ (by decide)]
      show _ = nI (un _ f _ x)
      by_cases z : x = f
      · rw [z, upd_self, un_self]
      · rw [upd_ne _ z, un_ne _ _ z]; exact g4
end
section
variable {g : zG} {e : Nat}
theorem c_endsOf_a {P : Int32 → zM → Prop} {F : Nat → Int32} {I : Nat → Nat → Int32} {J : Nat → Nat → Int64} {S : Nat → Prop} (hW : gW g) (hE : ∀ f, f < gm g → I 1 f = nI (ga g f) ∧ I 2 f = nI (gb g f)) (hS : rowS g S 11 I) {f : Nat} (hf : f < gm g)
    (h2 : bothS (ga g) (gb g) S f → P 2 (F, I, J)) (h1 : oneS (ga g) (gb g) S f → P 1 (F, I, J)) (h0 : ¬ S (ga g f) → ¬ S (gb g f) → P 0 (F, I, J)) : AMi m_X1_endsOf [.ref 12, .ref 3, .int (nI f)] (F, I, J) P := by
  have hn := hW.1
  have hm := hW.2.1
  have hw := hW.2.2 f hf
  refine r_X1_endsOf_a_0 _ F I J ?_
  have b1 : vp_in (nI f) 300 := nIn (by omega) (by omega)
  have b2 : vp_in (nI (ga g f)) 100 := nIn (by omega) (by omega)
  have b3 : vp_in (nI (gb g f)) 100 := nIn (by omega) (by omega)
  rw [zN (show f < 2147483648 by omega), (hE f hf).1, (hE f hf).2, zN (show ga g f < 2147483648 by omega), zN (show gb g f < 2147483648 by omega)]
  refine ⟨b1, b2, fun z => ⟨b1, b3, fun z2 => ?_, fun z2 => ?_⟩, fun z => ⟨b1, b3, fun z2 => ?_, fun z2 => ?_⟩⟩
  · exact h0 (fun q => by rw [(hS _ hw.1).1 q] at z; exact absurd z (by decide)) (fun q => by rw [(hS _ hw.2.1).1 q] at z2; exact absurd z2 (by decide))
  · exact h1 (Or.inr ⟨fun q => by rw [(hS _ hw.1).1 q] at z; exact absurd z (by decide), Classical.byContradiction fun q => z2 ((hS _ hw.2.1).2 q)⟩)
  · exact h1 (Or.inl ⟨Classical.byContradiction fun q => z ((hS _ hw.1).2 q), fun q => by rw [(hS _ hw.2.1).1 q] at z2; exact absurd z2 (by decide)⟩)
  · exact h2 ⟨Classical.byContradiction fun q => z ((hS _ hw.1).2 q), Classical.byContradiction fun q => z2 ((hS _ hw.2.1).2 q)⟩
theorem c_raiseTrees_a {P : zM → Prop} {F0 : Nat → Int32} {I0 : Nat → Nat → Int32} {J : Nat → Nat → Int64} (hW : gW g) (hfo : fo (gm g) (ga g) (gb g) (Tr g)) (hL : gL g) (he : e < gm g) (hse : gs g e = 1) {i : Nat} (hi : i ≤ gv g e) (hS : rowS g (gSm g e i) 11 I0) {ρ0 : Nat}
    (hP : ∀ F I, lgS g e i (gm g) 0 ρ0 F0 I0 F I → P (F, I, J)) : (lgS g e i 0 0 ρ0 F0 I0 F0 I0) → AMv m_X6_raiseTrees [.ref 0, .ref 12, .int (nI i)] (F0, I0, J) P := by
  intro hst
  have hn := hW.1
  have hm := hW.2.1
  have hi5 := hL.2.2 e he
  refine r_X6_raiseTrees_a_0 _ F0 I0 J ?_
  have lp : ∀ d f F I, f + d = gm g → lgS g e i f 0 ρ0 F0 I0 F I → AW m_X6_raiseTrees (z_pv P) 2 [some (.ref 0), some (.ref 12), some (.int (nI i)), some (.int (nI f))] [] (F, I, J) := by
    intro d
    induction d with
    | zero =>
      intro f F I hd h
      refine r_X6_raiseTrees_a_2 _ _ F I J ?_
      rw [h.1.2.1, nLe (by omega) (by omega)]
      have e1 : f = gm g := by omega
      subst e1
      exact ⟨fun _ => hP F I h, fun z => absurd (Nat.le_refl _) z⟩
    | succ d ih =>
      intro f F I hd h
      have hf : f < gm g := by omega
      have hw := hW.2.2 f hf
      refine r_X6_raiseTrees_a_2 _ _ F I J ?_
      rw [h.1.2.1, nLe (by omega) (by omega), nI_1]
      refine ⟨fun z => absurd z (by omega), fun _ => ?_⟩
      have nxt : ¬ (gs g f = 1 ∧ gv g f = i ∧ bothS (ga g) (gb g) (gSm g e i) f) → AW m_X6_raiseTrees (z_pv P) 2 [some (.ref 0), some (.ref 12), some (.int (nI i)), some (.int (nI (f + 1)))] [] (F, I, J) := fun hno => ih (f + 1) F I (by omega) (by unfold lgS at h ⊢; rw [lvc_t_no hno]; exact h)
      rw [n1]
      refine c_isAt (lgS_gW hW hfo hL he hse hi h) h.1.2.2 hf (by omega) (by omega) (fun q1 q2 => ?_) (fun q => ?_)
      · have q1' : gs g f = 1 := q1
        have q2' : gv g f = i := (lvc_t_at (Or.inl q1')).mp q2
        refine ⟨fun z => absurd z (by decide), fun _ => ?_⟩
        refine c_endsOf_a (g := g) hW (fun x hx => ⟨(h.1.2.2 x hx).1, (h.1.2.2 x hx).2.1⟩) (fun k hk => by rw [h.2.2.2 11 (by decide) (by decide)]; exact hS k hk) hf (fun q => ?_) (fun q => ?_) (fun qa qb => ?_)
        · refine ⟨fun z => absurd rfl z, fun _ => ?_⟩
          have hr := lgS_raise hW hfo hL he hse hi h (c := 1) (cs2 := 0) hf (Or.inl ⟨rfl, q1', q2', rfl, rfl⟩) q
          refine r_X0_raise_0 _ F I J ?_
          rw [hr.1, n1500, nLe (by omega) (by omega), zN (by omega), zN (by omega), show I 4 f = nI (lvc (gn g) (gm g) (ga g) (gb g) (gs g) (gv g) e i f 0 f) from (h.1.2.2 f hf).2.2.2, nI_1, nI_1]
          have b1 : vp_in (nI f) 300 := nIn (by omega) (by omega)
          exact ⟨fun z => absurd z (by omega), fun _ => ⟨nIn hr.2.1 (by omega), b1, b1, ih (f + 1) _ _ (by omega) (by
            have := hr.2.2
            exact this)⟩⟩
        · exact ⟨fun _ => nxt (fun z => oneS_not q z.2.2), fun z => absurd z (by decide)⟩
        · exact ⟨fun _ => nxt (fun z => qa z.2.2.1), fun z => absurd z (by decide)⟩
      · exact ⟨fun _ => nxt (fun z => q ⟨z.1, (lvc_t_at (Or.inl z.1)).mpr z.2.1⟩), fun z => absurd rfl z⟩
  exact lp (gm g) 0 F0 I0 (by omega) hst
theorem c_findHeirAt_a {P : Int32 → zM → Prop} {F0 : Nat → Int32} {I0 : Nat → Nat → Int32} {J : Nat → Nat → Int64} (hW : gW g) (hfo : fo (gm g) (ga g) (gb g) (Tr g)) (hL : gL g) (he : e < gm g) (hse : gs g e = 1) {i : Nat} (hi : i ≤ gv g e) (hS : rowS g (gSm g e i) 11 I0) {ρ0 : Nat} {FI : (Nat → Int32) × (Nat → Nat → Int32)} (hfr : FI.2 11 = I0 11)
    (hno : ∀ F I, lgS g e i (gm g) (gm g) ρ0 F0 I0 F I → (∀ x, x < gm g → ¬ gCand g e i x) → P (-1) (F, I, J))
    (hyes : ∀ h F I, lgS g e i (gm g) h ρ0 F0 I0 F I → h < gm g → gCand g e i h → (∀ x, x < h → ¬ gCand g e i x) → P (nI h) (F, I, J)) :
    lgS g e i (gm g) 0 ρ0 F0 I0 FI.1 FI.2 → AMi m_X6_findHeirAt [.ref 0, .ref 12, .int (nI i), .int 1] (FI.1, FI.2, J) P := by
  intro hst
  have hn := hW.1
  have hm := hW.2.1
  have hi5 := hL.2.2 e he
  refine r_X6_findHeirAt_a_0 _ _ FI.1 FI.2 J ?_
  have lp : ∀ d f F I, f + d = gm g → lgS g e i (gm g) f ρ0 F0 I0 F I → (∀ x, x < f → ¬ gCand g e i x) → AW m_X6_findHeirAt (z_pi P) 3 [some (.ref 0), some (.ref 12), some (.int (nI i)), some (.int 1), some (.int (nI f)), none] [] (F, I, J) := by
    intro d
    induction d with
    | zero =>
      intro f F I hd h hc
      refine r_X6_findHeirAt_a_3 _ _ _ F I J ?_
      rw [h.1.2.1, nLe (by omega) (by omega)]
      have e1 : f = gm g := by omega
      subst e1
      exact ⟨fun _ => hno F I h hc, fun z => absurd (Nat.le_refl _) z⟩
    | succ d ih =>
      intro f F I hd h hc
      have hf : f < gm g := by omega
      have hw := hW.2.2 f hf
      refine r_X6_findHeirAt_a_3 _ _ _ F I J ?_
      rw [h.1.2.1, nLe (by omega) (by omega), nI_1]
      refine ⟨fun z => absurd z (by omega), fun _ => ?_⟩
      have cx : ¬ gCand g e i f → ∀ x, x < f + 1 → ¬ gCand g e i x := fun q x hx => by
        rcases Nat.lt_or_ge x f with w | w
        · exact hc x w
        · rw [show x = f by omega]; exact q
      have nxt : ¬ gCand g e i f → ¬ (gs g f = 2 ∧ gv g f = i ∧ bothS (ga g) (gb g) (gSm g e i) f) → AW m_X6_findHeirAt (z_pi P) 3 [some (.ref 0), some (.ref 12), some (.int (nI i)), some (.int 1), some (.int (nI (f + 1))), none] [] (F, I, J) := fun hq hno => ih (f + 1) F I (by omega) (by unfold lgS at h ⊢; rw [lvc_s_no hno]; exact h) (cx hq)
      rw [n2]
      refine c_isAt (lgS_gW hW hfo hL he hse hi h) h.1.2.2 hf (by omega) (by omega) (fun q1 q2 => ?_) (fun q => ?_)
      · have q1' : gs g f = 2 := q1
        have q2' : gv g f = i := (lvc_t_at (Or.inr q1')).mp q2
        refine ⟨fun _ => ?_, fun z => absurd z (by decide)⟩
        refine c_endsOf_a (g := g) hW (fun x hx => ⟨(h.1.2.2 x hx).1, (h.1.2.2 x hx).2.1⟩) (fun k hk => by rw [h.2.2.2 11 (by decide) (by decide)]; exact hS k hk) hf (fun q => ?_) (fun q => ?_) (fun qa qb => ?_)
        · refine ⟨fun _ => ⟨fun z => absurd rfl z, fun _ => ⟨fun z => absurd z (by decide), fun _ => ?_⟩⟩, fun z => absurd z (by decide)⟩
          have hr := lgS_raise hW hfo hL he hse hi h (c := 2) (ct2 := 0) hf (Or.inr ⟨rfl, q1', q2', rfl, rfl⟩) q
          refine r_X0_raise_0 _ F I J ?_
          rw [hr.1, n1500, nLe (by omega) (by omega), zN (by omega), zN (by omega), show I 4 f = nI (lvc (gn g) (gm g) (ga g) (gb g) (gs g) (gv g) e i (gm g) f f) from (h.1.2.2 f hf).2.2.2, nI_1, nI_1]
          have b1 : vp_in (nI f) 300 := nIn (by omega) (by omega)
          exact ⟨fun z => absurd z (by omega), fun _ => ⟨nIn hr.2.1 (by omega), b1, b1, ih (f + 1) _ _ (by omega) hr.2.2 (cx (fun z => oneS_not z.2.2 q))⟩⟩
        · exact ⟨fun z => absurd rfl z, fun _ => hyes f F I h hf ⟨q1', q2', q⟩ hc⟩
        · exact ⟨fun _ => ⟨fun _ => nxt (fun z => z.2.2.elim (fun w => qa w.1) (fun w => qb w.2)) (fun z => qa z.2.2.1), fun z => absurd z (by decide)⟩, fun z => absurd z (by decide)⟩
      · exact ⟨fun z => absurd rfl z, fun _ => nxt (fun z => have z1 : gs g f = 2 := z.1; q ⟨z1, (lvc_t_at (Or.inr z1)).mpr z.2.1⟩) (fun z => have z1 : gs g f = 2 := z.1; q ⟨z1, (lvc_t_at (Or.inr z1)).mpr z.2.1⟩)⟩
  exact lp (gm g) 0 FI.1 FI.2 (by omega) hst (fun x hx => by omega)
/-- the same, only asking -/
theorem c_askHeirAt_a {P : Int32 → zM → Prop} {F : Nat → Int32} {I : Nat → Nat → Int32} {J : Nat → Nat → Int64} (hW : gW g) (hE : gE g I) (hF : F 4 = nI (gm g)) {i : Nat} (hi : i < 100) (hS : rowS g (gSm g e i) 11 I)
    (hno : (∀ x, x < gm g → ¬ gCand g e i x) → P (-1) (F, I, J)) (hyes : ∀ h, h < gm g → gCand g e i h → (∀ x, x < h → ¬ gCand g e i x) → P (nI h) (F, I, J)) : AMi m_X6_findHeirAt [.ref 0, .ref 12, .int (nI i), .int 0] (F, I, J) P := by
  have hn := hW.1
  have hm := hW.2.1
  refine r_X6_findHeirAt_a_0 _ _ F I J ?_
  have lp : ∀ d f, f + d = gm g → (∀ x, x < f → ¬ gCand g e i x) → AW m_X6_findHeirAt (z_pi P) 3 [some (.ref 0), some (.ref 12), some (.int (nI i)), some (.int 0), some (.int (nI f)), none] [] (F, I, J) := by
    intro d
    induction d with
    | zero =>
      intro f hd hc
      refine r_X6_findHeirAt_a_3 _ _ _ F I J ?_
      rw [hF, nLe (by omega) (by omega)]
      have e1 : f = gm g := by omega
      subst e1
      exact ⟨fun _ => hno hc, fun z => absurd (Nat.le_refl _) z⟩
    | succ d ih =>
      intro f hd hc
      have hf : f < gm g := by omega
      have hw := hW.2.2 f hf
      refine r_X6_findHeirAt_a_3 _ _ _ F I J ?_
      rw [hF, nLe (by omega) (by omega), nI_1]
      refine ⟨fun z => absurd z (by omega), fun _ => ?_⟩
      have nxt : ¬ gCand g e i f → AW m_X6_findHeirAt (z_pi P) 3 [some (.ref 0), some (.ref 12), some (.int (nI i)), some (.int 0), some (.int (nI (f + 1))), none] [] (F, I, J) := fun q => ih (f + 1) (by omega) (fun x hx => by
        rcases Nat.lt_or_ge x f with w | w
        · exact hc x w
        · rw [show x = f by omega]; exact q)
      rw [n2]
      refine c_isAt hW hE hf (by omega) (by omega) (fun q1 q2 => ?_) (fun q => ?_)
      · refine ⟨fun _ => ?_, fun z => absurd z (by decide)⟩
        refine c_endsOf_a (g := g) hW (fun x hx => ⟨(hE x hx).1, (hE x hx).2.1⟩) hS hf (fun q => ?_) (fun q => ?_) (fun qa qb => ?_)
        · exact ⟨fun _ => ⟨fun z => absurd rfl z, fun _ => ⟨fun _ => nxt (fun z => oneS_not z.2.2 q), fun z => absurd rfl z⟩⟩, fun z => absurd z (by decide)⟩
        · exact ⟨fun z => absurd rfl z, fun _ => hyes f hf ⟨q1, q2, q⟩ hc⟩
        · exact ⟨fun _ => ⟨fun _ => nxt (fun z => z.2.2.elim (fun w => qa w.1) (fun w => qb w.2)), fun z => absurd z (by decide)⟩, fun z => absurd z (by decide)⟩
      · exact ⟨fun z => absurd rfl z, fun _ => nxt (fun z => q ⟨z.1, z.2.1⟩)⟩
  exact lp (gm g) 0 (by omega) (fun x hx => by omega)
end
section
variable {g : zG} {e : Nat}
theorem c_endsOf_b {P : Int32 → zM → Prop} {F : Nat → Int32} {I : Nat → Nat → Int32} {J : Nat → Nat → Int64} {S : Nat → Prop} (hW : gW g) (hE : ∀ f, f < gm g → I 1 f = nI (ga g f) ∧ I 2 f = nI (gb g f)) (hS : rowS g S 15 I) {f : Nat} (hf : f < gm g)
    (h2 : bothS (ga g) (gb g) S f → P 2 (F, I, J)) (h1 : oneS (ga g) (gb g) S f → P 1 (F, I, J)) (h0 : ¬ S (ga g f) → ¬ S (gb g f) → P 0 (F, I, J)) : AMi m_X1_endsOf [.ref 17, .ref 3, .int (nI f)] (F, I, J) P := by
  have hn := hW.1
  have hm := hW.2.1
  have hw := hW.2.2 f hf
  refine r_X1_endsOf_b_0 _ F I J ?_
  have b1 : vp_in (nI f) 300 := nIn (by omega) (by omega)
  have b2 : vp_in (nI (ga g f)) 100 := nIn (by omega) (by omega)
  have b3 : vp_in (nI (gb g f)) 100 := nIn (by omega) (by omega)
  rw [zN (show f < 2147483648 by omega), (hE f hf).1, (hE f hf).2, zN (show ga g f < 2147483648 by omega), zN (show gb g f < 2147483648 by omega)]
  refine ⟨b1, b2, fun z => ⟨b1, b3, fun z2 => ?_, fun z2 => ?_⟩, fun z => ⟨b1, b3, fun z2 => ?_, fun z2 => ?_⟩⟩
  · exact h0 (fun q => by rw [(hS _ hw.1).1 q] at z; exact absurd z (by decide)) (fun q => by rw [(hS _ hw.2.1).1 q] at z2; exact absurd z2 (by decide))
  · exact h1 (Or.inr ⟨fun q => by rw [(hS _ hw.1).1 q] at z; exact absurd z (by decide), Classical.byContradiction fun q => z2 ((hS _ hw.2.1).2 q)⟩)
  · exact h1 (Or.inl ⟨Classical.byContradiction fun q => z ((hS _ hw.1).2 q), fun q => by rw [(hS _ hw.2.1).1 q] at z2; exact absurd z2 (by decide)⟩)
  · exact h2 ⟨Classical.byContradiction fun q => z ((hS _ hw.1).2 q), Classical.byContradiction fun q => z2 ((hS _ hw.2.1).2 q)⟩
theorem c_raiseTrees_b {P : zM → Prop} {F0 : Nat → Int32} {I0 : Nat → Nat → Int32} {J : Nat → Nat → Int64} (hW : gW g) (hfo : fo (gm g) (ga g) (gb g) (Tr g)) (hL : gL g) (he : e < gm g) (hse : gs g e = 1) {i : Nat} (hi : i ≤ gv g e) (hS : rowS g (gSm g e i) 15 I0) {ρ0 : Nat}
    (hP : ∀ F I, lgS g e i (gm g) 0 ρ0 F0 I0 F I → P (F, I, J)) : (lgS g e i 0 0 ρ0 F0 I0 F0 I0) → AMv m_X6_raiseTrees [.ref 0, .ref 17, .int (nI i)] (F0, I0, J) P := by
  intro hst
  have hn := hW.1
  have hm := hW.2.1
  have hi5 := hL.2.2 e he
  refine r_X6_raiseTrees_b_0 _ F0 I0 J ?_
  have lp : ∀ d f F I, f + d = gm g → lgS g e i f 0 ρ0 F0 I0 F I → AW m_X6_raiseTrees (z_pv P) 2 [some (.ref 0), some (.ref 17), some (.int (nI i)), some (.int (nI f))] [] (F, I, J) := by
    intro d
    induction d with
    | zero =>
      intro f F I hd h
      refine r_X6_raiseTrees_b_2 _ _ F I J ?_
      rw [h.1.2.1, nLe (by omega) (by omega)]
      have e1 : f = gm g := by omega
      subst e1
      exact ⟨fun _ => hP F I h, fun z => absurd (Nat.le_refl _) z⟩
    | succ d ih =>
      intro f F I hd h
      have hf : f < gm g := by omega
      have hw := hW.2.2 f hf
      refine r_X6_raiseTrees_b_2 _ _ F I J ?_
      rw [h.1.2.1, nLe (by omega) (by omega), nI_1]
      refine ⟨fun z => absurd z (by omega), fun _ => ?_⟩
      have nxt : ¬ (gs g f = 1 ∧ gv g f = i ∧ bothS (ga g) (gb g) (gSm g e i) f) → AW m_X6_raiseTrees (z_pv P) 2 [some (.ref 0), some (.ref 17), some (.int (nI i)), some (.int (nI (f + 1)))] [] (F, I, J) := fun hno => ih (f + 1) F I (by omega) (by unfold lgS at h ⊢; rw [lvc_t_no hno]; exact h)
      rw [n1]
      refine c_isAt (lgS_gW hW hfo hL he hse hi h) h.1.2.2 hf (by omega) (by omega) (fun q1 q2 => ?_) (fun q => ?_)
      · have q1' : gs g f = 1 := q1
        have q2' : gv g f = i := (lvc_t_at (Or.inl q1')).mp q2
        refine ⟨fun z => absurd z (by decide), fun _ => ?_⟩
        refine c_endsOf_b (g := g) hW (fun x hx => ⟨(h.1.2.2 x hx).1, (h.1.2.2 x hx).2.1⟩) (fun k hk => by rw [h.2.2.2 15 (by decide) (by decide)]; exact hS k hk) hf (fun q => ?_) (fun q => ?_) (fun qa qb => ?_)
        · refine ⟨fun z => absurd rfl z, fun _ => ?_⟩
          have hr := lgS_raise hW hfo hL he hse hi h (c := 1) (cs2 := 0) hf (Or.inl ⟨rfl, q1', q2', rfl, rfl⟩) q
          refine r_X0_raise_0 _ F I J ?_
          rw [hr.1, n1500, nLe (by omega) (by omega), zN (by omega), zN (by omega), show I 4 f = nI (lvc (gn g) (gm g) (ga g) (gb g) (gs g) (gv g) e i f 0 f) from (h.1.2.2 f hf).2.2.2, nI_1, nI_1]
          have b1 : vp_in (nI f) 300 := nIn (by omega) (by omega)
          exact ⟨fun z => absurd z (by omega), fun _ => ⟨nIn hr.2.1 (by omega), b1, b1, ih (f + 1) _ _ (by omega) (by
            have := hr.2.2
            exact this)⟩⟩
        · exact ⟨fun _ => nxt (fun z => oneS_not q z.2.2), fun z => absurd z (by decide)⟩
        · exact ⟨fun _ => nxt (fun z => qa z.2.2.1), fun z => absurd z (by decide)⟩
      · exact ⟨fun _ => nxt (fun z => q ⟨z.1, (lvc_t_at (Or.inl z.1)).mpr z.2.1⟩), fun z => absurd rfl z⟩
  exact lp (gm g) 0 F0 I0 (by omega) hst
theorem c_findHeirAt_b {P : Int32 → zM → Prop} {F0 : Nat → Int32} {I0 : Nat → Nat → Int32} {J : Nat → Nat → Int64} (hW : gW g) (hfo : fo (gm g) (ga g) (gb g) (Tr g)) (hL : gL g) (he : e < gm g) (hse : gs g e = 1) {i : Nat} (hi : i ≤ gv g e) (hS : rowS g (gSm g e i) 15 I0) {ρ0 : Nat} {FI : (Nat → Int32) × (Nat → Nat → Int32)} (hfr : FI.2 15 = I0 15)
    (hno : ∀ F I, lgS g e i (gm g) (gm g) ρ0 F0 I0 F I → (∀ x, x < gm g → ¬ gCand g e i x) → P (-1) (F, I, J))
    (hyes : ∀ h F I, lgS g e i (gm g) h ρ0 F0 I0 F I → h < gm g → gCand g e i h → (∀ x, x < h → ¬ gCand g e i x) → P (nI h) (F, I, J)) :
    lgS g e i (gm g) 0 ρ0 F0 I0 FI.1 FI.2 → AMi m_X6_findHeirAt [.ref 0, .ref 17, .int (nI i), .int 1] (FI.1, FI.2, J) P := by
  intro hst
  have hn := hW.1
  have hm := hW.2.1
  have hi5 := hL.2.2 e he
  refine r_X6_findHeirAt_b_0 _ _ FI.1 FI.2 J ?_
  have lp : ∀ d f F I, f + d = gm g → lgS g e i (gm g) f ρ0 F0 I0 F I → (∀ x, x < f → ¬ gCand g e i x) → AW m_X6_findHeirAt (z_pi P) 3 [some (.ref 0), some (.ref 17), some (.int (nI i)), some (.int 1), some (.int (nI f)), none] [] (F, I, J) := by
    intro d
    induction d with
    | zero =>
      intro f F I hd h hc
      refine r_X6_findHeirAt_b_3 _ _ _ F I J ?_
      rw [h.1.2.1, nLe (by omega) (by omega)]
      have e1 : f = gm g := by omega
      subst e1
      exact ⟨fun _ => hno F I h hc, fun z => absurd (Nat.le_refl _) z⟩
    | succ d ih =>
      intro f F I hd h hc
      have hf : f < gm g := by omega
      have hw := hW.2.2 f hf
      refine r_X6_findHeirAt_b_3 _ _ _ F I J ?_
      rw [h.1.2.1, nLe (by omega) (by omega), nI_1]
      refine ⟨fun z => absurd z (by omega), fun _ => ?_⟩
      have cx : ¬ gCand g e i f → ∀ x, x < f + 1 → ¬ gCand g e i x := fun q x hx => by
        rcases Nat.lt_or_ge x f with w | w
        · exact hc x w
        · rw [show x = f by omega]; exact q
      have nxt : ¬ gCand g e i f → ¬ (gs g f = 2 ∧ gv g f = i ∧ bothS (ga g) (gb g) (gSm g e i) f) → AW m_X6_findHeirAt (z_pi P) 3 [some (.ref 0), some (.ref 17), some (.int (nI i)), some (.int 1), some (.int (nI (f + 1))), none] [] (F, I, J) := fun hq hno => ih (f + 1) F I (by omega) (by unfold lgS at h ⊢; rw [lvc_s_no hno]; exact h) (cx hq)
      rw [n2]
      refine c_isAt (lgS_gW hW hfo hL he hse hi h) h.1.2.2 hf (by omega) (by omega) (fun q1 q2 => ?_) (fun q => ?_)
      · have q1' : gs g f = 2 := q1
        have q2' : gv g f = i := (lvc_t_at (Or.inr q1')).mp q2
        refine ⟨fun _ => ?_, fun z => absurd z (by decide)⟩
        refine c_endsOf_b (g := g) hW (fun x hx => ⟨(h.1.2.2 x hx).1, (h.1.2.2 x hx).2.1⟩) (fun k hk => by rw [h.2.2.2 15 (by decide) (by decide)]; exact hS k hk) hf (fun q => ?_) (fun q => ?_) (fun qa qb => ?_)
        · refine ⟨fun _ => ⟨fun z => absurd rfl z, fun _ => ⟨fun z => absurd z (by decide), fun _ => ?_⟩⟩, fun z => absurd z (by decide)⟩
          have hr := lgS_raise hW hfo hL he hse hi h (c := 2) (ct2 := 0) hf (Or.inr ⟨rfl, q1', q2', rfl, rfl⟩) q
          refine r_X0_raise_0 _ F I J ?_
          rw [hr.1, n1500, nLe (by omega) (by omega), zN (by omega), zN (by omega), show I 4 f = nI (lvc (gn g) (gm g) (ga g) (gb g) (gs g) (gv g) e i (gm g) f f) from (h.1.2.2 f hf).2.2.2, nI_1, nI_1]
          have b1 : vp_in (nI f) 300 := nIn (by omega) (by omega)
          exact ⟨fun z => absurd z (by omega), fun _ => ⟨nIn hr.2.1 (by omega), b1, b1, ih (f + 1) _ _ (by omega) hr.2.2 (cx (fun z => oneS_not z.2.2 q))⟩⟩
        · exact ⟨fun z => absurd rfl z, fun _ => hyes f F I h hf ⟨q1', q2', q⟩ hc⟩
        · exact ⟨fun _ => ⟨fun _ => nxt (fun z => z.2.2.elim (fun w => qa w.1) (fun w => qb w.2)) (fun z => qa z.2.2.1), fun z => absurd z (by decide)⟩, fun z => absurd z (by decide)⟩
      · exact ⟨fun z => absurd rfl z, fun _ => nxt (fun z => have z1 : gs g f = 2 := z.1; q ⟨z1, (lvc_t_at (Or.inr z1)).mpr z.2.1⟩) (fun z => have z1 : gs g f = 2 := z.1; q ⟨z1, (lvc_t_at (Or.inr z1)).mpr z.2.1⟩)⟩
  exact lp (gm g) 0 FI.1 FI.2 (by omega) hst (fun x hx => by omega)
/-- the same, only asking -/
theorem c_askHeirAt_b {P : Int32 → zM → Prop} {F : Nat → Int32} {I : Nat → Nat → Int32} {J : Nat → Nat → Int64} (hW : gW g) (hE : gE g I) (hF : F 4 = nI (gm g)) {i : Nat} (hi : i < 100) (hS : rowS g (gSm g e i) 15 I)
    (hno : (∀ x, x < gm g → ¬ gCand g e i x) → P (-1) (F, I, J)) (hyes : ∀ h, h < gm g → gCand g e i h → (∀ x, x < h → ¬ gCand g e i x) → P (nI h) (F, I, J)) : AMi m_X6_findHeirAt [.ref 0, .ref 17, .int (nI i), .int 0] (F, I, J) P := by
  have hn := hW.1
  have hm := hW.2.1
  refine r_X6_findHeirAt_b_0 _ _ F I J ?_
  have lp : ∀ d f, f + d = gm g → (∀ x, x < f → ¬ gCand g e i x) → AW m_X6_findHeirAt (z_pi P) 3 [some (.ref 0), some (.ref 17), some (.int (nI i)), some (.int 0), some (.int (nI f)), none] [] (F, I, J) := by
    intro d
    induction d with
    | zero =>
      intro f hd hc
      refine r_X6_findHeirAt_b_3 _ _ _ F I J ?_
      rw [hF, nLe (by omega) (by omega)]
      have e1 : f = gm g := by omega
      subst e1
      exact ⟨fun _ => hno hc, fun z => absurd (Nat.le_refl _) z⟩
    | succ d ih =>
      intro f hd hc
      have hf : f < gm g := by omega
      have hw := hW.2.2 f hf
      refine r_X6_findHeirAt_b_3 _ _ _ F I J ?_
      rw [hF, nLe (by omega) (by omega), nI_1]
      refine ⟨fun z => absurd z (by omega), fun _ => ?_⟩
      have nxt : ¬ gCand g e i f → AW m_X6_findHeirAt (z_pi P) 3 [some (.ref 0), some (.ref 17), some (.int (nI i)), some (.int 0), some (.int (nI (f + 1))), none] [] (F, I, J) := fun q => ih (f + 1) (by omega) (fun x hx => by
        rcases Nat.lt_or_ge x f with w | w
        · exact hc x w
        · rw [show x = f by omega]; exact q)
      rw [n2]
      refine c_isAt hW hE hf (by omega) (by omega) (fun q1 q2 => ?_) (fun q => ?_)
      · refine ⟨fun _ => ?_, fun z => absurd z (by decide)⟩
        refine c_endsOf_b (g := g) hW (fun x hx => ⟨(hE x hx).1, (hE x hx).2.1⟩) hS hf (fun q => ?_) (fun q => ?_) (fun qa qb => ?_)
        · exact ⟨fun _ => ⟨fun z => absurd rfl z, fun _ => ⟨fun _ => nxt (fun z => oneS_not z.2.2 q), fun z => absurd rfl z⟩⟩, fun z => absurd z (by decide)⟩
        · exact ⟨fun z => absurd rfl z, fun _ => hyes f hf ⟨q1, q2, q⟩ hc⟩
        · exact ⟨fun _ => ⟨fun _ => nxt (fun z => z.2.2.elim (fun w => qa w.1) (fun w => qb w.2)), fun z => absurd z (by decide)⟩, fun z => absurd z (by decide)⟩
      · exact ⟨fun z => absurd rfl z, fun _ => nxt (fun z => q ⟨z.1, z.2.1⟩)⟩
  exact lp (gm g) 0 (by omega) (fun x hx => by omega)
end
