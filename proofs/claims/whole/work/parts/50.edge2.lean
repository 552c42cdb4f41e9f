/-! what an edge that comes does to the kept state -/
def gA2 (g : zG) (a b : Nat) (s2 : Nat → Nat) : zG := (gn g, gm g + 1, un (ga g) (gm g) a, un (gb g) (gm g) b, s2, un (gv g) (gm g) 0)
def eNew (g : zG) (w : Nat → Int64) (kd a b : Nat) (o : Option Nat) (s2 : Nat → Nat) : Prop :=
  (¬ cn (gm g) (ga g) (gb g) (Tr g) a b ∧ o = none ∧ s2 = un (gs g) (gm g) 1) ∨
  (cn (gm g) (ga g) (gb g) (Tr g) a b ∧ kd = 1 ∧ o = none ∧ s2 = un (gs g) (gm g) 2) ∨
  (cn (gm g) (ga g) (gb g) (Tr g) a b ∧ kd = 2 ∧ ∃ l K S d, isW (gm g) (ga g) (gb g) (Tr g) a b l K S ∧ hvs w S l = some d ∧ ((hv w d (gm g) ∧ o = some d ∧ s2 = un (un (gs g) d 2) (gm g) 1) ∨ (¬ hv w d (gm g) ∧ o = none ∧ s2 = un (gs g) (gm g) 2)))
section
variable {g : zG} {w w2 : Nat → Int64} {kd a b : Nat} {o o2 : Option Nat} {s2 s3 : Nat → Nat}
theorem eNew_one (hfo : fo (gm g) (ga g) (gb g) (Tr g)) (hw : ∀ e, e < gm g + 1 → w2 e = w e) (h : eNew g w kd a b o s2) (h2 : eNew g w2 kd a b o2 s3) : o2 = o ∧ s3 = s2 := by
  rcases h with ⟨x1, x2, x3⟩ | ⟨x1, x2, x3, x4⟩ | ⟨x1, x2, l, K, S, d, x3, x4, x5⟩
  · rcases h2 with ⟨y1, y2, y3⟩ | ⟨y1, y2, y3, y4⟩ | ⟨y1, y2, y3⟩
    · exact ⟨by rw [x2, y2], by rw [x3, y3]⟩
    · exact absurd y1 x1
    · exact absurd y1 x1
  · rcases h2 with ⟨y1, y2, y3⟩ | ⟨y1, y2, y3, y4⟩ | ⟨y1, y2, y3⟩
    · exact absurd x1 y1
    · exact ⟨by rw [x3, y3], by rw [x4, y4]⟩
    · omega
  · rcases h2 with ⟨y1, y2, y3⟩ | ⟨y1, y2, y3, y4⟩ | ⟨y1, y2, l2, K2, S2, d2, y3, y4, y5⟩
    · exact absurd x1 y1
    · omega
    · obtain ⟨o1, -, o3⟩ := isW_one hfo _ _ _ _ _ _ _ _ y3 x3
      subst o1
      rw [hvs_congr (w := w2) (w' := w) (S := S2) (S' := S) l2 (fun i hi => ⟨o3 i hi, hw _ (by have := (y3.2.2.1 i hi).1; omega)⟩), x4] at y4
      obtain ⟨i, hi, hSi⟩ := hvs_mem _ _ _ _ x4
      have hd : d < gm g := by rw [← hSi]; exact (x3.2.2.1 i hi).1
      cases y4
      have e : hv w2 d (gm g) ↔ hv w d (gm g) := by
        unfold hv
        rw [hw d (by omega), hw (gm g) (by omega)]
      rcases x5 with ⟨p1, p2, p3⟩ | ⟨p1, p2, p3⟩
      · rcases y5 with ⟨q1, q2, q3⟩ | ⟨q1, q2, q3⟩
        · exact ⟨by rw [p2, q2], by rw [p3, q3]⟩
        · exact absurd (e.mpr p1) q1
      · rcases y5 with ⟨q1, q2, q3⟩ | ⟨q1, q2, q3⟩
        · exact absurd (e.mp q1) p1
        · exact ⟨by rw [p2, q2], by rw [p3, q3]⟩
theorem eNew_s (hW : gW g) (h : eNew g w kd a b o s2) : (∀ e, e < gm g + 1 → s2 e < 3) ∧ (∀ d, o = some d → d < gm g ∧ gs g d = 1) ∧ (∀ e, e < gm g → o ≠ some e → s2 e = gs g e) := by
  have plain : ∀ x, x < 3 → (∀ e, e < gm g + 1 → un (gs g) (gm g) x e < 3) ∧ ∀ e, e < gm g → un (gs g) (gm g) x e = gs g e := fun x hx => ⟨fun e he => by
    by_cases e1 : e = gm g
    · rw [e1, un_self]; exact hx
    · rw [un_ne _ _ e1]; exact (hW.2.2 e (by omega)).2.2.2.1, fun e he => un_ne _ _ (by omega)⟩
  rcases h with ⟨x1, x2, x3⟩ | ⟨x1, x2, x3, x4⟩ | ⟨x1, x2, l, K, S, d, x3, x4, x5⟩
  · subst x2; subst x3
    exact ⟨(plain 1 (by omega)).1, fun d hd => (by cases hd), fun e he _ => (plain 1 (by omega)).2 e he⟩
  · subst x3; subst x4
    exact ⟨(plain 2 (by omega)).1, fun d hd => (by cases hd), fun e he _ => (plain 2 (by omega)).2 e he⟩
  · obtain ⟨i, hi, hSi⟩ := hvs_mem _ _ _ _ x4
    have hd := x3.2.2.1 i hi
    rw [hSi] at hd
    rcases x5 with ⟨p1, p2, p3⟩ | ⟨p1, p2, p3⟩
    · subst p2; subst p3
      refine ⟨fun e he => ?_, fun d2 hd2 => by cases hd2; exact ⟨hd.1, hd.2.1⟩, fun e he hne => ?_⟩
      · by_cases e1 : e = gm g
        · rw [e1, un_self]; omega
        · rw [un_ne _ _ e1]
          by_cases e2 : e = d
          · rw [e2, un_self]; omega
          · rw [un_ne _ _ e2]; exact (hW.2.2 e (by omega)).2.2.2.1
      · rw [un_ne _ _ (by omega), un_ne _ _ (fun z => hne (by rw [z]))]
    · subst p2; subst p3
      exact ⟨(plain 2 (by omega)).1, fun d hd => (by cases hd), fun e he _ => (plain 2 (by omega)).2 e he⟩
theorem gW_A2 (hW : gW g) (hm : gm g < 300) (ha : a < gn g) (hb : b < gn g) (hab : a ≠ b) (hs : ∀ e, e < gm g + 1 → s2 e < 3) : gW (gA2 g a b s2) := by
  refine ⟨hW.1, hm, fun e he => ?_⟩
  have he2 : e < gm g + 1 := he
  show un (ga g) (gm g) a e < gn g ∧ un (gb g) (gm g) b e < gn g ∧ un (ga g) (gm g) a e ≠ un (gb g) (gm g) b e ∧ s2 e < 3 ∧ un (gv g) (gm g) 0 e < 100
  by_cases e1 : e = gm g
  · rw [e1, un_self, un_self, un_self]; exact ⟨ha, hb, hab, hs _ (by omega), by omega⟩
  · rw [un_ne _ _ e1, un_ne _ _ e1, un_ne _ _ e1]
    have := hW.2.2 e (by omega)
    exact ⟨this.1, this.2.1, this.2.2.1, hs e he2, this.2.2.2.2⟩
theorem rs_A2 : rs (gA2 g a b s2) = rs g := by
  show sumN (un (gv g) (gm g) 0) (gm g + 1) = sumN (gv g) (gm g)
  have : sumN (un (gv g) (gm g) 0) (gm g + 1) = sumN (un (gv g) (gm g) 0) (gm g) + un (gv g) (gm g) 0 (gm g) := rfl
  rw [this, un_self, sumN_congr (fun f hf => un_ne _ _ (by omega))]
  rfl
theorem eNew_fo (hfo : fo (gm g) (ga g) (gb g) (Tr g)) (h : eNew g w kd a b o s2) : fo (gm g + 1) (un (ga g) (gm g) a) (un (gb g) (gm g) b) (fun f => s2 f = 1) := by
  have sp : fo (gm g + 1) (un (ga g) (gm g) a) (un (gb g) (gm g) b) (fun f => un (gs g) (gm g) 2 f = 1) := by
    refine fo_up hfo (fun f hf z => ?_)
    by_cases e : f = gm g
    · have z2 : un (gs g) (gm g) 2 f = 1 := z
      rw [e, un_self] at z2; omega
    · have z2 : un (gs g) (gm g) 2 f = 1 := z
      rw [un_ne _ _ e] at z2; exact ⟨by omega, z2⟩
  rcases h with ⟨x1, x2, x3⟩ | ⟨x1, x2, x3, x4⟩ | ⟨x1, x2, l, K, S, d, x3, x4, x5⟩
  · subst x3
    refine fo_new hfo x1 (fun f hf z => ?_)
    by_cases e : f = gm g
    · exact Or.inl e
    · have z2 : un (gs g) (gm g) 1 f = 1 := z
      rw [un_ne _ _ e] at z2; exact Or.inr ⟨by omega, z2⟩
  · subst x4; exact sp
  · rcases x5 with ⟨p1, p2, p3⟩ | ⟨p1, p2, p3⟩
    · subst p3
      obtain ⟨i, hi, hSi⟩ := hvs_mem _ _ _ _ x4
      subst hSi
      refine fo_new (T := fun f => Tr g f ∧ f ≠ S i) (fo_sub hfo (fun _ _ z => z.1)) (swap_no hfo x3 hi) (fun f hf z => ?_)
      by_cases e : f = gm g
      · exact Or.inl e
      · have z2 : un (un (gs g) (S i) 2) (gm g) 1 f = 1 := z
        rw [un_ne _ _ e] at z2
        by_cases e2 : f = S i
        · rw [e2, un_self] at z2; omega
        · rw [un_ne _ _ e2] at z2; exact Or.inr ⟨by omega, z2, e2⟩
    · subst p3; exact sp
theorem eNew_sp (hsp : SpI g) (hkd : kd = 2) (h : eNew g w kd a b o s2) : SpI (gA2 g a b s2) := by
  have main : (∀ u v, cn (gm g) (ga g) (gb g) (Tr g) u v → cn (gm g + 1) (un (ga g) (gm g) a) (un (gb g) (gm g) b) (fun f => s2 f = 1) u v) → (∀ f, f < gm g → s2 f = 2 → cn (gm g) (ga g) (gb g) (Tr g) (ga g f) (gb g f)) → (s2 (gm g) = 2 → cn (gm g) (ga g) (gb g) (Tr g) a b) → SpI (gA2 g a b s2) := by
    intro h1 h2 h3 f hf hs
    have hf2 : f < gm g + 1 := hf
    show cn (gm g + 1) (un (ga g) (gm g) a) (un (gb g) (gm g) b) (fun f => s2 f = 1) (un (ga g) (gm g) a f) (un (gb g) (gm g) b f)
    by_cases e : f = gm g
    · rw [e, un_self, un_self]
      exact h1 _ _ (h3 (by rw [← e]; exact hs))
    · rw [un_ne _ _ e, un_ne _ _ e]
      exact h1 _ _ (h2 f (by omega) hs)
  rcases h with ⟨x1, x2, x3⟩ | ⟨x1, x2, x3, x4⟩ | ⟨x1, x2, l, K, S, d, x3, x4, x5⟩
  · subst x3
    refine main (fun u v z => cn_up z (fun f hf q => by show un (gs g) (gm g) 1 f = 1; rw [un_ne _ _ (by omega)]; exact q)) (fun f hf z => ?_) (fun z => by rw [un_self] at z; omega)
    rw [un_ne _ _ (by omega)] at z; exact hsp f hf z
  · omega
  · rcases x5 with ⟨p1, p2, p3⟩ | ⟨p1, p2, p3⟩
    · subst p3
      obtain ⟨i, hi, hSi⟩ := hvs_mem _ _ _ _ x4
      subst hSi
      refine main (fun u v z => swap_cn x3 hi (fun f hf q1 q2 => ?_) ?_ z) (fun f hf z => ?_) (fun _ => x1)
      · show un (un (gs g) (S i) 2) (gm g) 1 f = 1
        rw [un_ne _ _ (by omega), un_ne _ _ q2]; exact q1
      · show un (un (gs g) (S i) 2) (gm g) 1 (gm g) = 1
        exact un_self _ _ _
      · rw [un_ne _ _ (by omega)] at z
        by_cases e2 : f = S i
        · rw [e2]; exact cn_edge (x3.2.2.1 i hi).1 (x3.2.2.1 i hi).2.1 (jn_ab _)
        · rw [un_ne _ _ e2] at z; exact hsp f hf z
    · subst p3
      refine main (fun u v z => cn_up z (fun f hf q => by show un (gs g) (gm g) 2 f = 1; rw [un_ne _ _ (by omega)]; exact q)) (fun f hf z => ?_) (fun _ => x1)
      rw [un_ne _ _ (by omega)] at z; exact hsp f hf z
theorem eNew_lv (hn : gn g ≤ 100) (hL : gL g) (hkd : kd = 1) (h : eNew g w kd a b o s2) : gL (gA2 g a b s2) := by
  show LvI (gn g) (gm g + 1) (un (ga g) (gm g) a) (un (gb g) (gm g) b) s2 (un (gv g) (gm g) 0)
  rcases h with ⟨x1, x2, x3⟩ | ⟨x1, x2, x3, x4⟩ | ⟨x1, x2, x3⟩
  · subst x3
    exact LvI_new hn (fun f hf => un_ne _ _ (by omega)) (fun z => by rw [un_self] at z; omega) hL
  · subst x4
    exact LvI_new hn (fun f hf => un_ne _ _ (by omega)) (fun _ => x1) hL
  · omega
theorem kI_edge {k : zK} (h : kI kd k) (hm : gm (kg k) < 300) (ha : a < gn (kg k)) (hb : b < gn (kg k)) (hab : a ≠ b) (hN : eNew (kg k) w kd a b o s2) : kI kd (gA2 (kg k) a b s2, kc k, km k, kr k, kv k) := by
  obtain ⟨h1, h2, h3, h4, h5, h6, h7, h8⟩ := h
  refine ⟨gW_A2 h1 hm ha hb hab (eNew_s h1 hN).1, eNew_fo h2 hN, fun z => eNew_lv h1.1 (h3 z) z hN, fun z => eNew_sp (h4 z) z hN, fun z e he => ?_, h6, h7, h8⟩
  have he2 : e < gm (kg k) + 1 := he
  show un (gv (kg k)) (gm (kg k)) 0 e = 0
  by_cases e1 : e = gm (kg k)
  · rw [e1, un_self]
  · rw [un_ne _ _ e1]; exact h5 z e (by omega)
theorem Ent_edge {lg : Nat → Int32} {k : zK} (hW : gW (kg k)) (hN : eNew (kg k) w kd a b o s2) : Ent lg k (gA2 (kg k) a b s2, kc k, km k, kr k, kv k) 4 (oI o) (-1) 0 := by
  refine ⟨⟨rfl, Nat.le_succ _, fun e he => ⟨un_ne _ _ (by omega), un_ne _ _ (by omega)⟩⟩, ?_, Or.inr (Or.inr (Or.inr (Or.inr (Or.inl ⟨rfl, rfl, un_self _ _ _, fun _ _ => rfl, fun _ _ => rfl, fun e he => un_ne _ _ (by omega), o, rfl, (eNew_s hW hN).2.1, (eNew_s hW hN).2.2⟩))))⟩
  show rs (kg k) ≤ rs (gA2 (kg k) a b s2)
  rw [rs_A2]
  exact Nat.le_refl _
end
