/-! what an edge that goes does to the kept state -/
def sG (s : Nat → Nat) (e : Nat) : Option Nat → Nat → Nat
  | none => un s e 0
  | some x => un (un s e 0) x 1
noncomputable def gvc (g : zG) (e i ct cs : Nat) : Nat → Nat := lvc (gn g) (gm g) (ga g) (gb g) (gs g) (gv g) e i ct cs
def eGo (g : zG) (w : Nat → Int64) (kd e : Nat) (o : Option Nat) (v2 : Nat → Nat) : Prop :=
  (gs g e = 2 ∧ o = none ∧ v2 = gv g) ∨ (gs g e = 1 ∧ kd = 0 ∧ o = none ∧ v2 = gv g) ∨ (gs g e = 1 ∧ kd = 2 ∧ o = ltf w (ltP g e) (gm g) ∧ v2 = gv g) ∨
  (gs g e = 1 ∧ kd = 1 ∧ ((gH g e (gv g e + 1) = none ∧ o = none ∧ v2 = gvc g e 0 (gm g) (gm g)) ∨ ∃ i x, gH g e (gv g e + 1) = some (i, x) ∧ o = some x ∧ v2 = gvc g e i (gm g) x))
section
variable {g : zG} {w w2 : Nat → Int64} {kd e : Nat} {o o2 : Option Nat} {v2 v3 : Nat → Nat}
theorem eGo_one (hw : ∀ f, f < gm g → w2 f = w f) (h : eGo g w kd e o v2) (h2 : eGo g w2 kd e o2 v3) : o2 = o ∧ v3 = v2 := by
  rcases h with ⟨x1, x2, x3⟩ | ⟨x1, x2, x3, x4⟩ | ⟨x1, x2, x3, x4⟩ | ⟨x1, x2, x3⟩ <;> rcases h2 with ⟨y1, y2, y3⟩ | ⟨y1, y2, y3, y4⟩ | ⟨y1, y2, y3, y4⟩ | ⟨y1, y2, y3⟩ <;> try omega
  · exact ⟨by rw [x2, y2], by rw [x3, y3]⟩
  · exact ⟨by rw [x3, y3], by rw [x4, y4]⟩
  · refine ⟨?_, by rw [x4, y4]⟩
    rw [x3, y3]
    exact ltf_congr _ (fun f hf => ⟨hw f hf, Iff.rfl⟩)
  · rcases x3 with ⟨p1, p2, p3⟩ | ⟨i, x, p1, p2, p3⟩
    · rcases y3 with ⟨q1, q2, q3⟩ | ⟨j, y, q1, q2, q3⟩
      · exact ⟨by rw [p2, q2], by rw [p3, q3]⟩
      · rw [p1] at q1; cases q1
    · rcases y3 with ⟨q1, q2, q3⟩ | ⟨j, y, q1, q2, q3⟩
      · rw [p1] at q1; cases q1
      · rw [p1] at q1
        cases q1
        exact ⟨by rw [p2, q2], by rw [p3, q3]⟩
theorem eGo_heir (hfo : fo (gm g) (ga g) (gb g) (Tr g)) (hL : kd = 1 → gL g) (hsp : kd = 2 → SpI g) (he : e < gm g) (h : eGo g w kd e o v2) : ∀ x, o = some x → x < gm g ∧ gs g x = 2 ∧ gs g e = 1 ∧
    ((cn (gm g) (ga g) (gb g) (fun f => gs g f = 1 ∧ f ≠ e) (ga g x) (ga g e) ∧ cn (gm g) (ga g) (gb g) (fun f => gs g f = 1 ∧ f ≠ e) (gb g e) (gb g x)) ∨ (cn (gm g) (ga g) (gb g) (fun f => gs g f = 1 ∧ f ≠ e) (ga g x) (gb g e) ∧ cn (gm g) (ga g) (gb g) (fun f => gs g f = 1 ∧ f ≠ e) (ga g e) (gb g x))) := by
  intro x hx
  subst hx
  rcases h with ⟨x1, x2, x3⟩ | ⟨x1, x2, x3, x4⟩ | ⟨x1, x2, x3, x4⟩ | ⟨x1, x2, x3⟩
  · cases x2
  · cases x3
  · obtain ⟨p1, p2, p3⟩ := ltf_mem _ _ _ _ x3.symm
    refine ⟨p1, p2, x1, ?_⟩
    rcases (ltP_joins hfo (hsp x2) he x1 p1 p2).mp p3 with ⟨z1, z2⟩ | ⟨z1, z2⟩
    · exact Or.inl ⟨cn_symm z1, z2⟩
    · exact Or.inr ⟨cn_symm z2, z1⟩
  · rcases x3 with ⟨p1, p2, p3⟩ | ⟨i, y, p1, p2, p3⟩
    · cases p2
    · cases p2
      rcases hsr_spec (n := gn g) (m := gm g) (a := ga g) (b := gb g) (s := gs g) (v := gv g) (e := e) (gv g e + 1) with ⟨i2, h2, q1, q2, q3, q4, q5, q6⟩ | ⟨q1, q2⟩
      · have q1' : gH g e (gv g e + 1) = some (i2, h2) := q1
        rw [p1] at q1'
        cases q1'
        refine ⟨q3, q4.1, x1, ?_⟩
        have dn : ∀ {u v}, cn (gm g) (ga g) (gb g) (Tl (gs g) (gv g) e i) u v → cn (gm g) (ga g) (gb g) (fun f => gs g f = 1 ∧ f ≠ e) u v := fun z => cn_sub z (fun f _ q => ⟨q.1, q.2.1⟩)
        rcases cand_across (hL x2) q3 q4 with ⟨z1, z2⟩ | ⟨z1, z2⟩
        · exact Or.inl ⟨dn z1, dn z2⟩
        · exact Or.inr ⟨dn z1, dn z2⟩
      · have q1' : gH g e (gv g e + 1) = none := q1
        rw [p1] at q1'
        cases q1'
theorem sG_1 {s : Nat → Nat} (hx : ∀ x, o = some x → s x = 2) (f : Nat) : sG s e o f = 1 ↔ (s f = 1 ∧ f ≠ e) ∨ o = some f := by
  cases o with
  | none =>
    show un s e 0 f = 1 ↔ _
    by_cases e1 : f = e
    · rw [e1, un_self]; exact ⟨fun z => by omega, fun z => z.elim (fun q => absurd rfl q.2) (fun q => by cases q)⟩
    · rw [un_ne _ _ e1]; exact ⟨fun z => Or.inl ⟨z, e1⟩, fun z => z.elim (fun q => q.1) (fun q => by cases q)⟩
  | some x =>
    show un (un s e 0) x 1 f = 1 ↔ _
    by_cases e2 : f = x
    · rw [e2, un_self]; exact ⟨fun _ => Or.inr rfl, fun _ => rfl⟩
    · rw [un_ne _ _ e2]
      by_cases e1 : f = e
      · rw [e1, un_self]; exact ⟨fun z => by omega, fun z => z.elim (fun q => absurd rfl q.2) (fun q => by cases q; exact absurd e1 e2)⟩
      · rw [un_ne _ _ e1]; exact ⟨fun z => Or.inl ⟨z, e1⟩, fun z => z.elim (fun q => q.1) (fun q => by cases q; exact absurd rfl e2)⟩
theorem sG_2 {s : Nat → Nat} (f : Nat) (h : sG s e o f = 2) : s f = 2 ∧ o ≠ some f ∧ f ≠ e := by
  cases o with
  | none =>
    have h2 : un s e 0 f = 2 := h
    by_cases e1 : f = e
    · rw [e1, un_self] at h2; omega
    · rw [un_ne _ _ e1] at h2; exact ⟨h2, by simp, e1⟩
  | some x =>
    have h2 : un (un s e 0) x 1 f = 2 := h
    by_cases e2 : f = x
    · rw [e2, un_self] at h2; omega
    · rw [un_ne _ _ e2] at h2
      by_cases e1 : f = e
      · rw [e1, un_self] at h2; omega
      · rw [un_ne _ _ e1] at h2; exact ⟨h2, fun q => by cases q; exact e2 rfl, e1⟩
theorem sG_3 {s : Nat → Nat} (f : Nat) (h : s f < 3) : sG s e o f < 3 := by
  cases o with
  | none =>
    show un s e 0 f < 3
    by_cases e1 : f = e
    · rw [e1, un_self]; omega
    · rw [un_ne _ _ e1]; exact h
  | some x =>
    show un (un s e 0) x 1 f < 3
    by_cases e2 : f = x
    · rw [e2, un_self]; omega
    · rw [un_ne _ _ e2]
      by_cases e1 : f = e
      · rw [e1, un_self]; omega
      · rw [un_ne _ _ e1]; exact h
theorem sG_ne {s : Nat → Nat} {f : Nat} (h1 : f ≠ e) (h2 : o ≠ some f) : sG s e o f = s f := by
  cases o with
  | none => exact un_ne _ _ h1
  | some x => exact (un_ne _ _ (fun z => h2 (by rw [z]))).trans (un_ne _ _ h1)
theorem LvI_sub {n m : Nat} {a b s v s2 : Nat → Nat} (h1 : ∀ f, f < m → (s2 f = 1 ↔ s f = 1)) (h2 : ∀ f, f < m → s2 f = 2 → s f = 2) (hL : LvI n m a b s v) : LvI n m a b s2 v := by
  have tg : ∀ i u x, cn m a b (Tg s2 v i) u x ↔ cn m a b (Tg s v i) u x := fun i u x => ⟨fun z => cn_sub z (fun f hf q => ⟨(h1 f hf).mp q.1, q.2⟩), fun z => cn_sub z (fun f hf q => ⟨(h1 f hf).mpr q.1, q.2⟩)⟩
  refine ⟨fun f hf hs => (tg _ _ _).mpr (hL.1 f hf (h2 f hf hs)), fun i k hk hc => ?_, hL.2.2⟩
  rw [ctp_congr (fun x _ => tg i k x)] at hc ⊢
  exact hL.2.1 i k hk hc
theorem eGo_fo (hfo : fo (gm g) (ga g) (gb g) (Tr g)) (hL : kd = 1 → gL g) (hsp : kd = 2 → SpI g) (he : e < gm g) (h : eGo g w kd e o v2) : fo (gm g) (ga g) (gb g) (fun f => sG (gs g) e o f = 1) := by
  have hh := eGo_heir hfo hL hsp he h
  have h1 := sG_1 (e := e) (o := o) (s := gs g) (fun x hx => (hh x hx).2.1)
  cases o with
  | none => exact fo_sub hfo (fun f _ z => ((h1 f).mp z).elim (fun q => q.1) (fun q => by cases q))
  | some x =>
    obtain ⟨p1, p2, p3, p4⟩ := hh x rfl
    exact fo_sub (fo_heir hfo he p3 p1 p4) (fun f _ z => ((h1 f).mp z).elim Or.inl (fun q => Or.inr (by cases q; rfl)))
theorem eGo_sp (hfo : fo (gm g) (ga g) (gb g) (Tr g)) (hsp : SpI g) (hk : kd = 2) (he : e < gm g) (h : eGo g w kd e o v2) : ∀ f, f < gm g → sG (gs g) e o f = 2 → cn (gm g) (ga g) (gb g) (fun f => sG (gs g) e o f = 1) (ga g f) (gb g f) := by
  intro f hf hs
  have hh := eGo_heir hfo (fun z => by omega) (fun _ => hsp) he h
  have h1 := sG_1 (e := e) (o := o) (s := gs g) (fun x hx => (hh x hx).2.1)
  obtain ⟨s1, s2, s3⟩ := sG_2 f hs
  have up : ∀ {u v}, cn (gm g) (ga g) (gb g) (fun f => gs g f = 1 ∧ f ≠ e) u v → cn (gm g) (ga g) (gb g) (fun f => sG (gs g) e o f = 1) u v := fun z => cn_sub z (fun f _ q => (h1 f).mpr (Or.inl q))
  rcases cn_less (e := e) (hsp f hf s1) with q | q
  · exact up q
  · rcases h with ⟨x1, x2, x3⟩ | ⟨x1, x2, x3, x4⟩ | ⟨x1, x2, x3, x4⟩ | ⟨x1, x2, x3⟩
    · refine cn_sub (hsp f hf s1) (fun y _ z => (h1 y).mpr (Or.inl ⟨z, fun ye => ?_⟩))
      have z2 : gs g y = 1 := z
      rw [ye] at z2; omega
    · omega
    · cases ho : o with
      | none =>
        exfalso
        rw [ho] at x3
        refine ltf_none x3.symm f hf ⟨s1, (ltP_joins hfo hsp he x1 hf s1).mpr ?_⟩
        rcases q with ⟨z1, z2⟩ | ⟨z1, z2⟩
        · exact Or.inl ⟨cn_symm z1, z2⟩
        · exact Or.inr ⟨z2, cn_symm z1⟩
      | some x =>
        rw [← ho]
        obtain ⟨p1, p2, p3, p4⟩ := hh x ho
        have ex : cn (gm g) (ga g) (gb g) (fun f => sG (gs g) e o f = 1) (ga g x) (gb g x) := cn_edge p1 ((h1 x).mpr (Or.inr ho)) (jn_ab x)
        have ee : cn (gm g) (ga g) (gb g) (fun f => sG (gs g) e o f = 1) (ga g e) (gb g e) := by
          rcases p4 with ⟨z1, z2⟩ | ⟨z1, z2⟩
          · exact cn_trans (cn_symm (up z1)) (cn_trans ex (cn_symm (up z2)))
          · exact cn_trans (up z2) (cn_trans (cn_symm ex) (up z1))
        rcases q with ⟨z1, z2⟩ | ⟨z1, z2⟩
        · exact cn_trans (up z1) (cn_trans ee (up z2))
        · exact cn_trans (up z1) (cn_trans (cn_symm ee) (up z2))
    · omega
theorem eGo_lv (hW : gW g) (hfo : fo (gm g) (ga g) (gb g) (Tr g)) (hL : gL g) (hk : kd = 1) (he : e < gm g) (h : eGo g w kd e o v2) : LvI (gn g) (gm g) (ga g) (gb g) (sG (gs g) e o) v2 := by
  have hh := eGo_heir hfo (fun _ => hL) (fun z => by omega) he h
  have h1 := sG_1 (e := e) (o := o) (s := gs g) (fun x hx => (hh x hx).2.1)
  rcases h with ⟨x1, x2, x3⟩ | ⟨x1, x2, x3, x4⟩ | ⟨x1, x2, x3, x4⟩ | ⟨x1, x2, x3⟩
  · subst x2; subst x3
    refine LvI_sub (fun f hf => ?_) (fun f hf z => (sG_2 f z).1) hL
    rw [h1 f]
    refine ⟨fun z => z.elim (fun q => q.1) (fun q => by cases q), fun z => Or.inl ⟨z, fun ye => ?_⟩⟩
    rw [ye] at z; omega
  · omega
  · omega
  · rcases x3 with ⟨p1, p2, p3⟩ | ⟨i, x, p1, p2, p3⟩
    · subst p2; subst p3
      rcases hsr_spec (n := gn g) (m := gm g) (a := ga g) (b := gb g) (s := gs g) (v := gv g) (e := e) (gv g e + 1) with ⟨i2, h2, q1, q2, q3, q4, q5, q6⟩ | ⟨q1, q2⟩
      · have q1' : gH g e (gv g e + 1) = some (i2, h2) := q1
        rw [p1] at q1'; cases q1'
      · exact LvI_cut (H := fun _ => False) hW.1 (gab hW) hfo hL he x1 (fun f hf => by rw [h1 f]; exact ⟨fun z => z.elim Or.inl (fun q => by cases q), fun z => z.elim Or.inl False.elim⟩) (fun f hf z => ⟨(sG_2 f z).1, id⟩) (Nat.zero_le _) (fun f hf z => z.elim) (fun j f hj hf hc => absurd hc (q2 j (by omega) f hf))
    · subst p2; subst p3
      rcases hsr_spec (n := gn g) (m := gm g) (a := ga g) (b := gb g) (s := gs g) (v := gv g) (e := e) (gv g e + 1) with ⟨i2, h2, q1, q2, q3, q4, q5, q6⟩ | ⟨q1, q2⟩
      · have q1' : gH g e (gv g e + 1) = some (i2, h2) := q1
        rw [p1] at q1'; cases q1'
        refine LvI_cut (H := fun f => f = x) hW.1 (gab hW) hfo hL he x1 (fun f hf => by rw [h1 f]; exact ⟨fun z => z.elim Or.inl (fun q => Or.inr (by cases q; rfl)), fun z => z.elim Or.inl (fun q => Or.inr (by rw [q]))⟩) (fun f hf z => ⟨(sG_2 f z).1, fun q => (sG_2 f z).2.1 (by rw [q])⟩) (by omega) (fun f hf z => ⟨by rw [z]; exact q4, by omega⟩) (fun j f hj hf hc => ⟨?_, x, q3, rfl⟩)
        rcases Nat.lt_or_ge i j with z | z
        · exact absurd hc (q6 j z (by omega) f hf)
        · exact z
      · have q1' : gH g e (gv g e + 1) = none := q1
        rw [p1] at q1'; cases q1'
theorem eGo_v (h : eGo g w kd e o v2) (hk : kd ≠ 1) : v2 = gv g := by
  rcases h with ⟨x1, x2, x3⟩ | ⟨x1, x2, x3, x4⟩ | ⟨x1, x2, x3, x4⟩ | ⟨x1, x2, x3⟩
  · exact x3
  · exact x4
  · exact x4
  · exact absurd x2 hk
theorem kI_cut {k : zK} (h : kI kd k) (he : e < gm (kg k)) (hN : eGo (kg k) w kd e o v2) : kI kd (gSV (kg k) (sG (gs (kg k)) e o) v2, kc k, km k, kr k, kv k) := by
  obtain ⟨h1, h2, h3, h4, h5, h6, h7, h8⟩ := h
  have lv : kd = 1 → LvI (gn (kg k)) (gm (kg k)) (ga (kg k)) (gb (kg k)) (sG (gs (kg k)) e o) v2 := fun z => eGo_lv h1 h2 (h3 z) z he hN
  refine ⟨⟨h1.1, h1.2.1, fun f hf => ?_⟩, eGo_fo h2 h3 h4 he hN, lv, fun z => eGo_sp h2 (h4 z) z he hN, fun z f hf => ?_, h6, h7, h8⟩
  · have hw := h1.2.2 f hf
    refine ⟨hw.1, hw.2.1, hw.2.2.1, sG_3 f hw.2.2.2.1, ?_⟩
    show v2 f < 100
    by_cases hk : kd = 1
    · have := (lv hk).2.2 f hf
      omega
    · rw [eGo_v hN hk]; exact hw.2.2.2.2
  · show v2 f = 0
    rw [eGo_v hN z]; exact h5 z f hf
theorem Ent_cut {lg : Nat → Int32} {k : zK} (hI : kI kd k) (he : e < gm (kg k)) (hN : eGo (kg k) w kd e o v2) (hr : rs (kg k) ≤ sumN v2 (gm (kg k))) (hl1 : ∀ p, rs (kg k) ≤ p → p < sumN v2 (gm (kg k)) → ∃ f, f < gm (kg k) ∧ lg p = nI f) (hl2 : ∀ f, f < gm (kg k) → v2 f = gv (kg k) f + oc lg f (rs (kg k)) (sumN v2 (gm (kg k)))) :
    Ent lg k (gSV (kg k) (sG (gs (kg k)) e o) v2, kc k, km k, kr k, kv k) (if gs (kg k) e = 1 then 5 else 6) (nI e) (oI o) ((nI (rs (kg k))).toInt64) := by
  have hh := eGo_heir hI.2.1 hI.2.2.1 hI.2.2.2.1 he hN
  refine ⟨⟨rfl, Nat.le_refl _, fun _ _ => ⟨rfl, rfl⟩⟩, hr, Or.inr (Or.inr (Or.inr (Or.inr (Or.inr ⟨rfl, fun _ _ => rfl, fun _ _ => rfl, rfl, hl1, hl2, e, he, rfl, ?_, o, rfl, fun d hd => ?_, fun f hf h1 h2 => sG_ne h1 h2⟩))))⟩
  · by_cases hs : gs (kg k) e = 1
    · exact Or.inl ⟨if_pos hs, hs⟩
    · refine Or.inr ⟨if_neg hs, ?_⟩
      rcases hN with ⟨x1, -⟩ | ⟨x1, -⟩ | ⟨x1, -⟩ | ⟨x1, -⟩
      · exact x1
      · exact absurd x1 hs
      · exact absurd x1 hs
      · exact absurd x1 hs
  · obtain ⟨p1, p2, p3, -⟩ := hh d hd
    exact ⟨fun z => by rw [z] at p2; omega, p1, p2⟩
end
