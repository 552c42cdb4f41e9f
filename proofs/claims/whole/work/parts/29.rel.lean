/-! THE STATE that both keep: graph, names of the class, names of the reference, the reference's count of names, values -/
abbrev zK : Type := zG × (Nat → Nat) × (Nat → Nat) × Nat × (Nat → Int64)
def kg (k : zK) : zG := k.1
def kc (k : zK) : Nat → Nat := k.2.1
def km (k : zK) : Nat → Nat := k.2.2.1
def kr (k : zK) : Nat := k.2.2.2.1
def kv (k : zK) : Nat → Int64 := k.2.2.2.2
def rs (g : zG) : Nat := sumN (gv g) (gm g)
/-- what holds of each kept state -/
def kI (kd : Nat) (k : zK) : Prop :=
  gW (kg k) ∧ fo (gm (kg k)) (ga (kg k)) (gb (kg k)) (Tr (kg k)) ∧ (kd = 1 → gL (kg k)) ∧ (kd = 2 → SpI (kg k)) ∧ (kd ≠ 1 → ∀ e, e < gm (kg k) → gv (kg k) e = 0) ∧
  (∀ i j, i < gn (kg k) → j < gn (kg k) → (kc k i < kc k j ↔ km k i < km k j)) ∧ (∀ i, i < gn (kg k) → (kc k i = 0 ↔ km k i = 0)) ∧ ∀ i, i < gn (kg k) → km k i ≤ kr k
/-- the class's memory holds it -/
def cM (k : zK) (F : Nat → Int32) (I : Nat → Nat → Int32) (J : Nat → Nat → Int64) : Prop :=
  cQ (kg k) F I ∧ (∀ i, i < gn (kg k) → I 0 i = nI (kc k i) ∧ J 0 i = kv k i) ∧ F 5 = nI (rs (kg k))
/-- the reference's memory holds it -/
def mM (k : zK) (F : Nat → Int32) (I : Nat → Nat → Int32) (J : Nat → Nat → Int64) : Prop :=
  mQ (kg k) F I ∧ (∀ i, i < gn (kg k) → I 0 i = nI (km k i) ∧ J 0 i = kv k i) ∧ F 4 = nI (rs (kg k)) ∧ F 3 = nI (kr k)
/-- snapshot j of the reference holds it -/
def mS (k : zK) (I : Nat → Nat → Int32) (J : Nat → Nat → Int64) (j : Nat) : Prop :=
  (∀ i, i < gn (kg k) → I 5 (100 * j + i) = nI (km k i) ∧ J 2 (100 * j + i) = kv k i) ∧ (∀ e, e < gm (kg k) → I 6 (300 * j + e) = nI (gs (kg k) e) ∧ I 7 (300 * j + e) = nI (gv (kg k) e)) ∧ I 8 j = nI (gm (kg k)) ∧ I 9 j = nI (kr k) ∧ I 10 j = nI (rs (kg k))
/-- the same graph but for ways and levels -/
def gX (g g2 : zG) : Prop := gn g2 = gn g ∧ gm g ≤ gm g2 ∧ ∀ e, e < gm g → ga g2 e = ga g e ∧ gb g2 e = gb g e
def vX (k k2 : zK) : Prop := ∀ i, i < gn (kg k) → kv k2 i = kv k i
def cX (k k2 : zK) : Prop := ∀ i, i < gn (kg k) → kc k2 i = kc k i
/-- what one noted change says: from k to k2, lg is the row of rises -/
def Ent (lg : Nat → Int32) (k k2 : zK) (x1 x2 x3 : Int32) (l : Int64) : Prop :=
  gX (kg k) (kg k2) ∧ rs (kg k) ≤ rs (kg k2) ∧ (
  (x1 = 0 ∧ kg k2 = kg k ∧ cX k k2 ∧ ∃ a, a < gn (kg k) ∧ x2 = nI a ∧ l = kv k a ∧ ∀ i, i < gn (kg k) → i ≠ a → kv k2 i = kv k i) ∨
  (x1 = 1 ∧ kg k2 = kg k ∧ cX k k2 ∧ ∃ a b n K S, a < gn (kg k) ∧ b < gn (kg k) ∧ x2 = nI a ∧ x3 = nI b ∧ isW (gm (kg k)) (ga (kg k)) (gb (kg k)) (Tr (kg k)) a b n K S ∧ ∀ i, i < gn (kg k) → kv k2 i = zif (∃ j, j ≤ n ∧ K j = i) (kv k i + l) (kv k i)) ∨
  (x1 = 2 ∧ kg k2 = kg k ∧ cX k k2 ∧ ∃ a r, a < gn (kg k) ∧ x2 = nI a ∧ isRt (kg k) (kc k) a r ∧ ∀ i, i < gn (kg k) → kv k2 i = zif (blw (gm (kg k)) (ga (kg k)) (gb (kg k)) (Tr (kg k)) r a i) (kv k i + l) (kv k i)) ∨
  (x1 = 3 ∧ kg k2 = kg k ∧ vX k k2 ∧ ∃ a, a < gn (kg k) ∧ x2 = nI a ∧ x3 = nI (kc k a) ∧ ∀ i, i < gn (kg k) → i ≠ a → kc k2 i = kc k i) ∨
  (x1 = 4 ∧ gm (kg k2) = gm (kg k) + 1 ∧ gv (kg k2) (gm (kg k)) = 0 ∧ cX k k2 ∧ vX k k2 ∧ (∀ e, e < gm (kg k) → gv (kg k2) e = gv (kg k) e) ∧ ∃ o : Option Nat, x2 = oI o ∧ (∀ d, o = some d → d < gm (kg k) ∧ gs (kg k) d = 1) ∧ ∀ e, e < gm (kg k) → o ≠ some e → gs (kg k2) e = gs (kg k) e) ∨
  (gm (kg k2) = gm (kg k) ∧ cX k k2 ∧ vX k k2 ∧ l = (nI (rs (kg k))).toInt64 ∧ (∀ p, rs (kg k) ≤ p → p < rs (kg k2) → ∃ f, f < gm (kg k) ∧ lg p = nI f) ∧ (∀ f, f < gm (kg k) → gv (kg k2) f = gv (kg k) f + oc lg f (rs (kg k)) (rs (kg k2))) ∧
    ∃ e, e < gm (kg k) ∧ x2 = nI e ∧ ((x1 = 5 ∧ gs (kg k) e = 1) ∨ (x1 = 6 ∧ gs (kg k) e = 2)) ∧ ∃ o : Option Nat, x3 = oI o ∧ (∀ d, o = some d → d ≠ e ∧ d < gm (kg k) ∧ gs (kg k) d = 2) ∧ ∀ f, f < gm (kg k) → f ≠ e → o ≠ some f → gs (kg k2) f = gs (kg k) f))
theorem Ent_lg {lg lg2 : Nat → Int32} {k k2 : zK} {x1 x2 x3 : Int32} {l : Int64} (h : Ent lg k k2 x1 x2 x3 l) (hl : ∀ p, p < rs (kg k2) → lg2 p = lg p) : Ent lg2 k k2 x1 x2 x3 l := by
  obtain ⟨h1, h2, h3⟩ := h
  refine ⟨h1, h2, ?_⟩
  rcases h3 with z | z | z | z | z | ⟨z1, z2, z3, z4, z5, z6, z7⟩
  · exact Or.inl z
  · exact Or.inr (Or.inl z)
  · exact Or.inr (Or.inr (Or.inl z))
  · exact Or.inr (Or.inr (Or.inr (Or.inl z)))
  · exact Or.inr (Or.inr (Or.inr (Or.inr (Or.inl z))))
  · refine Or.inr (Or.inr (Or.inr (Or.inr (Or.inr ⟨z1, z2, z3, z4, fun p p1 p2 => ?_, fun f hf => ?_, z7⟩))))
    · rw [hl p p2]; exact z5 p p1 p2
    · rw [z6 f hf, oc_congr (r := lg) (r2 := lg2) (fun p _ p2 => hl p p2)]
/-- the row of changes: states K 0 .. K u -/
def PS (K : Nat → zK) (u o : Nat) (I : Nat → Nat → Int32) (J : Nat → Nat → Int64) (I' : Nat → Nat → Int32) (J' : Nat → Nat → Int64) : Prop :=
  o < 20 ∧ u ≤ 20 ∧ ∀ j, j < u → Ent (I 7) (K j) (K (j + 1)) (I 23 ((o + j) % 20)) (I 24 ((o + j) % 20)) (I 25 ((o + j) % 20)) (J 2 ((o + j) % 20)) ∧ mS (K j) I' J' j
theorem PS_rs {K : Nat → zK} {u o : Nat} {I : Nat → Nat → Int32} {J : Nat → Nat → Int64} {I' : Nat → Nat → Int32} {J' : Nat → Nat → Int64} (h : PS K u o I J I' J') : ∀ d j, j + d = u → rs (kg (K j)) ≤ rs (kg (K u)) ∧ gX (kg (K j)) (kg (K u)) := by
  intro d
  induction d with
  | zero => intro j hj; rw [show j = u by omega]; exact ⟨Nat.le_refl _, rfl, Nat.le_refl _, fun _ _ => ⟨rfl, rfl⟩⟩
  | succ d ih =>
    intro j hj
    obtain ⟨i1, i2, i3, i4⟩ := ih (j + 1) (by omega)
    obtain ⟨⟨⟨e1, e2, e3⟩, e4, -⟩, -⟩ := h.2.2 j (by omega)
    exact ⟨by omega, by omega, by omega, fun e he => ⟨by rw [(i4 e (by omega)).1, (e3 e he).1], by rw [(i4 e (by omega)).2, (e3 e he).2]⟩⟩
/-- the row of changes speaks only of the rises so far, the noted changes and the snapshots -/
theorem PS_fr {K : Nat → zK} {u o : Nat} {I I2 : Nat → Nat → Int32} {J J2 : Nat → Nat → Int64} {I' I2' : Nat → Nat → Int32} {J' J2' : Nat → Nat → Int64} (h : PS K u o I J I' J') (h7 : ∀ p, p < rs (kg (K u)) → I2 7 p = I 7 p) (h23 : ∀ c, 22 < c → I2 c = I c) (hJ : J2 2 = J 2) (hI' : ∀ c, 4 < c → c < 11 → I2' c = I' c) (hJ' : J2' 2 = J' 2) : PS K u o I2 J2 I2' J2' := by
  refine ⟨h.1, h.2.1, fun j hj => ?_⟩
  obtain ⟨e1, e2⟩ := h.2.2 j hj
  have hr := (PS_rs h (u - (j + 1)) (j + 1) (by omega)).1
  refine ⟨?_, ?_⟩
  · rw [h23 23 (by omega), h23 24 (by omega), h23 25 (by omega), hJ]
    exact Ent_lg e1 (fun p hp => h7 p (by omega))
  · unfold mS at e2 ⊢
    rw [hI' 5 (by omega) (by omega), hI' 6 (by omega) (by omega), hI' 7 (by omega) (by omega), hI' 8 (by omega) (by omega), hI' 9 (by omega) (by omega), hI' 10 (by omega) (by omega), hJ']
    exact e2
def shK (K : Nat → zK) (f u1 : Nat) (k : zK) : Nat → zK := fun j => if j ≤ u1 then K (j + f) else k
theorem mS_eq {k : zK} {I I2 : Nat → Nat → Int32} {J J2 : Nat → Nat → Int64} {i j : Nat} (hW : gW (kg k)) (h : mS k I J i) (e : sEq I J i I2 J2 j) : mS k I2 J2 j := by
  have h1 := hW.1
  have h2 := hW.2.1
  obtain ⟨a1, a2, a3, a4, a5⟩ := h
  obtain ⟨b1, b2, b3, b4, b5⟩ := e
  refine ⟨fun x hx => ?_, fun x hx => ?_, by rw [b3, a3], by rw [b4, a4], by rw [b5, a5]⟩
  · rw [(b1 x (by omega)).1, (b1 x (by omega)).2]; exact a1 x hx
  · rw [(b2 x (by omega)).1, (b2 x (by omega)).2]; exact a2 x hx
theorem mS_cur {k : zK} {F : Nat → Int32} {I I2 : Nat → Nat → Int32} {J J2 : Nat → Nat → Int64} {j : Nat} (h : mM k F I J) (e : sCur (gn (kg k)) (gm (kg k)) F I J I2 J2 j) : mS k I2 J2 j := by
  obtain ⟨⟨a1, a2, a3, a4⟩, b, c, d⟩ := h
  obtain ⟨b1, b2, b3, b4, b5⟩ := e
  refine ⟨fun x hx => ?_, fun x hx => ?_, by rw [b3, a3], by rw [b4, d], by rw [b5, c]⟩
  · rw [(b1 x hx).1, (b1 x hx).2]; exact b x hx
  · rw [(b2 x hx).1, (b2 x hx).2]; exact (a4 x hx).2.2
/-- one more change is noted by both -/
theorem PS_push {K : Nat → zK} {u o o2 f f2 u1 u2 : Nat} {F' : Nat → Int32} {I I2 : Nat → Nat → Int32} {J J2 : Nat → Nat → Int64} {I' I2' : Nat → Nat → Int32} {J' J2' : Nat → Nat → Int64} {k2 : zK} {x1 x2 x3 : Int32} {l4 : Int64}
    (h : PS K u o I J I' J') (hW : ∀ j, j ≤ u → gW (kg (K j))) (hm : mM (K u) F' I' J')
    (c1 : u = u1 + f) (c2 : u1 < 20) (c3 : f = 0 ∨ (f = 1 ∧ u = 20)) (c4 : o2 < 20) (c5 : ∀ j, j < u1 → eEq I J ((o + (j + f)) % 20) I2 J2 ((o2 + j) % 20)) (c6 : I2 7 = I 7)
    (d1 : u = u2 + f2) (d2 : u2 < 20) (d3 : f2 = 0 ∨ (f2 = 1 ∧ u = 20)) (d4 : ∀ j, j < u2 → sEq I' J' (j + f2) I2' J2' j) (d5 : sCur (gn (kg (K u))) (gm (kg (K u))) F' I' J' I2' J2' u2)
    (e1 : I2 23 ((o2 + u1) % 20) = x1) (e2 : I2 24 ((o2 + u1) % 20) = x2) (e3 : I2 25 ((o2 + u1) % 20) = x3) (e4 : J2 2 ((o2 + u1) % 20) = l4) (hE : Ent (I 7) (K u) k2 x1 x2 x3 l4) :
    PS (shK K f u1 k2) (u1 + 1) o2 I2 J2 I2' J2' := by
  have hf : f2 = f := by omega
  have hu : u2 = u1 := by omega
  subst hf
  subst hu
  refine ⟨c4, by omega, fun j hj => ?_⟩
  have s1 : shK K f2 u2 k2 j = K (j + f2) := if_pos (by omega)
  rw [s1, c6]
  by_cases e : j = u2
  · subst e
    have s2 : shK K f2 j k2 (j + 1) = k2 := if_neg (by omega)
    rw [s2, e1, e2, e3, e4, ← c1]
    exact ⟨hE, mS_cur hm d5⟩
  · have s2 : shK K f2 u2 k2 (j + 1) = K (j + 1 + f2) := if_pos (by omega)
    obtain ⟨p1, p2⟩ := h.2.2 (j + f2) (by omega)
    obtain ⟨q1, q2, q3, q4⟩ := c5 j (by omega)
    rw [s2, q1, q2, q3, q4, show j + 1 + f2 = j + f2 + 1 by omega]
    exact ⟨p1, mS_eq (hW (j + f2) (by omega)) p2 (d4 j (by omega))⟩
