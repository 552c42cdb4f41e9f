/-! A WALK AS DEEP AS IT CAN GO: parents, forebears, low numbers -/
def par (a b : Nat → Nat) (B : Nat → Option Nat) (k : Nat) : Nat := match B k with
  | some e => ot a b e k
  | none => k
def itp (a b : Nat → Nat) (B : Nat → Option Nat) : Nat → Nat → Nat
  | 0, y => y
  | i + 1, y => par a b B (itp a b B i y)
def anc (a b : Nat → Nat) (B : Nat → Option Nat) (x y : Nat) : Prop := ∃ i, itp a b B i y = x
section
variable {a b : Nat → Nat} {B : Nat → Option Nat}
theorem par_some {k e : Nat} (h : B k = some e) : par a b B k = ot a b e k := by unfold par; rw [h]
theorem par_none {k : Nat} (h : B k = none) : par a b B k = k := by unfold par; rw [h]
theorem itp_add (i j y : Nat) : itp a b B (i + j) y = itp a b B i (itp a b B j y) := by
  induction i with
  | zero => rw [Nat.zero_add]; rfl
  | succ i ih => rw [show i + 1 + j = (i + j) + 1 by omega, itp, ih, itp]
theorem anc_refl (x : Nat) : anc a b B x x := ⟨0, rfl⟩
theorem anc_par (x : Nat) : anc a b B (par a b B x) x := ⟨1, rfl⟩
theorem anc_trans {x y z : Nat} (h : anc a b B x y) (h2 : anc a b B y z) : anc a b B x z := by
  obtain ⟨i, hi⟩ := h
  obtain ⟨j, hj⟩ := h2
  exact ⟨i + j, by rw [itp_add, hj, hi]⟩
theorem anc_total {x y z : Nat} (h : anc a b B x z) (h2 : anc a b B y z) : anc a b B x y ∨ anc a b B y x := by
  obtain ⟨i, hi⟩ := h
  obtain ⟨j, hj⟩ := h2
  rcases Nat.le_total i j with q | q
  · exact Or.inr ⟨j - i, by rw [← hi, ← itp_add, show j - i + i = j by omega, hj]⟩
  · exact Or.inl ⟨i - j, by rw [← hj, ← itp_add, show i - j + j = i by omega, hi]⟩
/-- a forebear that is another one is a forebear of the parent -/
theorem anc_up {x y : Nat} (h : anc a b B x y) (hne : x ≠ y) : anc a b B x (par a b B y) := by
  obtain ⟨i, hi⟩ := h
  cases i with
  | zero => exact absurd hi.symm hne
  | succ i =>
    refine ⟨i, ?_⟩
    rw [itp_add i 1 y] at hi
    exact hi
/-- the child through which it goes -/
theorem anc_child {x y : Nat} (h : anc a b B x y) (hne : x ≠ y) : ∃ c, anc a b B c y ∧ par a b B c = x ∧ c ≠ x := by
  obtain ⟨i, hi⟩ := h
  induction i with
  | zero => exact absurd hi.symm hne
  | succ i ih =>
    by_cases q : itp a b B i y = x
    · exact ih q
    · exact ⟨itp a b B i y, ⟨i, rfl⟩, hi, q⟩
/-- other parents elsewhere change no forebear -/
theorem itp_same {B2 : Nat → Option Nat} {V : Nat → Prop} (hV : ∀ x, V x → V (par a b B x)) (h : ∀ x, V x → B2 x = B x) {y : Nat} (hy : V y) : ∀ i, itp a b B2 i y = itp a b B i y ∧ V (itp a b B i y)
  | 0 => ⟨rfl, hy⟩
  | i + 1 => by
    obtain ⟨h1, h2⟩ := itp_same hV h hy i
    refine ⟨?_, hV _ h2⟩
    show par a b B2 (itp a b B2 i y) = par a b B (itp a b B i y)
    rw [h1]
    unfold par
    rw [h _ h2]
theorem anc_same {B2 : Nat → Option Nat} {V : Nat → Prop} (hV : ∀ x, V x → V (par a b B x)) (h : ∀ x, V x → B2 x = B x) {x y : Nat} (hy : V y) : anc a b B2 x y ↔ anc a b B x y :=
  ⟨fun ⟨i, hi⟩ => ⟨i, by rw [← (itp_same hV h hy i).1]; exact hi⟩, fun ⟨i, hi⟩ => ⟨i, by rw [(itp_same hV h hy i).1]; exact hi⟩⟩
end
/-- what stands when the walk is over -/
def dF (n m : Nat) (a b : Nat → Nat) (Q : Nat → Prop) (tn lo : Nat → Nat) (B : Nat → Option Nat) : Prop :=
  (∀ x y, x < n → y < n → tn x = tn y → x = y) ∧
  (∀ k, k < n → ∀ e, B k = some e → e < m ∧ Q e ∧ ∃ p, p < n ∧ jn a b e p k ∧ tn p < tn k) ∧
  (∀ x y e, e < m → Q e → jn a b e x y → (anc a b B x y ∨ anc a b B y x) ∧ (B x = some e ∨ B y = some e ∨ lo x ≤ tn y)) ∧
  (∀ x, x < n → lo x ≤ tn x ∧ (lo x = tn x ∨ ∃ z y e, anc a b B x z ∧ z < n ∧ y < n ∧ e < m ∧ Q e ∧ jn a b e z y ∧ B z ≠ some e ∧ lo x = tn y)) ∧
  ∀ c, c < n → ∀ e, B c = some e → lo (ot a b e c) ≤ lo c
section
variable {n m : Nat} {a b : Nat → Nat} {Q : Nat → Prop} {tn lo : Nat → Nat} {B : Nat → Option Nat}
theorem dF_par (h : dF n m a b Q tn lo B) {k : Nat} (hk : k < n) : par a b B k < n ∧ tn (par a b B k) ≤ tn k ∧ lo (par a b B k) ≤ lo k ∧ (∀ e, B k = some e → jn a b e (par a b B k) k ∧ tn (par a b B k) < tn k) := by
  cases hB : B k with
  | none => rw [par_none hB]; exact ⟨hk, Nat.le_refl _, Nat.le_refl _, fun e he => by cases he⟩
  | some e =>
    obtain ⟨h1, h2, p, h3, h4, h5⟩ := h.2.1 k hk e hB
    have hp : par a b B k = p := by rw [par_some hB]; exact jn_ot' h4
    refine ⟨by rw [hp]; exact h3, by rw [hp]; omega, by rw [par_some hB]; exact h.2.2.2.2 k hk e hB, fun e' he' => ?_⟩
    cases he'
    rw [hp]
    exact ⟨h4, h5⟩
theorem dF_anc (h : dF n m a b Q tn lo B) {x y : Nat} (hy : y < n) (hxy : anc a b B x y) : x < n ∧ tn x ≤ tn y ∧ lo x ≤ lo y ∧ (tn x = tn y → x = y) := by
  obtain ⟨i, hi⟩ := hxy
  have key : ∀ i, itp a b B i y < n ∧ tn (itp a b B i y) ≤ tn y ∧ lo (itp a b B i y) ≤ lo y := by
    intro i
    induction i with
    | zero => exact ⟨hy, Nat.le_refl _, Nat.le_refl _⟩
    | succ i ih =>
      obtain ⟨h1, h2, h3⟩ := ih
      obtain ⟨g1, g2, g3, -⟩ := dF_par h h1
      exact ⟨g1, Nat.le_trans g2 h2, Nat.le_trans g3 h3⟩
  obtain ⟨h1, h2, h3⟩ := key i
  rw [hi] at h1 h2 h3
  exact ⟨h1, h2, h3, fun e => h.1 x y h1 hy e⟩
/-- down the tree, by edges that T takes -/
theorem dF_path (h : dF n m a b Q tn lo B) {T : Nat → Prop} {x y : Nat} (hy : y < n) (hxy : anc a b B x y) (hT : ∀ w e, w < n → anc a b B x w → anc a b B w y → w ≠ x → B w = some e → T e) : cn m a b T x y := by
  obtain ⟨i, hi⟩ := hxy
  have key : ∀ i y, y < n → itp a b B i y = x → (∀ w e, w < n → anc a b B x w → anc a b B w y → w ≠ x → B w = some e → T e) → cn m a b T x y := by
    intro i
    induction i with
    | zero => intro y hy hi _; rw [← hi]; exact cn_refl _
    | succ i ih =>
      intro y hy hi hT
      by_cases q : y = x
      · rw [q]; exact cn_refl _
      · have hi2 : itp a b B i (par a b B y) = x := by rw [itp_add i 1 y] at hi; exact hi
        have hc := ih (par a b B y) (dF_par h hy).1 hi2 (fun w e hw h1 h2 => hT w e hw h1 (anc_trans h2 (anc_par y)))
        cases hB : B y with
        | none => rw [par_none hB] at hc; exact hc
        | some e =>
          have he := (h.2.1 y hy e hB).1
          exact cn_step hc ⟨e, he, hT y e hy ⟨i + 1, hi⟩ (anc_refl y) q hB, ((dF_par h hy).2.2.2 e hB).1⟩
  exact key i y hy hi hT
/-- where an edge from below k leads -/
theorem dF_out (hab : ∀ f, f < m → a f < n ∧ b f < n ∧ a f ≠ b f) (h : dF n m a b Q tn lo B) {k z y f : Nat} (hz : z < n) (hkz : anc a b B k z) (hf : f < m) (hQ : Q f) (hj : jn a b f z y) :
    anc a b B k y ∨ (anc a b B y k ∧ y ≠ k ∧ ((z = k ∧ B k = some f) ∨ lo k ≤ tn y)) := by
  have hy : y < n := by
    have := hab f hf
    rcases hj with ⟨q1, q2⟩ | ⟨q1, q2⟩ <;> omega
  obtain ⟨h1, h2⟩ := h.2.2.1 z y f hf hQ hj
  rcases h1 with h1 | h1
  · exact Or.inl (anc_trans hkz h1)
  · rcases anc_total hkz h1 with q | q
    · exact Or.inl q
    · by_cases hyk : y = k
      · rw [hyk]; exact Or.inl (anc_refl k)
      · rcases h2 with h2 | h2 | h2
        · by_cases hzk : z = k
          · subst hzk
            exact Or.inr ⟨q, hyk, Or.inl ⟨rfl, h2⟩⟩
          · left
            have hp : par a b B z = y := by rw [par_some h2]; exact jn_ot hj
            rw [← hp]
            exact anc_up hkz (fun e => hzk e.symm)
        · left
          have hp : par a b B y = z := by rw [par_some h2]; exact jn_ot' hj
          have : anc a b B z y := by rw [← hp]; exact anc_par y
          exact anc_trans hkz this
        · exact Or.inr ⟨q, hyk, Or.inr (Nat.le_trans (dF_anc h hz hkz).2.2.1 h2)⟩
/-- an edge of the tree is a bridge just if nothing below it reaches above -/
theorem dF_bridge (hab : ∀ f, f < m → a f < n ∧ b f < n ∧ a f ≠ b f) (h : dF n m a b Q tn lo B) {k e : Nat} (hk : k < n) (hB : B k = some e) : ¬ cn m a b (fun f => Q f ∧ f ≠ e) (a e) (b e) ↔ lo k = tn k := by
  obtain ⟨he, hQe, p, hp, hj, htp⟩ := h.2.1 k hk e hB
  have hpk : par a b B k = p := by rw [par_some hB]; exact jn_ot' hj
  have ends : cn m a b (fun f => Q f ∧ f ≠ e) (a e) (b e) ↔ cn m a b (fun f => Q f ∧ f ≠ e) k p := by
    rcases hj with ⟨q1, q2⟩ | ⟨q1, q2⟩
    · rw [q1, q2]; exact ⟨cn_symm, cn_symm⟩
    · rw [q1, q2]
  have isend : ∀ {w y}, jn a b e w y → w = k ∨ w = p := fun hw => (jn_two hj hw).elim (fun q => Or.inr q.1) (fun q => Or.inl q.1)
  rw [ends]
  constructor
  · intro hno
    apply Classical.byContradiction
    intro hne
    obtain ⟨hle, hatt⟩ := h.2.2.2.1 k hk
    rcases hatt with q | ⟨z, y, f, hkz, hz, hy, hf, hQf, hjf, hBz, hlo⟩
    · exact hne q
    · have htz := (dF_anc h hz hkz).2.1
      have hzk : ¬ (z = p) := fun q => by rw [q] at htz; omega
      have hfe : f ≠ e := by
        intro q
        subst q
        rcases isend hjf with q2 | q2
        · subst q2; exact hBz hB
        · exact hzk q2
      have hyk : anc a b B y k ∧ y ≠ k := by
        have hty : tn y < tn k := by omega
        have hnk : y ≠ k := fun q => by rw [q] at hty; omega
        rcases (h.2.2.1 z y f hf hQf hjf).1 with q | q
        · have := (dF_anc h hy q).2.1; omega
        · rcases anc_total hkz q with q2 | q2
          · have := (dF_anc h hy q2).2.1; omega
          · exact ⟨q2, hnk⟩
      have hyp : anc a b B y p := by rw [← hpk]; exact anc_up hyk.1 hyk.2
      have c1 : cn m a b (fun f => Q f ∧ f ≠ e) k z := dF_path h hz hkz (fun w e' hw h1 h2 hwk hBw => by
        obtain ⟨g1, g2, -⟩ := h.2.1 w hw e' hBw
        refine ⟨g2, fun q => ?_⟩
        subst q
        have hjw := ((dF_par h hw).2.2.2 e' hBw).1
        have htw := (dF_anc h hw h1).2.1
        rcases isend (jn_symm hjw) with q2 | q2
        · exact hwk q2
        · rw [q2] at htw; omega)
      have c2 : cn m a b (fun f => Q f ∧ f ≠ e) y p := dF_path h hp hyp (fun w e' hw h1 h2 hwk hBw => by
        obtain ⟨g1, g2, -⟩ := h.2.1 w hw e' hBw
        refine ⟨g2, fun q => ?_⟩
        subst q
        obtain ⟨hjw, htw2⟩ := (dF_par h hw).2.2.2 e' hBw
        have htw := (dF_anc h hp h2).2.1
        rcases isend (jn_symm hjw) with q2 | q2
        · rw [q2] at htw; omega
        · rcases isend hjw with q3 | q3
          · rw [q3, q2] at htw2; omega
          · rw [q3, q2] at htw2; omega)
      exact hno (cn_trans (cn_step c1 ⟨f, hf, ⟨hQf, hfe⟩, hjf⟩) c2)
  · intro hlo hc
    have hin : anc a b B k p := cn_closed (fun y => anc a b B k y ∧ y < n) ⟨anc_refl k, hk⟩ (fun x y f hf hT hjf hx => by
      have hy : y < n := by
        have := hab f hf
        rcases hjf with ⟨q1, q2⟩ | ⟨q1, q2⟩ <;> omega
      refine ⟨?_, hy⟩
      rcases dF_out hab h hx.2 hx.1 hf hT.1 hjf with q | ⟨q1, q2, q3⟩
      · exact q
      · exfalso
        rcases q3 with ⟨q3, q4⟩ | q3
        · rw [hB] at q4
          cases q4
          exact hT.2 rfl
        · obtain ⟨g1, g2, g3, g4⟩ := dF_anc h hk q1
          exact q2 (g4 (by omega))) hc |>.1
    have := (dF_anc h hp hin).2.1
    omega
theorem dF_nonbridge (hab : ∀ f, f < m → a f < n ∧ b f < n ∧ a f ≠ b f) (h : dF n m a b Q tn lo B) {e : Nat} (he : e < m) (hQ : Q e) (h1 : B (a e) ≠ some e) (h2 : B (b e) ≠ some e) : cn m a b (fun f => Q f ∧ f ≠ e) (a e) (b e) := by
  have hw := hab e he
  have noB : ∀ w, w < n → B w = some e → False := fun w hwn hB => by
    rcases ((dF_par h hwn).2.2.2 e hB).1 with ⟨q1, q2⟩ | ⟨q1, q2⟩
    · rw [q2] at h2; exact h2 hB
    · rw [q1] at h1; exact h1 hB
  have T : ∀ w e', w < n → B w = some e' → Q e' ∧ e' ≠ e := fun w e' hwn hB => ⟨(h.2.1 w hwn e' hB).2.1, fun q => noB w hwn (by rw [← q]; exact hB)⟩
  rcases (h.2.2.1 (a e) (b e) e he hQ (jn_ab e)).1 with q | q
  · exact dF_path h hw.2.1 q (fun w e' hwn _ _ _ hB => T w e' hwn hB)
  · exact cn_symm (dF_path h hw.1 q (fun w e' hwn _ _ _ hB => T w e' hwn hB))
/-- without the knot v and its edges -/
def avo (a b : Nat → Nat) (Q : Nat → Prop) (v f : Nat) : Prop := Q f ∧ a f ≠ v ∧ b f ≠ v
def cutK (m : Nat) (a b : Nat → Nat) (Q : Nat → Prop) (v : Nat) : Prop := ∃ u w, u ≠ v ∧ w ≠ v ∧ cn m a b Q v u ∧ cn m a b Q v w ∧ ¬ cn m a b (avo a b Q v) u w
theorem avo_jn {v f x y : Nat} (hQ : Q f) (hj : jn a b f x y) (hx : x ≠ v) (hy : y ≠ v) : avo a b Q v f := by
  rcases hj with ⟨q1, q2⟩ | ⟨q1, q2⟩
  · exact ⟨hQ, by rw [q1]; exact hx, by rw [q2]; exact hy⟩
  · exact ⟨hQ, by rw [q1]; exact hy, by rw [q2]; exact hx⟩
theorem jn_avo {v f x y : Nat} (h : avo a b Q v f) (hj : jn a b f x y) : x ≠ v ∧ y ≠ v := by
  rcases hj with ⟨q1, q2⟩ | ⟨q1, q2⟩
  · exact ⟨by rw [← q1]; exact h.2.1, by rw [← q2]; exact h.2.2⟩
  · exact ⟨by rw [← q2]; exact h.2.2, by rw [← q1]; exact h.2.1⟩
/-- below a child c of v, without v: nothing else -/
theorem dF_below (hab : ∀ f, f < m → a f < n ∧ b f < n ∧ a f ≠ b f) (h : dF n m a b Q tn lo B) {v c ec : Nat} (hv : v < n) (hc : c < n) (hBc : B c = some ec) (hpc : par a b B c = v) (hlow : B v = none ∨ tn v ≤ lo c) {y : Nat} (hy : cn m a b (avo a b Q v) c y) : anc a b B c y ∧ y < n := by
  have hcv : c ≠ v := fun q => by
    have := ((dF_par h hc).2.2.2 ec hBc).2
    rw [hpc, q] at this
    omega
  refine cn_closed (fun y => anc a b B c y ∧ y < n) ⟨anc_refl c, hc⟩ (fun x y f hf hT hjf hx => ?_) hy
  have hyn : y < n := by
    have := hab f hf
    rcases hjf with ⟨q1, q2⟩ | ⟨q1, q2⟩ <;> omega
  refine ⟨?_, hyn⟩
  have hyv := (jn_avo hT hjf).2
  rcases dF_out hab h hx.2 hx.1 hf hT.1 hjf with q | ⟨q1, q2, q3⟩
  · exact q
  · exfalso
    have hyv2 : anc a b B y v := by rw [← hpc]; exact anc_up q1 q2
    rcases hlow with hlow | hlow
    · obtain ⟨i, hi⟩ := hyv2
      have : ∀ i, itp a b B i v = v := by
        intro i
        induction i with
        | zero => rfl
        | succ i ih => rw [itp, ih, par_none hlow]
      rw [this i] at hi
      exact hyv hi.symm
    · rcases q3 with ⟨q3, q4⟩ | q3
      · have hp2 : par a b B c = y := by
          rw [par_some q4]
          rw [q3] at hjf
          exact jn_ot hjf
        rw [hpc] at hp2
        exact hyv hp2.symm
      · obtain ⟨g1, g2, g3, g4⟩ := dF_anc h hv hyv2
        exact hyv (g4 (by omega))
/-- a cut knot that has a parent -/
theorem dF_cut (hab : ∀ f, f < m → a f < n ∧ b f < n ∧ a f ≠ b f) (h : dF n m a b Q tn lo B) {v ev : Nat} (hv : v < n) (hBv : B v = some ev) : cutK m a b Q v ↔ ∃ c, c < n ∧ B c ≠ none ∧ par a b B c = v ∧ tn v ≤ lo c := by
  obtain ⟨hev, hQev, p, hp, hj, htp⟩ := h.2.1 v hv ev hBv
  have hpv : par a b B v = p := by rw [par_some hBv]; exact jn_ot' hj
  have hpne : p ≠ v := fun q => by rw [q] at htp; omega
  have up : ∀ y, anc a b B y v → y ≠ v → cn m a b (avo a b Q v) y p := fun y h1 h2 => by
    have hyp : anc a b B y p := by rw [← hpv]; exact anc_up h1 h2
    refine dF_path h hp hyp (fun w e' hw g1 g2 g3 hBw => ?_)
    obtain ⟨hjw, htw2⟩ := (dF_par h hw).2.2.2 e' hBw
    have htw := (dF_anc h hp g2).2.1
    exact avo_jn (h.2.1 w hw e' hBw).2.1 hjw (fun q => by rw [q] at htw2; omega) (fun q => by rw [q] at htw; omega)
  constructor
  · rintro ⟨u, w, hu, hw, hcu, hcw, hno⟩
    apply Classical.byContradiction
    intro hall
    have X : ∀ y, cn m a b Q v y → y = v ∨ (y ≠ v ∧ cn m a b (avo a b Q v) y p) := by
      intro y hy
      refine cn_closed (fun y => y = v ∨ (y ≠ v ∧ cn m a b (avo a b Q v) y p)) (Or.inl rfl) (fun x y f hf hQf hjf hx => ?_) hy
      by_cases hyv : y = v
      · exact Or.inl hyv
      · right
        have hyn : y < n := by
          have := hab f hf
          rcases hjf with ⟨q1, q2⟩ | ⟨q1, q2⟩ <;> omega
        rcases hx with hx | hx
        · subst hx
          rcases (h.2.2.1 x y f hf hQf hjf).1 with q | q
          · obtain ⟨c, hcy, hpc, hcx⟩ := anc_child q (fun e => hyv e.symm)
            have hcn := (dF_anc h hyn hcy).1
            have hBc : B c ≠ none := fun q2 => by rw [par_none q2] at hpc; exact hcx hpc
            obtain ⟨ec, hec⟩ := Option.ne_none_iff_exists'.mp hBc
            have htc : tn x < tn c := by rw [← hpc]; exact ((dF_par h hcn).2.2.2 ec hec).2
            have hlc : lo c < tn x := by
              rcases Nat.lt_or_ge (lo c) (tn x) with q2 | q2
              · exact q2
              · exact absurd ⟨c, hcn, hBc, hpc, q2⟩ hall
            have down : ∀ z, z < n → anc a b B c z → cn m a b (avo a b Q x) c z := fun z hz hcz => dF_path h hz hcz (fun w e' hwn g1 g2 g3 hBw => by
              obtain ⟨hjw, htw2⟩ := (dF_par h hwn).2.2.2 e' hBw
              have htw := (dF_anc h hwn g1).2.1
              have hcp : anc a b B c (par a b B w) := anc_up g1 (fun q => g3 q.symm)
              have htp2 := (dF_anc h (dF_par h hwn).1 hcp).2.1
              exact avo_jn (h.2.1 w hwn e' hBw).2.1 hjw (fun q => by rw [q] at htp2; omega) (fun q => by rw [q] at htw; omega))
            rcases (h.2.2.2.1 c hcn).2 with q2 | ⟨z, y2, f2, g1, g2, g3, g4, g5, g6, g7, g8⟩
            · omega
            · have htz := (dF_anc h g2 g1).2.1
              have hy2x : y2 ≠ x := fun q => by rw [q] at g8; omega
              have hzx : z ≠ x := fun q => by rw [q] at htz; omega
              have hy2v : anc a b B y2 x := by
                rcases (h.2.2.1 z y2 f2 g4 g5 g6).1 with q3 | q3
                · have := (dF_anc h g3 q3).2.1; omega
                · rcases anc_total g1 q3 with q4 | q4
                  · have := (dF_anc h g3 q4).2.1; omega
                  · rw [← hpc]
                    exact anc_up q4 (fun q => by rw [q] at g8; omega)
              exact ⟨hyv, cn_trans (cn_symm (down y hyn hcy)) (cn_trans (cn_step (down z g2 g1) ⟨f2, g4, avo_jn g5 g6 hzx hy2x, g6⟩) (up y2 hy2v hy2x))⟩
          · exact ⟨hyv, up y q hyv⟩
        · exact ⟨hyv, cn_trans (cn_symm (cn_edge hf (avo_jn hQf hjf hx.1 hyv) hjf)) hx.2⟩
    have hu2 := ((X u hcu).resolve_left hu).2
    have hw2 := ((X w hcw).resolve_left hw).2
    exact hno (cn_trans hu2 (cn_symm hw2))
  · rintro ⟨c, hc, hBc, hpc, hlow⟩
    obtain ⟨ec, hec⟩ := Option.ne_none_iff_exists'.mp hBc
    obtain ⟨hjc, htc⟩ := (dF_par h hc).2.2.2 ec hec
    rw [hpc] at hjc htc
    refine ⟨c, p, fun q => by rw [q] at htc; omega, hpne, cn_edge (h.2.1 c hc ec hec).1 (h.2.1 c hc ec hec).2.1 hjc, cn_symm (cn_edge hev hQev hj), fun hcn => ?_⟩
    have hin := (dF_below hab h hv hc hec hpc (Or.inr hlow) hcn).1
    have := (dF_anc h hp hin).2.1
    omega
/-- a cut knot that is a first one -/
theorem dF_cutRoot (hab : ∀ f, f < m → a f < n ∧ b f < n ∧ a f ≠ b f) (h : dF n m a b Q tn lo B) {v : Nat} (hv : v < n) (hBv : B v = none) : cutK m a b Q v ↔ ∃ c d, c < n ∧ d < n ∧ c ≠ d ∧ B c ≠ none ∧ B d ≠ none ∧ par a b B c = v ∧ par a b B d = v := by
  have vfix : ∀ i, itp a b B i v = v := by
    intro i
    induction i with
    | zero => rfl
    | succ i ih => rw [itp, ih, par_none hBv]
  constructor
  · rintro ⟨u, w, hu, hw, hcu, hcw, hno⟩
    apply Classical.byContradiction
    intro hall
    have two : ∀ c d, c < n → d < n → B c ≠ none → B d ≠ none → par a b B c = v → par a b B d = v → c = d := fun c d h1 h2 h3 h4 h5 h6 => Classical.byContradiction fun q => hall ⟨c, d, h1, h2, q, h3, h4, h5, h6⟩
    -- each that hangs together with v stands below a child, and is reached from it without v
    have X : ∀ y, cn m a b Q v y → y = v ∨ (y ≠ v ∧ ∃ c, c < n ∧ B c ≠ none ∧ par a b B c = v ∧ cn m a b (avo a b Q v) y c) := by
      intro y hy
      refine cn_closed (fun y => y = v ∨ (y ≠ v ∧ ∃ c, c < n ∧ B c ≠ none ∧ par a b B c = v ∧ cn m a b (avo a b Q v) y c)) (Or.inl rfl) (fun x y f hf hQf hjf hx => ?_) hy
      by_cases hyv : y = v
      · exact Or.inl hyv
      · right
        have hyn : y < n := by
          have := hab f hf
          rcases hjf with ⟨q1, q2⟩ | ⟨q1, q2⟩ <;> omega
        refine ⟨hyv, ?_⟩
        rcases hx with hx | ⟨hx, c, h1, h2, h3, h4⟩
        · subst hx
          have hxy : anc a b B x y := by
            rcases (h.2.2.1 x y f hf hQf hjf).1 with q | q
            · exact q
            · obtain ⟨i, hi⟩ := q
              rw [vfix i] at hi
              exact absurd hi.symm hyv
          obtain ⟨c, hcy, hpc, hcx⟩ := anc_child hxy (fun e => hyv e.symm)
          have hcn := (dF_anc h hyn hcy).1
          have hBc : B c ≠ none := fun q2 => by rw [par_none q2] at hpc; exact hcx hpc
          obtain ⟨ec, hec⟩ := Option.ne_none_iff_exists'.mp hBc
          have htc : tn x < tn c := by rw [← hpc]; exact ((dF_par h hcn).2.2.2 ec hec).2
          refine ⟨c, hcn, hBc, hpc, cn_symm (dF_path h hyn hcy (fun w e' hwn g1 g2 g3 hBw => ?_))⟩
          obtain ⟨hjw, htw2⟩ := (dF_par h hwn).2.2.2 e' hBw
          have htw := (dF_anc h hwn g1).2.1
          have hcp : anc a b B c (par a b B w) := anc_up g1 (fun q => g3 q.symm)
          have htp2 := (dF_anc h (dF_par h hwn).1 hcp).2.1
          exact avo_jn (h.2.1 w hwn e' hBw).2.1 hjw (fun q => by rw [q] at htp2; omega) (fun q => by rw [q] at htw; omega)
        · exact ⟨c, h1, h2, h3, cn_trans (cn_symm (cn_edge hf (avo_jn hQf hjf hx hyv) hjf)) h4⟩
    obtain ⟨-, c, c1, c2, c3, c4⟩ := (X u hcu).resolve_left hu
    obtain ⟨-, d, d1, d2, d3, d4⟩ := (X w hcw).resolve_left hw
    have e := two c d c1 d1 c2 d2 c3 d3
    subst e
    exact hno (cn_trans c4 (cn_symm d4))
  · rintro ⟨c, d, hc, hd, hcd, hBc, hBd, hpc, hpd⟩
    obtain ⟨ec, hec⟩ := Option.ne_none_iff_exists'.mp hBc
    obtain ⟨ed, hed⟩ := Option.ne_none_iff_exists'.mp hBd
    obtain ⟨hjc, htc⟩ := (dF_par h hc).2.2.2 ec hec
    obtain ⟨hjd, htd⟩ := (dF_par h hd).2.2.2 ed hed
    rw [hpc] at hjc htc
    rw [hpd] at hjd htd
    refine ⟨c, d, fun q => by rw [q] at htc; omega, fun q => by rw [q] at htd; omega, cn_edge (h.2.1 c hc ec hec).1 (h.2.1 c hc ec hec).2.1 hjc, cn_edge (h.2.1 d hd ed hed).1 (h.2.1 d hd ed hed).2.1 hjd, fun hcn => ?_⟩
    obtain ⟨i, hi⟩ := (dF_below hab h hv hc hec hpc (Or.inl hBv) hcn).1
    cases i with
    | zero => exact hcd hi.symm
    | succ i =>
      rw [itp_add i 1 d] at hi
      have : itp a b B 1 d = v := hpd
      rw [this, vfix i] at hi
      rw [hi] at htc
      omega
end
