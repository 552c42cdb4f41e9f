/-! THE ABSTRACT MACHINE: objects and arrays by number; ints of objects in F, rows of ints and truths in I, rows of longs in J -/
abbrev zM : Type := (Nat → Int32) × (Nat → Nat → Int32) × (Nat → Nat → Int64)
abbrev zE : Type := (Nat × List (Nat ⊕ Nat)) ⊕ (Nat × Nat × Nat)
/-- a method: name, bytes, locals, answer, class, rank, world -/
abbrev zI : Type := MethodName × ByteArray × Nat × Option FieldType × String × Nat × Nat
def zgw : List Cond := lw_tbl.filter goodWord
theorem zgw_good {ws : List Cond} (h : ∀ w ∈ ws, w ∈ zgw) : GoodIn zgw ws := fun w hw => ⟨h w hw, good_of_word (List.mem_filter.mp (h w hw)).2⟩
theorem zgw_tbl {w : Cond} (h : w ∈ zgw) : w ∈ lw_tbl := (List.mem_filter.mp h).1
abbrev zcl : List vw_C := [(RX0, TX0, 10), (RX1, TX1, 5), (RX2, TX2, 9), (RX3, TX3, 6), (RX4, TX4, 3), (RX5, TX5, 3), (RX6, TX6, 13), (RX7, TX7, 32)]
def z_v (ad : Nat → Nat) : Value → Value
  | .ref i => .ref (ad i)
  | v => v
theorem z_v_cat (ad : Nat → Nat) (v : Value) : (z_v ad v).category = v.category := by cases v <;> rfl
def z_fv (ad : Nat → Nat) (F : Nat → Int32) : Nat ⊕ Nat → Value
  | .inl r => .ref (ad r)
  | .inr v => .int (F v)
def z_ar (ad : Nat → Nat) (M : zM) (k id : Nat) : (Nat → Int32) ⊕ (Nat → Int64) ⊕ (Nat → UInt32) ⊕ (Nat → UInt64) ⊕ (Nat → Option Nat) :=
  match k with
  | 2 => .inr (.inl (M.2.2 id))
  | 3 => .inr (.inr (.inr (.inr (fun j => some (ad (id + 2 * j))))))
  | _ => .inl (M.2.1 id)
def z_el (cA : Nat → ClassId) (ad : Nat → Nat) (M : zM) : zE → va_E
  | .inl q => .inr (q.1, q.2.map (z_fv ad M.1))
  | .inr q => .inl (cA q.1, q.2.1, z_ar ad M q.1 q.2.2)
def z_w (lay : List zE) (cA : Nat → ClassId) (ad : Nat → Nat) (M : zM) : va_W := lay.mapIdx (fun i e => (ad i, z_el cA ad M e))
theorem z_w_at {lay : List zE} {cA : Nat → ClassId} {ad : Nat → Nat} {M : zM} {o : Nat} {e : zE} (h : lay[o]? = some e) : (z_w lay cA ad M)[o]? = some (ad o, z_el cA ad M e) := by
  simp [z_w, h]
def z_ui (I : Nat → Nat → Int32) (id j : Nat) (x : Int32) : Nat → Nat → Int32 := fun a => if a = id then upd (I id) j x else I a
def z_ul (J : Nat → Nat → Int64) (id j : Nat) (x : Int64) : Nat → Nat → Int64 := fun a => if a = id then vp_updL (J id) j x else J a
/-- numbers of fields and rows are each in one place -/
def z_un (lay : List zE) (iF : List (Nat × Nat)) (iI iJ : List Nat) : Prop :=
  (∀ (i c : Nat) (fs : List (Nat ⊕ Nat)) (k v : Nat), lay[i]? = some (.inl (c, fs)) → fs[k]? = some (.inr v) → iF[v]? = some (i, k)) ∧
  (∀ i k n id : Nat, lay[i]? = some (.inr (k, n, id)) → k ≠ 2 → k ≠ 3 → iI[id]? = some i) ∧ (∀ i n id : Nat, lay[i]? = some (.inr (2, n, id)) → iJ[id]? = some i)
def z_chk (lay : List zE) (iF : List (Nat × Nat)) (iI iJ : List Nat) : Bool :=
  lay.zipIdx.all fun q => match q.1 with
    | .inl (_, fs) => fs.zipIdx.all fun f => match f.1 with
      | .inr v => iF[v]? == some (q.2, f.2)
      | .inl _ => true
    | .inr (k, _, id) => if k = 3 then true else if k = 2 then iJ[id]? == some q.2 else iI[id]? == some q.2
theorem z_un_of {lay : List zE} {iF : List (Nat × Nat)} {iI iJ : List Nat} (h : z_chk lay iF iI iJ = true) : z_un lay iF iI iJ := by
  unfold z_chk at h
  rw [List.all_eq_true] at h
  refine ⟨fun i c fs k v hi hk => ?_, fun i k n id hi h2 h3 => ?_, fun i n id hi => ?_⟩
  · have h1 := h (_, i) (List.mem_zipIdx_iff_getElem?.mpr hi)
    simp only at h1
    rw [List.all_eq_true] at h1
    have h2 := h1 (_, k) (List.mem_zipIdx_iff_getElem?.mpr hk)
    simpa using h2
  · have h1 := h (_, i) (List.mem_zipIdx_iff_getElem?.mpr hi)
    simpa [h2, h3] using h1
  · have h1 := h (_, i) (List.mem_zipIdx_iff_getElem?.mpr hi)
    simpa using h1
theorem z_w_putF {lay : List zE} {iF : List (Nat × Nat)} {iI iJ : List Nat} (hu : z_un lay iF iI iJ) {cA : Nat → ClassId} {ad : Nat → Nat} {M : zM} {o ci k v : Nat} {fs : List (Nat ⊕ Nat)} (ho : lay[o]? = some (.inl (ci, fs))) (hk : fs[k]? = some (.inr v)) (x : Int32) :
    (z_w lay cA ad M).set o (ad o, .inr (ci, (fs.map (z_fv ad M.1)).set k (.int x))) = z_w lay cA ad (upd M.1 v x, M.2) := by
  have hol := (List.getElem?_eq_some_iff.mp ho).1
  have hkl := (List.getElem?_eq_some_iff.mp hk).1
  have hv := hu.1 o ci fs k v ho hk
  apply List.ext_getElem?
  intro i
  by_cases hi : i = o
  · subst hi
    rw [List.getElem?_set_self (by simpa [z_w] using hol), z_w_at ho]
    simp only [z_el, Option.some.injEq, Prod.mk.injEq, Sum.inr.injEq, true_and]
    apply List.ext_getElem?
    intro j
    by_cases hj : j = k
    · subst hj
      rw [List.getElem?_set_self (by simpa using hkl), List.getElem?_map, hk]
      simp [z_fv, upd]
    · rw [List.getElem?_set_ne (Ne.symm hj), List.getElem?_map, List.getElem?_map]
      cases hf : fs[j]? with
      | none => rfl
      | some f =>
        cases f with
        | inl r => rfl
        | inr v' =>
          have hv' := hu.1 i ci fs j v' ho hf
          have hne : v' ≠ v := by
            intro e
            rw [e, hv] at hv'
            simp at hv'
            exact hj hv'.symm
          simp [z_fv, upd, hne]
  · rw [List.getElem?_set_ne (Ne.symm hi)]
    cases he : lay[i]? with
    | none => simp [z_w, he]
    | some e =>
      rw [z_w_at he, z_w_at he]
      cases e with
      | inr q => rfl
      | inl q =>
        obtain ⟨c, fs'⟩ := q
        simp only [z_el, Option.some.injEq, Prod.mk.injEq, Sum.inr.injEq, true_and]
        apply List.map_congr_left
        intro f hf
        cases f with
        | inl r => rfl
        | inr v' =>
          obtain ⟨j, hj⟩ := List.getElem?_of_mem hf
          have hv' := hu.1 i c fs' j v' he hj
          have hne : v' ≠ v := by
            intro e
            rw [e, hv] at hv'
            simp at hv'
            exact hi hv'.1.symm
          simp [z_fv, upd, hne]
theorem z_w_putI {lay : List zE} {iF : List (Nat × Nat)} {iI iJ : List Nat} (hu : z_un lay iF iI iJ) {cA : Nat → ClassId} {ad : Nat → Nat} {M : zM} {o kd n id : Nat} (ho : lay[o]? = some (.inr (kd, n, id))) (h2 : kd ≠ 2) (h3 : kd ≠ 3) (j : Nat) (x : Int32) :
    (z_w lay cA ad M).set o (ad o, .inl (cA kd, n, .inl (upd (M.2.1 id) j x))) = z_w lay cA ad (M.1, z_ui M.2.1 id j x, M.2.2) := by
  have hol := (List.getElem?_eq_some_iff.mp ho).1
  have hv := hu.2.1 o kd n id ho h2 h3
  apply List.ext_getElem?
  intro i
  by_cases hi : i = o
  · subst hi
    rw [List.getElem?_set_self (by simpa [z_w] using hol), z_w_at ho]
    simp only [z_el, Option.some.injEq, Prod.mk.injEq, Sum.inl.injEq, true_and]
    unfold z_ar
    split
    · exact absurd rfl h2
    · exact absurd rfl h3
    · simp [z_ui]
  · rw [List.getElem?_set_ne (Ne.symm hi)]
    cases he : lay[i]? with
    | none => simp [z_w, he]
    | some e =>
      rw [z_w_at he, z_w_at he]
      cases e with
      | inl q => rfl
      | inr q =>
        obtain ⟨k', n', id'⟩ := q
        simp only [z_el, Option.some.injEq, Prod.mk.injEq, Sum.inl.injEq, true_and]
        unfold z_ar
        split
        · rfl
        · rfl
        · rename_i q2 q3
          have hv' := hu.2.1 i k' n' id' he (fun e => q2 e) (fun e => q3 e)
          have hne : id' ≠ id := by
            intro e
            rw [e, hv] at hv'
            simp at hv'
            exact hi hv'.symm
          simp [z_ui, hne]
theorem z_w_putJ {lay : List zE} {iF : List (Nat × Nat)} {iI iJ : List Nat} (hu : z_un lay iF iI iJ) {cA : Nat → ClassId} {ad : Nat → Nat} {M : zM} {o n id : Nat} (ho : lay[o]? = some (.inr (2, n, id))) (j : Nat) (x : Int64) :
    (z_w lay cA ad M).set o (ad o, .inl (cA 2, n, .inr (.inl (vp_updL (M.2.2 id) j x)))) = z_w lay cA ad (M.1, M.2.1, z_ul M.2.2 id j x) := by
  have hol := (List.getElem?_eq_some_iff.mp ho).1
  have hv := hu.2.2 o n id ho
  apply List.ext_getElem?
  intro i
  by_cases hi : i = o
  · subst hi
    rw [List.getElem?_set_self (by simpa [z_w] using hol), z_w_at ho]
    simp [z_el, z_ar, z_ul]
  · rw [List.getElem?_set_ne (Ne.symm hi)]
    cases he : lay[i]? with
    | none => simp [z_w, he]
    | some e =>
      rw [z_w_at he, z_w_at he]
      cases e with
      | inl q => rfl
      | inr q =>
        obtain ⟨k', n', id'⟩ := q
        simp only [z_el, Option.some.injEq, Prod.mk.injEq, Sum.inl.injEq, true_and]
        unfold z_ar
        split
        · have hv' := hu.2.2 i n' id' he
          have hne : id' ≠ id := by
            intro e
            rw [e, hv] at hv'
            simp at hv'
            exact hi hv'.symm
          simp [z_ul, hne]
        · rfl
        · rfl
def zn (x : Int32) : Nat := x.toNatClampNeg
theorem zn_nI {n : Nat} (h : n < 2 ^ 31) : zn (nI n) = n := nI_clamp h
theorem z_in_lt {i : Int32} {n : Nat} (h : vp_in i n) : zn i < n := Nat.not_le.mp fun q => h (Or.inr q)
/-! locals -/
def z_lv (ls : Array Slot) (nL : Nat) (ad : Nat → Nat) (L : List (Option Value)) : Prop := ls.size = nL ∧ lv_wf ls ∧ ∀ (i : Nat) (v : Value), L[i]? = some (some v) → ls[i]? = some (Slot.val (z_v ad v))
def z_prs (ad : Nat → Nat) : Nat → List (Option Value) → List (Nat × Value)
  | _, [] => []
  | k, none :: L => z_prs ad (k + 1) L
  | k, some v :: L => (k, z_v ad v) :: z_prs ad (k + 1) L
theorem z_prs_mem (ad : Nat → Nat) : ∀ (L : List (Option Value)) (k : Nat) (q : Nat × Value), q ∈ z_prs ad k L ↔ ∃ j v, L[j]? = some (some v) ∧ q = (k + j, z_v ad v)
  | [], k, q => by simp [z_prs]
  | none :: L, k, q => by
    rw [z_prs, z_prs_mem ad L (k + 1) q]
    constructor
    · rintro ⟨j, v, h1, h2⟩
      exact ⟨j + 1, v, by simpa using h1, by rw [h2]; simp; omega⟩
    · rintro ⟨j, v, h1, h2⟩
      cases j with
      | zero => simp at h1
      | succ j => exact ⟨j, v, by simpa using h1, by rw [h2]; simp; omega⟩
  | some v0 :: L, k, q => by
    rw [z_prs, List.mem_cons, z_prs_mem ad L (k + 1) q]
    constructor
    · rintro (h | ⟨j, v, h1, h2⟩)
      · exact ⟨0, v0, rfl, h⟩
      · exact ⟨j + 1, v, by simpa using h1, by rw [h2]; simp; omega⟩
    · rintro ⟨j, v, h1, h2⟩
      cases j with
      | zero =>
        simp at h1
        subst h1
        exact Or.inl h2
      | succ j => exact Or.inr ⟨j, v, by simpa using h1, by rw [h2]; simp; omega⟩
theorem z_lv_has {ls : Array Slot} {nL : Nat} {ad : Nat → Nat} {L : List (Option Value)} (h : z_lv ls nL ad L) : lv_has ls nL (z_prs ad 0 L) := by
  refine ⟨h.1, h.2.1, fun q hq => ?_⟩
  obtain ⟨j, v, h1, h2⟩ := (z_prs_mem ad L 0 q).mp hq
  rw [h2]
  simpa using h.2.2 j v h1
def z_c1 : Option Value → Option Value
  | some (.long _) => none
  | some (.double _) => none
  | o => o
theorem z_c1_some {o : Option Value} {v : Value} (h : z_c1 o = some v) : o = some v ∧ v.category = 1 := by
  cases o with
  | none => simp [z_c1] at h
  | some u => cases u <;> simp [z_c1] at h <;> subst h <;> exact ⟨rfl, rfl⟩
def z_s1 : List (Option Value) → Nat → Value → List (Option Value)
  | [], _, _ => []
  | _ :: L, 0, v => some v :: L
  | o :: L, 1, v => z_c1 o :: z_s1 L 0 v
  | o :: L, n + 2, v => o :: z_s1 L (n + 1) v
theorem z_s1_at : ∀ (L : List (Option Value)) (i : Nat) (v : Value) (j : Nat) (w : Value), (z_s1 L i v)[j]? = some (some w) → (j = i ∧ w = v) ∨ (j ≠ i ∧ L[j]? = some (some w) ∧ (j + 1 = i → w.category = 1))
  | [], i, v, j, w, h => by simp [z_s1] at h
  | o :: L, 0, v, j, w, h => by
    cases j with
    | zero => simp [z_s1] at h; exact Or.inl ⟨rfl, h.symm⟩
    | succ j => exact Or.inr ⟨by omega, by simpa [z_s1] using h, fun q => by omega⟩
  | o :: L, 1, v, j, w, h => by
    cases j with
    | zero =>
      have h1 : z_c1 o = some w := by simpa [z_s1] using h
      obtain ⟨h2, h3⟩ := z_c1_some h1
      exact Or.inr ⟨by omega, by simp [h2], fun _ => h3⟩
    | succ j =>
      have h1 : (z_s1 L 0 v)[j]? = some (some w) := by simpa [z_s1] using h
      rcases z_s1_at L 0 v j w h1 with ⟨a, b⟩ | ⟨a, b, c⟩
      · exact Or.inl ⟨by omega, b⟩
      · exact Or.inr ⟨by omega, by simpa using b, fun q => c (by omega)⟩
  | o :: L, n + 2, v, j, w, h => by
    cases j with
    | zero => exact Or.inr ⟨by omega, by simpa [z_s1] using h, fun q => by omega⟩
    | succ j =>
      have h1 : (z_s1 L (n + 1) v)[j]? = some (some w) := by simpa [z_s1] using h
      rcases z_s1_at L (n + 1) v j w h1 with ⟨a, b⟩ | ⟨a, b, c⟩
      · exact Or.inl ⟨by omega, b⟩
      · exact Or.inr ⟨by omega, by simpa using b, fun q => c (by omega)⟩
def z_s2 : List (Option Value) → Nat → Value → List (Option Value)
  | [], _, _ => []
  | [_], 0, v => [some v]
  | _ :: _ :: L, 0, v => some v :: none :: L
  | o :: L, 1, v => z_c1 o :: z_s2 L 0 v
  | o :: L, n + 2, v => o :: z_s2 L (n + 1) v
theorem z_s2_at : ∀ (L : List (Option Value)) (i : Nat) (v : Value) (j : Nat) (w : Value), (z_s2 L i v)[j]? = some (some w) → (j = i ∧ w = v) ∨ (j ≠ i ∧ j ≠ i + 1 ∧ L[j]? = some (some w) ∧ (j + 1 = i → w.category = 1))
  | [], i, v, j, w, h => by simp [z_s2] at h
  | [o], 0, v, j, w, h => by
    cases j with
    | zero => simp [z_s2] at h; exact Or.inl ⟨rfl, h.symm⟩
    | succ j => simp [z_s2] at h
  | o :: o2 :: L, 0, v, j, w, h => by
    match j, h with
    | 0, h => simp [z_s2] at h; exact Or.inl ⟨rfl, h.symm⟩
    | 1, h => simp [z_s2] at h
    | j + 2, h => exact Or.inr ⟨by omega, by omega, by simpa [z_s2] using h, fun q => by omega⟩
  | o :: L, 1, v, j, w, h => by
    cases j with
    | zero =>
      have h1 : z_c1 o = some w := by simpa [z_s2] using h
      obtain ⟨h2, h3⟩ := z_c1_some h1
      exact Or.inr ⟨by omega, by omega, by simp [h2], fun _ => h3⟩
    | succ j =>
      have h1 : (z_s2 L 0 v)[j]? = some (some w) := by simpa [z_s2] using h
      rcases z_s2_at L 0 v j w h1 with ⟨a, b⟩ | ⟨a, b, c, d⟩
      · exact Or.inl ⟨by omega, b⟩
      · exact Or.inr ⟨by omega, by omega, by simpa using c, fun q => d (by omega)⟩
  | o :: L, n + 2, v, j, w, h => by
    cases j with
    | zero => exact Or.inr ⟨by omega, by omega, by simpa [z_s2] using h, fun q => by omega⟩
    | succ j =>
      have h1 : (z_s2 L (n + 1) v)[j]? = some (some w) := by simpa [z_s2] using h
      rcases z_s2_at L (n + 1) v j w h1 with ⟨a, b⟩ | ⟨a, b, c, d⟩
      · exact Or.inl ⟨by omega, b⟩
      · exact Or.inr ⟨by omega, by omega, by simpa using c, fun q => d (by omega)⟩
theorem z_lv_s1 {ls : Array Slot} {nL : Nat} {ad : Nat → Nat} {L : List (Option Value)} {i : Nat} {v : Value} (h : lv_has ls nL ((i, z_v ad v) :: (z_prs ad 0 L).filter (fun q => !(q.1 == i) && !(q.1 + 1 == i && q.2.category == 2)))) : z_lv ls nL ad (z_s1 L i v) := by
  refine ⟨h.1, h.2.1, fun j w hj => ?_⟩
  rcases z_s1_at L i v j w hj with ⟨a, b⟩ | ⟨a, b, c⟩
  · subst a; subst b
    exact h.2.2 _ List.mem_cons_self
  · refine h.2.2 (j, z_v ad w) (List.mem_cons_of_mem _ (List.mem_filter.mpr ⟨(z_prs_mem ad L 0 _).mpr ⟨j, w, b, by simp⟩, ?_⟩))
    simp only [z_v_cat]
    by_cases e : j + 1 = i
    · simp [a, e, c e]
    · simp [a, e]
theorem z_lv_s2 {ls : Array Slot} {nL : Nat} {ad : Nat → Nat} {L : List (Option Value)} {i : Nat} {v : Value} (h : lv_has ls nL ((i, z_v ad v) :: (z_prs ad 0 L).filter (fun q => !(q.1 == i) && (!(q.1 == i + 1) && !(q.1 + 1 == i && q.2.category == 2))))) : z_lv ls nL ad (z_s2 L i v) := by
  refine ⟨h.1, h.2.1, fun j w hj => ?_⟩
  rcases z_s2_at L i v j w hj with ⟨a, b⟩ | ⟨a, a2, b, c⟩
  · subst a; subst b
    exact h.2.2 _ List.mem_cons_self
  · refine h.2.2 (j, z_v ad w) (List.mem_cons_of_mem _ (List.mem_filter.mpr ⟨(z_prs_mem ad L 0 _).mpr ⟨j, w, b, by simp⟩, ?_⟩))
    simp only [z_v_cat]
    by_cases e : j + 1 = i
    · simp [a, a2, e, c e]
    · simp [a, a2, e]
def z_en : List Value → Nat → List (Option Value)
  | [], n => List.replicate n none
  | v :: vs, n => if v.category = 2 then some v :: none :: z_en vs n else some v :: z_en vs n
theorem z_en_at (ad : Nat → Nat) (n : Nat) : ∀ (vs : List Value) (k j : Nat) (w : Value), (z_en vs n)[j]? = some (some w) → (k + j, z_v ad w) ∈ lv_args k (vs.map (z_v ad))
  | [], k, j, w, h => by simp [z_en, List.getElem?_replicate] at h
  | v :: vs, k, j, w, h => by
    rw [List.map_cons, lv_args, z_v_cat]
    by_cases hc : v.category = 2
    · rw [z_en, if_pos hc] at h
      rw [if_pos hc]
      match j, h with
      | 0, h => simp at h; subst h; exact List.mem_cons_self
      | 1, h => simp at h
      | j + 2, h =>
        have := z_en_at ad n vs (k + 2) j w (by simpa using h)
        rw [show k + (j + 2) = k + 2 + j by omega]
        exact List.mem_cons_of_mem _ this
    · rw [z_en, if_neg hc] at h
      rw [if_neg hc]
      match j, h with
      | 0, h => simp at h; subst h; exact List.mem_cons_self
      | j + 1, h =>
        have := z_en_at ad n vs (k + 1) j w (by simpa using h)
        rw [show k + (j + 1) = k + 1 + j by omega]
        exact List.mem_cons_of_mem _ this
/-! the judgements -/
def z_tys (cA : Nat → ClassId) : List (ClassId × FieldType) := [(cA 0, .int), (cA 1, .boolean), (cA 2, .long), (cA 3, .object "ForestKeeper$Tray")]
def z_rm (I : zI) : Room := { frames := I.2.2.2.2.2.1, cells := 0, slots := 0, locals := 32 * I.2.2.2.2.2.1 }
def z_ws (I : zI) : List Cond := .code I.1 I.2.1 I.2.2.1 I.2.2.2.1 :: zgw
def z_layC : List zE := [
  .inl (6, [.inl 1, .inl 2, .inl 3, .inl 12, .inl 17, .inl 22, .inl 25, .inl 31, .inl 36, .inr 0, .inr 1, .inr 2, .inr 3]),
  .inr (2, 100, 0), .inr (0, 100, 0),
  .inl (0, [.inl 4, .inl 5, .inl 6, .inl 7, .inl 8, .inl 9, .inl 10, .inl 11, .inr 4, .inr 5]),
  .inr (0, 300, 1), .inr (0, 300, 2), .inr (2, 300, 1), .inr (0, 300, 3), .inr (0, 300, 4), .inr (0, 100, 5), .inr (0, 600, 6), .inr (0, 1500, 7),
  .inl (1, [.inl 13, .inl 14, .inl 15, .inl 16, .inr 6]), .inr (0, 100, 8), .inr (0, 100, 9), .inr (0, 100, 10), .inr (1, 100, 11),
  .inl (1, [.inl 18, .inl 19, .inl 20, .inl 21, .inr 7]), .inr (0, 100, 12), .inr (0, 100, 13), .inr (0, 100, 14), .inr (1, 100, 15),
  .inl (5, [.inl 23, .inl 24, .inr 8]), .inr (0, 100, 16), .inr (0, 100, 17),
  .inl (2, [.inl 26, .inl 27, .inl 28, .inl 29, .inl 30, .inr 9, .inr 10, .inr 11, .inr 12]), .inr (0, 100, 18), .inr (0, 100, 19), .inr (0, 100, 20), .inr (0, 100, 21), .inr (1, 100, 22),
  .inl (3, [.inl 32, .inl 33, .inl 34, .inl 35, .inr 13, .inr 14]), .inr (0, 20, 23), .inr (0, 20, 24), .inr (0, 20, 25), .inr (2, 20, 2),
  .inr (3, 6, 37),
  .inl (4, [.inl 38, .inr 15, .inr 21]), .inr (2, 100, 3),
  .inl (4, [.inl 40, .inr 16, .inr 22]), .inr (2, 100, 4),
  .inl (4, [.inl 42, .inr 17, .inr 23]), .inr (2, 100, 5),
  .inl (4, [.inl 44, .inr 18, .inr 24]), .inr (2, 100, 6),
  .inl (4, [.inl 46, .inr 19, .inr 25]), .inr (2, 100, 7),
  .inl (4, [.inl 48, .inr 20, .inr 26]), .inr (2, 100, 8)]
def z_layM : List zE := [
  .inl (7, [.inr 0, .inr 1, .inr 2, .inr 3, .inr 4, .inl 1, .inl 2, .inl 3, .inl 4, .inl 5, .inl 6, .inl 7, .inr 5, .inl 8, .inl 9, .inl 10, .inl 11, .inl 12, .inl 13, .inl 14, .inl 15, .inl 16, .inl 17, .inl 18, .inl 19, .inl 20, .inr 6, .inl 21, .inl 22, .inl 23, .inl 24, .inr 7]),
  .inr (2, 100, 0), .inr (0, 100, 0), .inr (0, 300, 1), .inr (0, 300, 2), .inr (0, 300, 3), .inr (0, 300, 4), .inr (2, 300, 1), .inr (2, 2100, 2), .inr (0, 2100, 5), .inr (0, 6300, 6), .inr (0, 6300, 7), .inr (0, 21, 8), .inr (0, 21, 9), .inr (0, 21, 10), .inr (1, 100, 11), .inr (1, 100, 12), .inr (0, 100, 13), .inr (0, 100, 14), .inr (0, 100, 15), .inr (0, 100, 16), .inr (0, 6, 17), .inr (0, 6, 18), .inr (0, 600, 19), .inr (2, 600, 3)]
def z_lay (I : zI) : List zE := match I.2.2.2.2.2.2 with
  | 0 => z_layC
  | _ => z_layM
def z_iF (w : Nat) : List (Nat × Nat) := match w with
  | 0 => [(0, 9), (0, 10), (0, 11), (0, 12), (3, 8), (3, 9), (12, 4), (17, 4), (22, 2), (25, 5), (25, 6), (25, 7), (25, 8), (31, 4), (31, 5), (37, 1), (39, 1), (41, 1), (43, 1), (45, 1), (47, 1), (37, 2), (39, 2), (41, 2), (43, 2), (45, 2), (47, 2)]
  | _ => [(0, 0), (0, 1), (0, 2), (0, 3), (0, 4), (0, 12), (0, 26), (0, 31)]
def z_iI (w : Nat) : List Nat := match w with
  | 0 => [2, 4, 5, 7, 8, 9, 10, 11, 13, 14, 15, 16, 18, 19, 20, 21, 23, 24, 26, 27, 28, 29, 30, 32, 33, 34]
  | _ => [2, 3, 4, 5, 6, 9, 10, 11, 12, 13, 14, 15, 16, 17, 18, 19, 20, 21, 22, 23]
def z_iJ (w : Nat) : List Nat := match w with
  | 0 => [1, 6, 35, 38, 40, 42, 44, 46, 48]
  | _ => [1, 7, 8, 24]
theorem z_unC : z_un z_layC (z_iF 0) (z_iI 0) (z_iJ 0) := z_un_of (by decide +kernel)
theorem z_unM : z_un z_layM (z_iF 1) (z_iI 1) (z_iJ 1) := z_un_of (by decide +kernel)
theorem z_unI (I : zI) : ∃ iF iI iJ, z_un (z_lay I) iF iI iJ := by
  unfold z_lay
  split
  · exact ⟨_, _, _, z_unC⟩
  · exact ⟨_, _, _, z_unM⟩
theorem z_trayC {t : Nat} (h : t < 6) : z_layC[37 + 2 * t]? = some (.inl (4, [.inl (38 + 2 * t), .inr (15 + t), .inr (21 + t)])) := by
  rcases (show t = 0 ∨ t = 1 ∨ t = 2 ∨ t = 3 ∨ t = 4 ∨ t = 5 by omega) with rfl | rfl | rfl | rfl | rfl | rfl <;> rfl
theorem z_rowC {t : Nat} (h : t < 6) : z_layC[38 + 2 * t]? = some (.inr (2, 100, 3 + t)) := by
  rcases (show t = 0 ∨ t = 1 ∨ t = 2 ∨ t = 3 ∨ t = 4 ∨ t = 5 by omega) with rfl | rfl | rfl | rfl | rfl | rfl <;> rfl
def z_Q (I : zI) (post : Option Value → zM → Prop) (D : va_G) (cA : Nat → ClassId) (ad : Nat → Nat) (A : Nat → Prop) : Array Value → State → Outcome → State → Prop := fun _ st oc t =>
  (∃ r M, post r M ∧ oc = .returned (r.map (z_v ad)) ∧ va_P D zcl (z_w (z_lay I) cA ad M) t.heap ∧ va_K D zcl (z_tys cA) t ∧ va_D A (z_w (z_lay I) cA ad M)) ∧ va_F A st t
def z_cx (I : zI) (p : Program) (R : Room) (s : State) (m : MethodId) (args : Array Value) (meth : Method) (c : Code) (D : va_G) (cA : Nat → ClassId) (A : Nat → Prop) : Prop :=
  p.tables.exec = Jvm.exec ∧ c.code = I.2.1 ∧ c.maxLocals = I.2.2.1 ∧ meth.sig.returnType = I.2.2.2.1 ∧ meth.locks = false ∧ s.vm.findClass I.2.2.2.2.1 = some m.cls ∧ (∀ w ∈ zgw, w.before args s = true) ∧ va_K D zcl (z_tys cA) s ∧ (∀ q, s.heap.size ≤ q → A q) ∧ R = z_rm I
/-- from here on the method comes to its end, with post -/
def AW (I : zI) (post : Option Value → zM → Prop) (pc : Nat) (L : List (Option Value)) (st : List Value) (M : zM) : Prop :=
  ∀ post' : Option Value → zM → Prop, (∀ r M, post r M → post' r M) → ∀ (p : Program) (l : Launch) (e : Env) (R : Room) (s : State) (m : MethodId) (args : Array Value) (below : List Frame) (meth : Method) (c : Code) (D : va_G) (cA : Nat → ClassId) (ad : Nat → Nat) (A : Nat → Prop), z_cx I p R s m args meth c D cA A →
    ∀ (H : Heap) (locs : List Loc) (ls : Array Slot), va_P D zcl (z_w (z_lay I) cA ad M) H → va_D A (z_w (z_lay I) cA ad M) → va_S A s.heap H locs → z_lv ls I.2.2.1 ad L →
      W p l e R s m args below meth c H locs 0 0 (MQ below (z_Q I post' D cA ad A) args s 0 0 A) (F0 m pc ls (st.map (z_v ad)))
/-- a method's contract -/
def AMet (I : zI) (av : List Value) (M : zM) (post : Option Value → zM → Prop) : Prop :=
  ∀ post' : Option Value → zM → Prop, (∀ r M, post r M → post' r M) → ∀ (l : Launch) (D : va_G) (cA : Nat → ClassId) (ad : Nat → Nat) (sz : Nat),
    Met l I.1 (z_ws I) (z_rm I) (va_Pc (av.map (z_v ad)) (fun U => U.heap.size = sz ∧ va_P D zcl (z_w (z_lay I) cA ad M) U.heap ∧ va_K D zcl (z_tys cA) U ∧ va_D (fun _ => True) (z_w (z_lay I) cA ad M)))
      (z_Q I post' D cA ad (va_A (z_w (z_lay I) cA ad M) sz)) 0 0 (va_A (z_w (z_lay I) cA ad M) sz)
theorem AW.mono {I : zI} {post post2 : Option Value → zM → Prop} {pc : Nat} {L : List (Option Value)} {st : List Value} {M : zM} (h : AW I post pc L st M) (hp : ∀ r M, post r M → post2 r M) : AW I post2 pc L st M := fun post' h' => h post' (fun r M q => h' r M (hp r M q))
theorem AMet.mono {I : zI} {post post2 : Option Value → zM → Prop} {av : List Value} {M : zM} (h : AMet I av M post) (hp : ∀ r M, post r M → post2 r M) : AMet I av M post2 := fun post' h' => h post' (fun r M q => h' r M (hp r M q))
/-- int, long, void, reference answers -/
def z_pi (P : Int32 → zM → Prop) : Option Value → zM → Prop := fun r M' => ∃ x, r = some (.int x) ∧ P x M'
def z_pl (P : Int64 → zM → Prop) : Option Value → zM → Prop := fun r M' => ∃ x, r = some (.long x) ∧ P x M'
def z_pv (P : zM → Prop) : Option Value → zM → Prop := fun r M' => r = none ∧ P M'
def z_pr (P : Nat → zM → Prop) : Option Value → zM → Prop := fun r M' => ∃ x, r = some (.ref x) ∧ P x M'
def AMi (I : zI) (av : List Value) (M : zM) (P : Int32 → zM → Prop) : Prop := AMet I av M (z_pi P)
def AMl (I : zI) (av : List Value) (M : zM) (P : Int64 → zM → Prop) : Prop := AMet I av M (z_pl P)
def AMv (I : zI) (av : List Value) (M : zM) (P : zM → Prop) : Prop := AMet I av M (z_pv P)
def AMr (I : zI) (av : List Value) (M : zM) (P : Nat → zM → Prop) : Prop := AMet I av M (z_pr P)
theorem AMi.mono {I : zI} {post post2 : Int32 → zM → Prop} {av : List Value} {M : zM} (h : AMi I av M post) (hp : ∀ r M, post r M → post2 r M) : AMi I av M post2 := AMet.mono h (fun _ M q => q.elim fun x q => ⟨x, q.1, hp x M q.2⟩)
theorem AMl.mono {I : zI} {post post2 : Int64 → zM → Prop} {av : List Value} {M : zM} (h : AMl I av M post) (hp : ∀ r M, post r M → post2 r M) : AMl I av M post2 := AMet.mono h (fun _ M q => q.elim fun x q => ⟨x, q.1, hp x M q.2⟩)
theorem AMv.mono {I : zI} {post post2 : zM → Prop} {av : List Value} {M : zM} (h : AMv I av M post) (hp : ∀ M, post M → post2 M) : AMv I av M post2 := AMet.mono h (fun _ M q => ⟨q.1, hp M q.2⟩)
theorem AMr.mono {I : zI} {post post2 : Nat → zM → Prop} {av : List Value} {M : zM} (h : AMr I av M post) (hp : ∀ r M, post r M → post2 r M) : AMr I av M post2 := AMet.mono h (fun _ M q => q.elim fun x q => ⟨x, q.1, hp x M q.2⟩)

/-! the rules -/
theorem z_weak {I : zI} {post : Option Value → zM → Prop} {pc : Nat} {L : List (Option Value)} {st : List Value} {M : zM} {L2 : List (Option Value)} (h : ∀ (i : Nat) (v : Value), L2[i]? = some (some v) → L[i]? = some (some v)) (k : AW I post pc L2 st M) : AW I post pc L st M := by
  intro post' hp p l e R s m args below meth c D cA ad A C H locs ls hP hD hS hl
  exact k post' hp p l e R s m args below meth c D cA ad A C H locs ls hP hD hS ⟨hl.1, hl.2.1, fun i v q => hl.2.2 i v (h i v q)⟩
def z_le : List (Option Value) → List (Option Value) → Prop
  | [], _ => True
  | none :: L2, _ :: L => z_le L2 L
  | none :: L2, [] => z_le L2 []
  | some v :: L2, o :: L => o = some v ∧ z_le L2 L
  | some _ :: _, [] => False
theorem z_le_at : ∀ (L2 L : List (Option Value)), z_le L2 L → ∀ (i : Nat) (v : Value), L2[i]? = some (some v) → L[i]? = some (some v)
  | [], L, _, i, v, h => by simp at h
  | none :: L2, o :: L, hle, i, v, h => by
    cases i with
    | zero => simp at h
    | succ i => simpa using z_le_at L2 L hle i v (by simpa using h)
  | none :: L2, [], hle, i, v, h => by
    cases i with
    | zero => simp at h
    | succ i => have := z_le_at L2 [] hle i v (by simpa using h); simp at this
  | some u :: L2, o :: L, hle, i, v, h => by
    cases i with
    | zero =>
      obtain ⟨h1, -⟩ := hle
      simp at h
      subst h
      simp [h1]
    | succ i => simpa using z_le_at L2 L hle.2 i v (by simpa using h)
  | some u :: L2, [], hle, i, v, h => hle.elim
theorem z_wk {I : zI} {post : Option Value → zM → Prop} {pc : Nat} {L : List (Option Value)} {st : List Value} {M : zM} (L2 : List (Option Value)) (h : z_le L2 L) (k : AW I post pc L2 st M) : AW I post pc L st M := z_weak (z_le_at L2 L h) k
theorem z_iconst {I : zI} {post : Option Value → zM → Prop} {pc : Nat} {L : List (Option Value)} {st : List Value} {M : zM} {n : Int} {v : Int32} (hd : decode I.2.1 pc = .ok (.iconst n, 1)) (hv : Int32.ofInt n = v) (k : AW I post (pc + 1) L (.int v :: st) M) : AW I post pc L (st) M := by
  intro post' hp p l e R s m args below meth c D cA ad A C H locs ls hP hD hS hl
  exact lv_iconst C.1 C.2.1 hd hv (k post' hp p l e R s m args below meth c D cA ad A C H locs ls hP hD hS hl)
theorem z_bipush {I : zI} {post : Option Value → zM → Prop} {pc : Nat} {L : List (Option Value)} {st : List Value} {M : zM} {n : Int} {v : Int32} (hd : decode I.2.1 pc = .ok (.bipush n, 2)) (hv : (Int8.ofInt n).toInt32 = v) (k : AW I post (pc + 2) L (.int v :: st) M) : AW I post pc L (st) M := by
  intro post' hp p l e R s m args below meth c D cA ad A C H locs ls hP hD hS hl
  exact lv_bipush C.1 C.2.1 hd hv (k post' hp p l e R s m args below meth c D cA ad A C H locs ls hP hD hS hl)
theorem z_sipush {I : zI} {post : Option Value → zM → Prop} {pc : Nat} {L : List (Option Value)} {st : List Value} {M : zM} {n : Int} {v : Int32} (hd : decode I.2.1 pc = .ok (.sipush n, 3)) (hv : (Int16.ofInt n).toInt32 = v) (k : AW I post (pc + 3) L (.int v :: st) M) : AW I post pc L (st) M := by
  intro post' hp p l e R s m args below meth c D cA ad A C H locs ls hP hD hS hl
  exact lv_sipush C.1 C.2.1 hd hv (k post' hp p l e R s m args below meth c D cA ad A C H locs ls hP hD hS hl)
theorem z_lconst {I : zI} {post : Option Value → zM → Prop} {pc : Nat} {L : List (Option Value)} {st : List Value} {M : zM} {n : Fin 2} {v : Int64} (hd : decode I.2.1 pc = .ok (.lconst n, 1)) (hv : Int64.ofNat (n : Nat) = v) (k : AW I post (pc + 1) L (.long v :: st) M) : AW I post pc L (st) M := by
  intro post' hp p l e R s m args below meth c D cA ad A C H locs ls hP hD hS hl
  exact lv_lconst C.1 C.2.1 hd hv (k post' hp p l e R s m args below meth c D cA ad A C H locs ls hP hD hS hl)
theorem z_ldc2 {I : zI} {post : Option Value → zM → Prop} {pc : Nat} {L : List (Option Value)} {st : List Value} {M : zM} {n : Nat} {v : Int64} (hd : decode I.2.1 pc = .ok (.ldc2_w n, 3)) (hv : Jvm.Cond.constantLong I.2.2.2.2.1 n v ∈ zgw) (k : AW I post (pc + 3) L (.long v :: st) M) : AW I post pc L (st) M := by
  intro post' hp p l e R s m args below meth c D cA ad A C H locs ls hP hD hS hl
  exact lv_ldc2 C.1 C.2.1 C.2.2.2.2.2.1 (C.2.2.2.2.2.2.1 _ hv) hd (k post' hp p l e R s m args below meth c D cA ad A C H locs ls hP hD hS hl)
theorem z_iload_n {I : zI} {post : Option Value → zM → Prop} {pc : Nat} {L : List (Option Value)} {st : List Value} {M : zM} {n : Fin 4} {i : Nat} {x : Int32} (hd : decode I.2.1 pc = .ok (.iload_n n, 1)) (hi : (n : Nat) = i) (hL : L[i]? = some (some (.int x))) (k : AW I post (pc + 1) L (.int x :: st) M) : AW I post pc L (st) M := by
  intro post' hp p l e R s m args below meth c D cA ad A C H locs ls hP hD hS hl
  exact lv_iload_n C.1 C.2.1 hd hi (hl.2.2 i _ hL) (k post' hp p l e R s m args below meth c D cA ad A C H locs ls hP hD hS hl)
theorem z_iload {I : zI} {post : Option Value → zM → Prop} {pc : Nat} {L : List (Option Value)} {st : List Value} {M : zM} {i : Nat} {x : Int32} (hd : decode I.2.1 pc = .ok (.iload i, 2)) (hL : L[i]? = some (some (.int x))) (k : AW I post (pc + 2) L (.int x :: st) M) : AW I post pc L (st) M := by
  intro post' hp p l e R s m args below meth c D cA ad A C H locs ls hP hD hS hl
  exact lv_iload C.1 C.2.1 hd (hl.2.2 i _ hL) (k post' hp p l e R s m args below meth c D cA ad A C H locs ls hP hD hS hl)
theorem z_lload_n {I : zI} {post : Option Value → zM → Prop} {pc : Nat} {L : List (Option Value)} {st : List Value} {M : zM} {n : Fin 4} {i : Nat} {x : Int64} (hd : decode I.2.1 pc = .ok (.lload_n n, 1)) (hi : (n : Nat) = i) (hL : L[i]? = some (some (.long x))) (k : AW I post (pc + 1) L (.long x :: st) M) : AW I post pc L (st) M := by
  intro post' hp p l e R s m args below meth c D cA ad A C H locs ls hP hD hS hl
  exact lv_lload_n C.1 C.2.1 hd hi (hl.2.2 i _ hL) (k post' hp p l e R s m args below meth c D cA ad A C H locs ls hP hD hS hl)
theorem z_lload {I : zI} {post : Option Value → zM → Prop} {pc : Nat} {L : List (Option Value)} {st : List Value} {M : zM} {i : Nat} {x : Int64} (hd : decode I.2.1 pc = .ok (.lload i, 2)) (hL : L[i]? = some (some (.long x))) (k : AW I post (pc + 2) L (.long x :: st) M) : AW I post pc L (st) M := by
  intro post' hp p l e R s m args below meth c D cA ad A C H locs ls hP hD hS hl
  exact lv_lload C.1 C.2.1 hd (hl.2.2 i _ hL) (k post' hp p l e R s m args below meth c D cA ad A C H locs ls hP hD hS hl)
theorem z_aload_n {I : zI} {post : Option Value → zM → Prop} {pc : Nat} {L : List (Option Value)} {st : List Value} {M : zM} {n : Fin 4} {i : Nat} {x : Nat} (hd : decode I.2.1 pc = .ok (.aload_n n, 1)) (hi : (n : Nat) = i) (hL : L[i]? = some (some (.ref x))) (k : AW I post (pc + 1) L (.ref x :: st) M) : AW I post pc L (st) M := by
  intro post' hp p l e R s m args below meth c D cA ad A C H locs ls hP hD hS hl
  exact lv_aload_n C.1 C.2.1 hd hi (hl.2.2 i _ hL) (k post' hp p l e R s m args below meth c D cA ad A C H locs ls hP hD hS hl)
theorem z_aload {I : zI} {post : Option Value → zM → Prop} {pc : Nat} {L : List (Option Value)} {st : List Value} {M : zM} {i : Nat} {x : Nat} (hd : decode I.2.1 pc = .ok (.aload i, 2)) (hL : L[i]? = some (some (.ref x))) (k : AW I post (pc + 2) L (.ref x :: st) M) : AW I post pc L (st) M := by
  intro post' hp p l e R s m args below meth c D cA ad A C H locs ls hP hD hS hl
  exact lv_aload C.1 C.2.1 hd (hl.2.2 i _ hL) (k post' hp p l e R s m args below meth c D cA ad A C H locs ls hP hD hS hl)
theorem z_iadd {I : zI} {post : Option Value → zM → Prop} {pc : Nat} {L : List (Option Value)} {st : List Value} {M : zM} {x y : Int32} (hd : decode I.2.1 pc = .ok (.iadd, 1)) (k : AW I post (pc + 1) L (.int (x + y) :: st) M) : AW I post pc L (.int y :: .int x :: st) M := by
  intro post' hp p l e R s m args below meth c D cA ad A C H locs ls hP hD hS hl
  exact lv_iadd C.1 C.2.1 hd (k post' hp p l e R s m args below meth c D cA ad A C H locs ls hP hD hS hl)
theorem z_isub {I : zI} {post : Option Value → zM → Prop} {pc : Nat} {L : List (Option Value)} {st : List Value} {M : zM} {x y : Int32} (hd : decode I.2.1 pc = .ok (.isub, 1)) (k : AW I post (pc + 1) L (.int (x - y) :: st) M) : AW I post pc L (.int y :: .int x :: st) M := by
  intro post' hp p l e R s m args below meth c D cA ad A C H locs ls hP hD hS hl
  exact lv_isub C.1 C.2.1 hd (k post' hp p l e R s m args below meth c D cA ad A C H locs ls hP hD hS hl)
theorem z_imul {I : zI} {post : Option Value → zM → Prop} {pc : Nat} {L : List (Option Value)} {st : List Value} {M : zM} {x y : Int32} (hd : decode I.2.1 pc = .ok (.imul, 1)) (k : AW I post (pc + 1) L (.int (x * y) :: st) M) : AW I post pc L (.int y :: .int x :: st) M := by
  intro post' hp p l e R s m args below meth c D cA ad A C H locs ls hP hD hS hl
  exact lv_imul C.1 C.2.1 hd (k post' hp p l e R s m args below meth c D cA ad A C H locs ls hP hD hS hl)
theorem z_iand {I : zI} {post : Option Value → zM → Prop} {pc : Nat} {L : List (Option Value)} {st : List Value} {M : zM} {x y : Int32} (hd : decode I.2.1 pc = .ok (.iand, 1)) (k : AW I post (pc + 1) L (.int (x &&& y) :: st) M) : AW I post pc L (.int y :: .int x :: st) M := by
  intro post' hp p l e R s m args below meth c D cA ad A C H locs ls hP hD hS hl
  exact lv_iand C.1 C.2.1 hd (k post' hp p l e R s m args below meth c D cA ad A C H locs ls hP hD hS hl)
theorem z_ladd {I : zI} {post : Option Value → zM → Prop} {pc : Nat} {L : List (Option Value)} {st : List Value} {M : zM} {x y : Int64} (hd : decode I.2.1 pc = .ok (.ladd, 1)) (k : AW I post (pc + 1) L (.long (x + y) :: st) M) : AW I post pc L (.long y :: .long x :: st) M := by
  intro post' hp p l e R s m args below meth c D cA ad A C H locs ls hP hD hS hl
  exact lv_ladd C.1 C.2.1 hd (k post' hp p l e R s m args below meth c D cA ad A C H locs ls hP hD hS hl)
theorem z_land {I : zI} {post : Option Value → zM → Prop} {pc : Nat} {L : List (Option Value)} {st : List Value} {M : zM} {x y : Int64} (hd : decode I.2.1 pc = .ok (.land, 1)) (k : AW I post (pc + 1) L (.long (x &&& y) :: st) M) : AW I post pc L (.long y :: .long x :: st) M := by
  intro post' hp p l e R s m args below meth c D cA ad A C H locs ls hP hD hS hl
  exact lv_land C.1 C.2.1 hd (k post' hp p l e R s m args below meth c D cA ad A C H locs ls hP hD hS hl)
theorem z_lor {I : zI} {post : Option Value → zM → Prop} {pc : Nat} {L : List (Option Value)} {st : List Value} {M : zM} {x y : Int64} (hd : decode I.2.1 pc = .ok (.lor, 1)) (k : AW I post (pc + 1) L (.long (x ||| y) :: st) M) : AW I post pc L (.long y :: .long x :: st) M := by
  intro post' hp p l e R s m args below meth c D cA ad A C H locs ls hP hD hS hl
  exact lv_lor C.1 C.2.1 hd (k post' hp p l e R s m args below meth c D cA ad A C H locs ls hP hD hS hl)
theorem z_idiv {I : zI} {post : Option Value → zM → Prop} {pc : Nat} {L : List (Option Value)} {st : List Value} {M : zM} {x y : Int32} (hd : decode I.2.1 pc = .ok (.idiv, 1)) (hne : ¬ y = 0) (k : AW I post (pc + 1) L (.int (x / y) :: st) M) : AW I post pc L (.int y :: .int x :: st) M := by
  intro post' hp p l e R s m args below meth c D cA ad A C H locs ls hP hD hS hl
  exact lv_idiv C.1 C.2.1 hd hne (k post' hp p l e R s m args below meth c D cA ad A C H locs ls hP hD hS hl)
theorem z_irem {I : zI} {post : Option Value → zM → Prop} {pc : Nat} {L : List (Option Value)} {st : List Value} {M : zM} {x y : Int32} (hd : decode I.2.1 pc = .ok (.irem, 1)) (hne : ¬ y = 0) (k : AW I post (pc + 1) L (.int (x - x / y * y) :: st) M) : AW I post pc L (.int y :: .int x :: st) M := by
  intro post' hp p l e R s m args below meth c D cA ad A C H locs ls hP hD hS hl
  exact lv_irem C.1 C.2.1 hd hne (k post' hp p l e R s m args below meth c D cA ad A C H locs ls hP hD hS hl)
theorem z_lneg {I : zI} {post : Option Value → zM → Prop} {pc : Nat} {L : List (Option Value)} {st : List Value} {M : zM} {x : Int64} (hd : decode I.2.1 pc = .ok (.lneg, 1)) (k : AW I post (pc + 1) L (.long (-x) :: st) M) : AW I post pc L (.long x :: st) M := by
  intro post' hp p l e R s m args below meth c D cA ad A C H locs ls hP hD hS hl
  exact lv_lneg C.1 C.2.1 hd (k post' hp p l e R s m args below meth c D cA ad A C H locs ls hP hD hS hl)
theorem z_i2l {I : zI} {post : Option Value → zM → Prop} {pc : Nat} {L : List (Option Value)} {st : List Value} {M : zM} {x : Int32} (hd : decode I.2.1 pc = .ok (.i2l, 1)) (k : AW I post (pc + 1) L (.long x.toInt64 :: st) M) : AW I post pc L (.int x :: st) M := by
  intro post' hp p l e R s m args below meth c D cA ad A C H locs ls hP hD hS hl
  exact lv_i2l C.1 C.2.1 hd rfl (k post' hp p l e R s m args below meth c D cA ad A C H locs ls hP hD hS hl)
theorem z_l2i {I : zI} {post : Option Value → zM → Prop} {pc : Nat} {L : List (Option Value)} {st : List Value} {M : zM} {x : Int64} (hd : decode I.2.1 pc = .ok (.l2i, 1)) (k : AW I post (pc + 1) L (.int x.toInt32 :: st) M) : AW I post pc L (.long x :: st) M := by
  intro post' hp p l e R s m args below meth c D cA ad A C H locs ls hP hD hS hl
  exact lv_l2i C.1 C.2.1 hd rfl (k post' hp p l e R s m args below meth c D cA ad A C H locs ls hP hD hS hl)
theorem z_lcmp {I : zI} {post : Option Value → zM → Prop} {pc : Nat} {L : List (Option Value)} {st : List Value} {M : zM} {x y : Int64} (hd : decode I.2.1 pc = .ok (.lcmp, 1)) (k : AW I post (pc + 1) L (.int (lg_cmp x y) :: st) M) : AW I post pc L (.long y :: .long x :: st) M := by
  intro post' hp p l e R s m args below meth c D cA ad A C H locs ls hP hD hS hl
  exact W.lcmp C.1 C.2.1 hd (k post' hp p l e R s m args below meth c D cA ad A C H locs ls hP hD hS hl)
theorem z_istore_n {I : zI} {post : Option Value → zM → Prop} {pc : Nat} {L : List (Option Value)} {st : List Value} {M : zM} {n : Fin 4} {i : Nat} {x : Int32} {L2 : List (Option Value)} (hd : decode I.2.1 pc = .ok (.istore_n n, 1)) (hi : (n : Nat) = i) (hn : i < I.2.2.1) (hL : z_s1 L i (.int x) = L2) (k : AW I post (pc + 1) L2 st M) : AW I post pc L (.int x :: st) M := by
  intro post' hp p l e R s m args below meth c D cA ad A C H locs ls hP hD hS hl
  exact lv_istore_n C.1 C.2.1 hd hi (z_lv_has hl) hn rfl (fun ls' hl' => k post' hp p l e R s m args below meth c D cA ad A C H locs ls' hP hD hS (by rw [← hL]; exact z_lv_s1 (v := .int x) hl'))
theorem z_istore {I : zI} {post : Option Value → zM → Prop} {pc : Nat} {L : List (Option Value)} {st : List Value} {M : zM} {i : Nat} {x : Int32} {L2 : List (Option Value)} (hd : decode I.2.1 pc = .ok (.istore i, 2)) (hn : i < I.2.2.1) (hL : z_s1 L i (.int x) = L2) (k : AW I post (pc + 2) L2 st M) : AW I post pc L (.int x :: st) M := by
  intro post' hp p l e R s m args below meth c D cA ad A C H locs ls hP hD hS hl
  exact lv_istore C.1 C.2.1 hd (z_lv_has hl) hn rfl (fun ls' hl' => k post' hp p l e R s m args below meth c D cA ad A C H locs ls' hP hD hS (by rw [← hL]; exact z_lv_s1 (v := .int x) hl'))
theorem z_lstore_n {I : zI} {post : Option Value → zM → Prop} {pc : Nat} {L : List (Option Value)} {st : List Value} {M : zM} {n : Fin 4} {i : Nat} {x : Int64} {L2 : List (Option Value)} (hd : decode I.2.1 pc = .ok (.lstore_n n, 1)) (hi : (n : Nat) = i) (hn : i + 1 < I.2.2.1) (hL : z_s2 L i (.long x) = L2) (k : AW I post (pc + 1) L2 st M) : AW I post pc L (.long x :: st) M := by
  intro post' hp p l e R s m args below meth c D cA ad A C H locs ls hP hD hS hl
  exact lv_lstore_n C.1 C.2.1 hd hi (z_lv_has hl) hn rfl (fun ls' hl' => k post' hp p l e R s m args below meth c D cA ad A C H locs ls' hP hD hS (by rw [← hL]; exact z_lv_s2 (v := .long x) hl'))
theorem z_lstore {I : zI} {post : Option Value → zM → Prop} {pc : Nat} {L : List (Option Value)} {st : List Value} {M : zM} {i : Nat} {x : Int64} {L2 : List (Option Value)} (hd : decode I.2.1 pc = .ok (.lstore i, 2)) (hn : i + 1 < I.2.2.1) (hL : z_s2 L i (.long x) = L2) (k : AW I post (pc + 2) L2 st M) : AW I post pc L (.long x :: st) M := by
  intro post' hp p l e R s m args below meth c D cA ad A C H locs ls hP hD hS hl
  exact lv_lstore C.1 C.2.1 hd (z_lv_has hl) hn rfl (fun ls' hl' => k post' hp p l e R s m args below meth c D cA ad A C H locs ls' hP hD hS (by rw [← hL]; exact z_lv_s2 (v := .long x) hl'))
theorem z_astore_n {I : zI} {post : Option Value → zM → Prop} {pc : Nat} {L : List (Option Value)} {st : List Value} {M : zM} {n : Fin 4} {i : Nat} {x : Nat} {L2 : List (Option Value)} (hd : decode I.2.1 pc = .ok (.astore_n n, 1)) (hi : (n : Nat) = i) (hn : i < I.2.2.1) (hL : z_s1 L i (.ref x) = L2) (k : AW I post (pc + 1) L2 st M) : AW I post pc L (.ref x :: st) M := by
  intro post' hp p l e R s m args below meth c D cA ad A C H locs ls hP hD hS hl
  exact lv_astore_n C.1 C.2.1 hd hi (z_lv_has hl) hn rfl (fun ls' hl' => k post' hp p l e R s m args below meth c D cA ad A C H locs ls' hP hD hS (by rw [← hL]; exact z_lv_s1 (v := .ref x) hl'))
theorem z_astore {I : zI} {post : Option Value → zM → Prop} {pc : Nat} {L : List (Option Value)} {st : List Value} {M : zM} {i : Nat} {x : Nat} {L2 : List (Option Value)} (hd : decode I.2.1 pc = .ok (.astore i, 2)) (hn : i < I.2.2.1) (hL : z_s1 L i (.ref x) = L2) (k : AW I post (pc + 2) L2 st M) : AW I post pc L (.ref x :: st) M := by
  intro post' hp p l e R s m args below meth c D cA ad A C H locs ls hP hD hS hl
  exact lv_astore C.1 C.2.1 hd (z_lv_has hl) hn rfl (fun ls' hl' => k post' hp p l e R s m args below meth c D cA ad A C H locs ls' hP hD hS (by rw [← hL]; exact z_lv_s1 (v := .ref x) hl'))
theorem z_iinc {I : zI} {post : Option Value → zM → Prop} {pc : Nat} {L : List (Option Value)} {st : List Value} {M : zM} {i : Nat} {n : Int} {x v : Int32} {L2 : List (Option Value)} (hd : decode I.2.1 pc = .ok (.iinc i n, 3)) (hx : L[i]? = some (some (.int x))) (hv : x + Int32.ofInt n = v) (hn : i < I.2.2.1) (hL : z_s1 L i (.int v) = L2) (k : AW I post (pc + 3) L2 st M) : AW I post pc L st M := by
  intro post' hp p l e R s m args below meth c D cA ad A C H locs ls hP hD hS hl
  obtain ⟨q, hq⟩ := List.getElem?_of_mem ((z_prs_mem ad L 0 (i, .int x)).mpr ⟨i, _, hx, by simp [z_v]⟩)
  exact lv_iinc C.1 C.2.1 hd (z_lv_has hl) hq hv hn rfl (fun ls' hl' => k post' hp p l e R s m args below meth c D cA ad A C H locs ls' hP hD hS (by rw [← hL]; exact z_lv_s1 (v := .int v) hl'))
theorem z_if_eq {I : zI} {post : Option Value → zM → Prop} {pc : Nat} {L : List (Option Value)} {st : List Value} {M : zM} {x : Int32} {off : Int} (tgt : Nat) (hd : decode I.2.1 pc = .ok (.ifCond .eq off, 3)) (ht : (pc : Int) + off = (tgt : Int)) (k : (x = 0 → AW I post tgt L st M) ∧ (¬ x = 0 → AW I post (pc + 3) L st M)) : AW I post pc L (.int x :: st) M := by
  intro post' hp p l e R s m args below meth c D cA ad A C H locs ls hP hD hS hl
  exact lv_if_eq C.1 C.2.1 hd ht (fun q => k.1 q post' hp p l e R s m args below meth c D cA ad A C H locs ls hP hD hS hl) (fun q => k.2 q post' hp p l e R s m args below meth c D cA ad A C H locs ls hP hD hS hl)
theorem z_icmp_eq {I : zI} {post : Option Value → zM → Prop} {pc : Nat} {L : List (Option Value)} {st : List Value} {M : zM} {x y : Int32} {off : Int} (tgt : Nat) (hd : decode I.2.1 pc = .ok (.if_icmp .eq off, 3)) (ht : (pc : Int) + off = (tgt : Int)) (k : (x = y → AW I post tgt L st M) ∧ (¬ x = y → AW I post (pc + 3) L st M)) : AW I post pc L (.int y :: .int x :: st) M := by
  intro post' hp p l e R s m args below meth c D cA ad A C H locs ls hP hD hS hl
  exact lv_icmp_eq C.1 C.2.1 hd ht (fun q => k.1 q post' hp p l e R s m args below meth c D cA ad A C H locs ls hP hD hS hl) (fun q => k.2 q post' hp p l e R s m args below meth c D cA ad A C H locs ls hP hD hS hl)
theorem z_if_ne {I : zI} {post : Option Value → zM → Prop} {pc : Nat} {L : List (Option Value)} {st : List Value} {M : zM} {x : Int32} {off : Int} (tgt : Nat) (hd : decode I.2.1 pc = .ok (.ifCond .ne off, 3)) (ht : (pc : Int) + off = (tgt : Int)) (k : (¬ x = 0 → AW I post tgt L st M) ∧ (x = 0 → AW I post (pc + 3) L st M)) : AW I post pc L (.int x :: st) M := by
  intro post' hp p l e R s m args below meth c D cA ad A C H locs ls hP hD hS hl
  exact lv_if_ne C.1 C.2.1 hd ht (fun q => k.1 q post' hp p l e R s m args below meth c D cA ad A C H locs ls hP hD hS hl) (fun q => k.2 q post' hp p l e R s m args below meth c D cA ad A C H locs ls hP hD hS hl)
theorem z_icmp_ne {I : zI} {post : Option Value → zM → Prop} {pc : Nat} {L : List (Option Value)} {st : List Value} {M : zM} {x y : Int32} {off : Int} (tgt : Nat) (hd : decode I.2.1 pc = .ok (.if_icmp .ne off, 3)) (ht : (pc : Int) + off = (tgt : Int)) (k : (¬ x = y → AW I post tgt L st M) ∧ (x = y → AW I post (pc + 3) L st M)) : AW I post pc L (.int y :: .int x :: st) M := by
  intro post' hp p l e R s m args below meth c D cA ad A C H locs ls hP hD hS hl
  exact lv_icmp_ne C.1 C.2.1 hd ht (fun q => k.1 q post' hp p l e R s m args below meth c D cA ad A C H locs ls hP hD hS hl) (fun q => k.2 q post' hp p l e R s m args below meth c D cA ad A C H locs ls hP hD hS hl)
theorem z_if_lt {I : zI} {post : Option Value → zM → Prop} {pc : Nat} {L : List (Option Value)} {st : List Value} {M : zM} {x : Int32} {off : Int} (tgt : Nat) (hd : decode I.2.1 pc = .ok (.ifCond .lt off, 3)) (ht : (pc : Int) + off = (tgt : Int)) (k : (x < 0 → AW I post tgt L st M) ∧ (¬ x < 0 → AW I post (pc + 3) L st M)) : AW I post pc L (.int x :: st) M := by
  intro post' hp p l e R s m args below meth c D cA ad A C H locs ls hP hD hS hl
  exact lv_if_lt C.1 C.2.1 hd ht (fun q => k.1 q post' hp p l e R s m args below meth c D cA ad A C H locs ls hP hD hS hl) (fun q => k.2 q post' hp p l e R s m args below meth c D cA ad A C H locs ls hP hD hS hl)
theorem z_icmp_lt {I : zI} {post : Option Value → zM → Prop} {pc : Nat} {L : List (Option Value)} {st : List Value} {M : zM} {x y : Int32} {off : Int} (tgt : Nat) (hd : decode I.2.1 pc = .ok (.if_icmp .lt off, 3)) (ht : (pc : Int) + off = (tgt : Int)) (k : (x < y → AW I post tgt L st M) ∧ (¬ x < y → AW I post (pc + 3) L st M)) : AW I post pc L (.int y :: .int x :: st) M := by
  intro post' hp p l e R s m args below meth c D cA ad A C H locs ls hP hD hS hl
  exact lv_icmp_lt C.1 C.2.1 hd ht (fun q => k.1 q post' hp p l e R s m args below meth c D cA ad A C H locs ls hP hD hS hl) (fun q => k.2 q post' hp p l e R s m args below meth c D cA ad A C H locs ls hP hD hS hl)
theorem z_if_ge {I : zI} {post : Option Value → zM → Prop} {pc : Nat} {L : List (Option Value)} {st : List Value} {M : zM} {x : Int32} {off : Int} (tgt : Nat) (hd : decode I.2.1 pc = .ok (.ifCond .ge off, 3)) (ht : (pc : Int) + off = (tgt : Int)) (k : (0 ≤ x → AW I post tgt L st M) ∧ (¬ 0 ≤ x → AW I post (pc + 3) L st M)) : AW I post pc L (.int x :: st) M := by
  intro post' hp p l e R s m args below meth c D cA ad A C H locs ls hP hD hS hl
  exact lv_if_ge C.1 C.2.1 hd ht (fun q => k.1 q post' hp p l e R s m args below meth c D cA ad A C H locs ls hP hD hS hl) (fun q => k.2 q post' hp p l e R s m args below meth c D cA ad A C H locs ls hP hD hS hl)
theorem z_icmp_ge {I : zI} {post : Option Value → zM → Prop} {pc : Nat} {L : List (Option Value)} {st : List Value} {M : zM} {x y : Int32} {off : Int} (tgt : Nat) (hd : decode I.2.1 pc = .ok (.if_icmp .ge off, 3)) (ht : (pc : Int) + off = (tgt : Int)) (k : (y ≤ x → AW I post tgt L st M) ∧ (¬ y ≤ x → AW I post (pc + 3) L st M)) : AW I post pc L (.int y :: .int x :: st) M := by
  intro post' hp p l e R s m args below meth c D cA ad A C H locs ls hP hD hS hl
  exact lv_icmp_ge C.1 C.2.1 hd ht (fun q => k.1 q post' hp p l e R s m args below meth c D cA ad A C H locs ls hP hD hS hl) (fun q => k.2 q post' hp p l e R s m args below meth c D cA ad A C H locs ls hP hD hS hl)
theorem z_if_gt {I : zI} {post : Option Value → zM → Prop} {pc : Nat} {L : List (Option Value)} {st : List Value} {M : zM} {x : Int32} {off : Int} (tgt : Nat) (hd : decode I.2.1 pc = .ok (.ifCond .gt off, 3)) (ht : (pc : Int) + off = (tgt : Int)) (k : (0 < x → AW I post tgt L st M) ∧ (¬ 0 < x → AW I post (pc + 3) L st M)) : AW I post pc L (.int x :: st) M := by
  intro post' hp p l e R s m args below meth c D cA ad A C H locs ls hP hD hS hl
  exact lv_if_gt C.1 C.2.1 hd ht (fun q => k.1 q post' hp p l e R s m args below meth c D cA ad A C H locs ls hP hD hS hl) (fun q => k.2 q post' hp p l e R s m args below meth c D cA ad A C H locs ls hP hD hS hl)
theorem z_icmp_gt {I : zI} {post : Option Value → zM → Prop} {pc : Nat} {L : List (Option Value)} {st : List Value} {M : zM} {x y : Int32} {off : Int} (tgt : Nat) (hd : decode I.2.1 pc = .ok (.if_icmp .gt off, 3)) (ht : (pc : Int) + off = (tgt : Int)) (k : (y < x → AW I post tgt L st M) ∧ (¬ y < x → AW I post (pc + 3) L st M)) : AW I post pc L (.int y :: .int x :: st) M := by
  intro post' hp p l e R s m args below meth c D cA ad A C H locs ls hP hD hS hl
  exact lv_icmp_gt C.1 C.2.1 hd ht (fun q => k.1 q post' hp p l e R s m args below meth c D cA ad A C H locs ls hP hD hS hl) (fun q => k.2 q post' hp p l e R s m args below meth c D cA ad A C H locs ls hP hD hS hl)
theorem z_if_le {I : zI} {post : Option Value → zM → Prop} {pc : Nat} {L : List (Option Value)} {st : List Value} {M : zM} {x : Int32} {off : Int} (tgt : Nat) (hd : decode I.2.1 pc = .ok (.ifCond .le off, 3)) (ht : (pc : Int) + off = (tgt : Int)) (k : (x ≤ 0 → AW I post tgt L st M) ∧ (¬ x ≤ 0 → AW I post (pc + 3) L st M)) : AW I post pc L (.int x :: st) M := by
  intro post' hp p l e R s m args below meth c D cA ad A C H locs ls hP hD hS hl
  exact lv_if_le C.1 C.2.1 hd ht (fun q => k.1 q post' hp p l e R s m args below meth c D cA ad A C H locs ls hP hD hS hl) (fun q => k.2 q post' hp p l e R s m args below meth c D cA ad A C H locs ls hP hD hS hl)
theorem z_icmp_le {I : zI} {post : Option Value → zM → Prop} {pc : Nat} {L : List (Option Value)} {st : List Value} {M : zM} {x y : Int32} {off : Int} (tgt : Nat) (hd : decode I.2.1 pc = .ok (.if_icmp .le off, 3)) (ht : (pc : Int) + off = (tgt : Int)) (k : (x ≤ y → AW I post tgt L st M) ∧ (¬ x ≤ y → AW I post (pc + 3) L st M)) : AW I post pc L (.int y :: .int x :: st) M := by
  intro post' hp p l e R s m args below meth c D cA ad A C H locs ls hP hD hS hl
  exact lv_icmp_le C.1 C.2.1 hd ht (fun q => k.1 q post' hp p l e R s m args below meth c D cA ad A C H locs ls hP hD hS hl) (fun q => k.2 q post' hp p l e R s m args below meth c D cA ad A C H locs ls hP hD hS hl)
theorem z_goto {I : zI} {post : Option Value → zM → Prop} {pc : Nat} {L : List (Option Value)} {st : List Value} {M : zM} {off : Int} (tgt : Nat) (hd : decode I.2.1 pc = .ok (.goto off, 3)) (ht : (pc : Int) + off = (tgt : Int)) (k : AW I post tgt L st M) : AW I post pc L st M := by
  intro post' hp p l e R s m args below meth c D cA ad A C H locs ls hP hD hS hl
  exact lv_goto C.1 C.2.1 hd ht (k post' hp p l e R s m args below meth c D cA ad A C H locs ls hP hD hS hl)
theorem z_dup {I : zI} {post : Option Value → zM → Prop} {pc : Nat} {L : List (Option Value)} {st : List Value} {M : zM} {v : Value} (hd : decode I.2.1 pc = .ok (.dup, 1)) (hv : v.category = 1) (k : AW I post (pc + 1) L (v :: v :: st) M) : AW I post pc L (v :: st) M := by
  intro post' hp p l e R s m args below meth c D cA ad A C H locs ls hP hD hS hl
  exact lv_dup C.1 C.2.1 hd (by rw [z_v_cat]; exact hv) (k post' hp p l e R s m args below meth c D cA ad A C H locs ls hP hD hS hl)
theorem z_pop {I : zI} {post : Option Value → zM → Prop} {pc : Nat} {L : List (Option Value)} {st : List Value} {M : zM} {v : Value} (hd : decode I.2.1 pc = .ok (.pop, 1)) (hv : v.category = 1) (k : AW I post (pc + 1) L (st) M) : AW I post pc L (v :: st) M := by
  intro post' hp p l e R s m args below meth c D cA ad A C H locs ls hP hD hS hl
  exact lv_pop C.1 C.2.1 hd (by rw [z_v_cat]; exact hv) (k post' hp p l e R s m args below meth c D cA ad A C H locs ls hP hD hS hl)
theorem z_dup_x1 {I : zI} {post : Option Value → zM → Prop} {pc : Nat} {L : List (Option Value)} {st : List Value} {M : zM} {v u : Value} (hd : decode I.2.1 pc = .ok (.dup_x1, 1)) (hv : v.category = 1) (hu : u.category = 1) (k : AW I post (pc + 1) L (v :: u :: v :: st) M) : AW I post pc L (v :: u :: st) M := by
  intro post' hp p l e R s m args below meth c D cA ad A C H locs ls hP hD hS hl
  exact lv_dup_x1 C.1 C.2.1 hd (by rw [z_v_cat]; exact hv) (by rw [z_v_cat]; exact hu) (k post' hp p l e R s m args below meth c D cA ad A C H locs ls hP hD hS hl)
theorem z_dup_x2 {I : zI} {post : Option Value → zM → Prop} {pc : Nat} {L : List (Option Value)} {st : List Value} {M : zM} {v u t : Value} (hd : decode I.2.1 pc = .ok (.dup_x2, 1)) (hv : v.category = 1) (hu : u.category = 1) (ht : t.category = 1) (k : AW I post (pc + 1) L (v :: u :: t :: v :: st) M) : AW I post pc L (v :: u :: t :: st) M := by
  intro post' hp p l e R s m args below meth c D cA ad A C H locs ls hP hD hS hl
  exact lv_dup_x2 C.1 C.2.1 hd (by rw [z_v_cat]; exact hv) (by rw [z_v_cat]; exact hu) (by rw [z_v_cat]; exact ht) (k post' hp p l e R s m args below meth c D cA ad A C H locs ls hP hD hS hl)
theorem z_dup2 {I : zI} {post : Option Value → zM → Prop} {pc : Nat} {L : List (Option Value)} {st : List Value} {M : zM} {v u : Value} (hd : decode I.2.1 pc = .ok (.dup2, 1)) (hv : v.category = 1) (hu : u.category = 1) (k : AW I post (pc + 1) L (v :: u :: v :: u :: st) M) : AW I post pc L (v :: u :: st) M := by
  intro post' hp p l e R s m args below meth c D cA ad A C H locs ls hP hD hS hl
  exact lv_dup2_11 C.1 C.2.1 hd (by rw [z_v_cat]; exact hv) (by rw [z_v_cat]; exact hu) (k post' hp p l e R s m args below meth c D cA ad A C H locs ls hP hD hS hl)
theorem z_case {I : zI} {post : Option Value → zM → Prop} {pc : Nat} {L : List (Option Value)} {st : List Value} {M : zM} (v x : Int32) (k : (x = v → AW I post pc L st M) ∧ (¬ x = v → AW I post pc L st M)) : AW I post pc L st M := by
  by_cases h : x = v
  · exact k.1 h
  · exact k.2 h
theorem z_tin {I : zI} {post : Option Value → zM → Prop} {pc : Nat} {L : List (Option Value)} {st : List Value} {M : zM} {dflt lo hi : Int} {offs : Array Int} {len : Nat} {x : Int32} {off : Int} (tgt : Nat) (hd : decode I.2.1 pc = .ok (.tableswitch dflt lo hi offs, len)) (h1 : ¬ x.toInt < lo) (h2 : ¬ hi < x.toInt) (ho : offs[(x.toInt - lo).toNat]? = some off) (ht : (pc : Int) + off = (tgt : Int)) (k : AW I post tgt L st M) : AW I post pc L (.int x :: st) M := by
  intro post' hp p l e R s m args below meth c D cA ad A C H locs ls hP hD hS hl
  exact lv_tableIn C.1 C.2.1 hd h1 h2 ho ht (k post' hp p l e R s m args below meth c D cA ad A C H locs ls hP hD hS hl)
theorem z_tout {I : zI} {post : Option Value → zM → Prop} {pc : Nat} {L : List (Option Value)} {st : List Value} {M : zM} {dflt lo hi : Int} {offs : Array Int} {len : Nat} {x : Int32} (tgt : Nat) (hd : decode I.2.1 pc = .ok (.tableswitch dflt lo hi offs, len)) (h : x.toInt < lo ∨ hi < x.toInt) (ht : (pc : Int) + dflt = (tgt : Int)) (k : AW I post tgt L st M) : AW I post pc L (.int x :: st) M := by
  intro post' hp p l e R s m args below meth c D cA ad A C H locs ls hP hD hS hl
  exact lv_tableOut C.1 C.2.1 hd h ht (k post' hp p l e R s m args below meth c D cA ad A C H locs ls hP hD hS hl)
theorem z_lkp {I : zI} {post : Option Value → zM → Prop} {pc : Nat} {L : List (Option Value)} {st : List Value} {M : zM} {dflt : Int} {ps : Array (Int × Int)} {len : Nat} {x : Int32} {off : Int} (tgt : Nat) (hd : decode I.2.1 pc = .ok (.lookupswitch dflt ps, len)) (hq : (ps.toList.zip (ps.toList.drop 1)).all (fun (a, next) => a.1 < next.1) = true) (ho : Op.lookupswitch.offset ps.toList dflt x.toInt = off) (ht : (pc : Int) + off = (tgt : Int)) (k : AW I post tgt L st M) : AW I post pc L (.int x :: st) M := by
  intro post' hp p l e R s m args below meth c D cA ad A C H locs ls hP hD hS hl
  exact lv_lookup C.1 C.2.1 hd hq ho ht (k post' hp p l e R s m args below meth c D cA ad A C H locs ls hP hD hS hl)
def z_fl (own : String) (idx ci k : Nat) : Prop := ∃ (C : String) (T : u_T) (N : Nat), zcl[ci]? = some (C, T, N) ∧ k < N ∧ Cond.fieldLink own idx (T k).1 (T k).2.1 (T k).2.2.1 ∈ zgw ∧ ∀ w ∈ u_ws C T N, w ∈ zgw
def z_fw (own : String) (idx ci k : Nat) : Prop := ∃ (C : String) (T : u_T) (N : Nat) (ty : Nat → FieldType), zcl[ci]? = some (C, T, N) ∧ k < N ∧ Cond.fieldLink own idx (T k).1 (T k).2.1 (T k).2.2.1 ∈ zgw ∧ (∀ w ∈ u_ws C T N, w ∈ zgw) ∧ (∀ k, k < N → parseFieldDescriptor (T k).2.2.1 = some (ty k)) ∧ (∀ a, a < N → ∀ b, b < N → a ≠ b → (T a).2.1 ≠ (T b).2.1) ∧ (T k).2.2.2 = false ∧ ty k = .int
theorem z_geti {I : zI} {post : Option Value → zM → Prop} {pc : Nat} {L : List (Option Value)} {st : List Value} {M : zM} {idx ci k o v : Nat} {fs : List (Nat ⊕ Nat)} (hd : decode I.2.1 pc = .ok (.getfield idx, 3)) (hf : z_fl I.2.2.2.2.1 idx ci k) (ho : (z_lay I)[o]? = some (.inl (ci, fs))) (hk : fs[k]? = some (.inr v)) (k : AW I post (pc + 3) L (.int (M.1 v) :: st) M) : AW I post pc L (.ref o :: st) M := by
  intro post' hp p l e R s m args below meth c D cA ad A C H locs ls hP hD hS hl
  obtain ⟨CC, T, N, h1, h2, h3, h4⟩ := hf
  exact va_get C.1 C.2.1 C.2.2.2.2.2.2.1 h4 C.2.2.2.2.2.1 C.2.2.2.2.2.2.2.1 hP o (z_w_at ho) h1 _ h2 (C.2.2.2.2.2.2.1 _ h3) (fun _ h9 => h9) (by rw [List.getElem?_map, hk]; rfl) hd (k post' hp p l e R s m args below meth c D cA ad A C H locs ls hP hD hS hl)
theorem z_getr {I : zI} {post : Option Value → zM → Prop} {pc : Nat} {L : List (Option Value)} {st : List Value} {M : zM} {idx ci k o v : Nat} {fs : List (Nat ⊕ Nat)} (hd : decode I.2.1 pc = .ok (.getfield idx, 3)) (hf : z_fl I.2.2.2.2.1 idx ci k) (ho : (z_lay I)[o]? = some (.inl (ci, fs))) (hk : fs[k]? = some (.inl v)) (k : AW I post (pc + 3) L (.ref v :: st) M) : AW I post pc L (.ref o :: st) M := by
  intro post' hp p l e R s m args below meth c D cA ad A C H locs ls hP hD hS hl
  obtain ⟨CC, T, N, h1, h2, h3, h4⟩ := hf
  exact va_get C.1 C.2.1 C.2.2.2.2.2.2.1 h4 C.2.2.2.2.2.1 C.2.2.2.2.2.2.2.1 hP o (z_w_at ho) h1 _ h2 (C.2.2.2.2.2.2.1 _ h3) (fun _ h9 => h9) (by rw [List.getElem?_map, hk]; rfl) hd (k post' hp p l e R s m args below meth c D cA ad A C H locs ls hP hD hS hl)
theorem z_puti {I : zI} {post : Option Value → zM → Prop} {pc : Nat} {L : List (Option Value)} {st : List Value} {M : zM} {idx ci k o v : Nat} {x : Int32} {fs : List (Nat ⊕ Nat)} (hd : decode I.2.1 pc = .ok (.putfield idx, 3)) (hf : z_fw I.2.2.2.2.1 idx ci k) (ho : (z_lay I)[o]? = some (.inl (ci, fs))) (hk : fs[k]? = some (.inr v)) (k : AW I post (pc + 3) L st (upd M.1 v x, M.2)) : AW I post pc L (.int x :: .ref o :: st) M := by
  intro post' hp p l e R s m args below meth c D cA ad A C H locs ls hP hD hS hl
  obtain ⟨CC, T, N, ty, h1, h2, h3, h4, h5, h6, h7, h8⟩ := hf
  obtain ⟨iF, iI, iJ, hu⟩ := z_unI I
  have hkl := (List.getElem?_eq_some_iff.mp hk).1
  refine va_put C.1 C.2.1 C.2.2.2.2.2.2.1 h4 ty h5 h6 C.2.2.2.2.2.1 C.2.2.2.2.2.2.2.1 hP hD hS o (z_w_at ho) h1 _ h2 (C.2.2.2.2.2.2.1 _ h3) (fun _ h9 => h9) h7 (ty := .int) (v := .int x) (by rw [h5 _ h2, h8]) rfl rfl (by simpa using hkl) hd (fun H1 locs1 hP1 hD1 hS1 => ?_)
  rw [z_w_putF hu ho hk] at hP1 hD1
  exact k post' hp p l e R s m args below meth c D cA ad A C H1 locs1 ls hP1 hD1 hS1 hl
theorem z_iald {I : zI} {post : Option Value → zM → Prop} {pc : Nat} {L : List (Option Value)} {st : List Value} {M : zM} {o n id : Nat} {i : Int32} (hd : decode I.2.1 pc = .ok (.iaload, 1)) (ho : (z_lay I)[o]? = some (.inr (0, n, id))) (k : vp_in i n ∧ AW I post (pc + 1) L (.int (M.2.1 id (zn i)) :: st) M) : AW I post pc L (.int i :: .ref o :: st) M := by
  obtain ⟨hi, k⟩ := k
  intro post' hp p l e R s m args below meth c D cA ad A C H locs ls hP hD hS hl
  exact va_iald C.1 C.2.1 C.2.2.2.2.2.2.2.1 hP o 0 (z_w_at ho) rfl hi hd (k post' hp p l e R s m args below meth c D cA ad A C H locs ls hP hD hS hl)
theorem z_zald {I : zI} {post : Option Value → zM → Prop} {pc : Nat} {L : List (Option Value)} {st : List Value} {M : zM} {o n id : Nat} {i : Int32} (hd : decode I.2.1 pc = .ok (.baload, 1)) (ho : (z_lay I)[o]? = some (.inr (1, n, id))) (k : vp_in i n ∧ AW I post (pc + 1) L (.int (M.2.1 id (zn i)) :: st) M) : AW I post pc L (.int i :: .ref o :: st) M := by
  obtain ⟨hi, k⟩ := k
  intro post' hp p l e R s m args below meth c D cA ad A C H locs ls hP hD hS hl
  exact va_zald C.1 C.2.1 C.2.2.2.2.2.2.2.1 hP o 1 (z_w_at ho) rfl hi hd (k post' hp p l e R s m args below meth c D cA ad A C H locs ls hP hD hS hl)
theorem z_lald {I : zI} {post : Option Value → zM → Prop} {pc : Nat} {L : List (Option Value)} {st : List Value} {M : zM} {o n id : Nat} {i : Int32} (hd : decode I.2.1 pc = .ok (.laload, 1)) (ho : (z_lay I)[o]? = some (.inr (2, n, id))) (k : vp_in i n ∧ AW I post (pc + 1) L (.long (M.2.2 id (zn i)) :: st) M) : AW I post pc L (.int i :: .ref o :: st) M := by
  obtain ⟨hi, k⟩ := k
  intro post' hp p l e R s m args below meth c D cA ad A C H locs ls hP hD hS hl
  exact va_lald C.1 C.2.1 C.2.2.2.2.2.2.2.1 hP o 2 (z_w_at ho) rfl hi hd (k post' hp p l e R s m args below meth c D cA ad A C H locs ls hP hD hS hl)
theorem z_aald {I : zI} {post : Option Value → zM → Prop} {pc : Nat} {L : List (Option Value)} {st : List Value} {M : zM} {o n id : Nat} {i : Int32} (hd : decode I.2.1 pc = .ok (.aaload, 1)) (ho : (z_lay I)[o]? = some (.inr (3, n, id))) (k : vp_in i n ∧ AW I post (pc + 1) L (.ref (id + 2 * zn i) :: st) M) : AW I post pc L (.int i :: .ref o :: st) M := by
  obtain ⟨hi, k⟩ := k
  intro post' hp p l e R s m args below meth c D cA ad A C H locs ls hP hD hS hl
  exact va_aldq C.1 C.2.1 C.2.2.2.2.2.2.2.1 hP o 3 (z_w_at ho) rfl hi hd (k post' hp p l e R s m args below meth c D cA ad A C H locs ls hP hD hS hl)
theorem z_iast {I : zI} {post : Option Value → zM → Prop} {pc : Nat} {L : List (Option Value)} {st : List Value} {M : zM} {o n id : Nat} {i : Int32} {x : Int32} (hd : decode I.2.1 pc = .ok (.iastore, 1)) (ho : (z_lay I)[o]? = some (.inr (0, n, id))) (k : vp_in i n ∧ AW I post (pc + 1) L st (M.1, z_ui M.2.1 id (zn i) x, M.2.2)) : AW I post pc L (.int x :: .int i :: .ref o :: st) M := by
  obtain ⟨hi, k⟩ := k
  intro post' hp p l e R s m args below meth c D cA ad A C H locs ls hP hD hS hl
  obtain ⟨iF, iI, iJ, hu⟩ := z_unI I
  refine va_iast C.1 C.2.1 C.2.2.2.2.2.2.2.1 hP hD hS o 0 (z_w_at ho) rfl hi hd (fun H1 locs1 hP1 hD1 hS1 => ?_)
  have ee := z_w_putI hu ho (by decide) (by decide) (cA := cA) (ad := ad) (M := M) (zn i) (x)
  have hP2 : va_P D zcl (z_w (z_lay I) cA ad _) H1 := ee ▸ hP1
  have hD2 : va_D A (z_w (z_lay I) cA ad _) := ee ▸ hD1
  exact k post' hp p l e R s m args below meth c D cA ad A C H1 locs1 ls hP2 hD2 hS1 hl
theorem z_zast {I : zI} {post : Option Value → zM → Prop} {pc : Nat} {L : List (Option Value)} {st : List Value} {M : zM} {o n id : Nat} {i : Int32} {x : Int32} {x2 : Int32} (hx : vp_nar .boolean x = x2) (hd : decode I.2.1 pc = .ok (.bastore, 1)) (ho : (z_lay I)[o]? = some (.inr (1, n, id))) (k : vp_in i n ∧ AW I post (pc + 1) L st (M.1, z_ui M.2.1 id (zn i) x2, M.2.2)) : AW I post pc L (.int x :: .int i :: .ref o :: st) M := by
  obtain ⟨hi, k⟩ := k
  subst hx
  intro post' hp p l e R s m args below meth c D cA ad A C H locs ls hP hD hS hl
  obtain ⟨iF, iI, iJ, hu⟩ := z_unI I
  refine va_zast C.1 C.2.1 C.2.2.2.2.2.2.2.1 hP hD hS o 1 (z_w_at ho) rfl hi hd (fun H1 locs1 hP1 hD1 hS1 => ?_)
  have ee := z_w_putI hu ho (by decide) (by decide) (cA := cA) (ad := ad) (M := M) (zn i) (vp_nar .boolean x)
  have hP2 : va_P D zcl (z_w (z_lay I) cA ad _) H1 := ee ▸ hP1
  have hD2 : va_D A (z_w (z_lay I) cA ad _) := ee ▸ hD1
  exact k post' hp p l e R s m args below meth c D cA ad A C H1 locs1 ls hP2 hD2 hS1 hl
theorem z_last {I : zI} {post : Option Value → zM → Prop} {pc : Nat} {L : List (Option Value)} {st : List Value} {M : zM} {o n id : Nat} {i : Int32} {x : Int64} (hd : decode I.2.1 pc = .ok (.lastore, 1)) (ho : (z_lay I)[o]? = some (.inr (2, n, id))) (k : vp_in i n ∧ AW I post (pc + 1) L st (M.1, M.2.1, z_ul M.2.2 id (zn i) x)) : AW I post pc L (.long x :: .int i :: .ref o :: st) M := by
  obtain ⟨hi, k⟩ := k
  intro post' hp p l e R s m args below meth c D cA ad A C H locs ls hP hD hS hl
  obtain ⟨iF, iI, iJ, hu⟩ := z_unI I
  refine va_last C.1 C.2.1 C.2.2.2.2.2.2.2.1 hP hD hS o 2 (z_w_at ho) rfl hi hd (fun H1 locs1 hP1 hD1 hS1 => ?_)
  have ee := z_w_putJ hu ho (cA := cA) (ad := ad) (M := M) (zn i) (x)
  have hP2 : va_P D zcl (z_w (z_lay I) cA ad _) H1 := ee ▸ hP1
  have hD2 : va_D A (z_w (z_lay I) cA ad _) := ee ▸ hD1
  exact k post' hp p l e R s m args below meth c D cA ad A C H1 locs1 ls hP2 hD2 hS1 hl
theorem z_alen {I : zI} {post : Option Value → zM → Prop} {pc : Nat} {L : List (Option Value)} {st : List Value} {M : zM} {o n id kd : Nat} {v : Int32} (hd : decode I.2.1 pc = .ok (.arraylength, 1)) (ho : (z_lay I)[o]? = some (.inr (kd, n, id))) (hk : kd < 4) (hv : Int32.ofNat n = v) (k : AW I post (pc + 1) L (.int v :: st) M) : AW I post pc L (.ref o :: st) M := by
  intro post' hp p l e R s m args below meth c D cA ad A C H locs ls hP hD hS hl
  obtain ⟨ty, hty⟩ : ∃ ty, (z_tys cA)[kd]? = some (cA kd, ty) := by
    rcases (show kd = 0 ∨ kd = 1 ∨ kd = 2 ∨ kd = 3 by omega) with rfl | rfl | rfl | rfl <;> exact ⟨_, rfl⟩
  exact va_alen C.1 C.2.1 C.2.2.2.2.2.2.2.1 hP o kd (z_w_at ho) hty hv hd (k post' hp p l e R s m args below meth c D cA ad A C H locs ls hP hD hS hl)
theorem z_ireturn {I : zI} {post : Option Value → zM → Prop} {pc : Nat} {L : List (Option Value)} {st : List Value} {M : zM} {x : Int32} (hr : I.2.2.2.1 = some .int) (hd : decode I.2.1 pc = .ok (.ireturn, 1)) (k : post (some (.int x)) M) : AW I post pc L [.int x] M := by
  intro post' hp p l e R s m args below meth c D cA ad A C H locs ls hP hD hS hl
  exact W.iret C.1 C.2.1 (C.2.2.2.1.trans hr) (fun t ht hW => ⟨⟨some (.int x), M, hp _ _ k, rfl, by rw [ht]; exact hP, va_K.moved hW.alike C.2.2.2.2.2.2.2.1, hD⟩, hS.F ht⟩) hS.2.2 hd C.2.2.2.2.1
theorem z_zreturn {I : zI} {post : Option Value → zM → Prop} {pc : Nat} {L : List (Option Value)} {st : List Value} {M : zM} {x : Int32} (hr : I.2.2.2.1 = some .boolean) (hn : narrow .boolean (.int x) = .int x) (hd : decode I.2.1 pc = .ok (.ireturn, 1)) (k : post (some (.int x)) M) : AW I post pc L [.int x] M := by
  intro post' hp p l e R s m args below meth c D cA ad A C H locs ls hP hD hS hl
  exact W.zret C.1 C.2.1 (C.2.2.2.1.trans hr) hn (fun t ht hW => ⟨⟨some (.int x), M, hp _ _ k, rfl, by rw [ht]; exact hP, va_K.moved hW.alike C.2.2.2.2.2.2.2.1, hD⟩, hS.F ht⟩) hS.2.2 hd C.2.2.2.2.1
theorem z_lreturn {I : zI} {post : Option Value → zM → Prop} {pc : Nat} {L : List (Option Value)} {st : List Value} {M : zM} {x : Int64} (hr : I.2.2.2.1 = some .long) (hd : decode I.2.1 pc = .ok (.lreturn, 1)) (k : post (some (.long x)) M) : AW I post pc L [.long x] M := by
  intro post' hp p l e R s m args below meth c D cA ad A C H locs ls hP hD hS hl
  exact W.lret C.1 C.2.1 (C.2.2.2.1.trans hr) (fun t ht hW => ⟨⟨some (.long x), M, hp _ _ k, rfl, by rw [ht]; exact hP, va_K.moved hW.alike C.2.2.2.2.2.2.2.1, hD⟩, hS.F ht⟩) hS.2.2 hd C.2.2.2.2.1
theorem z_areturn {I : zI} {post : Option Value → zM → Prop} {pc : Nat} {L : List (Option Value)} {st : List Value} {M : zM} {x : Nat} {cn : String} (hr : I.2.2.2.1 = some (.object cn)) (hd : decode I.2.1 pc = .ok (.areturn, 1)) (k : post (some (.ref x)) M) : AW I post pc L [.ref x] M := by
  intro post' hp p l e R s m args below meth c D cA ad A C H locs ls hP hD hS hl
  exact W.aret C.1 C.2.1 (C.2.2.2.1.trans hr) (Or.inl ⟨_, rfl⟩) (Or.inr ⟨_, rfl⟩) (fun t ht hW => ⟨⟨some (.ref x), M, hp _ _ k, rfl, by rw [ht]; exact hP, va_K.moved hW.alike C.2.2.2.2.2.2.2.1, hD⟩, hS.F ht⟩) hS.2.2 hd C.2.2.2.2.1
theorem z_return {I : zI} {post : Option Value → zM → Prop} {pc : Nat} {L : List (Option Value)} {st : List Value} {M : zM} (hr : I.2.2.2.1 = none) (hd : decode I.2.1 pc = .ok (.return_, 1)) (k : post (none) M) : AW I post pc L [] M := by
  intro post' hp p l e R s m args below meth c D cA ad A C H locs ls hP hD hS hl
  exact W.vret C.1 C.2.1 (C.2.2.2.1.trans hr) (fun t ht hW => ⟨⟨none, M, hp _ _ k, rfl, by rw [ht]; exact hP, va_K.moved hW.alike C.2.2.2.2.2.2.2.1, hD⟩, hS.F ht⟩) hS.2.2 hd C.2.2.2.2.1
theorem z_csum (ad : Nat → Nat) (st : List Value) : ((st.map (z_v ad)).map fun v => v.category).sum = (st.map fun v => v.category).sum := by
  rw [List.map_map]
  congr 1
  apply List.map_congr_left
  intro v _
  exact z_v_cat ad v
def z_ml (own : String) (idx : Nat) (I2 : zI) (ci n : Nat) : Prop := (∀ w ∈ wsV own idx I2.1.cls I2.1 [.code I2.1 I2.2.1 I2.2.2.1 I2.2.2.2.1], w ∈ zgw) ∧ (∃ T N, zcl[ci]? = some (I2.1.cls, T, N)) ∧ I2.1.cls ≠ "java/lang/invoke/MethodHandle" ∧ I2.1.cls ≠ "java/lang/invoke/VarHandle" ∧ (parseMethodDescriptor I2.1.desc).map (fun d => d.parameters.length) = some n ∧ I2.2.2.1 ≤ 13
def z_ms (own : String) (idx : Nat) (I2 : zI) (n : Nat) : Prop := (∀ w ∈ va_wsS own idx I2.1 [.code I2.1 I2.2.1 I2.2.2.1 I2.2.2.2.1], w ∈ zgw) ∧ I2.1.cls ≠ "java/lang/invoke/MethodHandle" ∧ I2.1.cls ≠ "java/lang/invoke/VarHandle" ∧ (parseMethodDescriptor I2.1.desc).map (fun d => d.parameters.length) = some n ∧ I2.2.2.1 ≤ 13
theorem z_blind {av : List Value} {D : va_G} {cA : Nat → ClassId} {w : va_W} {sz : Nat} : FrameBlind (va_Pc av (fun U => U.heap.size = sz ∧ va_P D zcl w U.heap ∧ va_K D zcl (z_tys cA) U ∧ va_D (fun _ => True) w)) := fun a U g mk q => by
  obtain ⟨q0, q1, qP, qK, qD⟩ := q
  exact ⟨q0, q1, qP, va_K.moved (u := U) (U := U.calling g mk a) (Vm.Alike.refl U.vm) qK, qD⟩
theorem z_after {I : zI} {post : Option Value → zM → Prop} {pc : Nat} {L : List (Option Value)} {st : List Value} {M : zM} {I2 : zI} (hw : z_lay I2 = z_lay I) {post' : Option Value → zM → Prop} (hp : ∀ r M, post r M → post' r M) {p : Program} {l : Launch} {e : Env} {R : Room} {s : State} {m : MethodId} {args : Array Value} {below : List Frame} {meth : Method} {c : Code} {D : va_G} {cA : Nat → ClassId} {ad : Nat → Nat} {A : Nat → Prop} (C : z_cx I p R s m args meth c D cA A) {H : Heap} {locs : List Loc} {ls : Array Slot} (hP : va_P D zcl (z_w (z_lay I) cA ad M) H) (hD : va_D A (z_w (z_lay I) cA ad M)) (hS : va_S A s.heap H locs) (hl : z_lv ls I.2.2.1 ad L) {stk : List Value} {a : Array Value}
    (run : va_Run p l e R s m args below meth c H locs 0 0 0 0 (F0 m pc ls stk) (st.map (z_v ad)) (z_Q I2 (fun r M' => AW I post (pc + 3) L (r.toList ++ st) M') D cA ad (va_A (z_w (z_lay I2) cA ad M) H.size) a) (va_A (z_w (z_lay I2) cA ad M) H.size)) :
    W p l e R s m args below meth c H locs 0 0 (MQ below (z_Q I post' D cA ad A) args s 0 0 A) (F0 m pc ls stk) := by
  rw [hw] at run
  have hF : ∀ q, va_A (z_w (z_lay I) cA ad M) H.size q → A q := by
    intro q h
    rcases h with ⟨k, e, hk⟩ | h
    · exact hD.2 k _ hk
    · exact C.2.2.2.2.2.2.2.2.1 q (Nat.le_trans hS.1 h)
  intro T hT X
  obtain ⟨v, st₀, t, T', L', h0, X', hL, e1, e2, ⟨⟨r, M', hpost, hv, hP1, hK1, hD1⟩, hz, hk⟩, st'⟩ := run T hT X
  rw [hw] at hP1 hD1
  have hv' : v = r.map (z_v ad) := by cases hv; rfl
  subst hv'
  rw [h0] at hz hk
  have hS2 : va_S A s.heap T'.heap (locs ++ L') := ⟨Nat.le_trans hS.1 (by rw [e1]; exact hz), fun q h1 h2 => by rw [e1, hk q (Nat.lt_of_lt_of_le h1 hS.1) (fun z => h2 (hF q z))]; exact hS.2.1 q h1 h2, fun q hq => by
      rcases List.mem_append.mp hq with h | h
      · exact hS.2.2 q h
      · exact hF _ (hL q h)⟩
  obtain ⟨t2, a1, b1⟩ := hpost post' hp p l e R s m args below meth c D cA ad A C T'.heap (locs ++ L') ls (by rw [e1]; exact hP1) (hD1.weaken (fun k q _ h => hF q.1 h)) hS2 hl T' rfl X'
  refine ⟨t2, st' t2 ?_, b1⟩
  have e3 : List.map (z_v ad) (r.toList ++ st) = (r.map (z_v ad)).toList ++ List.map (z_v ad) st := by cases r <;> simp
  rw [e3] at a1
  exact a1
theorem z_call {I : zI} {post : Option Value → zM → Prop} {pc : Nat} {L : List (Option Value)} {st : List Value} {M : zM} {I2 : zI} {idx ci n o : Nat} {fs : List (Nat ⊕ Nat)} (As : List Value) (hd : decode I.2.1 pc = .ok (.invokevirtual idx, 3)) (hm : z_ml I.2.2.2.2.1 idx I2 ci n) (hw : z_lay I2 = z_lay I) (hr : I2.2.2.2.2.2.1 < I.2.2.2.2.2.1) (ho : (z_lay I)[o]? = some (.inl (ci, fs))) (hn : As.length = n) (hst : (st.map fun v => v.category).sum ≤ 8) (k : AMet I2 (.ref o :: As) M (fun r M' => AW I post (pc + 3) L (r.toList ++ st) M')) : AW I post pc L (As.reverse ++ .ref o :: st) M := by
  intro post' hp p l e R s m args below meth c D cA ad A C H locs ls hP hD hS hl
  obtain ⟨m1, ⟨T2, N2, m2⟩, m3, m4, m5, m6⟩ := hm
  have hM := k _ (fun _ _ q => q) l D cA ad H.size
  have hg : GoodIn zgw (wsV I.2.2.2.2.1 idx I2.1.cls I2.1 (z_ws I2)) := zgw_good (fun w h => by
    rcases List.mem_append.mp h with h | h
    · exact m1 w (List.mem_append_left _ h)
    · rcases List.mem_cons.mp h with h | h
      · exact m1 w (List.mem_append_right _ (by rw [h]; exact List.mem_cons_self))
      · exact h)
  have hR : (z_rm I2).frames + 1 ≤ R.frames ∧ 8 + (I2.2.2.1 + 11) + (z_rm I2).locals ≤ R.locals := by
    rw [C.2.2.2.2.2.2.2.2.2]
    refine ⟨hr, ?_⟩
    show 8 + (I2.2.2.1 + 11) + 32 * I2.2.2.2.2.2.1 ≤ 32 * I.2.2.2.2.2.1
    omega
  have cw := cwV (own := I.2.2.2.2.1) (index := idx) (C := I2.1.cls) n C.2.2.2.2.2.2.1 hg rfl rfl rfl ⟨rfl, m3, m4, m5⟩ hR
  refine z_after hw hp C hP hD hS hl (va_runV (As := As.map (z_v ad)) (rest := st.map (z_v ad)) (b := ad o) ⟨C.1, C.2.1, C.2.2.1, C.2.2.2.2.2.1, C.2.2.2.2.2.2.1⟩ hM cw ⟨z_blind, va_recv C.2.2.2.2.2.2.2.1 hP m2 (z_w_at ho), fun U hU hW => ⟨rfl, by rw [hU], by rw [hU, hw]; exact hP, va_K.moved hW.alike C.2.2.2.2.2.2.2.1, by rw [hw]; exact hD.weaken (fun _ _ _ _ => trivial)⟩⟩ rfl (by simpa using hn) hl.1 (by simp [z_v]) (lv_room (by rw [z_csum]; exact hst)) hd ⟨Nat.zero_le _, Nat.zero_le _⟩)
theorem z_callS {I : zI} {post : Option Value → zM → Prop} {pc : Nat} {L : List (Option Value)} {st : List Value} {M : zM} {I2 : zI} {idx n : Nat} (As : List Value) (hd : decode I.2.1 pc = .ok (.invokestatic idx, 3)) (hm : z_ms I.2.2.2.2.1 idx I2 n) (hw : z_lay I2 = z_lay I) (hr : I2.2.2.2.2.2.1 < I.2.2.2.2.2.1) (hn : As.length = n) (hst : (st.map fun v => v.category).sum ≤ 8) (k : AMet I2 As M (fun r M' => AW I post (pc + 3) L (r.toList ++ st) M')) : AW I post pc L (As.reverse ++ st) M := by
  intro post' hp p l e R s m args below meth c D cA ad A C H locs ls hP hD hS hl
  obtain ⟨m1, m3, m4, m5, m6⟩ := hm
  have hM := k _ (fun _ _ q => q) l D cA ad H.size
  have hg : GoodIn zgw (va_wsS I.2.2.2.2.1 idx I2.1 (z_ws I2)) := zgw_good (fun w h => by
    rcases List.mem_append.mp h with h | h
    · exact m1 w (List.mem_append_left _ h)
    · rcases List.mem_cons.mp h with h | h
      · exact m1 w (List.mem_append_right _ (by rw [h]; exact List.mem_cons_self))
      · exact h)
  have hR : (z_rm I2).frames + 1 ≤ R.frames ∧ 8 + (I2.2.2.1 + 11) + (z_rm I2).locals ≤ R.locals := by
    rw [C.2.2.2.2.2.2.2.2.2]
    refine ⟨hr, ?_⟩
    show 8 + (I2.2.2.1 + 11) + 32 * I2.2.2.2.2.2.1 ≤ 32 * I.2.2.2.2.2.1
    omega
  have cw := va_cwS (own := I.2.2.2.2.1) (index := idx) n C.2.2.2.2.2.2.1 hg rfl rfl rfl ⟨m3, m4, m5⟩ hR
  refine z_after hw hp C hP hD hS hl (va_runS (As := As.map (z_v ad)) (rest := st.map (z_v ad)) ⟨C.1, C.2.1, C.2.2.1, C.2.2.2.2.2.1, C.2.2.2.2.2.2.1⟩ hM cw ⟨z_blind, fun U hU hW => ⟨rfl, by rw [hU], by rw [hU, hw]; exact hP, va_K.moved hW.alike C.2.2.2.2.2.2.2.1, by rw [hw]; exact hD.weaken (fun _ _ _ _ => trivial)⟩⟩ rfl (by simpa using hn) hl.1 (by simp) (lv_room (by rw [z_csum]; exact hst)) hd ⟨Nat.zero_le _, Nat.zero_le _⟩)
theorem z_mini {I : zI} {post : Option Value → zM → Prop} {pc : Nat} {L : List (Option Value)} {st : List Value} {M : zM} {idx : Nat} {x y : Int32} (hd : decode I.2.1 pc = .ok (.invokestatic idx, 3)) (h1 : Cond.methodLink I.2.2.2.2.1 idx Lib.Math.min.name ∈ zgw) (h2 : Cond.static Lib.Math.min.name ∈ zgw) (h3 : Cond.initialized "java/lang/Math" ∈ zgw) (h4 : Cond.code Lib.Math.min.name Lib.Math.min.code 2 (some .int) ∈ zgw) (hr : 1 ≤ I.2.2.2.2.2.1) (hst : (st.map fun v => v.category).sum ≤ 8) (k : AW I post (pc + 3) L (.int (if y < x then y else x) :: st) M) : AW I post pc L (.int y :: .int x :: st) M := by
  intro post' hp p l e R s m args below meth c D cA ad A C H locs ls hP hD hS hl
  refine va_mmin C.1 C.2.1 (by rw [C.2.2.1, hl.1]) C.2.2.2.2.2.1 (C.2.2.2.2.2.2.1 _ h1) (C.2.2.2.2.2.2.1 _ h2) (C.2.2.2.2.2.2.1 _ h3) (C.2.2.2.2.2.2.1 _ h4) ?_ ?_ (Nat.zero_le _) (Nat.zero_le _) hd (k post' hp p l e R s m args below meth c D cA ad A C H locs ls hP hD hS hl)
  · rw [C.2.2.2.2.2.2.2.2.2]
    exact hr
  · rw [C.2.2.2.2.2.2.2.2.2, z_csum]
    show _ + 13 ≤ 32 * I.2.2.2.2.2.1
    omega
theorem z_minl {I : zI} {post : Option Value → zM → Prop} {pc : Nat} {L : List (Option Value)} {st : List Value} {M : zM} {idx : Nat} {x y : Int64} (hd : decode I.2.1 pc = .ok (.invokestatic idx, 3)) (h1 : Cond.methodLink I.2.2.2.2.1 idx Lib.MathLoose.min_long.x ∈ zgw) (h2 : Cond.static Lib.MathLoose.min_long.x ∈ zgw) (h3 : Cond.initialized "java/lang/Math" ∈ zgw) (h4 : Cond.code Lib.MathLoose.min_long.x Lib.MathLoose.min_long.code 4 (some .long) ∈ zgw) (hr : 1 ≤ I.2.2.2.2.2.1) (hst : (st.map fun v => v.category).sum ≤ 8) (k : AW I post (pc + 3) L (.long (if y < x then y else x) :: st) M) : AW I post pc L (.long y :: .long x :: st) M := by
  intro post' hp p l e R s m args below meth c D cA ad A C H locs ls hP hD hS hl
  refine va_mmin_long C.1 C.2.1 (by rw [C.2.2.1, hl.1]) C.2.2.2.2.2.1 (C.2.2.2.2.2.2.1 _ h1) (C.2.2.2.2.2.2.1 _ h2) (C.2.2.2.2.2.2.1 _ h3) (C.2.2.2.2.2.2.1 _ h4) ?_ ?_ (Nat.zero_le _) (Nat.zero_le _) hd (k post' hp p l e R s m args below meth c D cA ad A C H locs ls hP hD hS hl)
  · rw [C.2.2.2.2.2.2.2.2.2]
    exact hr
  · rw [C.2.2.2.2.2.2.2.2.2, z_csum]
    show _ + 15 ≤ 32 * I.2.2.2.2.2.1
    omega
theorem z_calli {I : zI} {post : Option Value → zM → Prop} {pc : Nat} {L : List (Option Value)} {st : List Value} {M : zM} {I2 : zI} {idx ci n o : Nat} {fs : List (Nat ⊕ Nat)} (As : List Value) (hd : decode I.2.1 pc = .ok (.invokevirtual idx, 3)) (hm : z_ml I.2.2.2.2.1 idx I2 ci n) (hw : z_lay I2 = z_lay I) (hr : I2.2.2.2.2.2.1 < I.2.2.2.2.2.1) (ho : (z_lay I)[o]? = some (.inl (ci, fs))) (hn : As.length = n) (hst : (st.map fun v => v.category).sum ≤ 8) {S : List Value} (hS : As.reverse ++ .ref o :: st = S) (k : AMi I2 (.ref o :: As) M (fun x M' => AW I post (pc + 3) L (.int x :: st) M')) : AW I post pc L S M := by
  rw [← hS]
  exact z_call As hd hm hw hr ho hn hst (AMet.mono k (fun _ M' q => by obtain ⟨x, rfl, q⟩ := q; exact q))
theorem z_calll {I : zI} {post : Option Value → zM → Prop} {pc : Nat} {L : List (Option Value)} {st : List Value} {M : zM} {I2 : zI} {idx ci n o : Nat} {fs : List (Nat ⊕ Nat)} (As : List Value) (hd : decode I.2.1 pc = .ok (.invokevirtual idx, 3)) (hm : z_ml I.2.2.2.2.1 idx I2 ci n) (hw : z_lay I2 = z_lay I) (hr : I2.2.2.2.2.2.1 < I.2.2.2.2.2.1) (ho : (z_lay I)[o]? = some (.inl (ci, fs))) (hn : As.length = n) (hst : (st.map fun v => v.category).sum ≤ 8) {S : List Value} (hS : As.reverse ++ .ref o :: st = S) (k : AMl I2 (.ref o :: As) M (fun x M' => AW I post (pc + 3) L (.long x :: st) M')) : AW I post pc L S M := by
  rw [← hS]
  exact z_call As hd hm hw hr ho hn hst (AMet.mono k (fun _ M' q => by obtain ⟨x, rfl, q⟩ := q; exact q))
theorem z_callr {I : zI} {post : Option Value → zM → Prop} {pc : Nat} {L : List (Option Value)} {st : List Value} {M : zM} {I2 : zI} {idx ci n o : Nat} {fs : List (Nat ⊕ Nat)} (As : List Value) (hd : decode I.2.1 pc = .ok (.invokevirtual idx, 3)) (hm : z_ml I.2.2.2.2.1 idx I2 ci n) (hw : z_lay I2 = z_lay I) (hr : I2.2.2.2.2.2.1 < I.2.2.2.2.2.1) (ho : (z_lay I)[o]? = some (.inl (ci, fs))) (hn : As.length = n) (hst : (st.map fun v => v.category).sum ≤ 8) {S : List Value} (hS : As.reverse ++ .ref o :: st = S) (k : AMr I2 (.ref o :: As) M (fun x M' => AW I post (pc + 3) L (.ref x :: st) M')) : AW I post pc L S M := by
  rw [← hS]
  exact z_call As hd hm hw hr ho hn hst (AMet.mono k (fun _ M' q => by obtain ⟨x, rfl, q⟩ := q; exact q))
theorem z_callv {I : zI} {post : Option Value → zM → Prop} {pc : Nat} {L : List (Option Value)} {st : List Value} {M : zM} {I2 : zI} {idx ci n o : Nat} {fs : List (Nat ⊕ Nat)} (As : List Value) (hd : decode I.2.1 pc = .ok (.invokevirtual idx, 3)) (hm : z_ml I.2.2.2.2.1 idx I2 ci n) (hw : z_lay I2 = z_lay I) (hr : I2.2.2.2.2.2.1 < I.2.2.2.2.2.1) (ho : (z_lay I)[o]? = some (.inl (ci, fs))) (hn : As.length = n) (hst : (st.map fun v => v.category).sum ≤ 8) {S : List Value} (hS : As.reverse ++ .ref o :: st = S) (k : AMv I2 (.ref o :: As) M (fun M' => AW I post (pc + 3) L st M')) : AW I post pc L S M := by
  rw [← hS]
  exact z_call As hd hm hw hr ho hn hst (AMet.mono k (fun _ M' q => by obtain ⟨rfl, q⟩ := q; exact q))
theorem z_callSv {I : zI} {post : Option Value → zM → Prop} {pc : Nat} {L : List (Option Value)} {st : List Value} {M : zM} {I2 : zI} {idx n : Nat} (As : List Value) (hd : decode I.2.1 pc = .ok (.invokestatic idx, 3)) (hm : z_ms I.2.2.2.2.1 idx I2 n) (hw : z_lay I2 = z_lay I) (hr : I2.2.2.2.2.2.1 < I.2.2.2.2.2.1) (hn : As.length = n) (hst : (st.map fun v => v.category).sum ≤ 8) {S : List Value} (hS : As.reverse ++ st = S) (k : AMv I2 As M (fun M' => AW I post (pc + 3) L st M')) : AW I post pc L S M := by
  rw [← hS]
  exact z_callS As hd hm hw hr hn hst (AMet.mono k (fun _ M' q => by obtain ⟨rfl, q⟩ := q; exact q))
theorem z_entry {I : zI} {post : Option Value → zM → Prop} {M : zM} {av : List Value} {pad : Nat} (L0 : List (Option Value)) (hy : plainName I.1.cls = true) (ho : I.1.cls = I.2.2.2.2.1) (hL : z_en av pad = L0) (hn : ∀ ad, (lg_sl (av.map (z_v ad))).length ≤ I.2.2.1) (k : AW I post 0 L0 [] M) : AMet I av M post := by
  intro post' hp l D cA ad sz
  refine Met.ofW (cc := I.2.1) (maxL := I.2.2.1) (ret := I.2.2.2.1) hy rfl ?_
  intro p e s m args below meth c s₁ B hml hv
  obtain ⟨rfl, hsz, hP, hK, hD0⟩ := hv
  have hts := atoms_spec (ws := z_ws I) B.pre
  have hown : s.vm.findClass I.1.cls = some m.cls := findClass_of_methodNamed B.named
  subst hsz
  have hD := hD0.self (sz := s.heap.size)
  have hl := lv_entry (av.map (z_v ad)) (n := I.2.2.1) (hn ad)
  rw [lg_entry_eq]
  refine k post' hp p l e _ s m _ below meth c D cA ad _ ⟨B.exec, B.bytes, hml, B.returns, B.notSynchronized, by rw [← ho]; exact hown, fun w h => hts w (List.mem_cons_of_mem _ h), hK, fun q h => Or.inr h, rfl⟩ s.heap [] _ hP hD va_S.rf ⟨hl.1, hl.2.1, fun i v h => hl.2.2 (i, z_v ad v) ?_⟩
  rw [← hL] at h
  simpa using z_en_at ad pad av 0 i v h
