/-! the start of the relation, and the law's loop -/
def kG0 : zG := (0, 0, fun _ => 0, fun _ => 0, fun _ => 0, fun _ => 0)
def kK0 : zK := (kG0, fun _ => 0, fun _ => 0, 0, fun _ => 0)
theorem fcl_0 {f l r : Nat} {F : Nat → Int32} {I : Nat → Nat → Int32} (h1 : F f = 0) (h2 : ∀ k, I r k = 0) : fcl f l r F I :=
  ⟨0, fun _ => 0, Nat.zero_le _, h1, fun i hi => absurd hi (Nat.not_lt_zero i), fun k _ => ⟨Or.inl (h2 k), fun z => by rw [h2 k] at z; exact absurd z (by decide)⟩⟩
theorem Rel_init : Rel 0 kM0 kM1 := by
  refine ⟨fun _ => kK0, 0, 0, 0, 0, ⟨⟨⟨by decide, by decide, fun e he => absurd he (Nat.not_lt_zero e)⟩, rfl, rfl, fun e he => absurd he (Nat.not_lt_zero e), ⟨fun k hk => Or.inl ⟨rfl, fun l hl => absurd hl (Nat.not_lt_zero l)⟩, fun l hl => absurd hl (Nat.not_lt_zero l)⟩, fcl_0 rfl (fun _ => rfl), fcl_0 rfl (fun _ => rfl)⟩, fun i hi => absurd hi (Nat.not_lt_zero i), rfl⟩,
    ⟨⟨⟨by decide, by decide, fun e he => absurd he (Nat.not_lt_zero e)⟩, rfl, rfl, fun e he => absurd he (Nat.not_lt_zero e)⟩, fun i hi => absurd hi (Nat.not_lt_zero i), rfl, rfl⟩,
    fun j hj => ⟨⟨⟨Nat.zero_le _, Nat.zero_le _, fun e he => absurd he (Nat.not_lt_zero e)⟩, fun e he => absurd he (Nat.not_lt_zero e), fun z => absurd z (by decide), fun z => absurd z (by decide), fun _ e he => absurd he (Nat.not_lt_zero e), fun i j hi => absurd hi (Nat.not_lt_zero i), fun i hi => absurd hi (Nat.not_lt_zero i), fun i hi => absurd hi (Nat.not_lt_zero i)⟩, Nat.le_refl _, fun i hi => absurd hi (Nat.not_lt_zero i)⟩,
    ⟨by decide, rfl, rfl⟩, fun e he => absurd he (Nat.not_lt_zero e), ⟨Nat.le_refl _, rfl, fun i _ _ => rfl⟩, ⟨rfl, rfl, rfl, by decide, by decide, fun j hj => absurd hj (Nat.not_lt_zero j)⟩, rfl, ?_⟩
  intro s hs
  have h1 : ¬ 15 + s = 8 := by omega
  have h2 : ¬ 21 + s = 8 := by omega
  exact ⟨0, 0, if_neg h1, rfl, Nat.zero_le _, Nat.zero_le _, if_neg h2, fun z => absurd z (by decide), fun z => absurd z (by decide), fun z => absurd z (by decide), fun z => absurd z (by decide)⟩
theorem Rel_skip {t : Nat} {C M : zM} (h : Rel t C M) : Rel (t + 1) C M := by
  obtain ⟨K, u, o, kd, N, h⟩ := h
  exact Rel_0 h
set_option maxRecDepth 100000 in
set_option maxHeartbeats 4000000 in
theorem l_loop {xs : Nat → Int32} {n : Nat} (hn : n ≤ 2560) : ∀ (d t : Nat) (C M : zM), t + d = 513 → 5 * t ≤ n → Rel t C M → LW xs n 18 [some (.ref 0), some (.ref 1), some (.ref 2), some (.int (nI (5 * t)))] [] C M := by
  intro d
  induction d with
  | zero => intro t C M hd h5 _; omega
  | succ d ih =>
    intro t C M hd h5 hR
    refine l_iload_n dL_law_18 rfl rfl ?_
    refine l_aload_n dL_law_19 rfl rfl ?_
    refine l_slen dL_law_20 ?_
    refine l_iconst (v := 5) dL_law_21 (by decide) ?_
    refine l_isub dL_law_22 ?_
    refine l_icmp_gt 1183 dL_law_23 (by decide) ⟨fun _ => ?_, fun z => ?_⟩
    · refine l_iconst (v := 1) dL_law_1183 (by decide) ?_
      exact l_ret (st := []) dL_law_1184
    · have hi : 5 * t + 5 ≤ n := by
        rcases Nat.lt_or_ge n 5 with q | q
        · exfalso
          have ht0 : t = 0 := by omega
          subst ht0
          rcases (show n = 0 ∨ n = 1 ∨ n = 2 ∨ n = 3 ∨ n = 4 by omega) with rfl | rfl | rfl | rfl | rfl <;> exact z (by decide)
        · rw [show (5 : Int32) = nI 5 from rfl, nSub q, nLt (by omega) (by omega)] at z
          omega
      have ht : t < 512 := by omega
      have next : ∀ C1 M1, Rel (t + 1) C1 M1 → LW xs n 1177 [some (.ref 0), some (.ref 1), some (.ref 2), some (.int (nI (5 * t)))] [] C1 M1 := fun C1 M1 h1 => by
        refine l_iinc (v := nI (5 * (t + 1))) dL_law_1177 rfl (by rw [show Int32.ofInt 5 = nI 5 from rfl, nAdd]; congr 1) (by decide) rfl ?_
        refine l_goto 18 dL_law_1180 (by decide) ?_
        exact ih (t + 1) C1 M1 (by omega) (by omega) h1
      refine l_aload_n dL_law_26 rfl rfl ?_
      refine l_iload_n dL_law_27 rfl rfl ?_
      refine l_sld (nIn (by omega) (by omega)) dL_law_28 ?_
      refine l_bipush (v := 31) dL_law_29 (by decide) ?_
      refine l_iand dL_law_31 ?_
      obtain ⟨v, hv, e⟩ := pk_andE (xs (zn (nI (5 * t)))) (m := 31) 5 (by decide)
      rw [e]
      rcases Nat.lt_or_ge v 29 with q | q
      · rcases (show v = 0 ∨ v = 1 ∨ v = 2 ∨ v = 3 ∨ v = 4 ∨ v = 5 ∨ v = 6 ∨ v = 7 ∨ v = 8 ∨ v = 9 ∨ v = 10 ∨ v = 11 ∨ v = 12 ∨ v = 13 ∨ v = 14 ∨ v = 15 ∨ v = 16 ∨ v = 17 ∨ v = 18 ∨ v = 19 ∨ v = 20 ∨ v = 21 ∨ v = 22 ∨ v = 23 ∨ v = 24 ∨ v = 25 ∨ v = 26 ∨ v = 27 ∨ v = 28 by omega) with rfl | rfl | rfl | rfl | rfl | rfl | rfl | rfl | rfl | rfl | rfl | rfl | rfl | rfl | rfl | rfl | rfl | rfl | rfl | rfl | rfl | rfl | rfl | rfl | rfl | rfl | rfl | rfl | rfl
        · exact l_tin 164 dL_law_32 (by decide) (by decide) rfl (by decide) (l_case_0 hR ht hi hn next)
        · exact l_tin 217 dL_law_32 (by decide) (by decide) rfl (by decide) (l_case_1 hR ht hi hn next)
        · exact l_tin 240 dL_law_32 (by decide) (by decide) rfl (by decide) (l_case_2 hR ht hi hn next)
        · exact l_tin 313 dL_law_32 (by decide) (by decide) rfl (by decide) (l_case_3 hR ht hi hn next)
        · exact l_tin 336 dL_law_32 (by decide) (by decide) rfl (by decide) (l_case_4 hR ht hi hn next)
        · exact l_tin 359 dL_law_32 (by decide) (by decide) rfl (by decide) (l_case_5 hR ht hi hn next)
        · exact l_tin 392 dL_law_32 (by decide) (by decide) rfl (by decide) (l_case_6 hR ht hi hn next)
        · exact l_tin 416 dL_law_32 (by decide) (by decide) rfl (by decide) (l_case_7 hR ht hi hn next)
        · exact l_tin 439 dL_law_32 (by decide) (by decide) rfl (by decide) (l_case_8 hR ht hi hn next)
        · exact l_tin 453 dL_law_32 (by decide) (by decide) rfl (by decide) (l_case_9 hR ht hi hn next)
        · exact l_tin 486 dL_law_32 (by decide) (by decide) rfl (by decide) (l_case_10 hR ht hi hn next)
        · exact l_tin 509 dL_law_32 (by decide) (by decide) rfl (by decide) (l_case_11 hR ht hi hn next)
        · exact l_tin 542 dL_law_32 (by decide) (by decide) rfl (by decide) (l_case_12 hR ht hi hn next)
        · exact l_tin 575 dL_law_32 (by decide) (by decide) rfl (by decide) (l_case_13 hR ht hi hn next)
        · exact l_tin 618 dL_law_32 (by decide) (by decide) rfl (by decide) (l_case_14 hR ht hi hn next)
        · exact l_tin 651 dL_law_32 (by decide) (by decide) rfl (by decide) (l_case_15 hR ht hi hn next)
        · exact l_tin 685 dL_law_32 (by decide) (by decide) rfl (by decide) (l_case_16 hR ht hi hn next)
        · exact l_tin 719 dL_law_32 (by decide) (by decide) rfl (by decide) (l_case_17 hR ht hi hn next)
        · exact l_tin 792 dL_law_32 (by decide) (by decide) rfl (by decide) (l_case_18 hR ht hi hn next)
        · exact l_tin 816 dL_law_32 (by decide) (by decide) rfl (by decide) (l_case_19 hR ht hi hn next)
        · exact l_tin 879 dL_law_32 (by decide) (by decide) rfl (by decide) (l_case_20 hR ht hi hn next)
        · exact l_tin 902 dL_law_32 (by decide) (by decide) rfl (by decide) (l_case_21 hR ht hi hn next)
        · exact l_tin 935 dL_law_32 (by decide) (by decide) rfl (by decide) (l_case_22 hR ht hi hn next)
        · exact l_tin 968 dL_law_32 (by decide) (by decide) rfl (by decide) (l_case_23 hR ht hi hn next)
        · exact l_tin 992 dL_law_32 (by decide) (by decide) rfl (by decide) (l_case_24 hR ht hi hn next)
        · exact l_tin 1055 dL_law_32 (by decide) (by decide) rfl (by decide) (l_case_25 hR ht hi hn next)
        · exact l_tin 1068 dL_law_32 (by decide) (by decide) rfl (by decide) (l_case_26 hR ht hi hn next)
        · exact l_tin 1121 dL_law_32 (by decide) (by decide) rfl (by decide) (l_case_27 hR ht hi hn next)
        · exact l_tin 1164 dL_law_32 (by decide) (by decide) rfl (by decide) (l_case_28 hR ht hi hn next)
      · refine l_tout 1177 dL_law_32 (Or.inr ?_) (by decide) (next C M (Rel_skip hR))
        rw [nToI (by omega)]
        omega
