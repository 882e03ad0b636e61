theorem sg_X5_findLikeliest_0 {K d : Nat} {mu : Mem} {Q : AV → Mem → Prop} {P S : Int} (hd : 4 ≤ d) (hK : 64 ≤ K) (hP : isP K P) (hS : isS K S) (h : zC K 0 mJ7_fill_d0a16 [zR 53, zJ 1] mu (fun v_ nu2 => v_ = zV ∧ zG K d mX5_findLikeliest 15 [zR 51, zR P, zR S, zI ((nu2 S 4) - 1), zU] [] nu2 Q)) : zG K d mX5_findLikeliest 0 [zR 51, zR P, zR S, zU, zU] [] mu Q := by
  refine g_aload_n dX5_findLikeliest_0 rfl ?_
  refine g_getR (k' := 53) dX5_findLikeliest_1 (o51 hK) fX5_15 (by decide) (by decide) ?_
  refine g_lconst (x := 1) dX5_findLikeliest_4 rfl ?_
  refine g_callS (Y' := mJ7_fill_d0a16) (d' := 0) (As := [zR 53, zJ 1]) (rest := []) dX5_findLikeliest_5 lX5_37 vJ7_fill_d0a16 (by omega) rfl (Nat.le_of_ble_eq_true rfl) rfl (zC_v h (fun nu2 h => ?_))
  refine g_aload_n dX5_findLikeliest_8 rfl ?_
  refine g_getI' (jj := 4) dX5_findLikeliest_9 (hS).ob fX5_47 rfl rfl ?_
  refine g_iconst dX5_findLikeliest_12 ?_
  refine g_isub dX5_findLikeliest_13 ?_
  refine g_istore_n dX5_findLikeliest_14 (by decide) rfl ?_
  exact g_wk (zwk_s (zwk_s (zwk_s (zwk_s (zwk_s zwk_n))))) h
theorem sg_X5_findLikeliest_15 {K d : Nat} {mu : Mem} {Q : AV → Mem → Prop} {P S a3 : Int} (hd : 4 ≤ d) (hK : 64 ≤ K) (hP : isP K P) (hS : isS K S) (h : (zin a3 ∧ ((a3 < 0 → zC K 1 mX2_pairAhead [zR P] mu (fun v_ nu3 => ∃ r2, v_ = zI r2 ∧ (0 ≤ r2 ∧ r2 < 539 ∧ zil (nu3 53 r2) ∧ ((¬ (nu3 53 r2) = 0 → zG K d mX5_findLikeliest 88 [zR 51, zR P, zR S, zI r2, zI 0] [] nu3 Q) ∧ ((nu3 53 r2) = 0 → Q (zI 0) nu3))))) ∧ (¬ a3 < 0 → zG K d mX5_findLikeliest 22 [zR 51, zR P, zR S, zI a3, zI 0] [] mu Q)))) : zG K d mX5_findLikeliest 15 [zR 51, zR P, zR S, zI a3, zU] [] mu Q := by
  refine g_iload_n dX5_findLikeliest_15 rfl ?_
  obtain ⟨q1, h⟩ := h
  refine g_if_lt (tgt := 67) dX5_findLikeliest_16 (by decide) q1 (fun c_ => ?_) (fun c_ => ?_)
  · have h := h.1 c_
    refine g_aload_n dX5_findLikeliest_67 rfl ?_
    refine g_callV (Y' := mX2_pairAhead) (d' := 1) (As := []) (rest := []) dX5_findLikeliest_68 lX5_43 vX2_pairAhead (by omega) (hP).ob rfl rfl (Nat.le_of_ble_eq_true rfl) rfl (zC_i h (fun r2 nu3 h => ?_))
    refine g_istore_n dX5_findLikeliest_71 (by decide) rfl ?_
    refine g_aload_n dX5_findLikeliest_72 rfl ?_
    refine g_getR (k' := 53) dX5_findLikeliest_73 (o51 hK) fX5_15 (by decide) (by decide) ?_
    refine g_iload_n dX5_findLikeliest_76 rfl ?_
    obtain ⟨q4, h⟩ := h
    obtain ⟨q5, h⟩ := h
    refine g_lald' (nn := 539) dX5_findLikeliest_77 (r53 hK) rfl q4 q5 ?_
    refine g_lconst (x := 0) dX5_findLikeliest_78 rfl ?_
    obtain ⟨q6, h⟩ := h
    refine g_lcmp_ne (tgt := 85) dX5_findLikeliest_79 dX5_findLikeliest_80 (by decide) q6 (zil_d rfl) (fun c_ => ?_) (fun c_ => ?_)
    · have h := h.1 c_
      refine g_iconst dX5_findLikeliest_85 ?_
      refine g_istore dX5_findLikeliest_86 (by decide) rfl ?_
      exact g_wk (zwk_s (zwk_s (zwk_s (zwk_s (zwk_s zwk_n))))) h
    · have h := h.2 c_
      refine g_iconst dX5_findLikeliest_83 ?_
      exact g_zreturn dX5_findLikeliest_84 rfl (by decide) h
  · have h := h.2 c_
    refine g_iconst dX5_findLikeliest_19 ?_
    refine g_istore dX5_findLikeliest_20 (by decide) rfl ?_
    exact g_wk (zwk_s (zwk_s (zwk_s (zwk_s (zwk_s zwk_n))))) h
theorem sg_X5_findLikeliest_88 {K d : Nat} {mu : Mem} {Q : AV → Mem → Prop} {P S a3 a4 : Int} (hd : 4 ≤ d) (hK : 64 ≤ K) (hP : isP K P) (hS : isS K S) (h : (zin a4 ∧ zin (mu S 4) ∧ (((mu S 4) ≤ a4 → Q (zI 1) mu) ∧ (¬ (mu S 4) ≤ a4 → (0 ≤ a4 ∧ a4 < 10 ∧ zC K 3 mX5_firstOfGreatest [zR 51, zR P, zI a4, zI a3, zI (mu (S + 4) a4)] mu (fun v_ nu6 => ∃ r5, v_ = zI r5 ∧ (zin a3 ∧ zG K d mX5_findLikeliest 88 [zR 51, zR P, zR S, zI (((a3.tmod 7) * 7) + ((zup nu6 52 a4 r5) 52 a4)), zI (a4 + 1)] [] (zup nu6 52 a4 r5) Q))))))) : zG K d mX5_findLikeliest 88 [zR 51, zR P, zR S, zI a3, zI a4] [] mu Q := by
  refine g_iload dX5_findLikeliest_88 rfl ?_
  refine g_aload_n dX5_findLikeliest_90 rfl ?_
  refine g_getI' (jj := 4) dX5_findLikeliest_91 (hS).ob fX5_47 rfl rfl ?_
  obtain ⟨q1, h⟩ := h
  obtain ⟨q2, h⟩ := h
  refine g_icmp_ge (tgt := 141) dX5_findLikeliest_94 (by decide) q1 q2 (fun c_ => ?_) (fun c_ => ?_)
  · have h := h.1 c_
    refine g_iconst dX5_findLikeliest_141 ?_
    exact g_zreturn dX5_findLikeliest_142 rfl (by decide) h
  · have h := h.2 c_
    refine g_aload_n dX5_findLikeliest_97 rfl ?_
    refine g_getR (k' := 52) dX5_findLikeliest_98 (o51 hK) fX5_9 (by decide) (by decide) ?_
    refine g_iload dX5_findLikeliest_101 rfl ?_
    refine g_aload_n dX5_findLikeliest_103 rfl ?_
    refine g_aload_n dX5_findLikeliest_104 rfl ?_
    refine g_iload dX5_findLikeliest_105 rfl ?_
    refine g_iload_n dX5_findLikeliest_107 rfl ?_
    refine g_aload_n dX5_findLikeliest_108 rfl ?_
    refine g_getR (k' := (S + 4)) dX5_findLikeliest_109 (hS).ob fX5_56 (by decide) rfl ?_
    refine g_iload dX5_findLikeliest_112 rfl ?_
    obtain ⟨q3, h⟩ := h
    obtain ⟨q4, h⟩ := h
    refine g_iald' (nn := 10) dX5_findLikeliest_114 (hS).a4 rfl q3 q4 ?_
    refine g_callV (Y' := mX5_firstOfGreatest) (d' := 3) (As := [zR P, zI a4, zI a3, zI (mu (S + 4) a4)]) (rest := [zI a4, zR 52]) dX5_findLikeliest_115 lX5_74 vX5_firstOfGreatest (by omega) (o51 hK) rfl rfl (Nat.le_of_ble_eq_true rfl) rfl (zC_i h (fun r5 nu6 h => ?_))
    refine g_iast' (nn := 10) dX5_findLikeliest_118 (r52 hK) rfl q3 q4 ?_
    refine g_iload_n dX5_findLikeliest_119 rfl ?_
    refine g_bipush dX5_findLikeliest_120 rfl ?_
    obtain ⟨q7, h⟩ := h
    refine g_irem dX5_findLikeliest_122 q7 (zin_d rfl) (by decide) ?_
    refine g_bipush dX5_findLikeliest_123 rfl ?_
    refine g_imul dX5_findLikeliest_125 ?_
    refine g_aload_n dX5_findLikeliest_126 rfl ?_
    refine g_getR (k' := 52) dX5_findLikeliest_127 (o51 hK) fX5_9 (by decide) (by decide) ?_
    refine g_iload dX5_findLikeliest_130 rfl ?_
    refine g_iald' (nn := 10) dX5_findLikeliest_132 (r52 hK) rfl q3 q4 ?_
    refine g_iadd dX5_findLikeliest_133 ?_
    refine g_istore_n dX5_findLikeliest_134 (by decide) rfl ?_
    refine g_iinc dX5_findLikeliest_135 rfl (by decide) rfl ?_
    refine g_goto (tgt := 88) dX5_findLikeliest_138 (by decide) ?_
    exact g_wk (zwk_s (zwk_s (zwk_s (zwk_s (zwk_s zwk_n))))) h
theorem sg_X5_findLikeliest_22 {K d : Nat} {mu : Mem} {Q : AV → Mem → Prop} {P S a3 a4 : Int} (hd : 4 ≤ d) (hK : 64 ≤ K) (hP : isP K P) (hS : isS K S) (h : (zin a4 ∧ ((49 ≤ a4 → zG K d mX5_findLikeliest 15 [zR 51, zR P, zR S, zI (a3 + (-1)), zU] [] mu Q) ∧ (¬ 49 ≤ a4 → (0 ≤ a3 ∧ a3 < 10 ∧ zC K 3 mX5_greatestFrom [zR 51, zR P, zI a3, zI a4, zI (mu (S + 4) a3)] mu (fun v_ nu5 => ∃ r4, v_ = zJ r4 ∧ (0 ≤ ((a3 * 49) + a4) ∧ ((a3 * 49) + a4) < 539 ∧ zG K d mX5_findLikeliest 22 [zR 51, zR P, zR S, zI a3, zI (a4 + 1)] [] (zup nu5 53 ((a3 * 49) + a4) r4) Q))))))) : zG K d mX5_findLikeliest 22 [zR 51, zR P, zR S, zI a3, zI a4] [] mu Q := by
  refine g_iload dX5_findLikeliest_22 rfl ?_
  refine g_bipush dX5_findLikeliest_24 rfl ?_
  obtain ⟨q1, h⟩ := h
  refine g_icmp_ge (tgt := 61) dX5_findLikeliest_26 (by decide) q1 (zin_d rfl) (fun c_ => ?_) (fun c_ => ?_)
  · have h := h.1 c_
    refine g_iinc dX5_findLikeliest_61 rfl (by decide) rfl ?_
    refine g_goto (tgt := 15) dX5_findLikeliest_64 (by decide) ?_
    exact g_wk (zwk_s (zwk_s (zwk_s (zwk_s (zwk_u zwk_n))))) h
  · have h := h.2 c_
    refine g_aload_n dX5_findLikeliest_29 rfl ?_
    refine g_getR (k' := 53) dX5_findLikeliest_30 (o51 hK) fX5_15 (by decide) (by decide) ?_
    refine g_iload_n dX5_findLikeliest_33 rfl ?_
    refine g_bipush dX5_findLikeliest_34 rfl ?_
    refine g_imul dX5_findLikeliest_36 ?_
    refine g_iload dX5_findLikeliest_37 rfl ?_
    refine g_iadd dX5_findLikeliest_39 ?_
    refine g_aload_n dX5_findLikeliest_40 rfl ?_
    refine g_aload_n dX5_findLikeliest_41 rfl ?_
    refine g_iload_n dX5_findLikeliest_42 rfl ?_
    refine g_iload dX5_findLikeliest_43 rfl ?_
    refine g_aload_n dX5_findLikeliest_45 rfl ?_
    refine g_getR (k' := (S + 4)) dX5_findLikeliest_46 (hS).ob fX5_56 (by decide) rfl ?_
    refine g_iload_n dX5_findLikeliest_49 rfl ?_
    obtain ⟨q2, h⟩ := h
    obtain ⟨q3, h⟩ := h
    refine g_iald' (nn := 10) dX5_findLikeliest_50 (hS).a4 rfl q2 q3 ?_
    refine g_callV (Y' := mX5_greatestFrom) (d' := 3) (As := [zR P, zI a3, zI a4, zI (mu (S + 4) a3)]) (rest := [zI ((a3 * 49) + a4), zR 53]) dX5_findLikeliest_51 lX5_70 vX5_greatestFrom (by omega) (o51 hK) rfl rfl (Nat.le_of_ble_eq_true rfl) rfl (zC_j h (fun r4 nu5 h => ?_))
    obtain ⟨q6, h⟩ := h
    obtain ⟨q7, h⟩ := h
    refine g_last' (nn := 539) dX5_findLikeliest_54 (r53 hK) rfl q6 q7 ?_
    refine g_iinc dX5_findLikeliest_55 rfl (by decide) rfl ?_
    refine g_goto (tgt := 22) dX5_findLikeliest_58 (by decide) ?_
    exact g_wk (zwk_s (zwk_s (zwk_s (zwk_s (zwk_s zwk_n))))) h
theorem sg_X5_firstOfGreatest_0 {K d : Nat} {mu : Mem} {Q : AV → Mem → Prop} {P a2 a3 a4 : Int} (hd : 3 ≤ d) (hK : 64 ≤ K) (hP : isP K P) (h : zG K d mX5_firstOfGreatest 3 [zR 51, zR P, zI a2, zI a3, zI a4, zI 0] [] mu Q) : zG K d mX5_firstOfGreatest 0 [zR 51, zR P, zI a2, zI a3, zI a4, zU] [] mu Q := by
  refine g_iconst dX5_firstOfGreatest_0 ?_
  refine g_istore dX5_firstOfGreatest_1 (by decide) rfl ?_
  exact g_wk (zwk_s (zwk_s (zwk_s (zwk_s (zwk_s (zwk_s zwk_n)))))) h
theorem sg_X5_firstOfGreatest_3 {K d : Nat} {mu : Mem} {Q : AV → Mem → Prop} {P a2 a3 a4 a5 : Int} (hd : 3 ≤ d) (hK : 64 ≤ K) (hP : isP K P) (h : (zin a5 ∧ zin (mu P 0) ∧ (((mu P 0) ≤ a5 → Q (zI 0) mu) ∧ (¬ (mu P 0) ≤ a5 → zC K 2 mX5_weightFrom [zR 51, zR P, zI a2, zI a3, zI a4, zI a5] mu (fun v_ nu4 => ∃ r3, v_ = zJ r3 ∧ (0 ≤ ((a2 * 49) + a3) ∧ ((a2 * 49) + a3) < 539 ∧ zil r3 ∧ zil (nu4 53 ((a2 * 49) + a3)) ∧ ((¬ r3 = (nu4 53 ((a2 * 49) + a3)) → zG K d mX5_firstOfGreatest 3 [zR 51, zR P, zI a2, zI a3, zI a4, zI (a5 + 1)] [] nu4 Q) ∧ (r3 = (nu4 53 ((a2 * 49) + a3)) → Q (zI a5) nu4)))))))) : zG K d mX5_firstOfGreatest 3 [zR 51, zR P, zI a2, zI a3, zI a4, zI a5] [] mu Q := by
  refine g_iload dX5_firstOfGreatest_3 rfl ?_
  refine g_aload_n dX5_firstOfGreatest_5 rfl ?_
  refine g_getI' (jj := 0) dX5_firstOfGreatest_6 (hP).ob fX5_53 rfl rfl ?_
  obtain ⟨q1, h⟩ := h
  obtain ⟨q2, h⟩ := h
  refine g_icmp_ge (tgt := 47) dX5_firstOfGreatest_9 (by decide) q1 q2 (fun c_ => ?_) (fun c_ => ?_)
  · have h := h.1 c_
    refine g_iconst dX5_firstOfGreatest_47 ?_
    exact g_ireturn dX5_firstOfGreatest_48 rfl h
  · have h := h.2 c_
    refine g_aload_n dX5_firstOfGreatest_12 rfl ?_
    refine g_aload_n dX5_firstOfGreatest_13 rfl ?_
    refine g_iload_n dX5_firstOfGreatest_14 rfl ?_
    refine g_iload_n dX5_firstOfGreatest_15 rfl ?_
    refine g_iload dX5_firstOfGreatest_16 rfl ?_
    refine g_iload dX5_firstOfGreatest_18 rfl ?_
    refine g_callV (Y' := mX5_weightFrom) (d' := 2) (As := [zR P, zI a2, zI a3, zI a4, zI a5]) (rest := []) dX5_firstOfGreatest_20 lX5_78 vX5_weightFrom (by omega) (o51 hK) rfl rfl (Nat.le_of_ble_eq_true rfl) rfl (zC_j h (fun r3 nu4 h => ?_))
    refine g_aload_n dX5_firstOfGreatest_23 rfl ?_
    refine g_getR (k' := 53) dX5_firstOfGreatest_24 (o51 hK) fX5_15 (by decide) (by decide) ?_
    refine g_iload_n dX5_firstOfGreatest_27 rfl ?_
    refine g_bipush dX5_firstOfGreatest_28 rfl ?_
    refine g_imul dX5_firstOfGreatest_30 ?_
    refine g_iload_n dX5_firstOfGreatest_31 rfl ?_
    refine g_iadd dX5_firstOfGreatest_32 ?_
    obtain ⟨q5, h⟩ := h
    obtain ⟨q6, h⟩ := h
    refine g_lald' (nn := 539) dX5_firstOfGreatest_33 (r53 hK) rfl q5 q6 ?_
    obtain ⟨q7, h⟩ := h
    obtain ⟨q8, h⟩ := h
    refine g_lcmp_ne (tgt := 41) dX5_firstOfGreatest_34 dX5_firstOfGreatest_35 (by decide) q7 q8 (fun c_ => ?_) (fun c_ => ?_)
    · have h := h.1 c_
      refine g_iinc dX5_firstOfGreatest_41 rfl (by decide) rfl ?_
      refine g_goto (tgt := 3) dX5_firstOfGreatest_44 (by decide) ?_
      exact g_wk (zwk_s (zwk_s (zwk_s (zwk_s (zwk_s (zwk_s zwk_n)))))) h
    · have h := h.2 c_
      refine g_iload dX5_firstOfGreatest_38 rfl ?_
      exact g_ireturn dX5_firstOfGreatest_40 rfl h
theorem sg_X5_greatestFrom_0 {K d : Nat} {mu : Mem} {Q : AV → Mem → Prop} {P a2 a3 a4 : Int} (hd : 3 ≤ d) (hK : 64 ≤ K) (hP : isP K P) (h : zG K d mX5_greatestFrom 6 [zR 51, zR P, zI a2, zI a3, zI a4, zJ 0, zU, zI 0] [] mu Q) : zG K d mX5_greatestFrom 0 [zR 51, zR P, zI a2, zI a3, zI a4, zU, zU, zU] [] mu Q := by
  refine g_lconst (x := 0) dX5_greatestFrom_0 rfl ?_
  refine g_lstore dX5_greatestFrom_1 (by decide) rfl ?_
  refine g_iconst dX5_greatestFrom_3 ?_
  refine g_istore dX5_greatestFrom_4 (by decide) rfl ?_
  exact g_wk (zwk_s (zwk_s (zwk_s (zwk_s (zwk_s (zwk_s (zwk_s (zwk_s zwk_n)))))))) h
theorem sg_X5_greatestFrom_6 {K d : Nat} {mu : Mem} {Q : AV → Mem → Prop} {P a2 a3 a4 a5 a7 : Int} (hd : 3 ≤ d) (hK : 64 ≤ K) (hP : isP K P) (h : (zin a7 ∧ zin (mu P 0) ∧ (((mu P 0) ≤ a7 → Q (zJ a5) mu) ∧ (¬ (mu P 0) ≤ a7 → zC K 2 mX5_weightFrom [zR 51, zR P, zI a2, zI a3, zI a4, zI a7] mu (fun v_ nu4 => ∃ r3, v_ = zJ r3 ∧ (zil a5 ∧ zil r3 ∧ zG K d mX5_greatestFrom 6 [zR 51, zR P, zI a2, zI a3, zI a4, zJ (max a5 r3), zU, zI (a7 + 1)] [] nu4 Q)))))) : zG K d mX5_greatestFrom 6 [zR 51, zR P, zI a2, zI a3, zI a4, zJ a5, zU, zI a7] [] mu Q := by
  refine g_iload dX5_greatestFrom_6 rfl ?_
  refine g_aload_n dX5_greatestFrom_8 rfl ?_
  refine g_getI' (jj := 0) dX5_greatestFrom_9 (hP).ob fX5_53 rfl rfl ?_
  obtain ⟨q1, h⟩ := h
  obtain ⟨q2, h⟩ := h
  refine g_icmp_ge (tgt := 39) dX5_greatestFrom_12 (by decide) q1 q2 (fun c_ => ?_) (fun c_ => ?_)
  · have h := h.1 c_
    refine g_lload dX5_greatestFrom_39 rfl ?_
    exact g_lreturn dX5_greatestFrom_41 rfl h
  · have h := h.2 c_
    refine g_lload dX5_greatestFrom_15 rfl ?_
    refine g_aload_n dX5_greatestFrom_17 rfl ?_
    refine g_aload_n dX5_greatestFrom_18 rfl ?_
    refine g_iload_n dX5_greatestFrom_19 rfl ?_
    refine g_iload_n dX5_greatestFrom_20 rfl ?_
    refine g_iload dX5_greatestFrom_21 rfl ?_
    refine g_iload dX5_greatestFrom_23 rfl ?_
    refine g_callV (Y' := mX5_weightFrom) (d' := 2) (As := [zR P, zI a2, zI a3, zI a4, zI a7]) (rest := [zJ a5]) dX5_greatestFrom_25 lX5_78 vX5_weightFrom (by omega) (o51 hK) rfl rfl (Nat.le_of_ble_eq_true rfl) rfl (zC_j h (fun r3 nu4 h => ?_))
    obtain ⟨q5, h⟩ := h
    obtain ⟨q6, h⟩ := h
    refine g_maxl dX5_greatestFrom_28 lX5_82 (by omega) (Nat.le_of_ble_eq_true rfl) q5 q6 ?_
    refine g_lstore dX5_greatestFrom_31 (by decide) rfl ?_
    refine g_iinc dX5_greatestFrom_33 rfl (by decide) rfl ?_
    refine g_goto (tgt := 6) dX5_greatestFrom_36 (by decide) ?_
    exact g_wk (zwk_s (zwk_s (zwk_s (zwk_s (zwk_s (zwk_s (zwk_s (zwk_s zwk_n)))))))) h
theorem sg_X5_number_0 {K d : Nat} {mu : Mem} {Q : AV → Mem → Prop} {P S : Int} (hd : 4 ≤ d) (hK : 64 ≤ K) (hP : isP K P) (hS : isS K S) (h : zG K d mX5_number 2 [zR 51, zR P, zR S, zI 0] [] mu Q) : zG K d mX5_number 0 [zR 51, zR P, zR S, zU] [] mu Q := by
  refine g_iconst dX5_number_0 ?_
  refine g_istore_n dX5_number_1 (by decide) rfl ?_
  exact g_wk (zwk_s (zwk_s (zwk_s (zwk_s zwk_n)))) h
theorem sg_X5_number_2 {K d : Nat} {mu : Mem} {Q : AV → Mem → Prop} {P S a3 : Int} (hd : 4 ≤ d) (hK : 64 ≤ K) (hP : isP K P) (hS : isS K S) (h : (zin a3 ∧ ((6 ≤ a3 → zC K 3 mX5_sumUp [zR 51, zR P, zR S, zI (-1), zI (-1)] mu (fun v_ nu3 => ∃ r2, v_ = zJ r2 ∧ Q (zJ r2) nu3)) ∧ (¬ 6 ≤ a3 → (0 ≤ a3 ∧ a3 < 6 ∧ zin (mu (P + 4) a3) ∧ (((mu (P + 4) a3) ≤ 0 → zG K d mX5_number 2 [zR 51, zR P, zR S, zI (a3 + 1)] [] (zup mu 55 a3 0) Q) ∧ (¬ (mu (P + 4) a3) ≤ 0 → zG K d mX5_number 2 [zR 51, zR P, zR S, zI (a3 + 1)] [] (zup mu 55 a3 1) Q))))))) : zG K d mX5_number 2 [zR 51, zR P, zR S, zI a3] [] mu Q := by
  refine g_iload_n dX5_number_2 rfl ?_
  refine g_bipush dX5_number_3 rfl ?_
  obtain ⟨q1, h⟩ := h
  refine g_icmp_ge (tgt := 34) dX5_number_5 (by decide) q1 (zin_d rfl) (fun c_ => ?_) (fun c_ => ?_)
  · have h := h.1 c_
    refine g_aload_n dX5_number_34 rfl ?_
    refine g_aload_n dX5_number_35 rfl ?_
    refine g_aload_n dX5_number_36 rfl ?_
    refine g_iconst dX5_number_37 ?_
    refine g_iconst dX5_number_38 ?_
    refine g_callV (Y' := mX5_sumUp) (d' := 3) (As := [zR P, zR S, zI (-1), zI (-1)]) (rest := []) dX5_number_39 lX5_30 vX5_sumUp (by omega) (o51 hK) rfl rfl (Nat.le_of_ble_eq_true rfl) rfl (zC_j h (fun r2 nu3 h => ?_))
    exact g_lreturn dX5_number_42 rfl h
  · have h := h.2 c_
    refine g_aload_n dX5_number_8 rfl ?_
    refine g_getR (k' := 55) dX5_number_9 (o51 hK) fX5_22 (by decide) (by decide) ?_
    refine g_iload_n dX5_number_12 rfl ?_
    refine g_aload_n dX5_number_13 rfl ?_
    refine g_getR (k' := (P + 4)) dX5_number_14 (hP).ob fX5_25 (by decide) rfl ?_
    refine g_iload_n dX5_number_17 rfl ?_
    obtain ⟨q4, h⟩ := h
    obtain ⟨q5, h⟩ := h
    refine g_iald' (nn := 6) dX5_number_18 (hP).a4 rfl q4 q5 ?_
    obtain ⟨q6, h⟩ := h
    refine g_if_le (tgt := 26) dX5_number_19 (by decide) q6 (fun c_ => ?_) (fun c_ => ?_)
    · have h := h.1 c_
      refine g_lconst (x := 0) dX5_number_26 rfl ?_
      refine g_last' (nn := 6) dX5_number_27 (r55 hK) rfl q4 q5 ?_
      refine g_iinc dX5_number_28 rfl (by decide) rfl ?_
      refine g_goto (tgt := 2) dX5_number_31 (by decide) ?_
      exact g_wk (zwk_s (zwk_s (zwk_s (zwk_s zwk_n)))) h
    · have h := h.2 c_
      refine g_lconst (x := 1) dX5_number_22 rfl ?_
      refine g_goto (tgt := 27) dX5_number_23 (by decide) ?_
      refine g_last' (nn := 6) dX5_number_27 (r55 hK) rfl q4 q5 ?_
      refine g_iinc dX5_number_28 rfl (by decide) rfl ?_
      refine g_goto (tgt := 2) dX5_number_31 (by decide) ?_
      exact g_wk (zwk_s (zwk_s (zwk_s (zwk_s zwk_n)))) h
theorem sg_X5_sumOver_0 {K d : Nat} {mu : Mem} {Q : AV → Mem → Prop} {P a2 a3 a4 : Int} (hd : 2 ≤ d) (hK : 64 ≤ K) (hP : isP K P) (h : zG K d mX5_sumOver 3 [zR 51, zR P, zI a2, zI a3, zI a4, zI 0, zU] [] mu Q) : zG K d mX5_sumOver 0 [zR 51, zR P, zI a2, zI a3, zI a4, zU, zU] [] mu Q := by
  refine g_iconst dX5_sumOver_0 ?_
  refine g_istore dX5_sumOver_1 (by decide) rfl ?_
  exact g_wk (zwk_s (zwk_s (zwk_s (zwk_s (zwk_s (zwk_s (zwk_s zwk_n))))))) h
theorem sg_X5_sumOver_3 {K d : Nat} {mu : Mem} {Q : AV → Mem → Prop} {P a2 a3 a4 a5 : Int} (hd : 2 ≤ d) (hK : 64 ≤ K) (hP : isP K P) (h : (zin a5 ∧ ((49 ≤ a5 → Q zV mu) ∧ (¬ 49 ≤ a5 → zC K 1 mX8_givesBehind [zI (mu P 1), zI (a5.tdiv 7), zI (a5.tmod 7), zI a4] mu (fun v_ nu3 => ∃ r2, v_ = zI r2 ∧ (zin r2 ∧ zin a3 ∧ ((¬ r2 = a3 → zG K d mX5_sumOver 3 [zR 51, zR P, zI a2, zI a3, zI a4, zI (a5 + 1), zU] [] nu3 Q) ∧ (r2 = a3 → (0 ≤ ((((a2 + 1) * 49) + ((a5.tmod 7) * 7)) + a4) ∧ ((((a2 + 1) * 49) + ((a5.tmod 7) * 7)) + a4) < 539 ∧ 0 ≤ ((a2 * 49) + a5) ∧ ((a2 * 49) + a5) < 539 ∧ 0 ≤ a4 ∧ a4 < 6 ∧ zG K d mX5_sumOver 3 [zR 51, zR P, zI a2, zI a3, zI a4, zI (a5 + 1), zU] [] (zup nu3 54 ((((a2 + 1) * 49) + ((a5.tmod 7) * 7)) + a4) ((nu3 54 ((((a2 + 1) * 49) + ((a5.tmod 7) * 7)) + a4)) + ((nu3 54 ((a2 * 49) + a5)) * (nu3 55 a4)))) Q))))))))) : zG K d mX5_sumOver 3 [zR 51, zR P, zI a2, zI a3, zI a4, zI a5, zU] [] mu Q := by
  refine g_iload dX5_sumOver_3 rfl ?_
  refine g_bipush dX5_sumOver_5 rfl ?_
  obtain ⟨q1, h⟩ := h
  refine g_icmp_ge (tgt := 86) dX5_sumOver_7 (by decide) q1 (zin_d rfl) (fun c_ => ?_) (fun c_ => ?_)
  · have h := h.1 c_
    exact g_return dX5_sumOver_86 rfl h
  · have h := h.2 c_
    refine g_iload dX5_sumOver_10 rfl ?_
    refine g_bipush dX5_sumOver_12 rfl ?_
    refine g_irem dX5_sumOver_14 q1 (zin_d rfl) (by decide) ?_
    refine g_istore dX5_sumOver_15 (by decide) rfl ?_
    refine g_aload_n dX5_sumOver_17 rfl ?_
    refine g_getI' (jj := 1) dX5_sumOver_18 (hP).ob fX5_63 rfl rfl ?_
    refine g_iload dX5_sumOver_21 rfl ?_
    refine g_bipush dX5_sumOver_23 rfl ?_
    refine g_idiv dX5_sumOver_25 q1 (zin_d rfl) (by decide) ?_
    refine g_iload dX5_sumOver_26 rfl ?_
    refine g_iload dX5_sumOver_28 rfl ?_
    refine g_callN (Y' := mX8_givesBehind) (d' := 1) (As := [zI (mu P 1), zI (a5.tdiv 7), zI (a5.tmod 7), zI a4]) (rest := []) (host := RX8) dX5_sumOver_30 (by decide) vX8_givesBehind (by omega) rfl (Nat.le_of_ble_eq_true rfl) rfl (zC_i h (fun r2 nu3 h => ?_))
    refine g_iload_n dX5_sumOver_33 rfl ?_
    obtain ⟨q4, h⟩ := h
    obtain ⟨q5, h⟩ := h
    refine g_icmp_ne (tgt := 80) dX5_sumOver_34 (by decide) q4 q5 (fun c_ => ?_) (fun c_ => ?_)
    · have h := h.1 c_
      refine g_iinc dX5_sumOver_80 rfl (by decide) rfl ?_
      refine g_goto (tgt := 3) dX5_sumOver_83 (by decide) ?_
      exact g_wk (zwk_s (zwk_s (zwk_s (zwk_s (zwk_s (zwk_s (zwk_u zwk_n))))))) h
    · have h := h.2 c_
      refine g_aload_n dX5_sumOver_37 rfl ?_
      refine g_getR (k' := 54) dX5_sumOver_38 (o51 hK) fX5_19 (by decide) (by decide) ?_
      refine g_iload_n dX5_sumOver_41 rfl ?_
      refine g_iconst dX5_sumOver_42 ?_
      refine g_iadd dX5_sumOver_43 ?_
      refine g_bipush dX5_sumOver_44 rfl ?_
      refine g_imul dX5_sumOver_46 ?_
      refine g_iload dX5_sumOver_47 rfl ?_
      refine g_bipush dX5_sumOver_49 rfl ?_
      refine g_imul dX5_sumOver_51 ?_
      refine g_iadd dX5_sumOver_52 ?_
      refine g_iload dX5_sumOver_53 rfl ?_
      refine g_iadd dX5_sumOver_55 ?_
      refine g_dup2 dX5_sumOver_56 (by simp) (by simp) ?_
      obtain ⟨q6, h⟩ := h
      obtain ⟨q7, h⟩ := h
      refine g_lald' (nn := 539) dX5_sumOver_57 (r54 hK) rfl q6 q7 ?_
      refine g_aload_n dX5_sumOver_58 rfl ?_
      refine g_getR (k' := 54) dX5_sumOver_59 (o51 hK) fX5_19 (by decide) (by decide) ?_
      refine g_iload_n dX5_sumOver_62 rfl ?_
      refine g_bipush dX5_sumOver_63 rfl ?_
      refine g_imul dX5_sumOver_65 ?_
      refine g_iload dX5_sumOver_66 rfl ?_
      refine g_iadd dX5_sumOver_68 ?_
      obtain ⟨q8, h⟩ := h
      obtain ⟨q9, h⟩ := h
      refine g_lald' (nn := 539) dX5_sumOver_69 (r54 hK) rfl q8 q9 ?_
      refine g_aload_n dX5_sumOver_70 rfl ?_
      refine g_getR (k' := 55) dX5_sumOver_71 (o51 hK) fX5_22 (by decide) (by decide) ?_
      refine g_iload dX5_sumOver_74 rfl ?_
      obtain ⟨q10, h⟩ := h
      obtain ⟨q11, h⟩ := h
      refine g_lald' (nn := 6) dX5_sumOver_76 (r55 hK) rfl q10 q11 ?_
      refine g_lmul dX5_sumOver_77 ?_
      refine g_ladd dX5_sumOver_78 ?_
      refine g_last' (nn := 539) dX5_sumOver_79 (r54 hK) rfl q6 q7 ?_
      refine g_iinc dX5_sumOver_80 rfl (by decide) rfl ?_
      refine g_goto (tgt := 3) dX5_sumOver_83 (by decide) ?_
      exact g_wk (zwk_s (zwk_s (zwk_s (zwk_s (zwk_s (zwk_s (zwk_u zwk_n))))))) h
theorem sg_X5_sumUp_0 {K d : Nat} {mu : Mem} {Q : AV → Mem → Prop} {P S a3 a4 : Int} (hd : 3 ≤ d) (hK : 64 ≤ K) (hP : isP K P) (hS : isS K S) (h : zC K 0 mJ7_fill_d0a16 [zR 54, zJ 0] mu (fun v_ nu2 => v_ = zV ∧ zC K 1 mX2_pairAhead [zR P] nu2 (fun v_ nu4 => ∃ r3, v_ = zI r3 ∧ (0 ≤ r3 ∧ r3 < 539 ∧ zG K d mX5_sumUp 21 [zR 51, zR P, zR S, zI a3, zI a4, zI 0, zU, zU] [] (zup nu4 54 r3 1) Q)))) : zG K d mX5_sumUp 0 [zR 51, zR P, zR S, zI a3, zI a4, zU, zU, zU] [] mu Q := by
  refine g_aload_n dX5_sumUp_0 rfl ?_
  refine g_getR (k' := 54) dX5_sumUp_1 (o51 hK) fX5_19 (by decide) (by decide) ?_
  refine g_lconst (x := 0) dX5_sumUp_4 rfl ?_
  refine g_callS (Y' := mJ7_fill_d0a16) (d' := 0) (As := [zR 54, zJ 0]) (rest := []) dX5_sumUp_5 lX5_37 vJ7_fill_d0a16 (by omega) rfl (Nat.le_of_ble_eq_true rfl) rfl (zC_v h (fun nu2 h => ?_))
  refine g_aload_n dX5_sumUp_8 rfl ?_
  refine g_getR (k' := 54) dX5_sumUp_9 (o51 hK) fX5_19 (by decide) (by decide) ?_
  refine g_aload_n dX5_sumUp_12 rfl ?_
  refine g_callV (Y' := mX2_pairAhead) (d' := 1) (As := []) (rest := [zR 54]) dX5_sumUp_13 lX5_43 vX2_pairAhead (by omega) (hP).ob rfl rfl (Nat.le_of_ble_eq_true rfl) rfl (zC_i h (fun r3 nu4 h => ?_))
  refine g_lconst (x := 1) dX5_sumUp_16 rfl ?_
  obtain ⟨q5, h⟩ := h
  obtain ⟨q6, h⟩ := h
  refine g_last' (nn := 539) dX5_sumUp_17 (r54 hK) rfl q5 q6 ?_
  refine g_iconst dX5_sumUp_18 ?_
  refine g_istore dX5_sumUp_19 (by decide) rfl ?_
  exact g_wk (zwk_s (zwk_s (zwk_s (zwk_s (zwk_s (zwk_s (zwk_s (zwk_s zwk_n)))))))) h
theorem sg_X5_sumUp_21 {K d : Nat} {mu : Mem} {Q : AV → Mem → Prop} {P S a3 a4 a5 : Int} (hd : 3 ≤ d) (hK : 64 ≤ K) (hP : isP K P) (hS : isS K S) (h : (zin a5 ∧ zin (mu S 4) ∧ (((mu S 4) ≤ a5 → zG K d mX5_sumUp 89 [zR 51, zU, zR S, zU, zU, zJ 0, zU, zI 0] [] mu Q) ∧ (¬ (mu S 4) ≤ a5 → zG K d mX5_sumUp 33 [zR 51, zR P, zR S, zI a3, zI a4, zI a5, zI 0, zU] [] mu Q)))) : zG K d mX5_sumUp 21 [zR 51, zR P, zR S, zI a3, zI a4, zI a5, zU, zU] [] mu Q := by
  refine g_iload dX5_sumUp_21 rfl ?_
  refine g_aload_n dX5_sumUp_23 rfl ?_
  refine g_getI' (jj := 4) dX5_sumUp_24 (hS).ob fX5_47 rfl rfl ?_
  obtain ⟨q1, h⟩ := h
  obtain ⟨q2, h⟩ := h
  refine g_icmp_ge (tgt := 83) dX5_sumUp_27 (by decide) q1 q2 (fun c_ => ?_) (fun c_ => ?_)
  · have h := h.1 c_
    refine g_lconst (x := 0) dX5_sumUp_83 rfl ?_
    refine g_lstore dX5_sumUp_84 (by decide) rfl ?_
    refine g_iconst dX5_sumUp_86 ?_
    refine g_istore dX5_sumUp_87 (by decide) rfl ?_
    exact g_wk (zwk_s (zwk_u (zwk_s (zwk_u (zwk_u (zwk_s (zwk_s (zwk_s zwk_n)))))))) h
  · have h := h.2 c_
    refine g_iconst dX5_sumUp_30 ?_
    refine g_istore dX5_sumUp_31 (by decide) rfl ?_
    exact g_wk (zwk_s (zwk_s (zwk_s (zwk_s (zwk_s (zwk_s (zwk_s (zwk_s zwk_n)))))))) h
theorem sg_X5_sumUp_89 {K d : Nat} {mu : Mem} {Q : AV → Mem → Prop} {S a5 a7 P : Int} (hd : 3 ≤ d) (hK : 64 ≤ K) (hP : isP K P) (hS : isS K S) (h : (zin a7 ∧ ((49 ≤ a7 → Q (zJ a5) mu) ∧ (¬ 49 ≤ a7 → (0 ≤ (((mu S 4) * 49) + a7) ∧ (((mu S 4) * 49) + a7) < 539 ∧ zG K d mX5_sumUp 89 [zR 51, zU, zR S, zU, zU, zJ (a5 + (mu 54 (((mu S 4) * 49) + a7))), zU, zI (a7 + 1)] [] mu Q))))) : zG K d mX5_sumUp 89 [zR 51, zU, zR S, zU, zU, zJ a5, zU, zI a7] [] mu Q := by
  refine g_iload dX5_sumUp_89 rfl ?_
  refine g_bipush dX5_sumUp_91 rfl ?_
  obtain ⟨q1, h⟩ := h
  refine g_icmp_ge (tgt := 122) dX5_sumUp_93 (by decide) q1 (zin_d rfl) (fun c_ => ?_) (fun c_ => ?_)
  · have h := h.1 c_
    refine g_lload dX5_sumUp_122 rfl ?_
    exact g_lreturn dX5_sumUp_124 rfl h
  · have h := h.2 c_
    refine g_lload dX5_sumUp_96 rfl ?_
    refine g_aload_n dX5_sumUp_98 rfl ?_
    refine g_getR (k' := 54) dX5_sumUp_99 (o51 hK) fX5_19 (by decide) (by decide) ?_
    refine g_aload_n dX5_sumUp_102 rfl ?_
    refine g_getI' (jj := 4) dX5_sumUp_103 (hS).ob fX5_47 rfl rfl ?_
    refine g_bipush dX5_sumUp_106 rfl ?_
    refine g_imul dX5_sumUp_108 ?_
    refine g_iload dX5_sumUp_109 rfl ?_
    refine g_iadd dX5_sumUp_111 ?_
    obtain ⟨q2, h⟩ := h
    obtain ⟨q3, h⟩ := h
    refine g_lald' (nn := 539) dX5_sumUp_112 (r54 hK) rfl q2 q3 ?_
    refine g_ladd dX5_sumUp_113 ?_
    refine g_lstore dX5_sumUp_114 (by decide) rfl ?_
    refine g_iinc dX5_sumUp_116 rfl (by decide) rfl ?_
    refine g_goto (tgt := 89) dX5_sumUp_119 (by decide) ?_
    exact g_wk (zwk_s (zwk_s (zwk_s (zwk_s (zwk_s (zwk_s (zwk_s (zwk_s zwk_n)))))))) h
theorem sg_X5_sumUp_33 {K d : Nat} {mu : Mem} {Q : AV → Mem → Prop} {P S a3 a4 a5 a6 : Int} (hd : 3 ≤ d) (hK : 64 ≤ K) (hP : isP K P) (hS : isS K S) (h : (zin a6 ∧ zin (mu P 0) ∧ (((mu P 0) ≤ a6 → zG K d mX5_sumUp 21 [zR 51, zR P, zR S, zI a3, zI a4, zI (a5 + 1), zU, zU] [] mu Q) ∧ (¬ (mu P 0) ≤ a6 → (zin a5 ∧ zin a3 ∧ ((¬ a5 = a3 → (0 ≤ a5 ∧ a5 < 10 ∧ zC K 2 mX5_sumOver [zR 51, zR P, zI a5, zI (mu (S + 4) a5), zI a6] mu (fun v_ nu8 => v_ = zV ∧ zG K d mX5_sumUp 33 [zR 51, zR P, zR S, zI a3, zI a4, zI a5, zI (a6 + 1), zU] [] nu8 Q))) ∧ (a5 = a3 → (zin a4 ∧ ((¬ a6 = a4 → zG K d mX5_sumUp 33 [zR 51, zR P, zR S, zI a3, zI a4, zI a5, zI (a6 + 1), zU] [] mu Q) ∧ (a6 = a4 → (0 ≤ a5 ∧ a5 < 10 ∧ zC K 2 mX5_sumOver [zR 51, zR P, zI a5, zI (mu (S + 4) a5), zI a6] mu (fun v_ nu13 => v_ = zV ∧ zG K d mX5_sumUp 33 [zR 51, zR P, zR S, zI a3, zI a4, zI a5, zI (a6 + 1), zU] [] nu13 Q)))))))))))) : zG K d mX5_sumUp 33 [zR 51, zR P, zR S, zI a3, zI a4, zI a5, zI a6, zU] [] mu Q := by
  refine g_iload dX5_sumUp_33 rfl ?_
  refine g_aload_n dX5_sumUp_35 rfl ?_
  refine g_getI' (jj := 0) dX5_sumUp_36 (hP).ob fX5_53 rfl rfl ?_
  obtain ⟨q1, h⟩ := h
  obtain ⟨q2, h⟩ := h
  refine g_icmp_ge (tgt := 77) dX5_sumUp_39 (by decide) q1 q2 (fun c_ => ?_) (fun c_ => ?_)
  · have h := h.1 c_
    refine g_iinc dX5_sumUp_77 rfl (by decide) rfl ?_
    refine g_goto (tgt := 21) dX5_sumUp_80 (by decide) ?_
    exact g_wk (zwk_s (zwk_s (zwk_s (zwk_s (zwk_s (zwk_s (zwk_u (zwk_s zwk_n)))))))) h
  · have h := h.2 c_
    refine g_iload dX5_sumUp_42 rfl ?_
    refine g_iload_n dX5_sumUp_44 rfl ?_
    obtain ⟨q3, h⟩ := h
    obtain ⟨q4, h⟩ := h
    refine g_icmp_ne (tgt := 55) dX5_sumUp_45 (by decide) q3 q4 (fun c_ => ?_) (fun c_ => ?_)
    · have h := h.1 c_
      refine g_aload_n dX5_sumUp_55 rfl ?_
      refine g_aload_n dX5_sumUp_56 rfl ?_
      refine g_iload dX5_sumUp_57 rfl ?_
      refine g_aload_n dX5_sumUp_59 rfl ?_
      refine g_getR (k' := (S + 4)) dX5_sumUp_60 (hS).ob fX5_56 (by decide) rfl ?_
      refine g_iload dX5_sumUp_63 rfl ?_
      obtain ⟨q5, h⟩ := h
      obtain ⟨q6, h⟩ := h
      refine g_iald' (nn := 10) dX5_sumUp_65 (hS).a4 rfl q5 q6 ?_
      refine g_iload dX5_sumUp_66 rfl ?_
      refine g_callV (Y' := mX5_sumOver) (d' := 2) (As := [zR P, zI a5, zI (mu (S + 4) a5), zI a6]) (rest := []) dX5_sumUp_68 lX5_59 vX5_sumOver (by omega) (o51 hK) rfl rfl (Nat.le_of_ble_eq_true rfl) rfl (zC_v h (fun nu8 h => ?_))
      refine g_iinc dX5_sumUp_71 rfl (by decide) rfl ?_
      refine g_goto (tgt := 33) dX5_sumUp_74 (by decide) ?_
      exact g_wk (zwk_s (zwk_s (zwk_s (zwk_s (zwk_s (zwk_s (zwk_s (zwk_s zwk_n)))))))) h
    · have h := h.2 c_
      refine g_iload dX5_sumUp_48 rfl ?_
      refine g_iload dX5_sumUp_50 rfl ?_
      obtain ⟨q9, h⟩ := h
      refine g_icmp_ne (tgt := 71) dX5_sumUp_52 (by decide) q1 q9 (fun c_ => ?_) (fun c_ => ?_)
      · have h := h.1 c_
        refine g_iinc dX5_sumUp_71 rfl (by decide) rfl ?_
        refine g_goto (tgt := 33) dX5_sumUp_74 (by decide) ?_
        exact g_wk (zwk_s (zwk_s (zwk_s (zwk_s (zwk_s (zwk_s (zwk_s (zwk_s zwk_n)))))))) h
      · have h := h.2 c_
        refine g_aload_n dX5_sumUp_55 rfl ?_
        refine g_aload_n dX5_sumUp_56 rfl ?_
        refine g_iload dX5_sumUp_57 rfl ?_
        refine g_aload_n dX5_sumUp_59 rfl ?_
        refine g_getR (k' := (S + 4)) dX5_sumUp_60 (hS).ob fX5_56 (by decide) rfl ?_
        refine g_iload dX5_sumUp_63 rfl ?_
        obtain ⟨q10, h⟩ := h
        obtain ⟨q11, h⟩ := h
        refine g_iald' (nn := 10) dX5_sumUp_65 (hS).a4 rfl q10 q11 ?_
        refine g_iload dX5_sumUp_66 rfl ?_
        refine g_callV (Y' := mX5_sumOver) (d' := 2) (As := [zR P, zI a5, zI (mu (S + 4) a5), zI a6]) (rest := []) dX5_sumUp_68 lX5_59 vX5_sumOver (by omega) (o51 hK) rfl rfl (Nat.le_of_ble_eq_true rfl) rfl (zC_v h (fun nu13 h => ?_))
        refine g_iinc dX5_sumUp_71 rfl (by decide) rfl ?_
        refine g_goto (tgt := 33) dX5_sumUp_74 (by decide) ?_
        exact g_wk (zwk_s (zwk_s (zwk_s (zwk_s (zwk_s (zwk_s (zwk_s (zwk_s zwk_n)))))))) h
theorem sg_X5_weight_0 {K d : Nat} {mu : Mem} {Q : AV → Mem → Prop} {P S : Int} (hd : 5 ≤ d) (hK : 64 ≤ K) (hP : isP K P) (hS : isS K S) (h : zC K 4 mX5_weightWith [zR 51, zR P, zR S, zI (-1), zI (-1)] mu (fun v_ nu2 => ∃ r1, v_ = zJ r1 ∧ Q (zJ r1) nu2)) : zG K d mX5_weight 0 [zR 51, zR P, zR S] [] mu Q := by
  refine g_aload_n dX5_weight_0 rfl ?_
  refine g_aload_n dX5_weight_1 rfl ?_
  refine g_aload_n dX5_weight_2 rfl ?_
  refine g_iconst dX5_weight_3 ?_
  refine g_iconst dX5_weight_4 ?_
  refine g_callV (Y' := mX5_weightWith) (d' := 4) (As := [zR P, zR S, zI (-1), zI (-1)]) (rest := []) dX5_weight_5 lX5_34 vX5_weightWith (by omega) (o51 hK) rfl rfl (Nat.le_of_ble_eq_true rfl) rfl (zC_j h (fun r1 nu2 h => ?_))
  exact g_lreturn dX5_weight_8 rfl h
theorem sg_X5_weightFrom_0 {K d : Nat} {mu : Mem} {Q : AV → Mem → Prop} {P a2 a3 a4 a5 : Int} (hd : 2 ≤ d) (hK : 64 ≤ K) (hP : isP K P) (h : (zin a3 ∧ zC K 1 mX8_givesBehind [zI (mu P 1), zI (a3.tdiv 7), zI (a3.tmod 7), zI a5] mu (fun v_ nu3 => ∃ r2, v_ = zI r2 ∧ (zin r2 ∧ zin a4 ∧ ((r2 = a4 → (0 ≤ a5 ∧ a5 < 6 ∧ zin (nu3 (P + 4) a5) ∧ 0 ≤ ((((a2 + 1) * 49) + ((a3.tmod 7) * 7)) + a5) ∧ ((((a2 + 1) * 49) + ((a3.tmod 7) * 7)) + a5) < 539 ∧ Q (zJ ((nu3 (P + 4) a5) * (nu3 53 ((((a2 + 1) * 49) + ((a3.tmod 7) * 7)) + a5)))) nu3)) ∧ (¬ r2 = a4 → Q (zJ 0) nu3)))))) : zG K d mX5_weightFrom 0 [zR 51, zR P, zI a2, zI a3, zI a4, zI a5, zU] [] mu Q := by
  refine g_iload_n dX5_weightFrom_0 rfl ?_
  refine g_bipush dX5_weightFrom_1 rfl ?_
  obtain ⟨q1, h⟩ := h
  refine g_irem dX5_weightFrom_3 q1 (zin_d rfl) (by decide) ?_
  refine g_istore dX5_weightFrom_4 (by decide) rfl ?_
  refine g_aload_n dX5_weightFrom_6 rfl ?_
  refine g_getI' (jj := 1) dX5_weightFrom_7 (hP).ob fX5_63 rfl rfl ?_
  refine g_iload_n dX5_weightFrom_10 rfl ?_
  refine g_bipush dX5_weightFrom_11 rfl ?_
  refine g_idiv dX5_weightFrom_13 q1 (zin_d rfl) (by decide) ?_
  refine g_iload dX5_weightFrom_14 rfl ?_
  refine g_iload dX5_weightFrom_16 rfl ?_
  refine g_callN (Y' := mX8_givesBehind) (d' := 1) (As := [zI (mu P 1), zI (a3.tdiv 7), zI (a3.tmod 7), zI a5]) (rest := []) (host := RX8) dX5_weightFrom_18 (by decide) vX8_givesBehind (by omega) rfl (Nat.le_of_ble_eq_true rfl) rfl (zC_i h (fun r2 nu3 h => ?_))
  refine g_iload dX5_weightFrom_21 rfl ?_
  obtain ⟨q4, h⟩ := h
  obtain ⟨q5, h⟩ := h
  refine g_icmp_eq (tgt := 28) dX5_weightFrom_23 (by decide) q4 q5 (fun c_ => ?_) (fun c_ => ?_)
  · have h := h.1 c_
    refine g_aload_n dX5_weightFrom_28 rfl ?_
    refine g_getR (k' := (P + 4)) dX5_weightFrom_29 (hP).ob fX5_25 (by decide) rfl ?_
    refine g_iload dX5_weightFrom_32 rfl ?_
    obtain ⟨q6, h⟩ := h
    obtain ⟨q7, h⟩ := h
    refine g_iald' (nn := 6) dX5_weightFrom_34 (hP).a4 rfl q6 q7 ?_
    obtain ⟨q8, h⟩ := h
    refine g_i2l dX5_weightFrom_35 q8 ?_
    refine g_aload_n dX5_weightFrom_36 rfl ?_
    refine g_getR (k' := 53) dX5_weightFrom_37 (o51 hK) fX5_15 (by decide) (by decide) ?_
    refine g_iload_n dX5_weightFrom_40 rfl ?_
    refine g_iconst dX5_weightFrom_41 ?_
    refine g_iadd dX5_weightFrom_42 ?_
    refine g_bipush dX5_weightFrom_43 rfl ?_
    refine g_imul dX5_weightFrom_45 ?_
    refine g_iload dX5_weightFrom_46 rfl ?_
    refine g_bipush dX5_weightFrom_48 rfl ?_
    refine g_imul dX5_weightFrom_50 ?_
    refine g_iadd dX5_weightFrom_51 ?_
    refine g_iload dX5_weightFrom_52 rfl ?_
    refine g_iadd dX5_weightFrom_54 ?_
    obtain ⟨q9, h⟩ := h
    obtain ⟨q10, h⟩ := h
    refine g_lald' (nn := 539) dX5_weightFrom_55 (r53 hK) rfl q9 q10 ?_
    refine g_lmul dX5_weightFrom_56 ?_
    exact g_lreturn dX5_weightFrom_57 rfl h
  · have h := h.2 c_
    refine g_lconst (x := 0) dX5_weightFrom_26 rfl ?_
    exact g_lreturn dX5_weightFrom_27 rfl h
theorem sg_X5_weightWith_0 {K d : Nat} {mu : Mem} {Q : AV → Mem → Prop} {P S a3 a4 : Int} (hd : 4 ≤ d) (hK : 64 ≤ K) (hP : isP K P) (hS : isS K S) (h : zG K d mX5_weightWith 3 [zR 51, zR P, zR S, zI a3, zI a4, zI 0] [] mu Q) : zG K d mX5_weightWith 0 [zR 51, zR P, zR S, zI a3, zI a4, zU] [] mu Q := by
  refine g_iconst dX5_weightWith_0 ?_
  refine g_istore dX5_weightWith_1 (by decide) rfl ?_
  exact g_wk (zwk_s (zwk_s (zwk_s (zwk_s (zwk_s (zwk_s zwk_n)))))) h
theorem sg_X5_weightWith_3 {K d : Nat} {mu : Mem} {Q : AV → Mem → Prop} {P S a3 a4 a5 : Int} (hd : 4 ≤ d) (hK : 64 ≤ K) (hP : isP K P) (hS : isS K S) (h : (zin a5 ∧ ((6 ≤ a5 → zC K 3 mX5_sumUp [zR 51, zR P, zR S, zI a3, zI a4] mu (fun v_ nu3 => ∃ r2, v_ = zJ r2 ∧ Q (zJ r2) nu3)) ∧ (¬ 6 ≤ a5 → (0 ≤ a5 ∧ a5 < 6 ∧ zin (mu (P + 4) a5) ∧ zG K d mX5_weightWith 3 [zR 51, zR P, zR S, zI a3, zI a4, zI (a5 + 1)] [] (zup mu 55 a5 (mu (P + 4) a5)) Q))))) : zG K d mX5_weightWith 3 [zR 51, zR P, zR S, zI a3, zI a4, zI a5] [] mu Q := by
  refine g_iload dX5_weightWith_3 rfl ?_
  refine g_bipush dX5_weightWith_5 rfl ?_
  obtain ⟨q1, h⟩ := h
  refine g_icmp_ge (tgt := 31) dX5_weightWith_7 (by decide) q1 (zin_d rfl) (fun c_ => ?_) (fun c_ => ?_)
  · have h := h.1 c_
    refine g_aload_n dX5_weightWith_31 rfl ?_
    refine g_aload_n dX5_weightWith_32 rfl ?_
    refine g_aload_n dX5_weightWith_33 rfl ?_
    refine g_iload_n dX5_weightWith_34 rfl ?_
    refine g_iload dX5_weightWith_35 rfl ?_
    refine g_callV (Y' := mX5_sumUp) (d' := 3) (As := [zR P, zR S, zI a3, zI a4]) (rest := []) dX5_weightWith_37 lX5_30 vX5_sumUp (by omega) (o51 hK) rfl rfl (Nat.le_of_ble_eq_true rfl) rfl (zC_j h (fun r2 nu3 h => ?_))
    exact g_lreturn dX5_weightWith_40 rfl h
  · have h := h.2 c_
    refine g_aload_n dX5_weightWith_10 rfl ?_
    refine g_getR (k' := 55) dX5_weightWith_11 (o51 hK) fX5_22 (by decide) (by decide) ?_
    refine g_iload dX5_weightWith_14 rfl ?_
    refine g_aload_n dX5_weightWith_16 rfl ?_
    refine g_getR (k' := (P + 4)) dX5_weightWith_17 (hP).ob fX5_25 (by decide) rfl ?_
    refine g_iload dX5_weightWith_20 rfl ?_
    obtain ⟨q4, h⟩ := h
    obtain ⟨q5, h⟩ := h
    refine g_iald' (nn := 6) dX5_weightWith_22 (hP).a4 rfl q4 q5 ?_
    obtain ⟨q6, h⟩ := h
    refine g_i2l dX5_weightWith_23 q6 ?_
    refine g_last' (nn := 6) dX5_weightWith_24 (r55 hK) rfl q4 q5 ?_
    refine g_iinc dX5_weightWith_25 rfl (by decide) rfl ?_
    refine g_goto (tgt := 3) dX5_weightWith_28 (by decide) ?_
    exact g_wk (zwk_s (zwk_s (zwk_s (zwk_s (zwk_s (zwk_s zwk_n)))))) h
theorem sg_X7_costAtOnce_0 {K d : Nat} {mu : Mem} {Q : AV → Mem → Prop} {P a2 a3 : Int} (hd : 3 ≤ d) (hK : 64 ≤ K) (hP : isP K P) (h : zC K 0 mX2_isIn [zR P, zI (mu 46 3), zI a2] mu (fun v_ nu2 => ∃ r1, v_ = zI r1 ∧ (zin r1 ∧ ((r1 = 0 → (zin a3 ∧ 0 ≤ a2 ∧ a2 < 10 ∧ 0 ≤ ((((a2 + 1) * 49) + ((a3.tmod 7) * 7)) + (nu2 (P + 2) a2)) ∧ ((((a2 + 1) * 49) + ((a3.tmod 7) * 7)) + (nu2 (P + 2) a2)) < 539 ∧ Q (zI (nu2 49 ((((a2 + 1) * 49) + ((a3.tmod 7) * 7)) + (nu2 (P + 2) a2)))) nu2)) ∧ (¬ r1 = 0 → zC K 2 mX2_hasBehind [zR P, zI a3, zI a2] nu2 (fun v_ nu10 => ∃ r9, v_ = zI r9 ∧ (zin r9 ∧ ((¬ r9 = 0 → (zin a3 ∧ 0 ≤ a2 ∧ a2 < 10 ∧ 0 ≤ ((((a2 + 1) * 49) + ((a3.tmod 7) * 7)) + (nu10 (P + 2) a2)) ∧ ((((a2 + 1) * 49) + ((a3.tmod 7) * 7)) + (nu10 (P + 2) a2)) < 539 ∧ Q (zI (nu10 49 ((((a2 + 1) * 49) + ((a3.tmod 7) * 7)) + (nu10 (P + 2) a2)))) nu10)) ∧ (r9 = 0 → Q (zI 100) nu10))))))))) : zG K d mX7_costAtOnce 0 [zR 46, zR P, zI a2, zI a3] [] mu Q := by
  refine g_aload_n dX7_costAtOnce_0 rfl ?_
  refine g_aload_n dX7_costAtOnce_1 rfl ?_
  refine g_getI' (jj := 3) dX7_costAtOnce_2 (o46 hK) fX7_18 rfl rfl ?_
  refine g_iload_n dX7_costAtOnce_5 rfl ?_
  refine g_callV (Y' := mX2_isIn) (d' := 0) (As := [zI (mu 46 3), zI a2]) (rest := []) dX7_costAtOnce_6 lX7_67 vX2_isIn (by omega) (hP).ob rfl rfl (Nat.le_of_ble_eq_true rfl) rfl (zC_i h (fun r1 nu2 h => ?_))
  obtain ⟨q3, h⟩ := h
  refine g_if_eq (tgt := 24) dX7_costAtOnce_9 (by decide) q3 (fun c_ => ?_) (fun c_ => ?_)
  · have h := h.1 c_
    refine g_aload_n dX7_costAtOnce_24 rfl ?_
    refine g_getR (k' := 49) dX7_costAtOnce_25 (o46 hK) fX7_22 (by decide) (by decide) ?_
    refine g_iload_n dX7_costAtOnce_28 rfl ?_
    refine g_iconst dX7_costAtOnce_29 ?_
    refine g_iadd dX7_costAtOnce_30 ?_
    refine g_bipush dX7_costAtOnce_31 rfl ?_
    refine g_imul dX7_costAtOnce_33 ?_
    refine g_iload_n dX7_costAtOnce_34 rfl ?_
    refine g_bipush dX7_costAtOnce_35 rfl ?_
    obtain ⟨q4, h⟩ := h
    refine g_irem dX7_costAtOnce_37 q4 (zin_d rfl) (by decide) ?_
    refine g_bipush dX7_costAtOnce_38 rfl ?_
    refine g_imul dX7_costAtOnce_40 ?_
    refine g_iadd dX7_costAtOnce_41 ?_
    refine g_aload_n dX7_costAtOnce_42 rfl ?_
    refine g_getR (k' := (P + 2)) dX7_costAtOnce_43 (hP).ob fX7_74 (by decide) rfl ?_
    refine g_iload_n dX7_costAtOnce_46 rfl ?_
    obtain ⟨q5, h⟩ := h
    obtain ⟨q6, h⟩ := h
    refine g_iald' (nn := 10) dX7_costAtOnce_47 (hP).a2 rfl q5 q6 ?_
    refine g_iadd dX7_costAtOnce_48 ?_
    obtain ⟨q7, h⟩ := h
    obtain ⟨q8, h⟩ := h
    refine g_iald' (nn := 539) dX7_costAtOnce_49 (r49 hK) rfl q7 q8 ?_
    exact g_ireturn dX7_costAtOnce_50 rfl h
  · have h := h.2 c_
    refine g_aload_n dX7_costAtOnce_12 rfl ?_
    refine g_iload_n dX7_costAtOnce_13 rfl ?_
    refine g_iload_n dX7_costAtOnce_14 rfl ?_
    refine g_callV (Y' := mX2_hasBehind) (d' := 2) (As := [zI a3, zI a2]) (rest := []) dX7_costAtOnce_15 lX7_71 vX2_hasBehind (by omega) (hP).ob rfl rfl (Nat.le_of_ble_eq_true rfl) rfl (zC_i h (fun r9 nu10 h => ?_))
    obtain ⟨q11, h⟩ := h
    refine g_if_ne (tgt := 24) dX7_costAtOnce_18 (by decide) q11 (fun c_ => ?_) (fun c_ => ?_)
    · have h := h.1 c_
      refine g_aload_n dX7_costAtOnce_24 rfl ?_
      refine g_getR (k' := 49) dX7_costAtOnce_25 (o46 hK) fX7_22 (by decide) (by decide) ?_
      refine g_iload_n dX7_costAtOnce_28 rfl ?_
      refine g_iconst dX7_costAtOnce_29 ?_
      refine g_iadd dX7_costAtOnce_30 ?_
      refine g_bipush dX7_costAtOnce_31 rfl ?_
      refine g_imul dX7_costAtOnce_33 ?_
      refine g_iload_n dX7_costAtOnce_34 rfl ?_
      refine g_bipush dX7_costAtOnce_35 rfl ?_
      obtain ⟨q12, h⟩ := h
      refine g_irem dX7_costAtOnce_37 q12 (zin_d rfl) (by decide) ?_
      refine g_bipush dX7_costAtOnce_38 rfl ?_
      refine g_imul dX7_costAtOnce_40 ?_
      refine g_iadd dX7_costAtOnce_41 ?_
      refine g_aload_n dX7_costAtOnce_42 rfl ?_
      refine g_getR (k' := (P + 2)) dX7_costAtOnce_43 (hP).ob fX7_74 (by decide) rfl ?_
      refine g_iload_n dX7_costAtOnce_46 rfl ?_
      obtain ⟨q13, h⟩ := h
      obtain ⟨q14, h⟩ := h
      refine g_iald' (nn := 10) dX7_costAtOnce_47 (hP).a2 rfl q13 q14 ?_
      refine g_iadd dX7_costAtOnce_48 ?_
      obtain ⟨q15, h⟩ := h
      obtain ⟨q16, h⟩ := h
      refine g_iald' (nn := 539) dX7_costAtOnce_49 (r49 hK) rfl q15 q16 ?_
      exact g_ireturn dX7_costAtOnce_50 rfl h
    · have h := h.2 c_
      refine g_bipush dX7_costAtOnce_21 rfl ?_
      exact g_ireturn dX7_costAtOnce_23 rfl h
theorem sg_X7_find_0 {K d : Nat} {mu : Mem} {Q : AV → Mem → Prop} {P a2 : Int} (hd : 6 ≤ d) (hK : 64 ≤ K) (hP : isP K P) (h : (zin (mu 46 3) ∧ zin a2 ∧ ((¬ (mu 46 3) = a2 → zC K 0 mJ7_fill_53178 [zR 49, zI 0] (zup mu 46 3 a2) (fun v_ nu4 => v_ = zV ∧ zG K d mX7_find 29 [zR 46, zR P, zU, zI ((nu4 P 3) - 1)] [] nu4 Q)) ∧ ((mu 46 3) = a2 → Q zV mu)))) : zG K d mX7_find 0 [zR 46, zR P, zI a2, zU] [] mu Q := by
  refine g_aload_n dX7_find_0 rfl ?_
  refine g_getI' (jj := 3) dX7_find_1 (o46 hK) fX7_18 rfl rfl ?_
  refine g_iload_n dX7_find_4 rfl ?_
  obtain ⟨q1, h⟩ := h
  obtain ⟨q2, h⟩ := h
  refine g_icmp_ne (tgt := 9) dX7_find_5 (by decide) q1 q2 (fun c_ => ?_) (fun c_ => ?_)
  · have h := h.1 c_
    refine g_aload_n dX7_find_9 rfl ?_
    refine g_iload_n dX7_find_10 rfl ?_
    refine g_putI' (jj := 3) dX7_find_11 (o46 hK) pX7_18 rfl rfl ?_
    refine g_aload_n dX7_find_14 rfl ?_
    refine g_getR (k' := 49) dX7_find_15 (o46 hK) fX7_22 (by decide) (by decide) ?_
    refine g_iconst dX7_find_18 ?_
    refine g_callS (Y' := mJ7_fill_53178) (d' := 0) (As := [zR 49, zI 0]) (rest := []) dX7_find_19 lX7_31 vJ7_fill_53178 (by omega) rfl (Nat.le_of_ble_eq_true rfl) rfl (zC_v h (fun nu4 h => ?_))
    refine g_aload_n dX7_find_22 rfl ?_
    refine g_getI' (jj := 3) dX7_find_23 (hP).ob fX7_37 rfl rfl ?_
    refine g_iconst dX7_find_26 ?_
    refine g_isub dX7_find_27 ?_
    refine g_istore_n dX7_find_28 (by decide) rfl ?_
    exact g_wk (zwk_s (zwk_s (zwk_u (zwk_s zwk_n)))) h
  · have h := h.2 c_
    exact g_return dX7_find_8 rfl h
theorem sg_X7_find_29 {K d : Nat} {mu : Mem} {Q : AV → Mem → Prop} {P a3 : Int} (hd : 6 ≤ d) (hK : 64 ≤ K) (hP : isP K P) (h : (zin a3 ∧ ((a3 < 0 → zC K 1 mX2_pairAhead [zR P] mu (fun v_ nu3 => ∃ r2, v_ = zI r2 ∧ (0 ≤ r2 ∧ r2 < 539 ∧ zin ((zup nu3 46 2 (nu3 49 r2)) 46 2) ∧ ((12 < ((zup nu3 46 2 (nu3 49 r2)) 46 2) → Q zV (zup nu3 46 2 (nu3 49 r2))) ∧ (¬ 12 < ((zup nu3 46 2 (nu3 49 r2)) 46 2) → zC K 5 mX7_follow [zR 46, zR P] (zup nu3 46 2 (nu3 49 r2)) (fun v_ nu8 => v_ = zV ∧ Q zV nu8)))))) ∧ (¬ a3 < 0 → zC K 4 mX7_findFewest [zR 46, zR P, zI a3] mu (fun v_ nu10 => v_ = zV ∧ zG K d mX7_find 29 [zR 46, zR P, zU, zI (a3 + (-1))] [] nu10 Q))))) : zG K d mX7_find 29 [zR 46, zR P, zU, zI a3] [] mu Q := by
  refine g_iload_n dX7_find_29 rfl ?_
  obtain ⟨q1, h⟩ := h
  refine g_if_lt (tgt := 45) dX7_find_30 (by decide) q1 (fun c_ => ?_) (fun c_ => ?_)
  · have h := h.1 c_
    refine g_aload_n dX7_find_45 rfl ?_
    refine g_aload_n dX7_find_46 rfl ?_
    refine g_getR (k' := 49) dX7_find_47 (o46 hK) fX7_22 (by decide) (by decide) ?_
    refine g_aload_n dX7_find_50 rfl ?_
    refine g_callV (Y' := mX2_pairAhead) (d' := 1) (As := []) (rest := [zR 49, zR 46]) dX7_find_51 lX7_46 vX2_pairAhead (by omega) (hP).ob rfl rfl (Nat.le_of_ble_eq_true rfl) rfl (zC_i h (fun r2 nu3 h => ?_))
    obtain ⟨q4, h⟩ := h
    obtain ⟨q5, h⟩ := h
    refine g_iald' (nn := 539) dX7_find_54 (r49 hK) rfl q4 q5 ?_
    refine g_putI' (jj := 2) dX7_find_55 (o46 hK) pX7_28 rfl rfl ?_
    refine g_aload_n dX7_find_58 rfl ?_
    refine g_getI' (jj := 2) dX7_find_59 (o46 hK) fX7_28 rfl rfl ?_
    refine g_bipush dX7_find_62 rfl ?_
    obtain ⟨q6, h⟩ := h
    refine g_icmp_gt (tgt := 72) dX7_find_64 (by decide) q6 (zin_d rfl) (fun c_ => ?_) (fun c_ => ?_)
    · have h := h.1 c_
      exact g_return dX7_find_72 rfl h
    · have h := h.2 c_
      refine g_aload_n dX7_find_67 rfl ?_
      refine g_aload_n dX7_find_68 rfl ?_
      refine g_callV (Y' := mX7_follow) (d' := 5) (As := [zR P]) (rest := []) dX7_find_69 lX7_50 vX7_follow (by omega) (o46 hK) rfl rfl (Nat.le_of_ble_eq_true rfl) rfl (zC_v h (fun nu8 h => ?_))
      exact g_return dX7_find_72 rfl h
  · have h := h.2 c_
    refine g_aload_n dX7_find_33 rfl ?_
    refine g_aload_n dX7_find_34 rfl ?_
    refine g_iload_n dX7_find_35 rfl ?_
    refine g_callV (Y' := mX7_findFewest) (d' := 4) (As := [zR P, zI a3]) (rest := []) dX7_find_36 lX7_42 vX7_findFewest (by omega) (o46 hK) rfl rfl (Nat.le_of_ble_eq_true rfl) rfl (zC_v h (fun nu10 h => ?_))
    refine g_iinc dX7_find_39 rfl (by decide) rfl ?_
    refine g_goto (tgt := 29) dX7_find_42 (by decide) ?_
    exact g_wk (zwk_s (zwk_s (zwk_s (zwk_s zwk_n)))) h
theorem sg_X7_findFewest_0 {K d : Nat} {mu : Mem} {Q : AV → Mem → Prop} {P a2 : Int} (hd : 4 ≤ d) (hK : 64 ≤ K) (hP : isP K P) (h : zG K d mX7_findFewest 6 [zR 46, zR P, zI a2, zI 100, zI 0, zU, zU] [] mu Q) : zG K d mX7_findFewest 0 [zR 46, zR P, zI a2, zU, zU, zU, zU] [] mu Q := by
  refine g_bipush dX7_findFewest_0 rfl ?_
  refine g_istore_n dX7_findFewest_2 (by decide) rfl ?_
  refine g_iconst dX7_findFewest_3 ?_
  refine g_istore dX7_findFewest_4 (by decide) rfl ?_
  exact g_wk (zwk_s (zwk_s (zwk_s (zwk_s (zwk_s (zwk_s (zwk_s zwk_n))))))) h
theorem sg_X7_findFewest_6 {K d : Nat} {mu : Mem} {Q : AV → Mem → Prop} {P a2 a3 a4 : Int} (hd : 4 ≤ d) (hK : 64 ≤ K) (hP : isP K P) (h : (zin a4 ∧ ((7 ≤ a4 → zG K d mX7_findFewest 105 [zR 46, zR P, zI a2, zI a3, zI 0, zU, zU] [] mu Q) ∧ (¬ 7 ≤ a4 → (0 ≤ a4 ∧ a4 < 7 ∧ zG K d mX7_findFewest 25 [zR 46, zR P, zI a2, zI a3, zI a4, zI 0, zU] [] (zup mu 50 a4 100) Q))))) : zG K d mX7_findFewest 6 [zR 46, zR P, zI a2, zI a3, zI a4, zU, zU] [] mu Q := by
  refine g_iload dX7_findFewest_6 rfl ?_
  refine g_bipush dX7_findFewest_8 rfl ?_
  obtain ⟨q1, h⟩ := h
  refine g_icmp_ge (tgt := 102) dX7_findFewest_10 (by decide) q1 (zin_d rfl) (fun c_ => ?_) (fun c_ => ?_)
  · have h := h.1 c_
    refine g_iconst dX7_findFewest_102 ?_
    refine g_istore dX7_findFewest_103 (by decide) rfl ?_
    exact g_wk (zwk_s (zwk_s (zwk_s (zwk_s (zwk_s (zwk_s (zwk_s zwk_n))))))) h
  · have h := h.2 c_
    refine g_aload_n dX7_findFewest_13 rfl ?_
    refine g_getR (k' := 50) dX7_findFewest_14 (o46 hK) fX7_25 (by decide) (by decide) ?_
    refine g_iload dX7_findFewest_17 rfl ?_
    refine g_bipush dX7_findFewest_19 rfl ?_
    obtain ⟨q2, h⟩ := h
    obtain ⟨q3, h⟩ := h
    refine g_iast' (nn := 7) dX7_findFewest_21 (r50 hK) rfl q2 q3 ?_
    refine g_iconst dX7_findFewest_22 ?_
    refine g_istore dX7_findFewest_23 (by decide) rfl ?_
    exact g_wk (zwk_s (zwk_s (zwk_s (zwk_s (zwk_s (zwk_s (zwk_s zwk_n))))))) h
theorem sg_X7_findFewest_105 {K d : Nat} {mu : Mem} {Q : AV → Mem → Prop} {P a2 a3 a4 : Int} (hd : 4 ≤ d) (hK : 64 ≤ K) (hP : isP K P) (h : (zin a4 ∧ ((49 ≤ a4 → Q zV mu) ∧ (¬ 49 ≤ a4 → zC K 3 mX7_costAtOnce [zR 46, zR P, zI a2, zI a4] mu (fun v_ nu3 => ∃ r2, v_ = zI r2 ∧ (zin r2 ∧ zin (a3 + 2) ∧ 0 ≤ (a4.tmod 7) ∧ (a4.tmod 7) < 7 ∧ zin (min r2 (a3 + 2)) ∧ zin ((nu3 50 (a4.tmod 7)) + 1) ∧ 0 ≤ ((a2 * 49) + a4) ∧ ((a2 * 49) + a4) < 539 ∧ zG K d mX7_findFewest 105 [zR 46, zR P, zI a2, zI a3, zI (a4 + 1), zU, zU] [] (zup nu3 49 ((a2 * 49) + a4) (min (min r2 (a3 + 2)) ((nu3 50 (a4.tmod 7)) + 1))) Q)))))) : zG K d mX7_findFewest 105 [zR 46, zR P, zI a2, zI a3, zI a4, zU, zU] [] mu Q := by
  refine g_iload dX7_findFewest_105 rfl ?_
  refine g_bipush dX7_findFewest_107 rfl ?_
  obtain ⟨q1, h⟩ := h
  refine g_icmp_ge (tgt := 163) dX7_findFewest_109 (by decide) q1 (zin_d rfl) (fun c_ => ?_) (fun c_ => ?_)
  · have h := h.1 c_
    exact g_return dX7_findFewest_163 rfl h
  · have h := h.2 c_
    refine g_aload_n dX7_findFewest_112 rfl ?_
    refine g_aload_n dX7_findFewest_113 rfl ?_
    refine g_iload_n dX7_findFewest_114 rfl ?_
    refine g_iload dX7_findFewest_115 rfl ?_
    refine g_callV (Y' := mX7_costAtOnce) (d' := 3) (As := [zR P, zI a2, zI a4]) (rest := []) dX7_findFewest_117 lX7_57 vX7_costAtOnce (by omega) (o46 hK) rfl rfl (Nat.le_of_ble_eq_true rfl) rfl (zC_i h (fun r2 nu3 h => ?_))
    refine g_iload_n dX7_findFewest_120 rfl ?_
    refine g_iconst dX7_findFewest_121 ?_
    refine g_iadd dX7_findFewest_122 ?_
    obtain ⟨q4, h⟩ := h
    obtain ⟨q5, h⟩ := h
    refine g_min dX7_findFewest_123 lX7_61 (by omega) (Nat.le_of_ble_eq_true rfl) q4 q5 ?_
    refine g_istore dX7_findFewest_126 (by decide) rfl ?_
    refine g_aload_n dX7_findFewest_128 rfl ?_
    refine g_getR (k' := 49) dX7_findFewest_129 (o46 hK) fX7_22 (by decide) (by decide) ?_
    refine g_iload_n dX7_findFewest_132 rfl ?_
    refine g_bipush dX7_findFewest_133 rfl ?_
    refine g_imul dX7_findFewest_135 ?_
    refine g_iload dX7_findFewest_136 rfl ?_
    refine g_iadd dX7_findFewest_138 ?_
    refine g_iload dX7_findFewest_139 rfl ?_
    refine g_aload_n dX7_findFewest_141 rfl ?_
    refine g_getR (k' := 50) dX7_findFewest_142 (o46 hK) fX7_25 (by decide) (by decide) ?_
    refine g_iload dX7_findFewest_145 rfl ?_
    refine g_bipush dX7_findFewest_147 rfl ?_
    refine g_irem dX7_findFewest_149 q1 (zin_d rfl) (by decide) ?_
    obtain ⟨q6, h⟩ := h
    obtain ⟨q7, h⟩ := h
    refine g_iald' (nn := 7) dX7_findFewest_150 (r50 hK) rfl q6 q7 ?_
    refine g_iconst dX7_findFewest_151 ?_
    refine g_iadd dX7_findFewest_152 ?_
    obtain ⟨q8, h⟩ := h
    obtain ⟨q9, h⟩ := h
    refine g_min dX7_findFewest_153 lX7_61 (by omega) (Nat.le_of_ble_eq_true rfl) q8 q9 ?_
    obtain ⟨q10, h⟩ := h
    obtain ⟨q11, h⟩ := h
    refine g_iast' (nn := 539) dX7_findFewest_156 (r49 hK) rfl q10 q11 ?_
    refine g_iinc dX7_findFewest_157 rfl (by decide) rfl ?_
    refine g_goto (tgt := 105) dX7_findFewest_160 (by decide) ?_
    exact g_wk (zwk_s (zwk_s (zwk_s (zwk_s (zwk_s (zwk_u (zwk_s zwk_n))))))) h
theorem sg_X7_findFewest_25 {K d : Nat} {mu : Mem} {Q : AV → Mem → Prop} {P a2 a3 a4 a5 : Int} (hd : 4 ≤ d) (hK : 64 ≤ K) (hP : isP K P) (h : (zin a5 ∧ zin (mu P 0) ∧ (((mu P 0) ≤ a5 → (zin a4 ∧ (((mu P 0) ≤ a4 → zG K d mX7_findFewest 6 [zR 46, zR P, zI a2, zI a3, zI (a4 + 1), zU, zU] [] mu Q) ∧ (¬ (mu P 0) ≤ a4 → (0 ≤ a4 ∧ a4 < 7 ∧ zin a3 ∧ zin (mu 50 a4) ∧ zG K d mX7_findFewest 6 [zR 46, zR P, zI a2, zI (min a3 (mu 50 a4)), zI (a4 + 1), zU, zU] [] mu Q))))) ∧ (¬ (mu P 0) ≤ a5 → zC K 3 mX7_costAtOnce [zR 46, zR P, zI a2, zI ((a4 * 7) + a5)] mu (fun v_ nu9 => ∃ r8, v_ = zI r8 ∧ (0 ≤ a4 ∧ a4 < 7 ∧ zin (nu9 50 a4) ∧ zin r8 ∧ zG K d mX7_findFewest 25 [zR 46, zR P, zI a2, zI a3, zI a4, zI (a5 + 1), zU] [] (zup nu9 50 a4 (min (nu9 50 a4) r8)) Q)))))) : zG K d mX7_findFewest 25 [zR 46, zR P, zI a2, zI a3, zI a4, zI a5, zU] [] mu Q := by
  refine g_iload dX7_findFewest_25 rfl ?_
  refine g_aload_n dX7_findFewest_27 rfl ?_
  refine g_getI' (jj := 0) dX7_findFewest_28 (hP).ob fX7_54 rfl rfl ?_
  obtain ⟨q1, h⟩ := h
  obtain ⟨q2, h⟩ := h
  refine g_icmp_ge (tgt := 75) dX7_findFewest_31 (by decide) q1 q2 (fun c_ => ?_) (fun c_ => ?_)
  · have h := h.1 c_
    refine g_iload dX7_findFewest_75 rfl ?_
    refine g_aload_n dX7_findFewest_77 rfl ?_
    refine g_getI' (jj := 0) dX7_findFewest_78 (hP).ob fX7_54 rfl rfl ?_
    obtain ⟨q3, h⟩ := h
    refine g_icmp_ge (tgt := 96) dX7_findFewest_81 (by decide) q3 q2 (fun c_ => ?_) (fun c_ => ?_)
    · have h := h.1 c_
      refine g_iinc dX7_findFewest_96 rfl (by decide) rfl ?_
      refine g_goto (tgt := 6) dX7_findFewest_99 (by decide) ?_
      exact g_wk (zwk_s (zwk_s (zwk_s (zwk_s (zwk_s (zwk_u (zwk_s zwk_n))))))) h
    · have h := h.2 c_
      refine g_iload_n dX7_findFewest_84 rfl ?_
      refine g_aload_n dX7_findFewest_85 rfl ?_
      refine g_getR (k' := 50) dX7_findFewest_86 (o46 hK) fX7_25 (by decide) (by decide) ?_
      refine g_iload dX7_findFewest_89 rfl ?_
      obtain ⟨q4, h⟩ := h
      obtain ⟨q5, h⟩ := h
      refine g_iald' (nn := 7) dX7_findFewest_91 (r50 hK) rfl q4 q5 ?_
      obtain ⟨q6, h⟩ := h
      obtain ⟨q7, h⟩ := h
      refine g_min dX7_findFewest_92 lX7_61 (by omega) (Nat.le_of_ble_eq_true rfl) q6 q7 ?_
      refine g_istore_n dX7_findFewest_95 (by decide) rfl ?_
      refine g_iinc dX7_findFewest_96 rfl (by decide) rfl ?_
      refine g_goto (tgt := 6) dX7_findFewest_99 (by decide) ?_
      exact g_wk (zwk_s (zwk_s (zwk_s (zwk_s (zwk_s (zwk_u (zwk_s zwk_n))))))) h
  · have h := h.2 c_
    refine g_aload_n dX7_findFewest_34 rfl ?_
    refine g_aload_n dX7_findFewest_35 rfl ?_
    refine g_iload_n dX7_findFewest_36 rfl ?_
    refine g_iload dX7_findFewest_37 rfl ?_
    refine g_bipush dX7_findFewest_39 rfl ?_
    refine g_imul dX7_findFewest_41 ?_
    refine g_iload dX7_findFewest_42 rfl ?_
    refine g_iadd dX7_findFewest_44 ?_
    refine g_callV (Y' := mX7_costAtOnce) (d' := 3) (As := [zR P, zI a2, zI ((a4 * 7) + a5)]) (rest := []) dX7_findFewest_45 lX7_57 vX7_costAtOnce (by omega) (o46 hK) rfl rfl (Nat.le_of_ble_eq_true rfl) rfl (zC_i h (fun r8 nu9 h => ?_))
    refine g_istore dX7_findFewest_48 (by decide) rfl ?_
    refine g_aload_n dX7_findFewest_50 rfl ?_
    refine g_getR (k' := 50) dX7_findFewest_51 (o46 hK) fX7_25 (by decide) (by decide) ?_
    refine g_iload dX7_findFewest_54 rfl ?_
    refine g_aload_n dX7_findFewest_56 rfl ?_
    refine g_getR (k' := 50) dX7_findFewest_57 (o46 hK) fX7_25 (by decide) (by decide) ?_
    refine g_iload dX7_findFewest_60 rfl ?_
    obtain ⟨q10, h⟩ := h
    obtain ⟨q11, h⟩ := h
    refine g_iald' (nn := 7) dX7_findFewest_62 (r50 hK) rfl q10 q11 ?_
    refine g_iload dX7_findFewest_63 rfl ?_
    obtain ⟨q12, h⟩ := h
    obtain ⟨q13, h⟩ := h
    refine g_min dX7_findFewest_65 lX7_61 (by omega) (Nat.le_of_ble_eq_true rfl) q12 q13 ?_
    refine g_iast' (nn := 7) dX7_findFewest_68 (r50 hK) rfl q10 q11 ?_
    refine g_iinc dX7_findFewest_69 rfl (by decide) rfl ?_
    refine g_goto (tgt := 25) dX7_findFewest_72 (by decide) ?_
    exact g_wk (zwk_s (zwk_s (zwk_s (zwk_s (zwk_s (zwk_s (zwk_u zwk_n))))))) h
theorem sg_X7_firstStranger_0 {K d : Nat} {mu : Mem} {Q : AV → Mem → Prop} {P a2 a3 : Int} (hd : 4 ≤ d) (hK : 64 ≤ K) (hP : isP K P) (h : (0 ≤ ((a2 * 49) + a3) ∧ ((a2 * 49) + a3) < 539 ∧ zC K 3 mX7_costAtOnce [zR 46, zR P, zI a2, zI a3] mu (fun v_ nu4 => ∃ r3, v_ = zI r3 ∧ (zin r3 ∧ zin (mu 49 ((a2 * 49) + a3)) ∧ ((¬ r3 = (mu 49 ((a2 * 49) + a3)) → zG K d mX7_firstStranger 55 [zR 46, zU, zI a2, zI a3, zI (mu 49 ((a2 * 49) + a3)), zU, zI (nu4 P 0), zI 0] [] nu4 Q) ∧ (r3 = (mu 49 ((a2 * 49) + a3)) → (0 ≤ a2 ∧ a2 < 10 ∧ zG K d mX7_firstStranger 55 [zR 46, zU, zI a2, zI a3, zI (mu 49 ((a2 * 49) + a3)), zU, zI (nu4 (P + 2) a2), zI 0] [] nu4 Q))))))) : zG K d mX7_firstStranger 0 [zR 46, zR P, zI a2, zI a3, zU, zU, zU, zU] [] mu Q := by
  refine g_aload_n dX7_firstStranger_0 rfl ?_
  refine g_getR (k' := 49) dX7_firstStranger_1 (o46 hK) fX7_22 (by decide) (by decide) ?_
  refine g_iload_n dX7_firstStranger_4 rfl ?_
  refine g_bipush dX7_firstStranger_5 rfl ?_
  refine g_imul dX7_firstStranger_7 ?_
  refine g_iload_n dX7_firstStranger_8 rfl ?_
  refine g_iadd dX7_firstStranger_9 ?_
  obtain ⟨q1, h⟩ := h
  obtain ⟨q2, h⟩ := h
  refine g_iald' (nn := 539) dX7_firstStranger_10 (r49 hK) rfl q1 q2 ?_
  refine g_istore dX7_firstStranger_11 (by decide) rfl ?_
  refine g_aload_n dX7_firstStranger_13 rfl ?_
  refine g_aload_n dX7_firstStranger_14 rfl ?_
  refine g_iload_n dX7_firstStranger_15 rfl ?_
  refine g_iload_n dX7_firstStranger_16 rfl ?_
  refine g_callV (Y' := mX7_costAtOnce) (d' := 3) (As := [zR P, zI a2, zI a3]) (rest := []) dX7_firstStranger_17 lX7_57 vX7_costAtOnce (by omega) (o46 hK) rfl rfl (Nat.le_of_ble_eq_true rfl) rfl (zC_i h (fun r3 nu4 h => ?_))
  refine g_iload dX7_firstStranger_20 rfl ?_
  obtain ⟨q5, h⟩ := h
  obtain ⟨q6, h⟩ := h
  refine g_icmp_ne (tgt := 29) dX7_firstStranger_22 (by decide) q5 q6 (fun c_ => ?_) (fun c_ => ?_)
  · have h := h.1 c_
    refine g_iconst dX7_firstStranger_29 ?_
    refine g_istore dX7_firstStranger_30 (by decide) rfl ?_
    refine g_iload dX7_firstStranger_32 rfl ?_
    refine g_if_eq (tgt := 46) dX7_firstStranger_34 (by decide) (zin_d rfl) (fun _ => ?_) (fun c => absurd (by decide) c)
    refine g_aload_n dX7_firstStranger_46 rfl ?_
    refine g_getI' (jj := 0) dX7_firstStranger_47 (hP).ob fX7_54 rfl rfl ?_
    refine g_istore dX7_firstStranger_50 (by decide) rfl ?_
    refine g_iconst dX7_firstStranger_52 ?_
    refine g_istore dX7_firstStranger_53 (by decide) rfl ?_
    exact g_wk (zwk_s (zwk_u (zwk_s (zwk_s (zwk_s (zwk_u (zwk_s (zwk_s zwk_n)))))))) h
  · have h := h.2 c_
    refine g_iconst dX7_firstStranger_25 ?_
    refine g_goto (tgt := 30) dX7_firstStranger_26 (by decide) ?_
    refine g_istore dX7_firstStranger_30 (by decide) rfl ?_
    refine g_iload dX7_firstStranger_32 rfl ?_
    refine g_if_eq (tgt := 46) dX7_firstStranger_34 (by decide) (zin_d rfl) (fun c => absurd c (by decide)) (fun _ => ?_)
    refine g_aload_n dX7_firstStranger_37 rfl ?_
    refine g_getR (k' := (P + 2)) dX7_firstStranger_38 (hP).ob fX7_74 (by decide) rfl ?_
    refine g_iload_n dX7_firstStranger_41 rfl ?_
    obtain ⟨q7, h⟩ := h
    obtain ⟨q8, h⟩ := h
    refine g_iald' (nn := 10) dX7_firstStranger_42 (hP).a2 rfl q7 q8 ?_
    refine g_goto (tgt := 50) dX7_firstStranger_43 (by decide) ?_
    refine g_istore dX7_firstStranger_50 (by decide) rfl ?_
    refine g_iconst dX7_firstStranger_52 ?_
    refine g_istore dX7_firstStranger_53 (by decide) rfl ?_
    exact g_wk (zwk_s (zwk_u (zwk_s (zwk_s (zwk_s (zwk_u (zwk_s (zwk_s zwk_n)))))))) h
theorem sg_X7_firstStranger_55 {K d : Nat} {mu : Mem} {Q : AV → Mem → Prop} {a2 a3 a4 a6 a7 P : Int} (hd : 4 ≤ d) (hK : 64 ≤ K) (hP : isP K P) (h : (zin a7 ∧ zin a6 ∧ ((a6 ≤ a7 → Q (zI (-4)) mu) ∧ (¬ a6 ≤ a7 → (zin a3 ∧ 0 ≤ (((a2 * 49) + ((a3.tmod 7) * 7)) + a7) ∧ (((a2 * 49) + ((a3.tmod 7) * 7)) + a7) < 539 ∧ zin ((mu 49 (((a2 * 49) + ((a3.tmod 7) * 7)) + a7)) + 1) ∧ zin a4 ∧ ((¬ ((mu 49 (((a2 * 49) + ((a3.tmod 7) * 7)) + a7)) + 1) = a4 → zG K d mX7_firstStranger 55 [zR 46, zU, zI a2, zI a3, zI a4, zU, zI a6, zI (a7 + 1)] [] mu Q) ∧ (((mu 49 (((a2 * 49) + ((a3.tmod 7) * 7)) + a7)) + 1) = a4 → Q (zI a7) mu))))))) : zG K d mX7_firstStranger 55 [zR 46, zU, zI a2, zI a3, zI a4, zU, zI a6, zI a7] [] mu Q := by
  refine g_iload dX7_firstStranger_55 rfl ?_
  refine g_iload dX7_firstStranger_57 rfl ?_
  obtain ⟨q1, h⟩ := h
  obtain ⟨q2, h⟩ := h
  refine g_icmp_ge (tgt := 98) dX7_firstStranger_59 (by decide) q1 q2 (fun c_ => ?_) (fun c_ => ?_)
  · have h := h.1 c_
    refine g_bipush dX7_firstStranger_98 rfl ?_
    exact g_ireturn dX7_firstStranger_100 rfl h
  · have h := h.2 c_
    refine g_aload_n dX7_firstStranger_62 rfl ?_
    refine g_getR (k' := 49) dX7_firstStranger_63 (o46 hK) fX7_22 (by decide) (by decide) ?_
    refine g_iload_n dX7_firstStranger_66 rfl ?_
    refine g_bipush dX7_firstStranger_67 rfl ?_
    refine g_imul dX7_firstStranger_69 ?_
    refine g_iload_n dX7_firstStranger_70 rfl ?_
    refine g_bipush dX7_firstStranger_71 rfl ?_
    obtain ⟨q3, h⟩ := h
    refine g_irem dX7_firstStranger_73 q3 (zin_d rfl) (by decide) ?_
    refine g_bipush dX7_firstStranger_74 rfl ?_
    refine g_imul dX7_firstStranger_76 ?_
    refine g_iadd dX7_firstStranger_77 ?_
    refine g_iload dX7_firstStranger_78 rfl ?_
    refine g_iadd dX7_firstStranger_80 ?_
    obtain ⟨q4, h⟩ := h
    obtain ⟨q5, h⟩ := h
    refine g_iald' (nn := 539) dX7_firstStranger_81 (r49 hK) rfl q4 q5 ?_
    refine g_iconst dX7_firstStranger_82 ?_
    refine g_iadd dX7_firstStranger_83 ?_
    refine g_iload dX7_firstStranger_84 rfl ?_
    obtain ⟨q6, h⟩ := h
    obtain ⟨q7, h⟩ := h
    refine g_icmp_ne (tgt := 92) dX7_firstStranger_86 (by decide) q6 q7 (fun c_ => ?_) (fun c_ => ?_)
    · have h := h.1 c_
      refine g_iinc dX7_firstStranger_92 rfl (by decide) rfl ?_
      refine g_goto (tgt := 55) dX7_firstStranger_95 (by decide) ?_
      exact g_wk (zwk_s (zwk_s (zwk_s (zwk_s (zwk_s (zwk_s (zwk_s (zwk_s zwk_n)))))))) h
    · have h := h.2 c_
      refine g_iload dX7_firstStranger_89 rfl ?_
      exact g_ireturn dX7_firstStranger_91 rfl h
theorem sg_X7_follow_0 {K d : Nat} {mu : Mem} {Q : AV → Mem → Prop} {P : Int} (hd : 5 ≤ d) (hK : 64 ≤ K) (hP : isP K P) (h : zC K 1 mX2_pairAhead [zR P] mu (fun v_ nu2 => ∃ r1, v_ = zI r1 ∧ zG K d mX7_follow 13 [zR 46, zR P, zI 0, zI r1, zI 0, zI 0, zU] [] nu2 Q)) : zG K d mX7_follow 0 [zR 46, zR P, zU, zU, zU, zU, zU] [] mu Q := by
  refine g_iconst dX7_follow_0 ?_
  refine g_istore_n dX7_follow_1 (by decide) rfl ?_
  refine g_aload_n dX7_follow_2 rfl ?_
  refine g_callV (Y' := mX2_pairAhead) (d' := 1) (As := []) (rest := []) dX7_follow_3 lX7_46 vX2_pairAhead (by omega) (hP).ob rfl rfl (Nat.le_of_ble_eq_true rfl) rfl (zC_i h (fun r1 nu2 h => ?_))
  refine g_istore_n dX7_follow_6 (by decide) rfl ?_
  refine g_iconst dX7_follow_7 ?_
  refine g_istore dX7_follow_8 (by decide) rfl ?_
  refine g_iconst dX7_follow_10 ?_
  refine g_istore dX7_follow_11 (by decide) rfl ?_
  exact g_wk (zwk_s (zwk_s (zwk_s (zwk_s (zwk_s (zwk_s (zwk_s zwk_n))))))) h
theorem sg_X7_follow_13 {K d : Nat} {mu : Mem} {Q : AV → Mem → Prop} {P a2 a3 a4 a5 : Int} (hd : 5 ≤ d) (hK : 64 ≤ K) (hP : isP K P) (h : (zin a5 ∧ ((22 ≤ a5 → Q zV mu) ∧ (¬ 22 ≤ a5 → (zin a2 ∧ zin (mu P 3) ∧ (((mu P 3) ≤ a2 → Q zV mu) ∧ (¬ (mu P 3) ≤ a2 → zC K 4 mX7_firstStranger [zR 46, zR P, zI a2, zI a3] mu (fun v_ nu5 => ∃ r4, v_ = zI r4 ∧ (zin r4 ∧ ((¬ r4 = (-4) → (zin a4 ∧ ((12 ≤ a4 → (zin a3 ∧ zG K d mX7_follow 13 [zR 46, zR P, zI a2, zI (((a3.tmod 7) * 7) + r4), zI a4, zI (a5 + 1), zU] [] nu5 Q)) ∧ (¬ 12 ≤ a4 → (0 ≤ a4 ∧ a4 < 12 ∧ zin a3 ∧ zG K d mX7_follow 13 [zR 46, zR P, zI a2, zI (((a3.tmod 7) * 7) + r4), zI (a4 + 1), zI (a5 + 1), zU] [] (zup (zup nu5 47 a4 r4) 48 a4 a2) Q))))) ∧ (r4 = (-4) → (0 ≤ a2 ∧ a2 < 10 ∧ zin a3 ∧ zG K d mX7_follow 13 [zR 46, zR P, zI (a2 + 1), zI (((a3.tmod 7) * 7) + (nu5 (P + 2) a2)), zI a4, zI (a5 + 1), zU] [] nu5 Q)))))))))))) : zG K d mX7_follow 13 [zR 46, zR P, zI a2, zI a3, zI a4, zI a5, zU] [] mu Q := by
  refine g_iload dX7_follow_13 rfl ?_
  refine g_bipush dX7_follow_15 rfl ?_
  obtain ⟨q1, h⟩ := h
  refine g_icmp_ge (tgt := 102) dX7_follow_17 (by decide) q1 (zin_d rfl) (fun c_ => ?_) (fun c_ => ?_)
  · have h := h.1 c_
    exact g_return dX7_follow_102 rfl h
  · have h := h.2 c_
    refine g_iload_n dX7_follow_20 rfl ?_
    refine g_aload_n dX7_follow_21 rfl ?_
    refine g_getI' (jj := 3) dX7_follow_22 (hP).ob fX7_37 rfl rfl ?_
    obtain ⟨q2, h⟩ := h
    obtain ⟨q3, h⟩ := h
    refine g_icmp_ge (tgt := 102) dX7_follow_25 (by decide) q2 q3 (fun c_ => ?_) (fun c_ => ?_)
    · have h := h.1 c_
      exact g_return dX7_follow_102 rfl h
    · have h := h.2 c_
      refine g_aload_n dX7_follow_28 rfl ?_
      refine g_aload_n dX7_follow_29 rfl ?_
      refine g_iload_n dX7_follow_30 rfl ?_
      refine g_iload_n dX7_follow_31 rfl ?_
      refine g_callV (Y' := mX7_firstStranger) (d' := 4) (As := [zR P, zI a2, zI a3]) (rest := []) dX7_follow_32 lX7_75 vX7_firstStranger (by omega) (o46 hK) rfl rfl (Nat.le_of_ble_eq_true rfl) rfl (zC_i h (fun r4 nu5 h => ?_))
      refine g_istore dX7_follow_35 (by decide) rfl ?_
      refine g_iload dX7_follow_37 rfl ?_
      refine g_bipush dX7_follow_39 rfl ?_
      obtain ⟨q6, h⟩ := h
      refine g_icmp_ne (tgt := 58) dX7_follow_41 (by decide) q6 (zin_d rfl) (fun c_ => ?_) (fun c_ => ?_)
      · have h := h.1 c_
        refine g_iload dX7_follow_58 rfl ?_
        refine g_bipush dX7_follow_60 rfl ?_
        obtain ⟨q7, h⟩ := h
        refine g_icmp_ge (tgt := 85) dX7_follow_62 (by decide) q7 (zin_d rfl) (fun c_ => ?_) (fun c_ => ?_)
        · have h := h.1 c_
          refine g_iload_n dX7_follow_85 rfl ?_
          refine g_bipush dX7_follow_86 rfl ?_
          obtain ⟨q8, h⟩ := h
          refine g_irem dX7_follow_88 q8 (zin_d rfl) (by decide) ?_
          refine g_bipush dX7_follow_89 rfl ?_
          refine g_imul dX7_follow_91 ?_
          refine g_iload dX7_follow_92 rfl ?_
          refine g_iadd dX7_follow_94 ?_
          refine g_istore_n dX7_follow_95 (by decide) rfl ?_
          refine g_iinc dX7_follow_96 rfl (by decide) rfl ?_
          refine g_goto (tgt := 13) dX7_follow_99 (by decide) ?_
          exact g_wk (zwk_s (zwk_s (zwk_s (zwk_s (zwk_s (zwk_s (zwk_u zwk_n))))))) h
        · have h := h.2 c_
          refine g_aload_n dX7_follow_65 rfl ?_
          refine g_getR (k' := 47) dX7_follow_66 (o46 hK) fX7_9 (by decide) (by decide) ?_
          refine g_iload dX7_follow_69 rfl ?_
          refine g_iload dX7_follow_71 rfl ?_
          obtain ⟨q9, h⟩ := h
          obtain ⟨q10, h⟩ := h
          refine g_iast' (nn := 12) dX7_follow_73 (r47 hK) rfl q9 q10 ?_
          refine g_aload_n dX7_follow_74 rfl ?_
          refine g_getR (k' := 48) dX7_follow_75 (o46 hK) fX7_15 (by decide) (by decide) ?_
          refine g_iload dX7_follow_78 rfl ?_
          refine g_iload_n dX7_follow_80 rfl ?_
          refine g_iast' (nn := 12) dX7_follow_81 (r48 hK) rfl q9 q10 ?_
          refine g_iinc dX7_follow_82 rfl (by decide) rfl ?_
          refine g_iload_n dX7_follow_85 rfl ?_
          refine g_bipush dX7_follow_86 rfl ?_
          obtain ⟨q11, h⟩ := h
          refine g_irem dX7_follow_88 q11 (zin_d rfl) (by decide) ?_
          refine g_bipush dX7_follow_89 rfl ?_
          refine g_imul dX7_follow_91 ?_
          refine g_iload dX7_follow_92 rfl ?_
          refine g_iadd dX7_follow_94 ?_
          refine g_istore_n dX7_follow_95 (by decide) rfl ?_
          refine g_iinc dX7_follow_96 rfl (by decide) rfl ?_
          refine g_goto (tgt := 13) dX7_follow_99 (by decide) ?_
          exact g_wk (zwk_s (zwk_s (zwk_s (zwk_s (zwk_s (zwk_s (zwk_u zwk_n))))))) h
      · have h := h.2 c_
        refine g_aload_n dX7_follow_44 rfl ?_
        refine g_getR (k' := (P + 2)) dX7_follow_45 (hP).ob fX7_74 (by decide) rfl ?_
        refine g_iload_n dX7_follow_48 rfl ?_
        obtain ⟨q12, h⟩ := h
        obtain ⟨q13, h⟩ := h
        refine g_iald' (nn := 10) dX7_follow_49 (hP).a2 rfl q12 q13 ?_
        refine g_istore dX7_follow_50 (by decide) rfl ?_
        refine g_iinc dX7_follow_52 rfl (by decide) rfl ?_
        refine g_goto (tgt := 85) dX7_follow_55 (by decide) ?_
        refine g_iload_n dX7_follow_85 rfl ?_
        refine g_bipush dX7_follow_86 rfl ?_
        obtain ⟨q14, h⟩ := h
        refine g_irem dX7_follow_88 q14 (zin_d rfl) (by decide) ?_
        refine g_bipush dX7_follow_89 rfl ?_
        refine g_imul dX7_follow_91 ?_
        refine g_iload dX7_follow_92 rfl ?_
        refine g_iadd dX7_follow_94 ?_
        refine g_istore_n dX7_follow_95 (by decide) rfl ?_
        refine g_iinc dX7_follow_96 rfl (by decide) rfl ?_
        refine g_goto (tgt := 13) dX7_follow_99 (by decide) ?_
        exact g_wk (zwk_s (zwk_s (zwk_s (zwk_s (zwk_s (zwk_s (zwk_u zwk_n))))))) h
theorem sg_X7_forget_0 {K d : Nat} {mu : Mem} {Q : AV → Mem → Prop} (hd : 0 ≤ d) (hK : 64 ≤ K) (h : Q zV (zup mu 46 3 (-1))) : zG K d mX7_forget 0 [zR 46] [] mu Q := by
  refine g_aload_n dX7_forget_0 rfl ?_
  refine g_iconst dX7_forget_1 ?_
  refine g_putI' (jj := 3) dX7_forget_2 (o46 hK) pX7_18 rfl rfl ?_
  exact g_return dX7_forget_5 rfl h
theorem sg_X7_isOne_0 {K d : Nat} {mu : Mem} {Q : AV → Mem → Prop} {a1 : Int} (hd : 0 ≤ d) (hK : 64 ≤ K) (h : (zin (mu 46 2) ∧ ((12 < (mu 46 2) → Q (zI 0) mu) ∧ (¬ 12 < (mu 46 2) → (zin a1 ∧ ((a1 < 0 → Q (zI 0) mu) ∧ (¬ a1 < 0 → (((mu 46 2) ≤ a1 → Q (zI 0) mu) ∧ (¬ (mu 46 2) ≤ a1 → Q (zI 1) mu))))))))) : zG K d mX7_isOne 0 [zR 46, zI a1] [] mu Q := by
  refine g_aload_n dX7_isOne_0 rfl ?_
  refine g_getI' (jj := 2) dX7_isOne_1 (o46 hK) fX7_28 rfl rfl ?_
  refine g_bipush dX7_isOne_4 rfl ?_
  obtain ⟨q1, h⟩ := h
  refine g_icmp_gt (tgt := 25) dX7_isOne_6 (by decide) q1 (zin_d rfl) (fun c_ => ?_) (fun c_ => ?_)
  · have h := h.1 c_
    refine g_iconst dX7_isOne_25 ?_
    exact g_zreturn dX7_isOne_26 rfl (by decide) h
  · have h := h.2 c_
    refine g_iload_n dX7_isOne_9 rfl ?_
    obtain ⟨q2, h⟩ := h
    refine g_if_lt (tgt := 25) dX7_isOne_10 (by decide) q2 (fun c_ => ?_) (fun c_ => ?_)
    · have h := h.1 c_
      refine g_iconst dX7_isOne_25 ?_
      exact g_zreturn dX7_isOne_26 rfl (by decide) h
    · have h := h.2 c_
      refine g_iload_n dX7_isOne_13 rfl ?_
      refine g_aload_n dX7_isOne_14 rfl ?_
      refine g_getI' (jj := 2) dX7_isOne_15 (o46 hK) fX7_28 rfl rfl ?_
      refine g_icmp_ge (tgt := 25) dX7_isOne_18 (by decide) q2 q1 (fun c_ => ?_) (fun c_ => ?_)
      · have h := h.1 c_
        refine g_iconst dX7_isOne_25 ?_
        exact g_zreturn dX7_isOne_26 rfl (by decide) h
      · have h := h.2 c_
        refine g_iconst dX7_isOne_21 ?_
        refine g_goto (tgt := 26) dX7_isOne_22 (by decide) ?_
        exact g_zreturn dX7_isOne_26 rfl (by decide) h
