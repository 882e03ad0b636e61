theorem sg_X8_ahead_0 {K d : Nat} {mu : Mem} {Q : AV → Mem → Prop} {a1 a2 : Int} (hd : 7 ≤ d) (hK : 64 ≤ K) (h : zC K 1 mX8_isSet [zR 0, zI a1] mu (fun v_ nu2 => ∃ r1, v_ = zI r1 ∧ (zin r1 ∧ ((r1 = 0 → Q (zI (-1)) nu2) ∧ (¬ r1 = 0 → zC K 0 mX8_within [zI a2, zI 0, zI 11] nu2 (fun v_ nu5 => ∃ r4, v_ = zI r4 ∧ (zin r4 ∧ ((¬ r4 = 0 → (isP K (nu5 0 3) ∧ zC K 0 mX2_remembersTwo [zR (nu5 0 3)] nu5 (fun v_ nu8 => ∃ r7, v_ = zI r7 ∧ (zin r7 ∧ ((¬ r7 = 0 → zC K 6 mX7_find [zR 46, zR (nu8 0 3), zI a1] nu8 (fun v_ nu12 => v_ = zV ∧ zC K 0 mX7_isOne [zR 46, zI a2] nu12 (fun v_ nu14 => ∃ r13, v_ = zI r13 ∧ (zin r13 ∧ ((r13 = 0 → Q (zI (-4)) nu14) ∧ (¬ r13 = 0 → (0 ≤ a2 ∧ a2 < 12 ∧ Q (zI (nu14 48 a2)) nu14))))))) ∧ (r7 = 0 → Q (zI (-2)) nu8)))))) ∧ (r4 = 0 → Q (zI (-1)) nu5))))))))) : zG K d mX8_ahead 0 [zR 0, zI a1, zI a2] [] mu Q := by
  refine g_aload_n dX8_ahead_0 rfl ?_
  refine g_iload_n dX8_ahead_1 rfl ?_
  refine g_callV (Y' := mX8_isSet) (d' := 1) (As := [zI a1]) (rest := []) dX8_ahead_2 lX8_144 vX8_isSet (by omega) (o0 hK) rfl rfl (Nat.le_of_ble_eq_true rfl) rfl (zC_i h (fun r1 nu2 h => ?_))
  obtain ⟨q3, h⟩ := h
  refine g_if_eq (tgt := 18) dX8_ahead_5 (by decide) q3 (fun c_ => ?_) (fun c_ => ?_)
  · have h := h.1 c_
    refine g_iconst dX8_ahead_18 ?_
    exact g_ireturn dX8_ahead_19 rfl h
  · have h := h.2 c_
    refine g_iload_n dX8_ahead_8 rfl ?_
    refine g_iconst dX8_ahead_9 ?_
    refine g_bipush dX8_ahead_10 rfl ?_
    refine g_callS (Y' := mX8_within) (d' := 0) (As := [zI a2, zI 0, zI 11]) (rest := []) dX8_ahead_12 lX8_87 vX8_within (by omega) rfl (Nat.le_of_ble_eq_true rfl) rfl (zC_i h (fun r4 nu5 h => ?_))
    obtain ⟨q6, h⟩ := h
    refine g_if_ne (tgt := 20) dX8_ahead_15 (by decide) q6 (fun c_ => ?_) (fun c_ => ?_)
    · have h := h.1 c_
      refine g_aload_n dX8_ahead_20 rfl ?_
      refine g_getM' (jj := 3) dX8_ahead_21 (o0 hK) fX8_23 rfl rfl ?_
      obtain ⟨q9, h⟩ := h
      refine g_callV (Y' := mX2_remembersTwo) (d' := 0) (As := []) (rest := []) dX8_ahead_24 lX8_147 vX2_remembersTwo (by omega) (q9).ob rfl rfl (Nat.le_of_ble_eq_true rfl) rfl (zC_i h (fun r7 nu8 h => ?_))
      obtain ⟨q10, h⟩ := h
      refine g_if_ne (tgt := 33) dX8_ahead_27 (by decide) q10 (fun c_ => ?_) (fun c_ => ?_)
      · have h := h.1 c_
        refine g_aload_n dX8_ahead_33 rfl ?_
        refine g_getR (k' := 46) dX8_ahead_34 (o0 hK) fX8_58 (by decide) (by decide) ?_
        refine g_aload_n dX8_ahead_37 rfl ?_
        refine g_getM' (jj := 3) dX8_ahead_38 (o0 hK) fX8_23 rfl rfl ?_
        refine g_iload_n dX8_ahead_41 rfl ?_
        refine g_callV (Y' := mX7_find) (d' := 6) (As := [zR (nu8 0 3), zI a1]) (rest := []) dX8_ahead_42 lX8_159 vX7_find (by omega) (o46 hK) rfl rfl (Nat.le_of_ble_eq_true rfl) rfl (zC_v h (fun nu12 h => ?_))
        refine g_aload_n dX8_ahead_45 rfl ?_
        refine g_getR (k' := 46) dX8_ahead_46 (o0 hK) fX8_58 (by decide) (by decide) ?_
        refine g_iload_n dX8_ahead_49 rfl ?_
        refine g_callV (Y' := mX7_isOne) (d' := 0) (As := [zI a2]) (rest := []) dX8_ahead_50 lX8_163 vX7_isOne (by omega) (o46 hK) rfl rfl (Nat.le_of_ble_eq_true rfl) rfl (zC_i h (fun r13 nu14 h => ?_))
        obtain ⟨q15, h⟩ := h
        refine g_if_eq (tgt := 68) dX8_ahead_53 (by decide) q15 (fun c_ => ?_) (fun c_ => ?_)
        · have h := h.1 c_
          refine g_bipush dX8_ahead_68 rfl ?_
          exact g_ireturn dX8_ahead_70 rfl h
        · have h := h.2 c_
          refine g_aload_n dX8_ahead_56 rfl ?_
          refine g_getR (k' := 46) dX8_ahead_57 (o0 hK) fX8_58 (by decide) (by decide) ?_
          refine g_getR (k' := 48) dX8_ahead_60 (o46 hK) fX8_167 (by decide) (by decide) ?_
          refine g_iload_n dX8_ahead_63 rfl ?_
          obtain ⟨q16, h⟩ := h
          obtain ⟨q17, h⟩ := h
          refine g_iald' (nn := 12) dX8_ahead_64 (r48 hK) rfl q16 q17 ?_
          refine g_goto (tgt := 70) dX8_ahead_65 (by decide) ?_
          exact g_ireturn dX8_ahead_70 rfl h
      · have h := h.2 c_
        refine g_bipush dX8_ahead_30 rfl ?_
        exact g_ireturn dX8_ahead_32 rfl h
    · have h := h.2 c_
      refine g_iconst dX8_ahead_18 ?_
      exact g_ireturn dX8_ahead_19 rfl h
theorem sg_X8_asks_0 {K d : Nat} {mu : Mem} {Q : AV → Mem → Prop} {a1 a2 : Int} (hd : 5 ≤ d) (hK : 64 ≤ K) (h : zC K 1 mX8_isQueued [zR 0, zI a1] mu (fun v_ nu2 => ∃ r1, v_ = zI r1 ∧ (zin r1 ∧ ((r1 = 0 → Q (zI (-1)) nu2) ∧ (¬ r1 = 0 → zC K 0 mX8_within [zI a2, zI 0, zI 1] nu2 (fun v_ nu5 => ∃ r4, v_ = zI r4 ∧ (zin r4 ∧ ((¬ r4 = 0 → zC K 4 mX3_comeForThemselves [zR 38, zR (nu5 0 3)] nu5 (fun v_ nu8 => v_ = zV ∧ (zin a2 ∧ ((¬ a2 = 0 → (0 ≤ a1 ∧ a1 < 10 ∧ Q (zI (nu8 40 a1)) nu8)) ∧ (a2 = 0 → (0 ≤ a1 ∧ a1 < 10 ∧ Q (zI (nu8 39 a1)) nu8)))))) ∧ (r4 = 0 → Q (zI (-1)) nu5))))))))) : zG K d mX8_asks 0 [zR 0, zI a1, zI a2] [] mu Q := by
  refine g_aload_n dX8_asks_0 rfl ?_
  refine g_iload_n dX8_asks_1 rfl ?_
  refine g_callV (Y' := mX8_isQueued) (d' := 1) (As := [zI a1]) (rest := []) dX8_asks_2 lX8_123 vX8_isQueued (by omega) (o0 hK) rfl rfl (Nat.le_of_ble_eq_true rfl) rfl (zC_i h (fun r1 nu2 h => ?_))
  obtain ⟨q3, h⟩ := h
  refine g_if_eq (tgt := 17) dX8_asks_5 (by decide) q3 (fun c_ => ?_) (fun c_ => ?_)
  · have h := h.1 c_
    refine g_iconst dX8_asks_17 ?_
    exact g_ireturn dX8_asks_18 rfl h
  · have h := h.2 c_
    refine g_iload_n dX8_asks_8 rfl ?_
    refine g_iconst dX8_asks_9 ?_
    refine g_iconst dX8_asks_10 ?_
    refine g_callS (Y' := mX8_within) (d' := 0) (As := [zI a2, zI 0, zI 1]) (rest := []) dX8_asks_11 lX8_87 vX8_within (by omega) rfl (Nat.le_of_ble_eq_true rfl) rfl (zC_i h (fun r4 nu5 h => ?_))
    obtain ⟨q6, h⟩ := h
    refine g_if_ne (tgt := 19) dX8_asks_14 (by decide) q6 (fun c_ => ?_) (fun c_ => ?_)
    · have h := h.1 c_
      refine g_aload_n dX8_asks_19 rfl ?_
      refine g_getR (k' := 38) dX8_asks_20 (o0 hK) fX8_44 (by decide) (by decide) ?_
      refine g_aload_n dX8_asks_23 rfl ?_
      refine g_getM' (jj := 3) dX8_asks_24 (o0 hK) fX8_23 rfl rfl ?_
      refine g_callV (Y' := mX3_comeForThemselves) (d' := 4) (As := [zR (nu5 0 3)]) (rest := []) dX8_asks_27 lX8_170 vX3_comeForThemselves (by omega) (o38 hK) rfl rfl (Nat.le_of_ble_eq_true rfl) rfl (zC_v h (fun nu8 h => ?_))
      refine g_iload_n dX8_asks_30 rfl ?_
      obtain ⟨q9, h⟩ := h
      refine g_if_ne (tgt := 46) dX8_asks_31 (by decide) q9 (fun c_ => ?_) (fun c_ => ?_)
      · have h := h.1 c_
        refine g_aload_n dX8_asks_46 rfl ?_
        refine g_getR (k' := 38) dX8_asks_47 (o0 hK) fX8_44 (by decide) (by decide) ?_
        refine g_getR (k' := 40) dX8_asks_50 (o38 hK) fX8_133 (by decide) (by decide) ?_
        refine g_iload_n dX8_asks_53 rfl ?_
        obtain ⟨q10, h⟩ := h
        obtain ⟨q11, h⟩ := h
        refine g_iald' (nn := 10) dX8_asks_54 (r40 hK) rfl q10 q11 ?_
        exact g_ireturn dX8_asks_55 rfl h
      · have h := h.2 c_
        refine g_aload_n dX8_asks_34 rfl ?_
        refine g_getR (k' := 38) dX8_asks_35 (o0 hK) fX8_44 (by decide) (by decide) ?_
        refine g_getR (k' := 39) dX8_asks_38 (o38 hK) fX8_173 (by decide) (by decide) ?_
        refine g_iload_n dX8_asks_41 rfl ?_
        obtain ⟨q12, h⟩ := h
        obtain ⟨q13, h⟩ := h
        refine g_iald' (nn := 10) dX8_asks_42 (r39 hK) rfl q12 q13 ?_
        refine g_goto (tgt := 55) dX8_asks_43 (by decide) ?_
        exact g_ireturn dX8_asks_55 rfl h
    · have h := h.2 c_
      refine g_iconst dX8_asks_17 ?_
      exact g_ireturn dX8_asks_18 rfl h
theorem sg_X8_back_0 {K d : Nat} {mu : Mem} {Q : AV → Mem → Prop} (hd : 2 ≤ d) (hK : 64 ≤ K) (h : (zin (mu 0 7) ∧ ((0 < (mu 0 7) → (0 ≤ ((zup mu 0 7 ((mu 0 7) - 1)) 0 7) ∧ ((zup mu 0 7 ((mu 0 7) - 1)) 0 7) < 2 ∧ zC K 1 mX6_copyFrom [zR 22, zR (27 + 1 + 5 * ((zup mu 0 7 ((mu 0 7) - 1)) 0 7))] (zup mu 0 7 ((mu 0 7) - 1)) (fun v_ nu5 => v_ = zV ∧ Q (zI (nu5 0 7)) nu5))) ∧ (¬ 0 < (mu 0 7) → Q (zI (-2)) mu)))) : zG K d mX8_back 0 [zR 0] [] mu Q := by
  refine g_aload_n dX8_back_0 rfl ?_
  refine g_getI' (jj := 7) dX8_back_1 (o0 hK) fX8_103 rfl rfl ?_
  obtain ⟨q1, h⟩ := h
  refine g_if_gt (tgt := 10) dX8_back_4 (by decide) q1 (fun c_ => ?_) (fun c_ => ?_)
  · have h := h.1 c_
    refine g_aload_n dX8_back_10 rfl ?_
    refine g_dup dX8_back_11 (by simp) ?_
    refine g_getI' (jj := 7) dX8_back_12 (o0 hK) fX8_103 rfl rfl ?_
    refine g_iconst dX8_back_15 ?_
    refine g_isub dX8_back_16 ?_
    refine g_putI' (jj := 7) dX8_back_17 (o0 hK) pX8_103 rfl rfl ?_
    refine g_aload_n dX8_back_20 rfl ?_
    refine g_getR (k' := 22) dX8_back_21 (o0 hK) fX8_33 (by decide) (by decide) ?_
    refine g_aload_n dX8_back_24 rfl ?_
    refine g_getR (k' := 27) dX8_back_25 (o0 hK) fX8_37 (by decide) (by decide) ?_
    refine g_aload_n dX8_back_28 rfl ?_
    refine g_getI' (jj := 7) dX8_back_29 (o0 hK) fX8_103 rfl rfl ?_
    obtain ⟨q2, h⟩ := h
    obtain ⟨q3, h⟩ := h
    refine g_aald' (nn := 2) (k' := (27 + 1 + 5 * ((zup mu 0 7 ((mu 0 7) - 1)) 0 7))) dX8_back_32 (r27 hK) rfl q2 q3 rfl ?_
    refine g_callV (Y' := mX6_copyFrom) (d' := 1) (As := [zR (27 + 1 + 5 * ((zup mu 0 7 ((mu 0 7) - 1)) 0 7))]) (rest := []) dX8_back_33 lX8_246 vX6_copyFrom (by omega) (o22 hK) rfl rfl (Nat.le_of_ble_eq_true rfl) rfl (zC_v h (fun nu5 h => ?_))
    refine g_aload_n dX8_back_36 rfl ?_
    refine g_getI' (jj := 7) dX8_back_37 (o0 hK) fX8_103 rfl rfl ?_
    exact g_ireturn dX8_back_40 rfl h
  · have h := h.2 c_
    refine g_bipush dX8_back_7 rfl ?_
    exact g_ireturn dX8_back_9 rfl h
theorem sg_X8_before_0 {K d : Nat} {mu : Mem} {Q : AV → Mem → Prop} (hd : 3 ≤ d) (hK : 64 ≤ K) (h : (isP K (mu 0 3) ∧ zin (mu (mu 0 3) 4) ∧ ((¬ (mu (mu 0 3) 4) = 0 → zC K 2 mX0_statesAhead [zR 56, zR (mu 0 3), zR 22] mu (fun v_ nu4 => ∃ r3, v_ = zJ r3 ∧ Q (zJ r3) nu4)) ∧ ((mu (mu 0 3) 4) = 0 → Q (zJ (-2)) mu)))) : zG K d mX8_before 0 [zR 0] [] mu Q := by
  refine g_aload_n dX8_before_0 rfl ?_
  refine g_getM' (jj := 3) dX8_before_1 (o0 hK) fX8_23 rfl rfl ?_
  obtain ⟨q1, h⟩ := h
  refine g_getI' (jj := 4) dX8_before_4 (q1).ob fX8_215 rfl rfl ?_
  obtain ⟨q2, h⟩ := h
  refine g_if_ne (tgt := 16) dX8_before_7 (by decide) q2 (fun c_ => ?_) (fun c_ => ?_)
  · have h := h.1 c_
    refine g_aload_n dX8_before_16 rfl ?_
    refine g_getR (k' := 56) dX8_before_17 (o0 hK) fX8_72 (by decide) (by decide) ?_
    refine g_aload_n dX8_before_20 rfl ?_
    refine g_getM' (jj := 3) dX8_before_21 (o0 hK) fX8_23 rfl rfl ?_
    refine g_aload_n dX8_before_24 rfl ?_
    refine g_getR (k' := 22) dX8_before_25 (o0 hK) fX8_33 (by decide) (by decide) ?_
    refine g_callV (Y' := mX0_statesAhead) (d' := 2) (As := [zR (mu 0 3), zR 22]) (rest := []) dX8_before_28 lX8_243 vX0_statesAhead (by omega) (o56 hK) rfl rfl (Nat.le_of_ble_eq_true rfl) rfl (zC_j h (fun r3 nu4 h => ?_))
    exact g_lreturn dX8_before_31 rfl h
  · have h := h.2 c_
    refine g_ldc2 (x := (-2)) (zc64 (x := (-2)) (v := (-2)) (by decide +kernel) kX8_188) dX8_before_10 ?_
    refine g_goto (tgt := 31) dX8_before_13 (by decide) ?_
    exact g_lreturn dX8_before_31 rfl h
theorem sg_X8_commonDivisor_0 {K d : Nat} {mu : Mem} {Q : AV → Mem → Prop} {a0 a2 : Int} (hd : 0 ≤ d) (hK : 64 ≤ K) (h : zG K d mX8_commonDivisor 3 [zJ a0, zU, zJ a2, zU, zI 0, zU, zU] [] mu Q) : zG K d mX8_commonDivisor 0 [zJ a0, zU, zJ a2, zU, zU, zU, zU] [] mu Q := by
  refine g_iconst dX8_commonDivisor_0 ?_
  refine g_istore dX8_commonDivisor_1 (by decide) rfl ?_
  exact g_wk (zwk_s (zwk_s (zwk_s (zwk_s (zwk_s (zwk_s (zwk_s zwk_n))))))) h
theorem sg_X8_commonDivisor_3 {K d : Nat} {mu : Mem} {Q : AV → Mem → Prop} {a0 a2 a4 : Int} (hd : 0 ≤ d) (hK : 64 ≤ K) (h : (zin a4 ∧ ((1000 ≤ a4 → Q (zJ a0) mu) ∧ (¬ 1000 ≤ a4 → (zil a2 ∧ ((a2 = 0 → Q (zJ a0) mu) ∧ (¬ a2 = 0 → (zil a0 ∧ 0 < a2 ∧ zG K d mX8_commonDivisor 3 [zJ a2, zU, zJ (a0.tmod a2), zU, zI (a4 + 1), zU, zU] [] mu Q)))))))) : zG K d mX8_commonDivisor 3 [zJ a0, zU, zJ a2, zU, zI a4, zU, zU] [] mu Q := by
  refine g_iload dX8_commonDivisor_3 rfl ?_
  refine g_sipush dX8_commonDivisor_5 rfl ?_
  obtain ⟨q1, h⟩ := h
  refine g_icmp_ge (tgt := 33) dX8_commonDivisor_8 (by decide) q1 (zin_d rfl) (fun c_ => ?_) (fun c_ => ?_)
  · have h := h.1 c_
    refine g_lload_n dX8_commonDivisor_33 rfl ?_
    exact g_lreturn dX8_commonDivisor_34 rfl h
  · have h := h.2 c_
    refine g_lload_n dX8_commonDivisor_11 rfl ?_
    refine g_lconst (x := 0) dX8_commonDivisor_12 rfl ?_
    obtain ⟨q2, h⟩ := h
    refine g_lcmp_eq (tgt := 33) dX8_commonDivisor_13 dX8_commonDivisor_14 (by decide) q2 (zil_d rfl) (fun c_ => ?_) (fun c_ => ?_)
    · have h := h.1 c_
      refine g_lload_n dX8_commonDivisor_33 rfl ?_
      exact g_lreturn dX8_commonDivisor_34 rfl h
    · have h := h.2 c_
      refine g_lload_n dX8_commonDivisor_17 rfl ?_
      refine g_lload_n dX8_commonDivisor_18 rfl ?_
      obtain ⟨q3, h⟩ := h
      obtain ⟨q4, h⟩ := h
      refine g_lrem dX8_commonDivisor_19 q3 q2 q4 ?_
      refine g_lstore dX8_commonDivisor_20 (by decide) rfl ?_
      refine g_lload_n dX8_commonDivisor_22 rfl ?_
      refine g_lstore_n dX8_commonDivisor_23 (by decide) rfl ?_
      refine g_lload dX8_commonDivisor_24 rfl ?_
      refine g_lstore_n dX8_commonDivisor_26 (by decide) rfl ?_
      refine g_iinc dX8_commonDivisor_27 rfl (by decide) rfl ?_
      refine g_goto (tgt := 3) dX8_commonDivisor_30 (by decide) ?_
      exact g_wk (zwk_s (zwk_s (zwk_s (zwk_s (zwk_s (zwk_u (zwk_s zwk_n))))))) h
theorem sg_X8_count_0 {K d : Nat} {mu : Mem} {Q : AV → Mem → Prop} {a1 : Int} (hd : 0 ≤ d) (hK : 64 ≤ K) (h : (zin a1 ∧ (((a1 < 0 ∨ 7 < a1) → Q (zI (-1)) mu) ∧ (a1 = 0 → (isP K (mu 0 3) ∧ Q (zI (mu (mu 0 3) 3)) mu)) ∧ (a1 = 1 → (isP K (mu 0 3) ∧ Q (zI (mu (mu 0 3) 0)) mu)) ∧ (a1 = 2 → (isP K (mu 0 3) ∧ Q (zI (mu (mu 0 3) 2)) mu)) ∧ (a1 = 3 → (isP K (mu 0 3) ∧ Q (zI (mu (mu 0 3) 4)) mu)) ∧ (a1 = 4 → Q (zI (mu 22 4)) mu) ∧ (a1 = 5 → Q (zI (mu 0 1)) mu) ∧ (a1 = 6 → Q (zI (mu 0 7)) mu) ∧ (a1 = 7 → (isP K (mu 0 3) ∧ Q (zI (mu (mu 0 3) 1)) mu))))) : zG K d mX8_count 0 [zR 0, zI a1] [] mu Q := by
  refine g_iload_n dX8_count_0 rfl ?_
  obtain ⟨q1, h⟩ := h
  by_cases hsw : a1 < 0 ∨ 7 < a1
  · have h := h.1 hsw
    refine g_swOut (tgt := 106) dX8_count_1 q1 hsw (by decide) ?_
    refine g_iconst dX8_count_106 ?_
    exact g_ireturn dX8_count_107 rfl h
  · have h := h.2
    have hsw1 : 0 ≤ a1 := by omega
    have hsw2 : a1 ≤ 7 := by omega
    by_cases hc0 : a1 = 0
    · have h := h.1 hc0
      refine g_swIn (tgt := 48) dX8_count_1 q1 hsw1 hsw2 (by rw [hc0]; rfl) (by decide) ?_
      refine g_aload_n dX8_count_48 rfl ?_
      refine g_getM' (jj := 3) dX8_count_49 (o0 hK) fX8_23 rfl rfl ?_
      obtain ⟨q2, h⟩ := h
      refine g_getI' (jj := 3) dX8_count_52 (q2).ob fX8_110 rfl rfl ?_
      exact g_ireturn dX8_count_55 rfl h
    by_cases hc1 : a1 = 1
    · have h := h.2.1 hc1
      refine g_swIn (tgt := 56) dX8_count_1 q1 hsw1 hsw2 (by rw [hc1]; rfl) (by decide) ?_
      refine g_aload_n dX8_count_56 rfl ?_
      refine g_getM' (jj := 3) dX8_count_57 (o0 hK) fX8_23 rfl rfl ?_
      obtain ⟨q3, h⟩ := h
      refine g_getI' (jj := 0) dX8_count_60 (q3).ob fX8_250 rfl rfl ?_
      exact g_ireturn dX8_count_63 rfl h
    by_cases hc2 : a1 = 2
    · have h := h.2.2.1 hc2
      refine g_swIn (tgt := 64) dX8_count_1 q1 hsw1 hsw2 (by rw [hc2]; rfl) (by decide) ?_
      refine g_aload_n dX8_count_64 rfl ?_
      refine g_getM' (jj := 3) dX8_count_65 (o0 hK) fX8_23 rfl rfl ?_
      obtain ⟨q4, h⟩ := h
      refine g_getI' (jj := 2) dX8_count_68 (q4).ob fX8_253 rfl rfl ?_
      exact g_ireturn dX8_count_71 rfl h
    by_cases hc3 : a1 = 3
    · have h := h.2.2.2.1 hc3
      refine g_swIn (tgt := 72) dX8_count_1 q1 hsw1 hsw2 (by rw [hc3]; rfl) (by decide) ?_
      refine g_aload_n dX8_count_72 rfl ?_
      refine g_getM' (jj := 3) dX8_count_73 (o0 hK) fX8_23 rfl rfl ?_
      obtain ⟨q5, h⟩ := h
      refine g_getI' (jj := 4) dX8_count_76 (q5).ob fX8_215 rfl rfl ?_
      exact g_ireturn dX8_count_79 rfl h
    by_cases hc4 : a1 = 4
    · have h := h.2.2.2.2.1 hc4
      refine g_swIn (tgt := 80) dX8_count_1 q1 hsw1 hsw2 (by rw [hc4]; rfl) (by decide) ?_
      refine g_aload_n dX8_count_80 rfl ?_
      refine g_getR (k' := 22) dX8_count_81 (o0 hK) fX8_33 (by decide) (by decide) ?_
      refine g_getI' (jj := 4) dX8_count_84 (o22 hK) fX8_180 rfl rfl ?_
      exact g_ireturn dX8_count_87 rfl h
    by_cases hc5 : a1 = 5
    · have h := h.2.2.2.2.2.1 hc5
      refine g_swIn (tgt := 88) dX8_count_1 q1 hsw1 hsw2 (by rw [hc5]; rfl) (by decide) ?_
      refine g_aload_n dX8_count_88 rfl ?_
      refine g_getI' (jj := 1) dX8_count_89 (o0 hK) fX8_91 rfl rfl ?_
      exact g_ireturn dX8_count_92 rfl h
    by_cases hc6 : a1 = 6
    · have h := h.2.2.2.2.2.2.1 hc6
      refine g_swIn (tgt := 93) dX8_count_1 q1 hsw1 hsw2 (by rw [hc6]; rfl) (by decide) ?_
      refine g_aload_n dX8_count_93 rfl ?_
      refine g_getI' (jj := 7) dX8_count_94 (o0 hK) fX8_103 rfl rfl ?_
      exact g_ireturn dX8_count_97 rfl h
    by_cases hc7 : a1 = 7
    · have h := h.2.2.2.2.2.2.2 hc7
      refine g_swIn (tgt := 98) dX8_count_1 q1 hsw1 hsw2 (by rw [hc7]; rfl) (by decide) ?_
      refine g_aload_n dX8_count_98 rfl ?_
      refine g_getM' (jj := 3) dX8_count_99 (o0 hK) fX8_23 rfl rfl ?_
      obtain ⟨q6, h⟩ := h
      refine g_getI' (jj := 1) dX8_count_102 (q6).ob fX8_126 rfl rfl ?_
      exact g_ireturn dX8_count_105 rfl h
    · exact absurd hsw2 (by omega)
theorem sg_X8_fault_0 {K d : Nat} {mu : Mem} {Q : AV → Mem → Prop} (hd : 6 ≤ d) (hK : 64 ≤ K) (h : zC K 5 mX4_readInto [zR 2, zR (mu 0 4), zR 1, zI (mu 0 1)] mu (fun v_ nu2 => ∃ r1, v_ = zI r1 ∧ Q (zI r1) nu2)) : zG K d mX8_fault 0 [zR 0] [] mu Q := by
  refine g_aload_n dX8_fault_0 rfl ?_
  refine g_getR (k' := 2) dX8_fault_1 (o0 hK) fX8_16 (by decide) (by decide) ?_
  refine g_aload_n dX8_fault_4 rfl ?_
  refine g_getM' (jj := 4) dX8_fault_5 (o0 hK) fX8_27 rfl rfl ?_
  refine g_aload_n dX8_fault_8 rfl ?_
  refine g_getR (k' := 1) dX8_fault_9 (o0 hK) fX8_9 (by decide) (by decide) ?_
  refine g_aload_n dX8_fault_12 rfl ?_
  refine g_getI' (jj := 1) dX8_fault_13 (o0 hK) fX8_91 rfl rfl ?_
  refine g_callV (Y' := mX4_readInto) (d' := 5) (As := [zR (mu 0 4), zR 1, zI (mu 0 1)]) (rest := []) dX8_fault_16 lX8_95 vX4_readInto (by omega) (o2 hK) rfl rfl (Nat.le_of_ble_eq_true rfl) rfl (zC_i h (fun r1 nu2 h => ?_))
  exact g_ireturn dX8_fault_19 rfl h
theorem sg_X8_gift_0 {K d : Nat} {mu : Mem} {Q : AV → Mem → Prop} {a1 : Int} (hd : 3 ≤ d) (hK : 64 ≤ K) (h : zC K 2 mX8_isSign [zR 0, zI a1] mu (fun v_ nu2 => ∃ r1, v_ = zI r1 ∧ (zin r1 ∧ ((¬ r1 = 0 → (zin (nu2 22 4) ∧ (((nu2 22 4) < 10 → (0 ≤ (nu2 22 4) ∧ (nu2 22 4) < 10 ∧ Q (zI ((zup (zup nu2 26 (nu2 22 4) a1) 22 4 (((zup nu2 26 (nu2 22 4) a1) 22 4) + 1)) 22 4)) (zup (zup nu2 26 (nu2 22 4) a1) 22 4 (((zup nu2 26 (nu2 22 4) a1) 22 4) + 1)))) ∧ (¬ (nu2 22 4) < 10 → Q (zI (-3)) nu2)))) ∧ (r1 = 0 → Q (zI (-1)) nu2))))) : zG K d mX8_gift 0 [zR 0, zI a1] [] mu Q := by
  refine g_aload_n dX8_gift_0 rfl ?_
  refine g_iload_n dX8_gift_1 rfl ?_
  refine g_callV (Y' := mX8_isSign) (d' := 2) (As := [zI a1]) (rest := []) dX8_gift_2 lX8_116 vX8_isSign (by omega) (o0 hK) rfl rfl (Nat.le_of_ble_eq_true rfl) rfl (zC_i h (fun r1 nu2 h => ?_))
  obtain ⟨q3, h⟩ := h
  refine g_if_ne (tgt := 10) dX8_gift_5 (by decide) q3 (fun c_ => ?_) (fun c_ => ?_)
  · have h := h.1 c_
    refine g_aload_n dX8_gift_10 rfl ?_
    refine g_getR (k' := 22) dX8_gift_11 (o0 hK) fX8_33 (by decide) (by decide) ?_
    refine g_getI' (jj := 4) dX8_gift_14 (o22 hK) fX8_180 rfl rfl ?_
    refine g_bipush dX8_gift_17 rfl ?_
    obtain ⟨q4, h⟩ := h
    refine g_icmp_lt (tgt := 25) dX8_gift_19 (by decide) q4 (zin_d rfl) (fun c_ => ?_) (fun c_ => ?_)
    · have h := h.1 c_
      refine g_aload_n dX8_gift_25 rfl ?_
      refine g_getR (k' := 22) dX8_gift_26 (o0 hK) fX8_33 (by decide) (by decide) ?_
      refine g_getR (k' := 26) dX8_gift_29 (o22 hK) fX8_183 (by decide) (by decide) ?_
      refine g_aload_n dX8_gift_32 rfl ?_
      refine g_getR (k' := 22) dX8_gift_33 (o0 hK) fX8_33 (by decide) (by decide) ?_
      refine g_getI' (jj := 4) dX8_gift_36 (o22 hK) fX8_180 rfl rfl ?_
      refine g_iload_n dX8_gift_39 rfl ?_
      obtain ⟨q5, h⟩ := h
      obtain ⟨q6, h⟩ := h
      refine g_iast' (nn := 10) dX8_gift_40 (r26 hK) rfl q5 q6 ?_
      refine g_aload_n dX8_gift_41 rfl ?_
      refine g_getR (k' := 22) dX8_gift_42 (o0 hK) fX8_33 (by decide) (by decide) ?_
      refine g_dup dX8_gift_45 (by simp) ?_
      refine g_getI' (jj := 4) dX8_gift_46 (o22 hK) fX8_180 rfl rfl ?_
      refine g_iconst dX8_gift_49 ?_
      refine g_iadd dX8_gift_50 ?_
      refine g_putI' (jj := 4) dX8_gift_51 (o22 hK) pX8_180 rfl rfl ?_
      refine g_aload_n dX8_gift_54 rfl ?_
      refine g_getR (k' := 22) dX8_gift_55 (o0 hK) fX8_33 (by decide) (by decide) ?_
      refine g_getI' (jj := 4) dX8_gift_58 (o22 hK) fX8_180 rfl rfl ?_
      exact g_ireturn dX8_gift_61 rfl h
    · have h := h.2 c_
      refine g_bipush dX8_gift_22 rfl ?_
      exact g_ireturn dX8_gift_24 rfl h
  · have h := h.2 c_
    refine g_iconst dX8_gift_8 ?_
    exact g_ireturn dX8_gift_9 rfl h
theorem sg_X8_given_0 {K d : Nat} {mu : Mem} {Q : AV → Mem → Prop} {a1 : Int} (hd : 3 ≤ d) (hK : 64 ≤ K) (h : zC K 1 mX8_isQueued [zR 0, zI a1] mu (fun v_ nu2 => ∃ r1, v_ = zI r1 ∧ (zin r1 ∧ ((¬ r1 = 0 → (isP K (nu2 0 3) ∧ zC K 2 mX3_comeAsWished [zR 38, zR (nu2 0 3), zI (nu2 (nu2 0 3) 1)] nu2 (fun v_ nu6 => v_ = zV ∧ (0 ≤ a1 ∧ a1 < 10 ∧ Q (zI (nu6 40 a1)) nu6)))) ∧ (r1 = 0 → Q (zI (-1)) nu2))))) : zG K d mX8_given 0 [zR 0, zI a1] [] mu Q := by
  refine g_aload_n dX8_given_0 rfl ?_
  refine g_iload_n dX8_given_1 rfl ?_
  refine g_callV (Y' := mX8_isQueued) (d' := 1) (As := [zI a1]) (rest := []) dX8_given_2 lX8_123 vX8_isQueued (by omega) (o0 hK) rfl rfl (Nat.le_of_ble_eq_true rfl) rfl (zC_i h (fun r1 nu2 h => ?_))
  obtain ⟨q3, h⟩ := h
  refine g_if_ne (tgt := 10) dX8_given_5 (by decide) q3 (fun c_ => ?_) (fun c_ => ?_)
  · have h := h.1 c_
    refine g_aload_n dX8_given_10 rfl ?_
    refine g_getR (k' := 38) dX8_given_11 (o0 hK) fX8_44 (by decide) (by decide) ?_
    refine g_aload_n dX8_given_14 rfl ?_
    refine g_getM' (jj := 3) dX8_given_15 (o0 hK) fX8_23 rfl rfl ?_
    refine g_aload_n dX8_given_18 rfl ?_
    refine g_getM' (jj := 3) dX8_given_19 (o0 hK) fX8_23 rfl rfl ?_
    obtain ⟨q4, h⟩ := h
    refine g_getI' (jj := 1) dX8_given_22 (q4).ob fX8_126 rfl rfl ?_
    refine g_callV (Y' := mX3_comeAsWished) (d' := 2) (As := [zR (nu2 0 3), zI (nu2 (nu2 0 3) 1)]) (rest := []) dX8_given_25 lX8_129 vX3_comeAsWished (by omega) (o38 hK) rfl rfl (Nat.le_of_ble_eq_true rfl) rfl (zC_v h (fun nu6 h => ?_))
    refine g_aload_n dX8_given_28 rfl ?_
    refine g_getR (k' := 38) dX8_given_29 (o0 hK) fX8_44 (by decide) (by decide) ?_
    refine g_getR (k' := 40) dX8_given_32 (o38 hK) fX8_133 (by decide) (by decide) ?_
    refine g_iload_n dX8_given_35 rfl ?_
    obtain ⟨q7, h⟩ := h
    obtain ⟨q8, h⟩ := h
    refine g_iald' (nn := 10) dX8_given_36 (r40 hK) rfl q7 q8 ?_
    exact g_ireturn dX8_given_37 rfl h
  · have h := h.2 c_
    refine g_iconst dX8_given_8 ?_
    exact g_ireturn dX8_given_9 rfl h
theorem sg_X8_givesBehind_0 {K d : Nat} {mu : Mem} {Q : AV → Mem → Prop} {a0 a1 a2 a3 : Int} (hd : 1 ≤ d) (hK : 64 ≤ K) (h : (zin a0 ∧ ((¬ a0 = 3 → zC K 0 mX8_majority [zI a1, zI a2, zI a3] mu (fun v_ nu3 => ∃ r2, v_ = zI r2 ∧ Q (zI r2) nu3)) ∧ (a0 = 3 → Q (zI a2) mu)))) : zG K d mX8_givesBehind 0 [zI a0, zI a1, zI a2, zI a3] [] mu Q := by
  refine g_iload_n dX8_givesBehind_0 rfl ?_
  refine g_iconst dX8_givesBehind_1 ?_
  obtain ⟨q1, h⟩ := h
  refine g_icmp_ne (tgt := 9) dX8_givesBehind_2 (by decide) q1 (zin_d rfl) (fun c_ => ?_) (fun c_ => ?_)
  · have h := h.1 c_
    refine g_iload_n dX8_givesBehind_9 rfl ?_
    refine g_iload_n dX8_givesBehind_10 rfl ?_
    refine g_iload_n dX8_givesBehind_11 rfl ?_
    refine g_callS (Y' := mX8_majority) (d' := 0) (As := [zI a1, zI a2, zI a3]) (rest := []) dX8_givesBehind_12 lX8_256 vX8_majority (by omega) rfl (Nat.le_of_ble_eq_true rfl) rfl (zC_i h (fun r2 nu3 h => ?_))
    exact g_ireturn dX8_givesBehind_15 rfl h
  · have h := h.2 c_
    refine g_iload_n dX8_givesBehind_5 rfl ?_
    refine g_goto (tgt := 15) dX8_givesBehind_6 (by decide) ?_
    exact g_ireturn dX8_givesBehind_15 rfl h
theorem sg_X8_givesFor_0 {K d : Nat} {n : Nat} {mu : Mem} {Q : AV → Mem → Prop} {a0 A a2 : Int} (hd : 1 ≤ d) (hK : 64 ≤ K) (hA : zAr K 11 A n) (h : (zin a2 ∧ zin n ∧ ((a2 ≤ n → (zin a0 ∧ ((¬ a0 = 3 → (zin ((a2 - 3) - (2 * a0)) ∧ zG K d mX8_givesFor 45 [zI a0, zR A, zI a2, zI (max 0 ((a2 - 3) - (2 * a0))), zI 0, zU, zU] [] mu Q)) ∧ (a0 = 3 → ((a2 < 2 → Q (zI 6) mu) ∧ (¬ a2 < 2 → (0 ≤ (a2 - 2) ∧ (a2 - 2) < n ∧ Q (zI (mu A (a2 - 2))) mu))))))) ∧ (¬ a2 ≤ n → Q (zI 6) mu)))) : zG K d mX8_givesFor 0 [zI a0, zR A, zI a2, zU, zU, zU, zU] [] mu Q := by
  refine g_iload_n dX8_givesFor_0 rfl ?_
  refine g_aload_n dX8_givesFor_1 rfl ?_
  refine g_alen' (nn := n) dX8_givesFor_2 hA (by decide) rfl ?_
  obtain ⟨q1, h⟩ := h
  obtain ⟨q2, h⟩ := h
  refine g_icmp_le (tgt := 9) dX8_givesFor_3 (by decide) q1 q2 (fun c_ => ?_) (fun c_ => ?_)
  · have h := h.1 c_
    refine g_iload_n dX8_givesFor_9 rfl ?_
    refine g_iconst dX8_givesFor_10 ?_
    obtain ⟨q3, h⟩ := h
    refine g_icmp_ne (tgt := 30) dX8_givesFor_11 (by decide) q3 (zin_d rfl) (fun c_ => ?_) (fun c_ => ?_)
    · have h := h.1 c_
      refine g_iconst dX8_givesFor_30 ?_
      refine g_iload_n dX8_givesFor_31 rfl ?_
      refine g_iconst dX8_givesFor_32 ?_
      refine g_isub dX8_givesFor_33 ?_
      refine g_iconst dX8_givesFor_34 ?_
      refine g_iload_n dX8_givesFor_35 rfl ?_
      refine g_imul dX8_givesFor_36 ?_
      refine g_isub dX8_givesFor_37 ?_
      obtain ⟨q4, h⟩ := h
      refine g_max dX8_givesFor_38 lX8_260 (by omega) (Nat.le_of_ble_eq_true rfl) (zin_d rfl) q4 ?_
      refine g_istore_n dX8_givesFor_41 (by decide) rfl ?_
      refine g_iconst dX8_givesFor_42 ?_
      refine g_istore dX8_givesFor_43 (by decide) rfl ?_
      exact g_wk (zwk_s (zwk_s (zwk_s (zwk_s (zwk_s (zwk_s (zwk_s zwk_n))))))) h
    · have h := h.2 c_
      refine g_iload_n dX8_givesFor_14 rfl ?_
      refine g_iconst dX8_givesFor_15 ?_
      refine g_icmp_lt (tgt := 27) dX8_givesFor_16 (by decide) q1 (zin_d rfl) (fun c_ => ?_) (fun c_ => ?_)
      · have h := h.1 c_
        refine g_bipush dX8_givesFor_27 rfl ?_
        exact g_ireturn dX8_givesFor_29 rfl h
      · have h := h.2 c_
        refine g_aload_n dX8_givesFor_19 rfl ?_
        refine g_iload_n dX8_givesFor_20 rfl ?_
        refine g_iconst dX8_givesFor_21 ?_
        refine g_isub dX8_givesFor_22 ?_
        obtain ⟨q5, h⟩ := h
        obtain ⟨q6, h⟩ := h
        refine g_iald' (nn := n) dX8_givesFor_23 hA rfl q5 q6 ?_
        refine g_goto (tgt := 29) dX8_givesFor_24 (by decide) ?_
        exact g_ireturn dX8_givesFor_29 rfl h
  · have h := h.2 c_
    refine g_bipush dX8_givesFor_6 rfl ?_
    exact g_ireturn dX8_givesFor_8 rfl h
theorem sg_X8_givesFor_45 {K d : Nat} {n : Nat} {mu : Mem} {Q : AV → Mem → Prop} {a0 A a2 a3 a4 : Int} (hd : 1 ≤ d) (hK : 64 ≤ K) (hA : zAr K 11 A n) (h : (zin a4 ∧ ((6 ≤ a4 → Q (zI 6) mu) ∧ (¬ 6 ≤ a4 → zG K d mX8_givesFor 58 [zI a0, zR A, zI a2, zI a3, zI a4, zI 0, zI a3] [] mu Q)))) : zG K d mX8_givesFor 45 [zI a0, zR A, zI a2, zI a3, zI a4, zU, zU] [] mu Q := by
  refine g_iload dX8_givesFor_45 rfl ?_
  refine g_bipush dX8_givesFor_47 rfl ?_
  obtain ⟨q1, h⟩ := h
  refine g_icmp_ge (tgt := 99) dX8_givesFor_49 (by decide) q1 (zin_d rfl) (fun c_ => ?_) (fun c_ => ?_)
  · have h := h.1 c_
    refine g_bipush dX8_givesFor_99 rfl ?_
    exact g_ireturn dX8_givesFor_101 rfl h
  · have h := h.2 c_
    refine g_iconst dX8_givesFor_52 ?_
    refine g_istore dX8_givesFor_53 (by decide) rfl ?_
    refine g_iload_n dX8_givesFor_55 rfl ?_
    refine g_istore dX8_givesFor_56 (by decide) rfl ?_
    exact g_wk (zwk_s (zwk_s (zwk_s (zwk_s (zwk_s (zwk_s (zwk_s zwk_n))))))) h
theorem sg_X8_givesFor_58 {K d : Nat} {n : Nat} {mu : Mem} {Q : AV → Mem → Prop} {a0 A a2 a3 a4 a5 a6 : Int} (hd : 1 ≤ d) (hK : 64 ≤ K) (hA : zAr K 11 A n) (h : (zin a6 ∧ zin a2 ∧ ((a2 ≤ a6 → (zin a5 ∧ zin (2 + a0) ∧ ((a5 < (2 + a0) → zG K d mX8_givesFor 45 [zI a0, zR A, zI a2, zI a3, zI (a4 + 1), zU, zU] [] mu Q) ∧ (¬ a5 < (2 + a0) → Q (zI a4) mu)))) ∧ (¬ a2 ≤ a6 → (0 ≤ a6 ∧ a6 < n ∧ zin (mu A a6) ∧ zin a4 ∧ ((¬ (mu A a6) = a4 → zG K d mX8_givesFor 58 [zI a0, zR A, zI a2, zI a3, zI a4, zI a5, zI (a6 + 1)] [] mu Q) ∧ ((mu A a6) = a4 → zG K d mX8_givesFor 58 [zI a0, zR A, zI a2, zI a3, zI a4, zI (a5 + 1), zI (a6 + 1)] [] mu Q))))))) : zG K d mX8_givesFor 58 [zI a0, zR A, zI a2, zI a3, zI a4, zI a5, zI a6] [] mu Q := by
  refine g_iload dX8_givesFor_58 rfl ?_
  refine g_iload_n dX8_givesFor_60 rfl ?_
  obtain ⟨q1, h⟩ := h
  obtain ⟨q2, h⟩ := h
  refine g_icmp_ge (tgt := 82) dX8_givesFor_61 (by decide) q1 q2 (fun c_ => ?_) (fun c_ => ?_)
  · have h := h.1 c_
    refine g_iload dX8_givesFor_82 rfl ?_
    refine g_iconst dX8_givesFor_84 ?_
    refine g_iload_n dX8_givesFor_85 rfl ?_
    refine g_iadd dX8_givesFor_86 ?_
    obtain ⟨q3, h⟩ := h
    obtain ⟨q4, h⟩ := h
    refine g_icmp_lt (tgt := 93) dX8_givesFor_87 (by decide) q3 q4 (fun c_ => ?_) (fun c_ => ?_)
    · have h := h.1 c_
      refine g_iinc dX8_givesFor_93 rfl (by decide) rfl ?_
      refine g_goto (tgt := 45) dX8_givesFor_96 (by decide) ?_
      exact g_wk (zwk_s (zwk_s (zwk_s (zwk_s (zwk_s (zwk_u (zwk_u zwk_n))))))) h
    · have h := h.2 c_
      refine g_iload dX8_givesFor_90 rfl ?_
      exact g_ireturn dX8_givesFor_92 rfl h
  · have h := h.2 c_
    refine g_aload_n dX8_givesFor_64 rfl ?_
    refine g_iload dX8_givesFor_65 rfl ?_
    obtain ⟨q5, h⟩ := h
    obtain ⟨q6, h⟩ := h
    refine g_iald' (nn := n) dX8_givesFor_67 hA rfl q5 q6 ?_
    refine g_iload dX8_givesFor_68 rfl ?_
    obtain ⟨q7, h⟩ := h
    obtain ⟨q8, h⟩ := h
    refine g_icmp_ne (tgt := 76) dX8_givesFor_70 (by decide) q7 q8 (fun c_ => ?_) (fun c_ => ?_)
    · have h := h.1 c_
      refine g_iinc dX8_givesFor_76 rfl (by decide) rfl ?_
      refine g_goto (tgt := 58) dX8_givesFor_79 (by decide) ?_
      exact g_wk (zwk_s (zwk_s (zwk_s (zwk_s (zwk_s (zwk_s (zwk_s zwk_n))))))) h
    · have h := h.2 c_
      refine g_iinc dX8_givesFor_73 rfl (by decide) rfl ?_
      refine g_iinc dX8_givesFor_76 rfl (by decide) rfl ?_
      refine g_goto (tgt := 58) dX8_givesFor_79 (by decide) ?_
      exact g_wk (zwk_s (zwk_s (zwk_s (zwk_s (zwk_s (zwk_s (zwk_s zwk_n))))))) h
theorem sg_X8_have_0 {K d : Nat} {mu : Mem} {Q : AV → Mem → Prop} (hd : 3 ≤ d) (hK : 64 ≤ K) (h : (isP K (mu 0 3) ∧ zC K 2 mX3_comeAsWished [zR 38, zR (mu 0 3), zI (mu (mu 0 3) 1)] mu (fun v_ nu3 => v_ = zV ∧ zG K d mX8_have 22 [zR 0, zI 0, zI 0] [] nu3 Q))) : zG K d mX8_have 0 [zR 0, zU, zU] [] mu Q := by
  refine g_aload_n dX8_have_0 rfl ?_
  refine g_getR (k' := 38) dX8_have_1 (o0 hK) fX8_44 (by decide) (by decide) ?_
  refine g_aload_n dX8_have_4 rfl ?_
  refine g_getM' (jj := 3) dX8_have_5 (o0 hK) fX8_23 rfl rfl ?_
  refine g_aload_n dX8_have_8 rfl ?_
  refine g_getM' (jj := 3) dX8_have_9 (o0 hK) fX8_23 rfl rfl ?_
  obtain ⟨q1, h⟩ := h
  refine g_getI' (jj := 1) dX8_have_12 (q1).ob fX8_126 rfl rfl ?_
  refine g_callV (Y' := mX3_comeAsWished) (d' := 2) (As := [zR (mu 0 3), zI (mu (mu 0 3) 1)]) (rest := []) dX8_have_15 lX8_129 vX3_comeAsWished (by omega) (o38 hK) rfl rfl (Nat.le_of_ble_eq_true rfl) rfl (zC_v h (fun nu3 h => ?_))
  refine g_iconst dX8_have_18 ?_
  refine g_istore_n dX8_have_19 (by decide) rfl ?_
  refine g_iconst dX8_have_20 ?_
  refine g_istore_n dX8_have_21 (by decide) rfl ?_
  exact g_wk (zwk_s (zwk_s (zwk_s zwk_n))) h
theorem sg_X8_have_22 {K d : Nat} {mu : Mem} {Q : AV → Mem → Prop} {a1 a2 : Int} (hd : 3 ≤ d) (hK : 64 ≤ K) (h : (isP K (mu 0 3) ∧ zin a2 ∧ zin (mu (mu 0 3) 3) ∧ (((mu (mu 0 3) 3) ≤ a2 → Q (zI a1) mu) ∧ (¬ (mu (mu 0 3) 3) ≤ a2 → (0 ≤ a2 ∧ a2 < 10 ∧ zin (mu 40 a2) ∧ zin (mu ((mu 0 3) + 2) a2) ∧ ((¬ (mu 40 a2) = (mu ((mu 0 3) + 2) a2) → zG K d mX8_have 22 [zR 0, zI a1, zI (a2 + 1)] [] mu Q) ∧ ((mu 40 a2) = (mu ((mu 0 3) + 2) a2) → zG K d mX8_have 22 [zR 0, zI (a1 + 1), zI (a2 + 1)] [] mu Q))))))) : zG K d mX8_have 22 [zR 0, zI a1, zI a2] [] mu Q := by
  refine g_iload_n dX8_have_22 rfl ?_
  refine g_aload_n dX8_have_23 rfl ?_
  refine g_getM' (jj := 3) dX8_have_24 (o0 hK) fX8_23 rfl rfl ?_
  obtain ⟨q1, h⟩ := h
  refine g_getI' (jj := 3) dX8_have_27 (q1).ob fX8_110 rfl rfl ?_
  obtain ⟨q2, h⟩ := h
  obtain ⟨q3, h⟩ := h
  refine g_icmp_ge (tgt := 63) dX8_have_30 (by decide) q2 q3 (fun c_ => ?_) (fun c_ => ?_)
  · have h := h.1 c_
    refine g_iload_n dX8_have_63 rfl ?_
    exact g_ireturn dX8_have_64 rfl h
  · have h := h.2 c_
    refine g_aload_n dX8_have_33 rfl ?_
    refine g_getR (k' := 38) dX8_have_34 (o0 hK) fX8_44 (by decide) (by decide) ?_
    refine g_getR (k' := 40) dX8_have_37 (o38 hK) fX8_133 (by decide) (by decide) ?_
    refine g_iload_n dX8_have_40 rfl ?_
    obtain ⟨q4, h⟩ := h
    obtain ⟨q5, h⟩ := h
    refine g_iald' (nn := 10) dX8_have_41 (r40 hK) rfl q4 q5 ?_
    refine g_aload_n dX8_have_42 rfl ?_
    refine g_getM' (jj := 3) dX8_have_43 (o0 hK) fX8_23 rfl rfl ?_
    refine g_getR (k' := ((mu 0 3) + 2)) dX8_have_46 (q1).ob fX8_137 (by decide) rfl ?_
    refine g_iload_n dX8_have_49 rfl ?_
    refine g_iald' (nn := 10) dX8_have_50 (q1).a2 rfl q4 q5 ?_
    obtain ⟨q6, h⟩ := h
    obtain ⟨q7, h⟩ := h
    refine g_icmp_ne (tgt := 57) dX8_have_51 (by decide) q6 q7 (fun c_ => ?_) (fun c_ => ?_)
    · have h := h.1 c_
      refine g_iinc dX8_have_57 rfl (by decide) rfl ?_
      refine g_goto (tgt := 22) dX8_have_60 (by decide) ?_
      exact g_wk (zwk_s (zwk_s (zwk_s zwk_n))) h
    · have h := h.2 c_
      refine g_iinc dX8_have_54 rfl (by decide) rfl ?_
      refine g_iinc dX8_have_57 rfl (by decide) rfl ?_
      refine g_goto (tgt := 22) dX8_have_60 (by decide) ?_
      exact g_wk (zwk_s (zwk_s (zwk_s zwk_n))) h
theorem sg_X8_isGift_0 {K d : Nat} {mu : Mem} {Q : AV → Mem → Prop} {a1 : Int} (hd : 1 ≤ d) (hK : 64 ≤ K) (h : zC K 0 mX8_within [zI a1, zI 0, zI ((mu 22 4) - 1)] mu (fun v_ nu2 => ∃ r1, v_ = zI r1 ∧ ((r1 = 0 ∨ r1 = 1) ∧ Q (zI r1) nu2))) : zG K d mX8_isGift 0 [zR 0, zI a1] [] mu Q := by
  refine g_iload_n dX8_isGift_0 rfl ?_
  refine g_iconst dX8_isGift_1 ?_
  refine g_aload_n dX8_isGift_2 rfl ?_
  refine g_getR (k' := 22) dX8_isGift_3 (o0 hK) fX8_33 (by decide) (by decide) ?_
  refine g_getI' (jj := 4) dX8_isGift_6 (o22 hK) fX8_180 rfl rfl ?_
  refine g_iconst dX8_isGift_9 ?_
  refine g_isub dX8_isGift_10 ?_
  refine g_callS (Y' := mX8_within) (d' := 0) (As := [zI a1, zI 0, zI ((mu 22 4) - 1)]) (rest := []) dX8_isGift_11 lX8_87 vX8_within (by omega) rfl (Nat.le_of_ble_eq_true rfl) rfl (zC_i h (fun r1 nu2 h => ?_))
  obtain ⟨q3, h⟩ := h
  exact g_zreturn dX8_isGift_14 rfl q3 h
theorem sg_X8_isQueued_0 {K d : Nat} {mu : Mem} {Q : AV → Mem → Prop} {a1 : Int} (hd : 1 ≤ d) (hK : 64 ≤ K) (h : (isP K (mu 0 3) ∧ zC K 0 mX8_within [zI a1, zI 0, zI ((mu (mu 0 3) 3) - 1)] mu (fun v_ nu3 => ∃ r2, v_ = zI r2 ∧ ((r2 = 0 ∨ r2 = 1) ∧ Q (zI r2) nu3)))) : zG K d mX8_isQueued 0 [zR 0, zI a1] [] mu Q := by
  refine g_iload_n dX8_isQueued_0 rfl ?_
  refine g_iconst dX8_isQueued_1 ?_
  refine g_aload_n dX8_isQueued_2 rfl ?_
  refine g_getM' (jj := 3) dX8_isQueued_3 (o0 hK) fX8_23 rfl rfl ?_
  obtain ⟨q1, h⟩ := h
  refine g_getI' (jj := 3) dX8_isQueued_6 (q1).ob fX8_110 rfl rfl ?_
  refine g_iconst dX8_isQueued_9 ?_
  refine g_isub dX8_isQueued_10 ?_
  refine g_callS (Y' := mX8_within) (d' := 0) (As := [zI a1, zI 0, zI ((mu (mu 0 3) 3) - 1)]) (rest := []) dX8_isQueued_11 lX8_87 vX8_within (by omega) rfl (Nat.le_of_ble_eq_true rfl) rfl (zC_i h (fun r2 nu3 h => ?_))
  obtain ⟨q4, h⟩ := h
  exact g_zreturn dX8_isQueued_14 rfl q4 h
theorem sg_X8_isSet_0 {K d : Nat} {mu : Mem} {Q : AV → Mem → Prop} {a1 : Int} (hd : 1 ≤ d) (hK : 64 ≤ K) (h : (isP K (mu 0 3) ∧ zC K 0 mX8_within [zI a1, zI 0, zI ((zshl 1 (mu (mu 0 3) 3)) - 1)] mu (fun v_ nu3 => ∃ r2, v_ = zI r2 ∧ ((r2 = 0 ∨ r2 = 1) ∧ Q (zI r2) nu3)))) : zG K d mX8_isSet 0 [zR 0, zI a1] [] mu Q := by
  refine g_iload_n dX8_isSet_0 rfl ?_
  refine g_iconst dX8_isSet_1 ?_
  refine g_iconst dX8_isSet_2 ?_
  refine g_aload_n dX8_isSet_3 rfl ?_
  refine g_getM' (jj := 3) dX8_isSet_4 (o0 hK) fX8_23 rfl rfl ?_
  obtain ⟨q1, h⟩ := h
  refine g_getI' (jj := 3) dX8_isSet_7 (q1).ob fX8_110 rfl rfl ?_
  refine g_ishl dX8_isSet_10 (zshl_ok _ _) ?_
  refine g_iconst dX8_isSet_11 ?_
  refine g_isub dX8_isSet_12 ?_
  refine g_callS (Y' := mX8_within) (d' := 0) (As := [zI a1, zI 0, zI ((zshl 1 (mu (mu 0 3) 3)) - 1)]) (rest := []) dX8_isSet_13 lX8_87 vX8_within (by omega) rfl (Nat.le_of_ble_eq_true rfl) rfl (zC_i h (fun r2 nu3 h => ?_))
  obtain ⟨q4, h⟩ := h
  exact g_zreturn dX8_isSet_16 rfl q4 h
theorem sg_X8_isSign_0 {K d : Nat} {mu : Mem} {Q : AV → Mem → Prop} {a1 : Int} (hd : 2 ≤ d) (hK : 64 ≤ K) (h : zC K 1 mX8_isThing [zR 0, zI a1] mu (fun v_ nu2 => ∃ r1, v_ = zI r1 ∧ (zin r1 ∧ ((¬ r1 = 0 → Q (zI 1) nu2) ∧ (r1 = 0 → (zin a1 ∧ ((¬ a1 = 6 → Q (zI 0) nu2) ∧ (a1 = 6 → Q (zI 1) nu2)))))))) : zG K d mX8_isSign 0 [zR 0, zI a1] [] mu Q := by
  refine g_aload_n dX8_isSign_0 rfl ?_
  refine g_iload_n dX8_isSign_1 rfl ?_
  refine g_callV (Y' := mX8_isThing) (d' := 1) (As := [zI a1]) (rest := []) dX8_isSign_2 lX8_113 vX8_isThing (by omega) (o0 hK) rfl rfl (Nat.le_of_ble_eq_true rfl) rfl (zC_i h (fun r1 nu2 h => ?_))
  obtain ⟨q3, h⟩ := h
  refine g_if_ne (tgt := 14) dX8_isSign_5 (by decide) q3 (fun c_ => ?_) (fun c_ => ?_)
  · have h := h.1 c_
    refine g_iconst dX8_isSign_14 ?_
    refine g_goto (tgt := 19) dX8_isSign_15 (by decide) ?_
    exact g_zreturn dX8_isSign_19 rfl (by decide) h
  · have h := h.2 c_
    refine g_iload_n dX8_isSign_8 rfl ?_
    refine g_bipush dX8_isSign_9 rfl ?_
    obtain ⟨q4, h⟩ := h
    refine g_icmp_ne (tgt := 18) dX8_isSign_11 (by decide) q4 (zin_d rfl) (fun c_ => ?_) (fun c_ => ?_)
    · have h := h.1 c_
      refine g_iconst dX8_isSign_18 ?_
      exact g_zreturn dX8_isSign_19 rfl (by decide) h
    · have h := h.2 c_
      refine g_iconst dX8_isSign_14 ?_
      refine g_goto (tgt := 19) dX8_isSign_15 (by decide) ?_
      exact g_zreturn dX8_isSign_19 rfl (by decide) h
theorem sg_X8_isThing_0 {K d : Nat} {mu : Mem} {Q : AV → Mem → Prop} {a1 : Int} (hd : 1 ≤ d) (hK : 64 ≤ K) (h : (isP K (mu 0 3) ∧ zC K 0 mX8_within [zI a1, zI 0, zI ((mu (mu 0 3) 0) - 1)] mu (fun v_ nu3 => ∃ r2, v_ = zI r2 ∧ ((r2 = 0 ∨ r2 = 1) ∧ Q (zI r2) nu3)))) : zG K d mX8_isThing 0 [zR 0, zI a1] [] mu Q := by
  refine g_iload_n dX8_isThing_0 rfl ?_
  refine g_iconst dX8_isThing_1 ?_
  refine g_aload_n dX8_isThing_2 rfl ?_
  refine g_getM' (jj := 3) dX8_isThing_3 (o0 hK) fX8_23 rfl rfl ?_
  obtain ⟨q1, h⟩ := h
  refine g_getI' (jj := 0) dX8_isThing_6 (q1).ob fX8_250 rfl rfl ?_
  refine g_iconst dX8_isThing_9 ?_
  refine g_isub dX8_isThing_10 ?_
  refine g_callS (Y' := mX8_within) (d' := 0) (As := [zI a1, zI 0, zI ((mu (mu 0 3) 0) - 1)]) (rest := []) dX8_isThing_11 lX8_87 vX8_within (by omega) rfl (Nat.le_of_ble_eq_true rfl) rfl (zC_i h (fun r2 nu3 h => ?_))
  obtain ⟨q4, h⟩ := h
  exact g_zreturn dX8_isThing_14 rfl q4 h
theorem sg_X8_keep_0 {K d : Nat} {mu : Mem} {Q : AV → Mem → Prop} (hd : 2 ≤ d) (hK : 64 ≤ K) (h : (zin (mu 0 7) ∧ (((mu 0 7) < 2 → (0 ≤ (mu 0 7) ∧ (mu 0 7) < 2 ∧ isS K (27 + 1 + 5 * (mu 0 7)) ∧ zC K 1 mX6_copyFrom [zR (27 + 1 + 5 * (mu 0 7)), zR 22] mu (fun v_ nu5 => v_ = zV ∧ Q (zI ((zup nu5 0 7 ((nu5 0 7) + 1)) 0 7)) (zup nu5 0 7 ((nu5 0 7) + 1))))) ∧ (¬ (mu 0 7) < 2 → Q (zI (-3)) mu)))) : zG K d mX8_keep 0 [zR 0] [] mu Q := by
  refine g_aload_n dX8_keep_0 rfl ?_
  refine g_getI' (jj := 7) dX8_keep_1 (o0 hK) fX8_103 rfl rfl ?_
  refine g_iconst dX8_keep_4 ?_
  obtain ⟨q1, h⟩ := h
  refine g_icmp_lt (tgt := 11) dX8_keep_5 (by decide) q1 (zin_d rfl) (fun c_ => ?_) (fun c_ => ?_)
  · have h := h.1 c_
    refine g_aload_n dX8_keep_11 rfl ?_
    refine g_getR (k' := 27) dX8_keep_12 (o0 hK) fX8_37 (by decide) (by decide) ?_
    refine g_aload_n dX8_keep_15 rfl ?_
    refine g_getI' (jj := 7) dX8_keep_16 (o0 hK) fX8_103 rfl rfl ?_
    obtain ⟨q2, h⟩ := h
    obtain ⟨q3, h⟩ := h
    refine g_aald' (nn := 2) (k' := (27 + 1 + 5 * (mu 0 7))) dX8_keep_19 (r27 hK) rfl q2 q3 rfl ?_
    refine g_aload_n dX8_keep_20 rfl ?_
    refine g_getR (k' := 22) dX8_keep_21 (o0 hK) fX8_33 (by decide) (by decide) ?_
    obtain ⟨q6, h⟩ := h
    refine g_callV (Y' := mX6_copyFrom) (d' := 1) (As := [zR 22]) (rest := []) dX8_keep_24 lX8_246 vX6_copyFrom (by omega) (q6).ob rfl rfl (Nat.le_of_ble_eq_true rfl) rfl (zC_v h (fun nu5 h => ?_))
    refine g_aload_n dX8_keep_27 rfl ?_
    refine g_dup dX8_keep_28 (by simp) ?_
    refine g_getI' (jj := 7) dX8_keep_29 (o0 hK) fX8_103 rfl rfl ?_
    refine g_iconst dX8_keep_32 ?_
    refine g_iadd dX8_keep_33 ?_
    refine g_putI' (jj := 7) dX8_keep_34 (o0 hK) pX8_103 rfl rfl ?_
    refine g_aload_n dX8_keep_37 rfl ?_
    refine g_getI' (jj := 7) dX8_keep_38 (o0 hK) fX8_103 rfl rfl ?_
    exact g_ireturn dX8_keep_41 rfl h
  · have h := h.2 c_
    refine g_bipush dX8_keep_8 rfl ?_
    exact g_ireturn dX8_keep_10 rfl h
theorem sg_X8_lay_0 {K d : Nat} {mu : Mem} {Q : AV → Mem → Prop} (hd : 6 ≤ d) (hK : 64 ≤ K) (h : zC K 5 mX4_readInto [zR 2, zR (mu 0 4), zR 1, zI (mu 0 1)] mu (fun v_ nu2 => ∃ r1, v_ = zI r1 ∧ (zin r1 ∧ ((¬ r1 = (-4) → Q (zI (-2)) nu2) ∧ (r1 = (-4) → (isP K (nu2 0 4) ∧ zC K 0 mX2_holdsTogether [zR (nu2 0 4)] nu2 (fun v_ nu5 => ∃ r4, v_ = zI r4 ∧ (zin r4 ∧ ((¬ r4 = 0 → zC K 1 mX6_begin [zR 22, zR ((zup (zup nu5 0 3 (nu5 0 4)) 0 4 (nu5 0 3)) 0 3)] (zup (zup nu5 0 3 (nu5 0 4)) 0 4 (nu5 0 3)) (fun v_ nu9 => v_ = zV ∧ zC K 0 mX1_forget [zR 42] (zup nu9 0 7 0) (fun v_ nu11 => v_ = zV ∧ zC K 0 mX7_forget [zR 46] nu11 (fun v_ nu13 => v_ = zV ∧ (isP K (nu13 0 3) ∧ Q (zI (nu13 (nu13 0 3) 3)) nu13))))) ∧ (r4 = 0 → Q (zI (-2)) nu5)))))))))) : zG K d mX8_lay 0 [zR 0, zU] [] mu Q := by
  refine g_aload_n dX8_lay_0 rfl ?_
  refine g_getR (k' := 2) dX8_lay_1 (o0 hK) fX8_16 (by decide) (by decide) ?_
  refine g_aload_n dX8_lay_4 rfl ?_
  refine g_getM' (jj := 4) dX8_lay_5 (o0 hK) fX8_27 rfl rfl ?_
  refine g_aload_n dX8_lay_8 rfl ?_
  refine g_getR (k' := 1) dX8_lay_9 (o0 hK) fX8_9 (by decide) (by decide) ?_
  refine g_aload_n dX8_lay_12 rfl ?_
  refine g_getI' (jj := 1) dX8_lay_13 (o0 hK) fX8_91 rfl rfl ?_
  refine g_callV (Y' := mX4_readInto) (d' := 5) (As := [zR (mu 0 4), zR 1, zI (mu 0 1)]) (rest := []) dX8_lay_16 lX8_95 vX4_readInto (by omega) (o2 hK) rfl rfl (Nat.le_of_ble_eq_true rfl) rfl (zC_i h (fun r1 nu2 h => ?_))
  refine g_bipush dX8_lay_19 rfl ?_
  obtain ⟨q3, h⟩ := h
  refine g_icmp_ne (tgt := 34) dX8_lay_21 (by decide) q3 (zin_d rfl) (fun c_ => ?_) (fun c_ => ?_)
  · have h := h.1 c_
    refine g_bipush dX8_lay_34 rfl ?_
    exact g_ireturn dX8_lay_36 rfl h
  · have h := h.2 c_
    refine g_aload_n dX8_lay_24 rfl ?_
    refine g_getM' (jj := 4) dX8_lay_25 (o0 hK) fX8_27 rfl rfl ?_
    obtain ⟨q6, h⟩ := h
    refine g_callV (Y' := mX2_holdsTogether) (d' := 0) (As := []) (rest := []) dX8_lay_28 lX8_99 vX2_holdsTogether (by omega) (q6).ob rfl rfl (Nat.le_of_ble_eq_true rfl) rfl (zC_i h (fun r4 nu5 h => ?_))
    obtain ⟨q7, h⟩ := h
    refine g_if_ne (tgt := 37) dX8_lay_31 (by decide) q7 (fun c_ => ?_) (fun c_ => ?_)
    · have h := h.1 c_
      refine g_aload_n dX8_lay_37 rfl ?_
      refine g_getM' (jj := 3) dX8_lay_38 (o0 hK) fX8_23 rfl rfl ?_
      refine g_astore_n dX8_lay_41 (by decide) rfl ?_
      refine g_aload_n dX8_lay_42 rfl ?_
      refine g_aload_n dX8_lay_43 rfl ?_
      refine g_getM' (jj := 4) dX8_lay_44 (o0 hK) fX8_27 rfl rfl ?_
      refine g_putM' (jj := 3) dX8_lay_47 (o0 hK) pX8_23 rfl rfl ?_
      refine g_aload_n dX8_lay_50 rfl ?_
      refine g_aload_n dX8_lay_51 rfl ?_
      refine g_putM' (jj := 4) dX8_lay_52 (o0 hK) pX8_27 rfl rfl ?_
      refine g_aload_n dX8_lay_55 rfl ?_
      refine g_getR (k' := 22) dX8_lay_56 (o0 hK) fX8_33 (by decide) (by decide) ?_
      refine g_aload_n dX8_lay_59 rfl ?_
      refine g_getM' (jj := 3) dX8_lay_60 (o0 hK) fX8_23 rfl rfl ?_
      refine g_callV (Y' := mX6_begin) (d' := 1) (As := [zR ((zup (zup nu5 0 3 (nu5 0 4)) 0 4 (nu5 0 3)) 0 3)]) (rest := []) dX8_lay_63 lX8_83 vX6_begin (by omega) (o22 hK) rfl rfl (Nat.le_of_ble_eq_true rfl) rfl (zC_v h (fun nu9 h => ?_))
      refine g_aload_n dX8_lay_66 rfl ?_
      refine g_iconst dX8_lay_67 ?_
      refine g_putI' (jj := 7) dX8_lay_68 (o0 hK) pX8_103 rfl rfl ?_
      refine g_aload_n dX8_lay_71 rfl ?_
      refine g_getR (k' := 42) dX8_lay_72 (o0 hK) fX8_51 (by decide) (by decide) ?_
      refine g_callV (Y' := mX1_forget) (d' := 0) (As := []) (rest := []) dX8_lay_75 lX8_106 vX1_forget (by omega) (o42 hK) rfl rfl (Nat.le_of_ble_eq_true rfl) rfl (zC_v h (fun nu11 h => ?_))
      refine g_aload_n dX8_lay_78 rfl ?_
      refine g_getR (k' := 46) dX8_lay_79 (o0 hK) fX8_58 (by decide) (by decide) ?_
      refine g_callV (Y' := mX7_forget) (d' := 0) (As := []) (rest := []) dX8_lay_82 lX8_109 vX7_forget (by omega) (o46 hK) rfl rfl (Nat.le_of_ble_eq_true rfl) rfl (zC_v h (fun nu13 h => ?_))
      refine g_aload_n dX8_lay_85 rfl ?_
      refine g_getM' (jj := 3) dX8_lay_86 (o0 hK) fX8_23 rfl rfl ?_
      obtain ⟨q14, h⟩ := h
      refine g_getI' (jj := 3) dX8_lay_89 (q14).ob fX8_110 rfl rfl ?_
      exact g_ireturn dX8_lay_92 rfl h
    · have h := h.2 c_
      refine g_bipush dX8_lay_34 rfl ?_
      exact g_ireturn dX8_lay_36 rfl h
theorem sg_X8_likeliest_0 {K d : Nat} {mu : Mem} {Q : AV → Mem → Prop} {a1 : Int} (hd : 5 ≤ d) (hK : 64 ≤ K) (h : zC K 1 mX8_isGift [zR 0, zI a1] mu (fun v_ nu2 => ∃ r1, v_ = zI r1 ∧ (zin r1 ∧ ((¬ r1 = 0 → (isP K (nu2 0 3) ∧ zC K 0 mX2_remembersTwo [zR (nu2 0 3)] nu2 (fun v_ nu5 => ∃ r4, v_ = zI r4 ∧ (zin r4 ∧ ((¬ r4 = 0 → zC K 4 mX5_findLikeliest [zR 51, zR (nu5 0 3), zR 22] nu5 (fun v_ nu9 => ∃ r8, v_ = zI r8 ∧ (zin r8 ∧ ((r8 = 0 → Q (zI (-4)) nu9) ∧ (¬ r8 = 0 → (0 ≤ a1 ∧ a1 < 10 ∧ Q (zI (nu9 52 a1)) nu9)))))) ∧ (r4 = 0 → Q (zI (-2)) nu5)))))) ∧ (r1 = 0 → Q (zI (-1)) nu2))))) : zG K d mX8_likeliest 0 [zR 0, zI a1] [] mu Q := by
  refine g_aload_n dX8_likeliest_0 rfl ?_
  refine g_iload_n dX8_likeliest_1 rfl ?_
  refine g_callV (Y' := mX8_isGift) (d' := 1) (As := [zI a1]) (rest := []) dX8_likeliest_2 lX8_197 vX8_isGift (by omega) (o0 hK) rfl rfl (Nat.le_of_ble_eq_true rfl) rfl (zC_i h (fun r1 nu2 h => ?_))
  obtain ⟨q3, h⟩ := h
  refine g_if_ne (tgt := 10) dX8_likeliest_5 (by decide) q3 (fun c_ => ?_) (fun c_ => ?_)
  · have h := h.1 c_
    refine g_aload_n dX8_likeliest_10 rfl ?_
    refine g_getM' (jj := 3) dX8_likeliest_11 (o0 hK) fX8_23 rfl rfl ?_
    obtain ⟨q6, h⟩ := h
    refine g_callV (Y' := mX2_remembersTwo) (d' := 0) (As := []) (rest := []) dX8_likeliest_14 lX8_147 vX2_remembersTwo (by omega) (q6).ob rfl rfl (Nat.le_of_ble_eq_true rfl) rfl (zC_i h (fun r4 nu5 h => ?_))
    obtain ⟨q7, h⟩ := h
    refine g_if_ne (tgt := 23) dX8_likeliest_17 (by decide) q7 (fun c_ => ?_) (fun c_ => ?_)
    · have h := h.1 c_
      refine g_aload_n dX8_likeliest_23 rfl ?_
      refine g_getR (k' := 51) dX8_likeliest_24 (o0 hK) fX8_65 (by decide) (by decide) ?_
      refine g_aload_n dX8_likeliest_27 rfl ?_
      refine g_getM' (jj := 3) dX8_likeliest_28 (o0 hK) fX8_23 rfl rfl ?_
      refine g_aload_n dX8_likeliest_31 rfl ?_
      refine g_getR (k' := 22) dX8_likeliest_32 (o0 hK) fX8_33 (by decide) (by decide) ?_
      refine g_callV (Y' := mX5_findLikeliest) (d' := 4) (As := [zR (nu5 0 3), zR 22]) (rest := []) dX8_likeliest_35 lX8_210 vX5_findLikeliest (by omega) (o51 hK) rfl rfl (Nat.le_of_ble_eq_true rfl) rfl (zC_i h (fun r8 nu9 h => ?_))
      obtain ⟨q10, h⟩ := h
      refine g_if_eq (tgt := 53) dX8_likeliest_38 (by decide) q10 (fun c_ => ?_) (fun c_ => ?_)
      · have h := h.1 c_
        refine g_bipush dX8_likeliest_53 rfl ?_
        exact g_ireturn dX8_likeliest_55 rfl h
      · have h := h.2 c_
        refine g_aload_n dX8_likeliest_41 rfl ?_
        refine g_getR (k' := 51) dX8_likeliest_42 (o0 hK) fX8_65 (by decide) (by decide) ?_
        refine g_getR (k' := 52) dX8_likeliest_45 (o51 hK) fX8_214 (by decide) (by decide) ?_
        refine g_iload_n dX8_likeliest_48 rfl ?_
        obtain ⟨q11, h⟩ := h
        obtain ⟨q12, h⟩ := h
        refine g_iald' (nn := 10) dX8_likeliest_49 (r52 hK) rfl q11 q12 ?_
        refine g_goto (tgt := 55) dX8_likeliest_50 (by decide) ?_
        exact g_ireturn dX8_likeliest_55 rfl h
    · have h := h.2 c_
      refine g_bipush dX8_likeliest_20 rfl ?_
      exact g_ireturn dX8_likeliest_22 rfl h
  · have h := h.2 c_
    refine g_iconst dX8_likeliest_8 ?_
    exact g_ireturn dX8_likeliest_9 rfl h
theorem sg_X8_majority_0 {K d : Nat} {mu : Mem} {Q : AV → Mem → Prop} {a0 a1 a2 : Int} (hd : 0 ≤ d) (hK : 64 ≤ K) (h : (zin a2 ∧ zin a0 ∧ ((a2 = a0 → Q (zI a2) mu) ∧ (¬ a2 = a0 → (zin a1 ∧ ((¬ a2 = a1 → ((¬ a0 = a1 → Q (zI 6) mu) ∧ (a0 = a1 → Q (zI a0) mu))) ∧ (a2 = a1 → Q (zI a2) mu))))))) : zG K d mX8_majority 0 [zI a0, zI a1, zI a2] [] mu Q := by
  refine g_iload_n dX8_majority_0 rfl ?_
  refine g_iload_n dX8_majority_1 rfl ?_
  obtain ⟨q1, h⟩ := h
  obtain ⟨q2, h⟩ := h
  refine g_icmp_eq (tgt := 10) dX8_majority_2 (by decide) q1 q2 (fun c_ => ?_) (fun c_ => ?_)
  · have h := h.1 c_
    refine g_iload_n dX8_majority_10 rfl ?_
    exact g_ireturn dX8_majority_11 rfl h
  · have h := h.2 c_
    refine g_iload_n dX8_majority_5 rfl ?_
    refine g_iload_n dX8_majority_6 rfl ?_
    obtain ⟨q3, h⟩ := h
    refine g_icmp_ne (tgt := 12) dX8_majority_7 (by decide) q1 q3 (fun c_ => ?_) (fun c_ => ?_)
    · have h := h.1 c_
      refine g_iload_n dX8_majority_12 rfl ?_
      refine g_iload_n dX8_majority_13 rfl ?_
      refine g_icmp_ne (tgt := 21) dX8_majority_14 (by decide) q2 q3 (fun c_ => ?_) (fun c_ => ?_)
      · have h := h.1 c_
        refine g_bipush dX8_majority_21 rfl ?_
        exact g_ireturn dX8_majority_23 rfl h
      · have h := h.2 c_
        refine g_iload_n dX8_majority_17 rfl ?_
        refine g_goto (tgt := 23) dX8_majority_18 (by decide) ?_
        exact g_ireturn dX8_majority_23 rfl h
    · have h := h.2 c_
      refine g_iload_n dX8_majority_10 rfl ?_
      exact g_ireturn dX8_majority_11 rfl h
theorem sg_X8_noGifts_0 {K d : Nat} {mu : Mem} {Q : AV → Mem → Prop} (hd : 0 ≤ d) (hK : 64 ≤ K) (h : Q (zI (mu 22 4)) (zup mu 22 4 0)) : zG K d mX8_noGifts 0 [zR 0, zU] [] mu Q := by
  refine g_aload_n dX8_noGifts_0 rfl ?_
  refine g_getR (k' := 22) dX8_noGifts_1 (o0 hK) fX8_33 (by decide) (by decide) ?_
  refine g_getI' (jj := 4) dX8_noGifts_4 (o22 hK) fX8_180 rfl rfl ?_
  refine g_istore_n dX8_noGifts_7 (by decide) rfl ?_
  refine g_aload_n dX8_noGifts_8 rfl ?_
  refine g_getR (k' := 22) dX8_noGifts_9 (o0 hK) fX8_33 (by decide) (by decide) ?_
  refine g_iconst dX8_noGifts_12 ?_
  refine g_putI' (jj := 4) dX8_noGifts_13 (o22 hK) pX8_180 rfl rfl ?_
  refine g_iload_n dX8_noGifts_16 rfl ?_
  exact g_ireturn dX8_noGifts_17 rfl h
theorem sg_X8_odds_0 {K d : Nat} {mu : Mem} {Q : AV → Mem → Prop} {a1 a2 a3 : Int} (hd : 6 ≤ d) (hK : 64 ≤ K) (h : zC K 1 mX8_isGift [zR 0, zI a1] mu (fun v_ nu2 => ∃ r1, v_ = zI r1 ∧ (zin r1 ∧ ((r1 = 0 → Q (zJ (-1)) nu2) ∧ (¬ r1 = 0 → zC K 1 mX8_isThing [zR 0, zI a2] nu2 (fun v_ nu5 => ∃ r4, v_ = zI r4 ∧ (zin r4 ∧ ((r4 = 0 → Q (zJ (-1)) nu5) ∧ (¬ r4 = 0 → zC K 0 mX8_within [zI a3, zI 0, zI 1] nu5 (fun v_ nu8 => ∃ r7, v_ = zI r7 ∧ (zin r7 ∧ ((¬ r7 = 0 → (isP K (nu8 0 3) ∧ zC K 0 mX2_remembersTwo [zR (nu8 0 3)] nu8 (fun v_ nu11 => ∃ r10, v_ = zI r10 ∧ (zin r10 ∧ ((¬ r10 = 0 → zC K 5 mX5_weight [zR 51, zR (nu11 0 3), zR 22] nu11 (fun v_ nu15 => ∃ r14, v_ = zJ r14 ∧ (zil r14 ∧ ((0 < r14 → zC K 4 mX5_weightWith [zR 51, zR (nu15 0 3), zR 22, zI a1, zI a2] nu15 (fun v_ nu18 => ∃ r17, v_ = zJ r17 ∧ zC K 0 mX8_commonDivisor [zJ r14, zJ r17] nu18 (fun v_ nu20 => ∃ r19, v_ = zJ r19 ∧ (zil r19 ∧ ((0 < r19 → (zin a3 ∧ ((¬ a3 = 0 → (0 < r19 ∧ Q (zJ (r14.tdiv r19)) nu20)) ∧ (a3 = 0 → (zil r17 ∧ 0 < r19 ∧ Q (zJ (r17.tdiv r19)) nu20))))) ∧ (¬ 0 < r19 → Q (zJ (-4)) nu20)))))) ∧ (¬ 0 < r14 → Q (zJ (-4)) nu15))))) ∧ (r10 = 0 → Q (zJ (-2)) nu11)))))) ∧ (r7 = 0 → Q (zJ (-1)) nu8))))))))))))) : zG K d mX8_odds 0 [zR 0, zI a1, zI a2, zI a3, zU, zU, zU, zU, zU, zU] [] mu Q := by
  refine g_aload_n dX8_odds_0 rfl ?_
  refine g_iload_n dX8_odds_1 rfl ?_
  refine g_callV (Y' := mX8_isGift) (d' := 1) (As := [zI a1]) (rest := []) dX8_odds_2 lX8_197 vX8_isGift (by omega) (o0 hK) rfl rfl (Nat.le_of_ble_eq_true rfl) rfl (zC_i h (fun r1 nu2 h => ?_))
  obtain ⟨q3, h⟩ := h
  refine g_if_eq (tgt := 25) dX8_odds_5 (by decide) q3 (fun c_ => ?_) (fun c_ => ?_)
  · have h := h.1 c_
    refine g_ldc2 (x := (-1)) (zc64 (x := (-1)) (v := (-1)) (by decide +kernel) kX8_186) dX8_odds_25 ?_
    exact g_lreturn dX8_odds_28 rfl h
  · have h := h.2 c_
    refine g_aload_n dX8_odds_8 rfl ?_
    refine g_iload_n dX8_odds_9 rfl ?_
    refine g_callV (Y' := mX8_isThing) (d' := 1) (As := [zI a2]) (rest := []) dX8_odds_10 lX8_113 vX8_isThing (by omega) (o0 hK) rfl rfl (Nat.le_of_ble_eq_true rfl) rfl (zC_i h (fun r4 nu5 h => ?_))
    obtain ⟨q6, h⟩ := h
    refine g_if_eq (tgt := 25) dX8_odds_13 (by decide) q6 (fun c_ => ?_) (fun c_ => ?_)
    · have h := h.1 c_
      refine g_ldc2 (x := (-1)) (zc64 (x := (-1)) (v := (-1)) (by decide +kernel) kX8_186) dX8_odds_25 ?_
      exact g_lreturn dX8_odds_28 rfl h
    · have h := h.2 c_
      refine g_iload_n dX8_odds_16 rfl ?_
      refine g_iconst dX8_odds_17 ?_
      refine g_iconst dX8_odds_18 ?_
      refine g_callS (Y' := mX8_within) (d' := 0) (As := [zI a3, zI 0, zI 1]) (rest := []) dX8_odds_19 lX8_87 vX8_within (by omega) rfl (Nat.le_of_ble_eq_true rfl) rfl (zC_i h (fun r7 nu8 h => ?_))
      obtain ⟨q9, h⟩ := h
      refine g_if_ne (tgt := 29) dX8_odds_22 (by decide) q9 (fun c_ => ?_) (fun c_ => ?_)
      · have h := h.1 c_
        refine g_aload_n dX8_odds_29 rfl ?_
        refine g_getM' (jj := 3) dX8_odds_30 (o0 hK) fX8_23 rfl rfl ?_
        obtain ⟨q12, h⟩ := h
        refine g_callV (Y' := mX2_remembersTwo) (d' := 0) (As := []) (rest := []) dX8_odds_33 lX8_147 vX2_remembersTwo (by omega) (q12).ob rfl rfl (Nat.le_of_ble_eq_true rfl) rfl (zC_i h (fun r10 nu11 h => ?_))
        obtain ⟨q13, h⟩ := h
        refine g_if_ne (tgt := 43) dX8_odds_36 (by decide) q13 (fun c_ => ?_) (fun c_ => ?_)
        · have h := h.1 c_
          refine g_aload_n dX8_odds_43 rfl ?_
          refine g_getR (k' := 51) dX8_odds_44 (o0 hK) fX8_65 (by decide) (by decide) ?_
          refine g_aload_n dX8_odds_47 rfl ?_
          refine g_getM' (jj := 3) dX8_odds_48 (o0 hK) fX8_23 rfl rfl ?_
          refine g_aload_n dX8_odds_51 rfl ?_
          refine g_getR (k' := 22) dX8_odds_52 (o0 hK) fX8_33 (by decide) (by decide) ?_
          refine g_callV (Y' := mX5_weight) (d' := 5) (As := [zR (nu11 0 3), zR 22]) (rest := []) dX8_odds_55 lX8_194 vX5_weight (by omega) (o51 hK) rfl rfl (Nat.le_of_ble_eq_true rfl) rfl (zC_j h (fun r14 nu15 h => ?_))
          refine g_lstore dX8_odds_58 (by decide) rfl ?_
          refine g_lload dX8_odds_60 rfl ?_
          refine g_lconst (x := 0) dX8_odds_62 rfl ?_
          obtain ⟨q16, h⟩ := h
          refine g_lcmp_gt (tgt := 71) dX8_odds_63 dX8_odds_64 (by decide) q16 (zil_d rfl) (fun c_ => ?_) (fun c_ => ?_)
          · have h := h.1 c_
            refine g_aload_n dX8_odds_71 rfl ?_
            refine g_getR (k' := 51) dX8_odds_72 (o0 hK) fX8_65 (by decide) (by decide) ?_
            refine g_aload_n dX8_odds_75 rfl ?_
            refine g_getM' (jj := 3) dX8_odds_76 (o0 hK) fX8_23 rfl rfl ?_
            refine g_aload_n dX8_odds_79 rfl ?_
            refine g_getR (k' := 22) dX8_odds_80 (o0 hK) fX8_33 (by decide) (by decide) ?_
            refine g_iload_n dX8_odds_83 rfl ?_
            refine g_iload_n dX8_odds_84 rfl ?_
            refine g_callV (Y' := mX5_weightWith) (d' := 4) (As := [zR (nu15 0 3), zR 22, zI a1, zI a2]) (rest := []) dX8_odds_85 lX8_202 vX5_weightWith (by omega) (o51 hK) rfl rfl (Nat.le_of_ble_eq_true rfl) rfl (zC_j h (fun r17 nu18 h => ?_))
            refine g_lstore dX8_odds_88 (by decide) rfl ?_
            refine g_lload dX8_odds_90 rfl ?_
            refine g_lload dX8_odds_92 rfl ?_
            refine g_callS (Y' := mX8_commonDivisor) (d' := 0) (As := [zJ r14, zJ r17]) (rest := []) dX8_odds_94 lX8_206 vX8_commonDivisor (by omega) rfl (Nat.le_of_ble_eq_true rfl) rfl (zC_j h (fun r19 nu20 h => ?_))
            refine g_lstore dX8_odds_97 (by decide) rfl ?_
            refine g_lload dX8_odds_99 rfl ?_
            refine g_lconst (x := 0) dX8_odds_101 rfl ?_
            obtain ⟨q21, h⟩ := h
            refine g_lcmp_gt (tgt := 110) dX8_odds_102 dX8_odds_103 (by decide) q21 (zil_d rfl) (fun c_ => ?_) (fun c_ => ?_)
            · have h := h.1 c_
              refine g_iload_n dX8_odds_110 rfl ?_
              obtain ⟨q22, h⟩ := h
              refine g_if_ne (tgt := 119) dX8_odds_111 (by decide) q22 (fun c_ => ?_) (fun c_ => ?_)
              · have h := h.1 c_
                refine g_lload dX8_odds_119 rfl ?_
                refine g_lload dX8_odds_121 rfl ?_
                obtain ⟨q23, h⟩ := h
                refine g_ldiv dX8_odds_123 q16 q21 q23 ?_
                exact g_lreturn dX8_odds_124 rfl h
              · have h := h.2 c_
                refine g_lload dX8_odds_114 rfl ?_
                refine g_goto (tgt := 121) dX8_odds_116 (by decide) ?_
                refine g_lload dX8_odds_121 rfl ?_
                obtain ⟨q24, h⟩ := h
                obtain ⟨q25, h⟩ := h
                refine g_ldiv dX8_odds_123 q24 q21 q25 ?_
                exact g_lreturn dX8_odds_124 rfl h
            · have h := h.2 c_
              refine g_ldc2 (x := (-4)) (zc64 (x := (-4)) (v := (-4)) (by decide +kernel) kX8_200) dX8_odds_106 ?_
              exact g_lreturn dX8_odds_109 rfl h
          · have h := h.2 c_
            refine g_ldc2 (x := (-4)) (zc64 (x := (-4)) (v := (-4)) (by decide +kernel) kX8_200) dX8_odds_67 ?_
            exact g_lreturn dX8_odds_70 rfl h
        · have h := h.2 c_
          refine g_ldc2 (x := (-2)) (zc64 (x := (-2)) (v := (-2)) (by decide +kernel) kX8_188) dX8_odds_39 ?_
          exact g_lreturn dX8_odds_42 rfl h
      · have h := h.2 c_
        refine g_ldc2 (x := (-1)) (zc64 (x := (-1)) (v := (-1)) (by decide +kernel) kX8_186) dX8_odds_25 ?_
        exact g_lreturn dX8_odds_28 rfl h
theorem sg_X8_order_0 {K d : Nat} {mu : Mem} {Q : AV → Mem → Prop} {a1 a2 : Int} (hd : 34 ≤ d) (hK : 64 ≤ K) (h : zC K 1 mX8_isSet [zR 0, zI a1] mu (fun v_ nu2 => ∃ r1, v_ = zI r1 ∧ (zin r1 ∧ ((r1 = 0 → Q (zI (-1)) nu2) ∧ (¬ r1 = 0 → (zin a2 ∧ ((a2 = (-1) → (isP K (nu2 0 3) ∧ zC K 0 mX2_remembersTwo [zR (nu2 0 3)] nu2 (fun v_ nu6 => ∃ r5, v_ = zI r5 ∧ (zin r5 ∧ ((¬ r5 = 0 → zC K 33 mX1_find [zR 42, zR (nu6 0 3), zI a1] nu6 (fun v_ nu10 => v_ = zV ∧ (zin (nu10 42 1) ∧ ((0 ≤ (nu10 42 1) → ((¬ a2 = (-1) → (0 ≤ a2 ∧ a2 < 10 ∧ Q (zI (nu10 43 a2)) nu10)) ∧ (a2 = (-1) → Q (zI (nu10 42 1)) nu10))) ∧ (¬ 0 ≤ (nu10 42 1) → Q (zI (-4)) nu10))))) ∧ (r5 = 0 → Q (zI (-2)) nu6)))))) ∧ (¬ a2 = (-1) → zC K 1 mX8_isQueued [zR 0, zI a2] nu2 (fun v_ nu15 => ∃ r14, v_ = zI r14 ∧ (zin r14 ∧ ((¬ r14 = 0 → (isP K (nu15 0 3) ∧ zC K 0 mX2_remembersTwo [zR (nu15 0 3)] nu15 (fun v_ nu18 => ∃ r17, v_ = zI r17 ∧ (zin r17 ∧ ((¬ r17 = 0 → zC K 33 mX1_find [zR 42, zR (nu18 0 3), zI a1] nu18 (fun v_ nu22 => v_ = zV ∧ (zin (nu22 42 1) ∧ ((0 ≤ (nu22 42 1) → ((¬ a2 = (-1) → (0 ≤ a2 ∧ a2 < 10 ∧ Q (zI (nu22 43 a2)) nu22)) ∧ (a2 = (-1) → Q (zI (nu22 42 1)) nu22))) ∧ (¬ 0 ≤ (nu22 42 1) → Q (zI (-4)) nu22))))) ∧ (r17 = 0 → Q (zI (-2)) nu18)))))) ∧ (r14 = 0 → Q (zI (-1)) nu15)))))))))))) : zG K d mX8_order 0 [zR 0, zI a1, zI a2] [] mu Q := by
  refine g_aload_n dX8_order_0 rfl ?_
  refine g_iload_n dX8_order_1 rfl ?_
  refine g_callV (Y' := mX8_isSet) (d' := 1) (As := [zI a1]) (rest := []) dX8_order_2 lX8_144 vX8_isSet (by omega) (o0 hK) rfl rfl (Nat.le_of_ble_eq_true rfl) rfl (zC_i h (fun r1 nu2 h => ?_))
  obtain ⟨q3, h⟩ := h
  refine g_if_eq (tgt := 21) dX8_order_5 (by decide) q3 (fun c_ => ?_) (fun c_ => ?_)
  · have h := h.1 c_
    refine g_iconst dX8_order_21 ?_
    exact g_ireturn dX8_order_22 rfl h
  · have h := h.2 c_
    refine g_iload_n dX8_order_8 rfl ?_
    refine g_iconst dX8_order_9 ?_
    obtain ⟨q4, h⟩ := h
    refine g_icmp_eq (tgt := 23) dX8_order_10 (by decide) q4 (zin_d rfl) (fun c_ => ?_) (fun c_ => ?_)
    · have h := h.1 c_
      refine g_aload_n dX8_order_23 rfl ?_
      refine g_getM' (jj := 3) dX8_order_24 (o0 hK) fX8_23 rfl rfl ?_
      obtain ⟨q7, h⟩ := h
      refine g_callV (Y' := mX2_remembersTwo) (d' := 0) (As := []) (rest := []) dX8_order_27 lX8_147 vX2_remembersTwo (by omega) (q7).ob rfl rfl (Nat.le_of_ble_eq_true rfl) rfl (zC_i h (fun r5 nu6 h => ?_))
      obtain ⟨q8, h⟩ := h
      refine g_if_ne (tgt := 36) dX8_order_30 (by decide) q8 (fun c_ => ?_) (fun c_ => ?_)
      · have h := h.1 c_
        refine g_aload_n dX8_order_36 rfl ?_
        refine g_getR (k' := 42) dX8_order_37 (o0 hK) fX8_51 (by decide) (by decide) ?_
        refine g_aload_n dX8_order_40 rfl ?_
        refine g_getM' (jj := 3) dX8_order_41 (o0 hK) fX8_23 rfl rfl ?_
        refine g_iload_n dX8_order_44 rfl ?_
        refine g_callV (Y' := mX1_find) (d' := 33) (As := [zR (nu6 0 3), zI a1]) (rest := []) dX8_order_45 lX8_150 vX1_find (by omega) (o42 hK) rfl rfl (Nat.le_of_ble_eq_true rfl) rfl (zC_v h (fun nu10 h => ?_))
        refine g_aload_n dX8_order_48 rfl ?_
        refine g_getR (k' := 42) dX8_order_49 (o0 hK) fX8_51 (by decide) (by decide) ?_
        refine g_getI' (jj := 1) dX8_order_52 (o42 hK) fX8_153 rfl rfl ?_
        obtain ⟨q11, h⟩ := h
        refine g_if_ge (tgt := 61) dX8_order_55 (by decide) q11 (fun c_ => ?_) (fun c_ => ?_)
        · have h := h.1 c_
          refine g_iload_n dX8_order_61 rfl ?_
          refine g_iconst dX8_order_62 ?_
          refine g_icmp_ne (tgt := 76) dX8_order_63 (by decide) q4 (zin_d rfl) (fun c_ => ?_) (fun c_ => ?_)
          · have h := h.1 c_
            refine g_aload_n dX8_order_76 rfl ?_
            refine g_getR (k' := 42) dX8_order_77 (o0 hK) fX8_51 (by decide) (by decide) ?_
            refine g_getR (k' := 43) dX8_order_80 (o42 hK) fX8_156 (by decide) (by decide) ?_
            refine g_iload_n dX8_order_83 rfl ?_
            obtain ⟨q12, h⟩ := h
            obtain ⟨q13, h⟩ := h
            refine g_iald' (nn := 10) dX8_order_84 (r43 hK) rfl q12 q13 ?_
            exact g_ireturn dX8_order_85 rfl h
          · have h := h.2 c_
            refine g_aload_n dX8_order_66 rfl ?_
            refine g_getR (k' := 42) dX8_order_67 (o0 hK) fX8_51 (by decide) (by decide) ?_
            refine g_getI' (jj := 1) dX8_order_70 (o42 hK) fX8_153 rfl rfl ?_
            refine g_goto (tgt := 85) dX8_order_73 (by decide) ?_
            exact g_ireturn dX8_order_85 rfl h
        · have h := h.2 c_
          refine g_bipush dX8_order_58 rfl ?_
          exact g_ireturn dX8_order_60 rfl h
      · have h := h.2 c_
        refine g_bipush dX8_order_33 rfl ?_
        exact g_ireturn dX8_order_35 rfl h
    · have h := h.2 c_
      refine g_aload_n dX8_order_13 rfl ?_
      refine g_iload_n dX8_order_14 rfl ?_
      refine g_callV (Y' := mX8_isQueued) (d' := 1) (As := [zI a2]) (rest := []) dX8_order_15 lX8_123 vX8_isQueued (by omega) (o0 hK) rfl rfl (Nat.le_of_ble_eq_true rfl) rfl (zC_i h (fun r14 nu15 h => ?_))
      obtain ⟨q16, h⟩ := h
      refine g_if_ne (tgt := 23) dX8_order_18 (by decide) q16 (fun c_ => ?_) (fun c_ => ?_)
      · have h := h.1 c_
        refine g_aload_n dX8_order_23 rfl ?_
        refine g_getM' (jj := 3) dX8_order_24 (o0 hK) fX8_23 rfl rfl ?_
        obtain ⟨q19, h⟩ := h
        refine g_callV (Y' := mX2_remembersTwo) (d' := 0) (As := []) (rest := []) dX8_order_27 lX8_147 vX2_remembersTwo (by omega) (q19).ob rfl rfl (Nat.le_of_ble_eq_true rfl) rfl (zC_i h (fun r17 nu18 h => ?_))
        obtain ⟨q20, h⟩ := h
        refine g_if_ne (tgt := 36) dX8_order_30 (by decide) q20 (fun c_ => ?_) (fun c_ => ?_)
        · have h := h.1 c_
          refine g_aload_n dX8_order_36 rfl ?_
          refine g_getR (k' := 42) dX8_order_37 (o0 hK) fX8_51 (by decide) (by decide) ?_
          refine g_aload_n dX8_order_40 rfl ?_
          refine g_getM' (jj := 3) dX8_order_41 (o0 hK) fX8_23 rfl rfl ?_
          refine g_iload_n dX8_order_44 rfl ?_
          refine g_callV (Y' := mX1_find) (d' := 33) (As := [zR (nu18 0 3), zI a1]) (rest := []) dX8_order_45 lX8_150 vX1_find (by omega) (o42 hK) rfl rfl (Nat.le_of_ble_eq_true rfl) rfl (zC_v h (fun nu22 h => ?_))
          refine g_aload_n dX8_order_48 rfl ?_
          refine g_getR (k' := 42) dX8_order_49 (o0 hK) fX8_51 (by decide) (by decide) ?_
          refine g_getI' (jj := 1) dX8_order_52 (o42 hK) fX8_153 rfl rfl ?_
          obtain ⟨q23, h⟩ := h
          refine g_if_ge (tgt := 61) dX8_order_55 (by decide) q23 (fun c_ => ?_) (fun c_ => ?_)
          · have h := h.1 c_
            refine g_iload_n dX8_order_61 rfl ?_
            refine g_iconst dX8_order_62 ?_
            refine g_icmp_ne (tgt := 76) dX8_order_63 (by decide) q4 (zin_d rfl) (fun c_ => ?_) (fun c_ => ?_)
            · have h := h.1 c_
              refine g_aload_n dX8_order_76 rfl ?_
              refine g_getR (k' := 42) dX8_order_77 (o0 hK) fX8_51 (by decide) (by decide) ?_
              refine g_getR (k' := 43) dX8_order_80 (o42 hK) fX8_156 (by decide) (by decide) ?_
              refine g_iload_n dX8_order_83 rfl ?_
              obtain ⟨q24, h⟩ := h
              obtain ⟨q25, h⟩ := h
              refine g_iald' (nn := 10) dX8_order_84 (r43 hK) rfl q24 q25 ?_
              exact g_ireturn dX8_order_85 rfl h
            · have h := h.2 c_
              refine g_aload_n dX8_order_66 rfl ?_
              refine g_getR (k' := 42) dX8_order_67 (o0 hK) fX8_51 (by decide) (by decide) ?_
              refine g_getI' (jj := 1) dX8_order_70 (o42 hK) fX8_153 rfl rfl ?_
              refine g_goto (tgt := 85) dX8_order_73 (by decide) ?_
              exact g_ireturn dX8_order_85 rfl h
          · have h := h.2 c_
            refine g_bipush dX8_order_58 rfl ?_
            exact g_ireturn dX8_order_60 rfl h
        · have h := h.2 c_
          refine g_bipush dX8_order_33 rfl ?_
          exact g_ireturn dX8_order_35 rfl h
      · have h := h.2 c_
        refine g_iconst dX8_order_21 ?_
        exact g_ireturn dX8_order_22 rfl h
theorem sg_X8_other_0 {K d : Nat} {mu : Mem} {Q : AV → Mem → Prop} {a1 : Int} (hd : 4 ≤ d) (hK : 64 ≤ K) (h : zC K 0 mX8_within [zI a1, zI 0, zI 3] mu (fun v_ nu2 => ∃ r1, v_ = zI r1 ∧ (zin r1 ∧ ((¬ r1 = 0 → zC K 3 mX3_differing [zR 38, zR (nu2 0 3), zI a1] nu2 (fun v_ nu5 => ∃ r4, v_ = zI r4 ∧ Q (zI r4) nu5)) ∧ (r1 = 0 → Q (zI (-1)) nu2))))) : zG K d mX8_other 0 [zR 0, zI a1] [] mu Q := by
  refine g_iload_n dX8_other_0 rfl ?_
  refine g_iconst dX8_other_1 ?_
  refine g_iconst dX8_other_2 ?_
  refine g_callS (Y' := mX8_within) (d' := 0) (As := [zI a1, zI 0, zI 3]) (rest := []) dX8_other_3 lX8_87 vX8_within (by omega) rfl (Nat.le_of_ble_eq_true rfl) rfl (zC_i h (fun r1 nu2 h => ?_))
  obtain ⟨q3, h⟩ := h
  refine g_if_ne (tgt := 11) dX8_other_6 (by decide) q3 (fun c_ => ?_) (fun c_ => ?_)
  · have h := h.1 c_
    refine g_aload_n dX8_other_11 rfl ?_
    refine g_getR (k' := 38) dX8_other_12 (o0 hK) fX8_44 (by decide) (by decide) ?_
    refine g_aload_n dX8_other_15 rfl ?_
    refine g_getM' (jj := 3) dX8_other_16 (o0 hK) fX8_23 rfl rfl ?_
    refine g_iload_n dX8_other_19 rfl ?_
    refine g_callV (Y' := mX3_differing) (d' := 3) (As := [zR (nu2 0 3), zI a1]) (rest := []) dX8_other_20 lX8_140 vX3_differing (by omega) (o38 hK) rfl rfl (Nat.le_of_ble_eq_true rfl) rfl (zC_i h (fun r4 nu5 h => ?_))
    exact g_ireturn dX8_other_23 rfl h
  · have h := h.2 c_
    refine g_iconst dX8_other_9 ?_
    exact g_ireturn dX8_other_10 rfl h
theorem sg_X8_otherwise_0 {K d : Nat} {mu : Mem} {Q : AV → Mem → Prop} (hd : 5 ≤ d) (hK : 64 ≤ K) (h : zC K 4 mX3_comeForThemselves [zR 38, zR (mu 0 3)] mu (fun v_ nu2 => v_ = zV ∧ zG K d mX8_otherwise 15 [zR 0, zI 0, zI 0] [] nu2 Q)) : zG K d mX8_otherwise 0 [zR 0, zU, zU] [] mu Q := by
  refine g_aload_n dX8_otherwise_0 rfl ?_
  refine g_getR (k' := 38) dX8_otherwise_1 (o0 hK) fX8_44 (by decide) (by decide) ?_
  refine g_aload_n dX8_otherwise_4 rfl ?_
  refine g_getM' (jj := 3) dX8_otherwise_5 (o0 hK) fX8_23 rfl rfl ?_
  refine g_callV (Y' := mX3_comeForThemselves) (d' := 4) (As := [zR (mu 0 3)]) (rest := []) dX8_otherwise_8 lX8_170 vX3_comeForThemselves (by omega) (o38 hK) rfl rfl (Nat.le_of_ble_eq_true rfl) rfl (zC_v h (fun nu2 h => ?_))
  refine g_iconst dX8_otherwise_11 ?_
  refine g_istore_n dX8_otherwise_12 (by decide) rfl ?_
  refine g_iconst dX8_otherwise_13 ?_
  refine g_istore_n dX8_otherwise_14 (by decide) rfl ?_
  exact g_wk (zwk_s (zwk_s (zwk_s zwk_n))) h
theorem sg_X8_otherwise_15 {K d : Nat} {mu : Mem} {Q : AV → Mem → Prop} {a1 a2 : Int} (hd : 5 ≤ d) (hK : 64 ≤ K) (h : (isP K (mu 0 3) ∧ zin a2 ∧ zin (mu (mu 0 3) 3) ∧ (((mu (mu 0 3) 3) ≤ a2 → Q (zI a1) mu) ∧ (¬ (mu (mu 0 3) 3) ≤ a2 → (0 ≤ a2 ∧ a2 < 10 ∧ zin (mu 39 a2) ∧ zin (mu ((mu 0 3) + 2) a2) ∧ (((mu 39 a2) = (mu ((mu 0 3) + 2) a2) → zG K d mX8_otherwise 15 [zR 0, zI a1, zI (a2 + 1)] [] mu Q) ∧ (¬ (mu 39 a2) = (mu ((mu 0 3) + 2) a2) → zG K d mX8_otherwise 15 [zR 0, zI (a1 + 1), zI (a2 + 1)] [] mu Q))))))) : zG K d mX8_otherwise 15 [zR 0, zI a1, zI a2] [] mu Q := by
  refine g_iload_n dX8_otherwise_15 rfl ?_
  refine g_aload_n dX8_otherwise_16 rfl ?_
  refine g_getM' (jj := 3) dX8_otherwise_17 (o0 hK) fX8_23 rfl rfl ?_
  obtain ⟨q1, h⟩ := h
  refine g_getI' (jj := 3) dX8_otherwise_20 (q1).ob fX8_110 rfl rfl ?_
  obtain ⟨q2, h⟩ := h
  obtain ⟨q3, h⟩ := h
  refine g_icmp_ge (tgt := 56) dX8_otherwise_23 (by decide) q2 q3 (fun c_ => ?_) (fun c_ => ?_)
  · have h := h.1 c_
    refine g_iload_n dX8_otherwise_56 rfl ?_
    exact g_ireturn dX8_otherwise_57 rfl h
  · have h := h.2 c_
    refine g_aload_n dX8_otherwise_26 rfl ?_
    refine g_getR (k' := 38) dX8_otherwise_27 (o0 hK) fX8_44 (by decide) (by decide) ?_
    refine g_getR (k' := 39) dX8_otherwise_30 (o38 hK) fX8_173 (by decide) (by decide) ?_
    refine g_iload_n dX8_otherwise_33 rfl ?_
    obtain ⟨q4, h⟩ := h
    obtain ⟨q5, h⟩ := h
    refine g_iald' (nn := 10) dX8_otherwise_34 (r39 hK) rfl q4 q5 ?_
    refine g_aload_n dX8_otherwise_35 rfl ?_
    refine g_getM' (jj := 3) dX8_otherwise_36 (o0 hK) fX8_23 rfl rfl ?_
    refine g_getR (k' := ((mu 0 3) + 2)) dX8_otherwise_39 (q1).ob fX8_137 (by decide) rfl ?_
    refine g_iload_n dX8_otherwise_42 rfl ?_
    refine g_iald' (nn := 10) dX8_otherwise_43 (q1).a2 rfl q4 q5 ?_
    obtain ⟨q6, h⟩ := h
    obtain ⟨q7, h⟩ := h
    refine g_icmp_eq (tgt := 50) dX8_otherwise_44 (by decide) q6 q7 (fun c_ => ?_) (fun c_ => ?_)
    · have h := h.1 c_
      refine g_iinc dX8_otherwise_50 rfl (by decide) rfl ?_
      refine g_goto (tgt := 15) dX8_otherwise_53 (by decide) ?_
      exact g_wk (zwk_s (zwk_s (zwk_s zwk_n))) h
    · have h := h.2 c_
      refine g_iinc dX8_otherwise_47 rfl (by decide) rfl ?_
      refine g_iinc dX8_otherwise_50 rfl (by decide) rfl ?_
      refine g_goto (tgt := 15) dX8_otherwise_53 (by decide) ?_
      exact g_wk (zwk_s (zwk_s (zwk_s zwk_n))) h
theorem sg_X8_post_0 {K d : Nat} {mu : Mem} {Q : AV → Mem → Prop} {a1 a2 : Int} (hd : 1 ≤ d) (hK : 64 ≤ K) (h : (isP K (mu 0 3) ∧ zC K 0 mX8_within [zI a1, zI 0, zI ((mu (mu 0 3) 4) - 1)] mu (fun v_ nu3 => ∃ r2, v_ = zI r2 ∧ (zin r2 ∧ ((r2 = 0 → Q (zI (-1)) nu3) ∧ (¬ r2 = 0 → zC K 0 mX8_within [zI a2, zI 0, zI 3] nu3 (fun v_ nu6 => ∃ r5, v_ = zI r5 ∧ (zin r5 ∧ ((¬ r5 = 0 → (zin a2 ∧ (((a2 < 0 ∨ 2 < a2) → (0 ≤ a1 ∧ a1 < 6 ∧ Q (zI (nu6 25 a1)) nu6)) ∧ (a2 = 0 → (isP K (nu6 0 3) ∧ 0 ≤ a1 ∧ a1 < 6 ∧ Q (zI (nu6 ((nu6 0 3) + 5) a1)) nu6)) ∧ (a2 = 1 → (0 ≤ a1 ∧ a1 < 6 ∧ Q (zI (nu6 23 a1)) nu6)) ∧ (a2 = 2 → (0 ≤ a1 ∧ a1 < 6 ∧ Q (zI (nu6 24 a1)) nu6))))) ∧ (r5 = 0 → Q (zI (-1)) nu6)))))))))) : zG K d mX8_post 0 [zR 0, zI a1, zI a2] [] mu Q := by
  refine g_iload_n dX8_post_0 rfl ?_
  refine g_iconst dX8_post_1 ?_
  refine g_aload_n dX8_post_2 rfl ?_
  refine g_getM' (jj := 3) dX8_post_3 (o0 hK) fX8_23 rfl rfl ?_
  obtain ⟨q1, h⟩ := h
  refine g_getI' (jj := 4) dX8_post_6 (q1).ob fX8_215 rfl rfl ?_
  refine g_iconst dX8_post_9 ?_
  refine g_isub dX8_post_10 ?_
  refine g_callS (Y' := mX8_within) (d' := 0) (As := [zI a1, zI 0, zI ((mu (mu 0 3) 4) - 1)]) (rest := []) dX8_post_11 lX8_87 vX8_within (by omega) rfl (Nat.le_of_ble_eq_true rfl) rfl (zC_i h (fun r2 nu3 h => ?_))
  obtain ⟨q4, h⟩ := h
  refine g_if_eq (tgt := 26) dX8_post_14 (by decide) q4 (fun c_ => ?_) (fun c_ => ?_)
  · have h := h.1 c_
    refine g_iconst dX8_post_26 ?_
    exact g_ireturn dX8_post_27 rfl h
  · have h := h.2 c_
    refine g_iload_n dX8_post_17 rfl ?_
    refine g_iconst dX8_post_18 ?_
    refine g_iconst dX8_post_19 ?_
    refine g_callS (Y' := mX8_within) (d' := 0) (As := [zI a2, zI 0, zI 3]) (rest := []) dX8_post_20 lX8_87 vX8_within (by omega) rfl (Nat.le_of_ble_eq_true rfl) rfl (zC_i h (fun r5 nu6 h => ?_))
    obtain ⟨q7, h⟩ := h
    refine g_if_ne (tgt := 28) dX8_post_23 (by decide) q7 (fun c_ => ?_) (fun c_ => ?_)
    · have h := h.1 c_
      refine g_iload_n dX8_post_28 rfl ?_
      obtain ⟨q8, h⟩ := h
      by_cases hsw : a2 < 0 ∨ 2 < a2
      · have h := h.1 hsw
        refine g_swOut (tgt := 86) dX8_post_29 q8 hsw (by decide) ?_
        refine g_aload_n dX8_post_86 rfl ?_
        refine g_getR (k' := 22) dX8_post_87 (o0 hK) fX8_33 (by decide) (by decide) ?_
        refine g_getR (k' := 25) dX8_post_90 (o22 hK) fX8_227 (by decide) (by decide) ?_
        refine g_iload_n dX8_post_93 rfl ?_
        obtain ⟨q9, h⟩ := h
        obtain ⟨q10, h⟩ := h
        refine g_iald' (nn := 6) dX8_post_94 (r25 hK) rfl q9 q10 ?_
        exact g_ireturn dX8_post_95 rfl h
      · have h := h.2
        have hsw1 : 0 ≤ a2 := by omega
        have hsw2 : a2 ≤ 2 := by omega
        by_cases hc0 : a2 = 0
        · have h := h.1 hc0
          refine g_swIn (tgt := 56) dX8_post_29 q8 hsw1 hsw2 (by rw [hc0]; rfl) (by decide) ?_
          refine g_aload_n dX8_post_56 rfl ?_
          refine g_getM' (jj := 3) dX8_post_57 (o0 hK) fX8_23 rfl rfl ?_
          obtain ⟨q11, h⟩ := h
          refine g_getR (k' := ((nu6 0 3) + 5)) dX8_post_60 (q11).ob fX8_218 (by decide) rfl ?_
          refine g_iload_n dX8_post_63 rfl ?_
          obtain ⟨q12, h⟩ := h
          obtain ⟨q13, h⟩ := h
          refine g_iald' (nn := 6) dX8_post_64 (q11).a5 rfl q12 q13 ?_
          exact g_ireturn dX8_post_65 rfl h
        by_cases hc1 : a2 = 1
        · have h := h.2.1 hc1
          refine g_swIn (tgt := 66) dX8_post_29 q8 hsw1 hsw2 (by rw [hc1]; rfl) (by decide) ?_
          refine g_aload_n dX8_post_66 rfl ?_
          refine g_getR (k' := 22) dX8_post_67 (o0 hK) fX8_33 (by decide) (by decide) ?_
          refine g_getR (k' := 23) dX8_post_70 (o22 hK) fX8_221 (by decide) (by decide) ?_
          refine g_iload_n dX8_post_73 rfl ?_
          obtain ⟨q14, h⟩ := h
          obtain ⟨q15, h⟩ := h
          refine g_iald' (nn := 6) dX8_post_74 (r23 hK) rfl q14 q15 ?_
          exact g_ireturn dX8_post_75 rfl h
        by_cases hc2 : a2 = 2
        · have h := h.2.2 hc2
          refine g_swIn (tgt := 76) dX8_post_29 q8 hsw1 hsw2 (by rw [hc2]; rfl) (by decide) ?_
          refine g_aload_n dX8_post_76 rfl ?_
          refine g_getR (k' := 22) dX8_post_77 (o0 hK) fX8_33 (by decide) (by decide) ?_
          refine g_getR (k' := 24) dX8_post_80 (o22 hK) fX8_224 (by decide) (by decide) ?_
          refine g_iload_n dX8_post_83 rfl ?_
          obtain ⟨q16, h⟩ := h
          obtain ⟨q17, h⟩ := h
          refine g_iald' (nn := 6) dX8_post_84 (r24 hK) rfl q16 q17 ?_
          exact g_ireturn dX8_post_85 rfl h
        · exact absurd hsw2 (by omega)
    · have h := h.2 c_
      refine g_iconst dX8_post_26 ?_
      exact g_ireturn dX8_post_27 rfl h
theorem sg_X8_ring_0 {K d : Nat} {mu : Mem} {Q : AV → Mem → Prop} {a1 : Int} (hd : 3 ≤ d) (hK : 64 ≤ K) (h : zC K 0 mX8_within [zI a1, zI 0, zI 1] mu (fun v_ nu2 => ∃ r1, v_ = zI r1 ∧ (zin r1 ∧ ((¬ r1 = 0 → (isP K (nu2 0 3) ∧ zin (nu2 (nu2 0 3) 4) ∧ ((¬ (nu2 (nu2 0 3) 4) = 0 → zC K 2 mX0_findRing [zR 56, zR (nu2 0 3), zR 22] nu2 (fun v_ nu7 => ∃ r6, v_ = zI r6 ∧ (zin r6 ∧ ((¬ r6 = 0 → (zin a1 ∧ ((¬ a1 = 0 → Q (zI (nu7 56 1)) nu7) ∧ (a1 = 0 → Q (zI (nu7 56 0)) nu7)))) ∧ (r6 = 0 → Q (zI (-4)) nu7))))) ∧ ((nu2 (nu2 0 3) 4) = 0 → Q (zI (-2)) nu2)))) ∧ (r1 = 0 → Q (zI (-1)) nu2))))) : zG K d mX8_ring 0 [zR 0, zI a1] [] mu Q := by
  refine g_iload_n dX8_ring_0 rfl ?_
  refine g_iconst dX8_ring_1 ?_
  refine g_iconst dX8_ring_2 ?_
  refine g_callS (Y' := mX8_within) (d' := 0) (As := [zI a1, zI 0, zI 1]) (rest := []) dX8_ring_3 lX8_87 vX8_within (by omega) rfl (Nat.le_of_ble_eq_true rfl) rfl (zC_i h (fun r1 nu2 h => ?_))
  obtain ⟨q3, h⟩ := h
  refine g_if_ne (tgt := 11) dX8_ring_6 (by decide) q3 (fun c_ => ?_) (fun c_ => ?_)
  · have h := h.1 c_
    refine g_aload_n dX8_ring_11 rfl ?_
    refine g_getM' (jj := 3) dX8_ring_12 (o0 hK) fX8_23 rfl rfl ?_
    obtain ⟨q4, h⟩ := h
    refine g_getI' (jj := 4) dX8_ring_15 (q4).ob fX8_215 rfl rfl ?_
    obtain ⟨q5, h⟩ := h
    refine g_if_ne (tgt := 24) dX8_ring_18 (by decide) q5 (fun c_ => ?_) (fun c_ => ?_)
    · have h := h.1 c_
      refine g_aload_n dX8_ring_24 rfl ?_
      refine g_getR (k' := 56) dX8_ring_25 (o0 hK) fX8_72 (by decide) (by decide) ?_
      refine g_aload_n dX8_ring_28 rfl ?_
      refine g_getM' (jj := 3) dX8_ring_29 (o0 hK) fX8_23 rfl rfl ?_
      refine g_aload_n dX8_ring_32 rfl ?_
      refine g_getR (k' := 22) dX8_ring_33 (o0 hK) fX8_33 (by decide) (by decide) ?_
      refine g_callV (Y' := mX0_findRing) (d' := 2) (As := [zR (nu2 0 3), zR 22]) (rest := []) dX8_ring_36 lX8_234 vX0_findRing (by omega) (o56 hK) rfl rfl (Nat.le_of_ble_eq_true rfl) rfl (zC_i h (fun r6 nu7 h => ?_))
      obtain ⟨q8, h⟩ := h
      refine g_if_ne (tgt := 45) dX8_ring_39 (by decide) q8 (fun c_ => ?_) (fun c_ => ?_)
      · have h := h.1 c_
        refine g_iload_n dX8_ring_45 rfl ?_
        obtain ⟨q9, h⟩ := h
        refine g_if_ne (tgt := 59) dX8_ring_46 (by decide) q9 (fun c_ => ?_) (fun c_ => ?_)
        · have h := h.1 c_
          refine g_aload_n dX8_ring_59 rfl ?_
          refine g_getR (k' := 56) dX8_ring_60 (o0 hK) fX8_72 (by decide) (by decide) ?_
          refine g_getI' (jj := 1) dX8_ring_63 (o56 hK) fX8_240 rfl rfl ?_
          exact g_ireturn dX8_ring_66 rfl h
        · have h := h.2 c_
          refine g_aload_n dX8_ring_49 rfl ?_
          refine g_getR (k' := 56) dX8_ring_50 (o0 hK) fX8_72 (by decide) (by decide) ?_
          refine g_getI' (jj := 0) dX8_ring_53 (o56 hK) fX8_237 rfl rfl ?_
          refine g_goto (tgt := 66) dX8_ring_56 (by decide) ?_
          exact g_ireturn dX8_ring_66 rfl h
      · have h := h.2 c_
        refine g_bipush dX8_ring_42 rfl ?_
        exact g_ireturn dX8_ring_44 rfl h
    · have h := h.2 c_
      refine g_bipush dX8_ring_21 rfl ?_
      exact g_ireturn dX8_ring_23 rfl h
  · have h := h.2 c_
    refine g_iconst dX8_ring_9 ?_
    exact g_ireturn dX8_ring_10 rfl h
theorem sg_X8_round_0 {K d : Nat} {mu : Mem} {Q : AV → Mem → Prop} (hd : 2 ≤ d) (hK : 64 ≤ K) (h : (isP K (mu 0 3) ∧ zin (mu (mu 0 3) 4) ∧ ((¬ (mu (mu 0 3) 4) = 0 → zC K 1 mX0_advance [zR 56, zR (mu 0 3), zR 22] mu (fun v_ nu4 => ∃ r3, v_ = zI r3 ∧ Q (zI r3) nu4)) ∧ ((mu (mu 0 3) 4) = 0 → Q (zI (-2)) mu)))) : zG K d mX8_round 0 [zR 0] [] mu Q := by
  refine g_aload_n dX8_round_0 rfl ?_
  refine g_getM' (jj := 3) dX8_round_1 (o0 hK) fX8_23 rfl rfl ?_
  obtain ⟨q1, h⟩ := h
  refine g_getI' (jj := 4) dX8_round_4 (q1).ob fX8_215 rfl rfl ?_
  obtain ⟨q2, h⟩ := h
  refine g_if_ne (tgt := 15) dX8_round_7 (by decide) q2 (fun c_ => ?_) (fun c_ => ?_)
  · have h := h.1 c_
    refine g_aload_n dX8_round_15 rfl ?_
    refine g_getR (k' := 56) dX8_round_16 (o0 hK) fX8_72 (by decide) (by decide) ?_
    refine g_aload_n dX8_round_19 rfl ?_
    refine g_getM' (jj := 3) dX8_round_20 (o0 hK) fX8_23 rfl rfl ?_
    refine g_aload_n dX8_round_23 rfl ?_
    refine g_getR (k' := 22) dX8_round_24 (o0 hK) fX8_33 (by decide) (by decide) ?_
    refine g_callV (Y' := mX0_advance) (d' := 1) (As := [zR (mu 0 3), zR 22]) (rest := []) dX8_round_27 lX8_230 vX0_advance (by omega) (o56 hK) rfl rfl (Nat.le_of_ble_eq_true rfl) rfl (zC_i h (fun r3 nu4 h => ?_))
    exact g_ireturn dX8_round_30 rfl h
  · have h := h.2 c_
    refine g_bipush dX8_round_10 rfl ?_
    refine g_goto (tgt := 30) dX8_round_12 (by decide) ?_
    exact g_ireturn dX8_round_30 rfl h
theorem sg_X8_rows_0 {K d : Nat} {mu : Mem} {Q : AV → Mem → Prop} {a1 : Int} (hd : 6 ≤ d) (hK : 64 ≤ K) (h : zC K 0 mX8_within [zI a1, zI 0, zI 1] mu (fun v_ nu2 => ∃ r1, v_ = zI r1 ∧ (zin r1 ∧ ((¬ r1 = 0 → (isP K (nu2 0 3) ∧ zC K 0 mX2_remembersTwo [zR (nu2 0 3)] nu2 (fun v_ nu5 => ∃ r4, v_ = zI r4 ∧ (zin r4 ∧ ((¬ r4 = 0 → (zin a1 ∧ ((¬ a1 = 0 → zC K 5 mX5_weight [zR 51, zR (nu5 0 3), zR 22] nu5 (fun v_ nu10 => ∃ r9, v_ = zJ r9 ∧ Q (zJ r9) nu10)) ∧ (a1 = 0 → zC K 4 mX5_number [zR 51, zR (nu5 0 3), zR 22] nu5 (fun v_ nu12 => ∃ r11, v_ = zJ r11 ∧ Q (zJ r11) nu12))))) ∧ (r4 = 0 → Q (zJ (-2)) nu5)))))) ∧ (r1 = 0 → Q (zJ (-1)) nu2))))) : zG K d mX8_rows 0 [zR 0, zI a1] [] mu Q := by
  refine g_iload_n dX8_rows_0 rfl ?_
  refine g_iconst dX8_rows_1 ?_
  refine g_iconst dX8_rows_2 ?_
  refine g_callS (Y' := mX8_within) (d' := 0) (As := [zI a1, zI 0, zI 1]) (rest := []) dX8_rows_3 lX8_87 vX8_within (by omega) rfl (Nat.le_of_ble_eq_true rfl) rfl (zC_i h (fun r1 nu2 h => ?_))
  obtain ⟨q3, h⟩ := h
  refine g_if_ne (tgt := 13) dX8_rows_6 (by decide) q3 (fun c_ => ?_) (fun c_ => ?_)
  · have h := h.1 c_
    refine g_aload_n dX8_rows_13 rfl ?_
    refine g_getM' (jj := 3) dX8_rows_14 (o0 hK) fX8_23 rfl rfl ?_
    obtain ⟨q6, h⟩ := h
    refine g_callV (Y' := mX2_remembersTwo) (d' := 0) (As := []) (rest := []) dX8_rows_17 lX8_147 vX2_remembersTwo (by omega) (q6).ob rfl rfl (Nat.le_of_ble_eq_true rfl) rfl (zC_i h (fun r4 nu5 h => ?_))
    obtain ⟨q7, h⟩ := h
    refine g_if_ne (tgt := 27) dX8_rows_20 (by decide) q7 (fun c_ => ?_) (fun c_ => ?_)
    · have h := h.1 c_
      refine g_iload_n dX8_rows_27 rfl ?_
      obtain ⟨q8, h⟩ := h
      refine g_if_ne (tgt := 49) dX8_rows_28 (by decide) q8 (fun c_ => ?_) (fun c_ => ?_)
      · have h := h.1 c_
        refine g_aload_n dX8_rows_49 rfl ?_
        refine g_getR (k' := 51) dX8_rows_50 (o0 hK) fX8_65 (by decide) (by decide) ?_
        refine g_aload_n dX8_rows_53 rfl ?_
        refine g_getM' (jj := 3) dX8_rows_54 (o0 hK) fX8_23 rfl rfl ?_
        refine g_aload_n dX8_rows_57 rfl ?_
        refine g_getR (k' := 22) dX8_rows_58 (o0 hK) fX8_33 (by decide) (by decide) ?_
        refine g_callV (Y' := mX5_weight) (d' := 5) (As := [zR (nu5 0 3), zR 22]) (rest := []) dX8_rows_61 lX8_194 vX5_weight (by omega) (o51 hK) rfl rfl (Nat.le_of_ble_eq_true rfl) rfl (zC_j h (fun r9 nu10 h => ?_))
        exact g_lreturn dX8_rows_64 rfl h
      · have h := h.2 c_
        refine g_aload_n dX8_rows_31 rfl ?_
        refine g_getR (k' := 51) dX8_rows_32 (o0 hK) fX8_65 (by decide) (by decide) ?_
        refine g_aload_n dX8_rows_35 rfl ?_
        refine g_getM' (jj := 3) dX8_rows_36 (o0 hK) fX8_23 rfl rfl ?_
        refine g_aload_n dX8_rows_39 rfl ?_
        refine g_getR (k' := 22) dX8_rows_40 (o0 hK) fX8_33 (by decide) (by decide) ?_
        refine g_callV (Y' := mX5_number) (d' := 4) (As := [zR (nu5 0 3), zR 22]) (rest := []) dX8_rows_43 lX8_190 vX5_number (by omega) (o51 hK) rfl rfl (Nat.le_of_ble_eq_true rfl) rfl (zC_j h (fun r11 nu12 h => ?_))
        refine g_goto (tgt := 64) dX8_rows_46 (by decide) ?_
        exact g_lreturn dX8_rows_64 rfl h
    · have h := h.2 c_
      refine g_ldc2 (x := (-2)) (zc64 (x := (-2)) (v := (-2)) (by decide +kernel) kX8_188) dX8_rows_23 ?_
      exact g_lreturn dX8_rows_26 rfl h
  · have h := h.2 c_
    refine g_ldc2 (x := (-1)) (zc64 (x := (-1)) (v := (-1)) (by decide +kernel) kX8_186) dX8_rows_9 ?_
    exact g_lreturn dX8_rows_12 rfl h
theorem sg_X8_strangers_0 {K d : Nat} {mu : Mem} {Q : AV → Mem → Prop} {a1 a2 : Int} (hd : 7 ≤ d) (hK : 64 ≤ K) (h : zC K 1 mX8_isSet [zR 0, zI a1] mu (fun v_ nu2 => ∃ r1, v_ = zI r1 ∧ (zin r1 ∧ ((r1 = 0 → Q (zI (-1)) nu2) ∧ (¬ r1 = 0 → zC K 0 mX8_within [zI a2, zI (-1), zI 11] nu2 (fun v_ nu5 => ∃ r4, v_ = zI r4 ∧ (zin r4 ∧ ((¬ r4 = 0 → (isP K (nu5 0 3) ∧ zC K 0 mX2_remembersTwo [zR (nu5 0 3)] nu5 (fun v_ nu8 => ∃ r7, v_ = zI r7 ∧ (zin r7 ∧ ((¬ r7 = 0 → zC K 6 mX7_find [zR 46, zR (nu8 0 3), zI a1] nu8 (fun v_ nu12 => v_ = zV ∧ (zin a2 ∧ ((¬ a2 = (-1) → zC K 0 mX7_isOne [zR 46, zI a2] nu12 (fun v_ nu15 => ∃ r14, v_ = zI r14 ∧ (zin r14 ∧ ((r14 = 0 → Q (zI (-4)) nu15) ∧ (¬ r14 = 0 → (0 ≤ a2 ∧ a2 < 12 ∧ Q (zI (nu15 47 a2)) nu15)))))) ∧ (a2 = (-1) → (zin (nu12 46 2) ∧ ((12 < (nu12 46 2) → zC K 0 mX7_isOne [zR 46, zI a2] nu12 (fun v_ nu21 => ∃ r20, v_ = zI r20 ∧ (zin r20 ∧ ((r20 = 0 → Q (zI (-4)) nu21) ∧ (¬ r20 = 0 → (0 ≤ a2 ∧ a2 < 12 ∧ Q (zI (nu21 47 a2)) nu21)))))) ∧ (¬ 12 < (nu12 46 2) → Q (zI (nu12 46 2)) nu12)))))))) ∧ (r7 = 0 → Q (zI (-2)) nu8)))))) ∧ (r4 = 0 → Q (zI (-1)) nu5))))))))) : zG K d mX8_strangers 0 [zR 0, zI a1, zI a2] [] mu Q := by
  refine g_aload_n dX8_strangers_0 rfl ?_
  refine g_iload_n dX8_strangers_1 rfl ?_
  refine g_callV (Y' := mX8_isSet) (d' := 1) (As := [zI a1]) (rest := []) dX8_strangers_2 lX8_144 vX8_isSet (by omega) (o0 hK) rfl rfl (Nat.le_of_ble_eq_true rfl) rfl (zC_i h (fun r1 nu2 h => ?_))
  obtain ⟨q3, h⟩ := h
  refine g_if_eq (tgt := 18) dX8_strangers_5 (by decide) q3 (fun c_ => ?_) (fun c_ => ?_)
  · have h := h.1 c_
    refine g_iconst dX8_strangers_18 ?_
    exact g_ireturn dX8_strangers_19 rfl h
  · have h := h.2 c_
    refine g_iload_n dX8_strangers_8 rfl ?_
    refine g_iconst dX8_strangers_9 ?_
    refine g_bipush dX8_strangers_10 rfl ?_
    refine g_callS (Y' := mX8_within) (d' := 0) (As := [zI a2, zI (-1), zI 11]) (rest := []) dX8_strangers_12 lX8_87 vX8_within (by omega) rfl (Nat.le_of_ble_eq_true rfl) rfl (zC_i h (fun r4 nu5 h => ?_))
    obtain ⟨q6, h⟩ := h
    refine g_if_ne (tgt := 20) dX8_strangers_15 (by decide) q6 (fun c_ => ?_) (fun c_ => ?_)
    · have h := h.1 c_
      refine g_aload_n dX8_strangers_20 rfl ?_
      refine g_getM' (jj := 3) dX8_strangers_21 (o0 hK) fX8_23 rfl rfl ?_
      obtain ⟨q9, h⟩ := h
      refine g_callV (Y' := mX2_remembersTwo) (d' := 0) (As := []) (rest := []) dX8_strangers_24 lX8_147 vX2_remembersTwo (by omega) (q9).ob rfl rfl (Nat.le_of_ble_eq_true rfl) rfl (zC_i h (fun r7 nu8 h => ?_))
      obtain ⟨q10, h⟩ := h
      refine g_if_ne (tgt := 33) dX8_strangers_27 (by decide) q10 (fun c_ => ?_) (fun c_ => ?_)
      · have h := h.1 c_
        refine g_aload_n dX8_strangers_33 rfl ?_
        refine g_getR (k' := 46) dX8_strangers_34 (o0 hK) fX8_58 (by decide) (by decide) ?_
        refine g_aload_n dX8_strangers_37 rfl ?_
        refine g_getM' (jj := 3) dX8_strangers_38 (o0 hK) fX8_23 rfl rfl ?_
        refine g_iload_n dX8_strangers_41 rfl ?_
        refine g_callV (Y' := mX7_find) (d' := 6) (As := [zR (nu8 0 3), zI a1]) (rest := []) dX8_strangers_42 lX8_159 vX7_find (by omega) (o46 hK) rfl rfl (Nat.le_of_ble_eq_true rfl) rfl (zC_v h (fun nu12 h => ?_))
        refine g_iload_n dX8_strangers_45 rfl ?_
        refine g_iconst dX8_strangers_46 ?_
        obtain ⟨q13, h⟩ := h
        refine g_icmp_ne (tgt := 70) dX8_strangers_47 (by decide) q13 (zin_d rfl) (fun c_ => ?_) (fun c_ => ?_)
        · have h := h.1 c_
          refine g_aload_n dX8_strangers_70 rfl ?_
          refine g_getR (k' := 46) dX8_strangers_71 (o0 hK) fX8_58 (by decide) (by decide) ?_
          refine g_iload_n dX8_strangers_74 rfl ?_
          refine g_callV (Y' := mX7_isOne) (d' := 0) (As := [zI a2]) (rest := []) dX8_strangers_75 lX8_163 vX7_isOne (by omega) (o46 hK) rfl rfl (Nat.le_of_ble_eq_true rfl) rfl (zC_i h (fun r14 nu15 h => ?_))
          obtain ⟨q16, h⟩ := h
          refine g_if_eq (tgt := 93) dX8_strangers_78 (by decide) q16 (fun c_ => ?_) (fun c_ => ?_)
          · have h := h.1 c_
            refine g_bipush dX8_strangers_93 rfl ?_
            exact g_ireturn dX8_strangers_95 rfl h
          · have h := h.2 c_
            refine g_aload_n dX8_strangers_81 rfl ?_
            refine g_getR (k' := 46) dX8_strangers_82 (o0 hK) fX8_58 (by decide) (by decide) ?_
            refine g_getR (k' := 47) dX8_strangers_85 (o46 hK) fX8_166 (by decide) (by decide) ?_
            refine g_iload_n dX8_strangers_88 rfl ?_
            obtain ⟨q17, h⟩ := h
            obtain ⟨q18, h⟩ := h
            refine g_iald' (nn := 12) dX8_strangers_89 (r47 hK) rfl q17 q18 ?_
            refine g_goto (tgt := 95) dX8_strangers_90 (by decide) ?_
            exact g_ireturn dX8_strangers_95 rfl h
        · have h := h.2 c_
          refine g_aload_n dX8_strangers_50 rfl ?_
          refine g_getR (k' := 46) dX8_strangers_51 (o0 hK) fX8_58 (by decide) (by decide) ?_
          refine g_getI' (jj := 2) dX8_strangers_54 (o46 hK) fX8_160 rfl rfl ?_
          refine g_bipush dX8_strangers_57 rfl ?_
          obtain ⟨q19, h⟩ := h
          refine g_icmp_gt (tgt := 70) dX8_strangers_59 (by decide) q19 (zin_d rfl) (fun c_ => ?_) (fun c_ => ?_)
          · have h := h.1 c_
            refine g_aload_n dX8_strangers_70 rfl ?_
            refine g_getR (k' := 46) dX8_strangers_71 (o0 hK) fX8_58 (by decide) (by decide) ?_
            refine g_iload_n dX8_strangers_74 rfl ?_
            refine g_callV (Y' := mX7_isOne) (d' := 0) (As := [zI a2]) (rest := []) dX8_strangers_75 lX8_163 vX7_isOne (by omega) (o46 hK) rfl rfl (Nat.le_of_ble_eq_true rfl) rfl (zC_i h (fun r20 nu21 h => ?_))
            obtain ⟨q22, h⟩ := h
            refine g_if_eq (tgt := 93) dX8_strangers_78 (by decide) q22 (fun c_ => ?_) (fun c_ => ?_)
            · have h := h.1 c_
              refine g_bipush dX8_strangers_93 rfl ?_
              exact g_ireturn dX8_strangers_95 rfl h
            · have h := h.2 c_
              refine g_aload_n dX8_strangers_81 rfl ?_
              refine g_getR (k' := 46) dX8_strangers_82 (o0 hK) fX8_58 (by decide) (by decide) ?_
              refine g_getR (k' := 47) dX8_strangers_85 (o46 hK) fX8_166 (by decide) (by decide) ?_
              refine g_iload_n dX8_strangers_88 rfl ?_
              obtain ⟨q23, h⟩ := h
              obtain ⟨q24, h⟩ := h
              refine g_iald' (nn := 12) dX8_strangers_89 (r47 hK) rfl q23 q24 ?_
              refine g_goto (tgt := 95) dX8_strangers_90 (by decide) ?_
              exact g_ireturn dX8_strangers_95 rfl h
          · have h := h.2 c_
            refine g_aload_n dX8_strangers_62 rfl ?_
            refine g_getR (k' := 46) dX8_strangers_63 (o0 hK) fX8_58 (by decide) (by decide) ?_
            refine g_getI' (jj := 2) dX8_strangers_66 (o46 hK) fX8_160 rfl rfl ?_
            exact g_ireturn dX8_strangers_69 rfl h
      · have h := h.2 c_
        refine g_bipush dX8_strangers_30 rfl ?_
        exact g_ireturn dX8_strangers_32 rfl h
    · have h := h.2 c_
      refine g_iconst dX8_strangers_18 ?_
      exact g_ireturn dX8_strangers_19 rfl h
theorem sg_X8_swaps_0 {K d : Nat} {mu : Mem} {Q : AV → Mem → Prop} {a1 : Int} (hd : 4 ≤ d) (hK : 64 ≤ K) (h : (zin a1 ∧ ((a1 = (-1) → (isP K (mu 0 3) ∧ zC K 2 mX3_comeAsWished [zR 38, zR (mu 0 3), zI (mu (mu 0 3) 1)] mu (fun v_ nu4 => v_ = zV ∧ zC K 3 mX3_swapTillNobodyGains [zR 38, zR (nu4 0 3)] nu4 (fun v_ nu6 => ∃ r5, v_ = zI r5 ∧ ((¬ a1 = (-1) → (0 ≤ a1 ∧ a1 < 10 ∧ Q (zI (nu6 40 a1)) nu6)) ∧ (a1 = (-1) → Q (zI r5) nu6)))))) ∧ (¬ a1 = (-1) → zC K 1 mX8_isQueued [zR 0, zI a1] mu (fun v_ nu10 => ∃ r9, v_ = zI r9 ∧ (zin r9 ∧ ((¬ r9 = 0 → (isP K (nu10 0 3) ∧ zC K 2 mX3_comeAsWished [zR 38, zR (nu10 0 3), zI (nu10 (nu10 0 3) 1)] nu10 (fun v_ nu14 => v_ = zV ∧ zC K 3 mX3_swapTillNobodyGains [zR 38, zR (nu14 0 3)] nu14 (fun v_ nu16 => ∃ r15, v_ = zI r15 ∧ ((¬ a1 = (-1) → (0 ≤ a1 ∧ a1 < 10 ∧ Q (zI (nu16 40 a1)) nu16)) ∧ (a1 = (-1) → Q (zI r15) nu16)))))) ∧ (r9 = 0 → Q (zI (-1)) nu10)))))))) : zG K d mX8_swaps 0 [zR 0, zI a1, zU] [] mu Q := by
  refine g_iload_n dX8_swaps_0 rfl ?_
  refine g_iconst dX8_swaps_1 ?_
  obtain ⟨q1, h⟩ := h
  refine g_icmp_eq (tgt := 15) dX8_swaps_2 (by decide) q1 (zin_d rfl) (fun c_ => ?_) (fun c_ => ?_)
  · have h := h.1 c_
    refine g_aload_n dX8_swaps_15 rfl ?_
    refine g_getR (k' := 38) dX8_swaps_16 (o0 hK) fX8_44 (by decide) (by decide) ?_
    refine g_aload_n dX8_swaps_19 rfl ?_
    refine g_getM' (jj := 3) dX8_swaps_20 (o0 hK) fX8_23 rfl rfl ?_
    refine g_aload_n dX8_swaps_23 rfl ?_
    refine g_getM' (jj := 3) dX8_swaps_24 (o0 hK) fX8_23 rfl rfl ?_
    obtain ⟨q2, h⟩ := h
    refine g_getI' (jj := 1) dX8_swaps_27 (q2).ob fX8_126 rfl rfl ?_
    refine g_callV (Y' := mX3_comeAsWished) (d' := 2) (As := [zR (mu 0 3), zI (mu (mu 0 3) 1)]) (rest := []) dX8_swaps_30 lX8_129 vX3_comeAsWished (by omega) (o38 hK) rfl rfl (Nat.le_of_ble_eq_true rfl) rfl (zC_v h (fun nu4 h => ?_))
    refine g_aload_n dX8_swaps_33 rfl ?_
    refine g_getR (k' := 38) dX8_swaps_34 (o0 hK) fX8_44 (by decide) (by decide) ?_
    refine g_aload_n dX8_swaps_37 rfl ?_
    refine g_getM' (jj := 3) dX8_swaps_38 (o0 hK) fX8_23 rfl rfl ?_
    refine g_callV (Y' := mX3_swapTillNobodyGains) (d' := 3) (As := [zR (nu4 0 3)]) (rest := []) dX8_swaps_41 lX8_176 vX3_swapTillNobodyGains (by omega) (o38 hK) rfl rfl (Nat.le_of_ble_eq_true rfl) rfl (zC_i h (fun r5 nu6 h => ?_))
    refine g_istore_n dX8_swaps_44 (by decide) rfl ?_
    refine g_iload_n dX8_swaps_45 rfl ?_
    refine g_iconst dX8_swaps_46 ?_
    refine g_icmp_ne (tgt := 54) dX8_swaps_47 (by decide) q1 (zin_d rfl) (fun c_ => ?_) (fun c_ => ?_)
    · have h := h.1 c_
      refine g_aload_n dX8_swaps_54 rfl ?_
      refine g_getR (k' := 38) dX8_swaps_55 (o0 hK) fX8_44 (by decide) (by decide) ?_
      refine g_getR (k' := 40) dX8_swaps_58 (o38 hK) fX8_133 (by decide) (by decide) ?_
      refine g_iload_n dX8_swaps_61 rfl ?_
      obtain ⟨q7, h⟩ := h
      obtain ⟨q8, h⟩ := h
      refine g_iald' (nn := 10) dX8_swaps_62 (r40 hK) rfl q7 q8 ?_
      exact g_ireturn dX8_swaps_63 rfl h
    · have h := h.2 c_
      refine g_iload_n dX8_swaps_50 rfl ?_
      refine g_goto (tgt := 63) dX8_swaps_51 (by decide) ?_
      exact g_ireturn dX8_swaps_63 rfl h
  · have h := h.2 c_
    refine g_aload_n dX8_swaps_5 rfl ?_
    refine g_iload_n dX8_swaps_6 rfl ?_
    refine g_callV (Y' := mX8_isQueued) (d' := 1) (As := [zI a1]) (rest := []) dX8_swaps_7 lX8_123 vX8_isQueued (by omega) (o0 hK) rfl rfl (Nat.le_of_ble_eq_true rfl) rfl (zC_i h (fun r9 nu10 h => ?_))
    obtain ⟨q11, h⟩ := h
    refine g_if_ne (tgt := 15) dX8_swaps_10 (by decide) q11 (fun c_ => ?_) (fun c_ => ?_)
    · have h := h.1 c_
      refine g_aload_n dX8_swaps_15 rfl ?_
      refine g_getR (k' := 38) dX8_swaps_16 (o0 hK) fX8_44 (by decide) (by decide) ?_
      refine g_aload_n dX8_swaps_19 rfl ?_
      refine g_getM' (jj := 3) dX8_swaps_20 (o0 hK) fX8_23 rfl rfl ?_
      refine g_aload_n dX8_swaps_23 rfl ?_
      refine g_getM' (jj := 3) dX8_swaps_24 (o0 hK) fX8_23 rfl rfl ?_
      obtain ⟨q12, h⟩ := h
      refine g_getI' (jj := 1) dX8_swaps_27 (q12).ob fX8_126 rfl rfl ?_
      refine g_callV (Y' := mX3_comeAsWished) (d' := 2) (As := [zR (nu10 0 3), zI (nu10 (nu10 0 3) 1)]) (rest := []) dX8_swaps_30 lX8_129 vX3_comeAsWished (by omega) (o38 hK) rfl rfl (Nat.le_of_ble_eq_true rfl) rfl (zC_v h (fun nu14 h => ?_))
      refine g_aload_n dX8_swaps_33 rfl ?_
      refine g_getR (k' := 38) dX8_swaps_34 (o0 hK) fX8_44 (by decide) (by decide) ?_
      refine g_aload_n dX8_swaps_37 rfl ?_
      refine g_getM' (jj := 3) dX8_swaps_38 (o0 hK) fX8_23 rfl rfl ?_
      refine g_callV (Y' := mX3_swapTillNobodyGains) (d' := 3) (As := [zR (nu14 0 3)]) (rest := []) dX8_swaps_41 lX8_176 vX3_swapTillNobodyGains (by omega) (o38 hK) rfl rfl (Nat.le_of_ble_eq_true rfl) rfl (zC_i h (fun r15 nu16 h => ?_))
      refine g_istore_n dX8_swaps_44 (by decide) rfl ?_
      refine g_iload_n dX8_swaps_45 rfl ?_
      refine g_iconst dX8_swaps_46 ?_
      refine g_icmp_ne (tgt := 54) dX8_swaps_47 (by decide) q1 (zin_d rfl) (fun c_ => ?_) (fun c_ => ?_)
      · have h := h.1 c_
        refine g_aload_n dX8_swaps_54 rfl ?_
        refine g_getR (k' := 38) dX8_swaps_55 (o0 hK) fX8_44 (by decide) (by decide) ?_
        refine g_getR (k' := 40) dX8_swaps_58 (o38 hK) fX8_133 (by decide) (by decide) ?_
        refine g_iload_n dX8_swaps_61 rfl ?_
        obtain ⟨q17, h⟩ := h
        obtain ⟨q18, h⟩ := h
        refine g_iald' (nn := 10) dX8_swaps_62 (r40 hK) rfl q17 q18 ?_
        exact g_ireturn dX8_swaps_63 rfl h
      · have h := h.2 c_
        refine g_iload_n dX8_swaps_50 rfl ?_
        refine g_goto (tgt := 63) dX8_swaps_51 (by decide) ?_
        exact g_ireturn dX8_swaps_63 rfl h
    · have h := h.2 c_
      refine g_iconst dX8_swaps_13 ?_
      exact g_ireturn dX8_swaps_14 rfl h
theorem sg_X8_wipe_0 {K d : Nat} {mu : Mem} {Q : AV → Mem → Prop} (hd : 0 ≤ d) (hK : 64 ≤ K) (h : Q (zI (mu 0 1)) (zup mu 0 1 0)) : zG K d mX8_wipe 0 [zR 0, zU] [] mu Q := by
  refine g_aload_n dX8_wipe_0 rfl ?_
  refine g_getI' (jj := 1) dX8_wipe_1 (o0 hK) fX8_91 rfl rfl ?_
  refine g_istore_n dX8_wipe_4 (by decide) rfl ?_
  refine g_aload_n dX8_wipe_5 rfl ?_
  refine g_iconst dX8_wipe_6 ?_
  refine g_putI' (jj := 1) dX8_wipe_7 (o0 hK) pX8_91 rfl rfl ?_
  refine g_iload_n dX8_wipe_10 rfl ?_
  exact g_ireturn dX8_wipe_11 rfl h
theorem sg_X8_within_0 {K d : Nat} {mu : Mem} {Q : AV → Mem → Prop} {a0 a1 a2 : Int} (hd : 0 ≤ d) (hK : 64 ≤ K) (h : (zin a0 ∧ zin a1 ∧ ((a0 < a1 → Q (zI 0) mu) ∧ (¬ a0 < a1 → (zin a2 ∧ ((a2 < a0 → Q (zI 0) mu) ∧ (¬ a2 < a0 → Q (zI 1) mu))))))) : zG K d mX8_within 0 [zI a0, zI a1, zI a2] [] mu Q := by
  refine g_iload_n dX8_within_0 rfl ?_
  refine g_iload_n dX8_within_1 rfl ?_
  obtain ⟨q1, h⟩ := h
  obtain ⟨q2, h⟩ := h
  refine g_icmp_lt (tgt := 14) dX8_within_2 (by decide) q1 q2 (fun c_ => ?_) (fun c_ => ?_)
  · have h := h.1 c_
    refine g_iconst dX8_within_14 ?_
    exact g_zreturn dX8_within_15 rfl (by decide) h
  · have h := h.2 c_
    refine g_iload_n dX8_within_5 rfl ?_
    refine g_iload_n dX8_within_6 rfl ?_
    obtain ⟨q3, h⟩ := h
    refine g_icmp_gt (tgt := 14) dX8_within_7 (by decide) q1 q3 (fun c_ => ?_) (fun c_ => ?_)
    · have h := h.1 c_
      refine g_iconst dX8_within_14 ?_
      exact g_zreturn dX8_within_15 rfl (by decide) h
    · have h := h.2 c_
      refine g_iconst dX8_within_10 ?_
      refine g_goto (tgt := 15) dX8_within_11 (by decide) ?_
      exact g_zreturn dX8_within_15 rfl (by decide) h
theorem sg_X8_worth_0 {K d : Nat} {mu : Mem} {Q : AV → Mem → Prop} {a1 a2 : Int} (hd : 3 ≤ d) (hK : 64 ≤ K) (h : zC K 1 mX8_isThing [zR 0, zI a1] mu (fun v_ nu2 => ∃ r1, v_ = zI r1 ∧ (zin r1 ∧ ((r1 = 0 → Q (zI (-1)) nu2) ∧ (¬ r1 = 0 → zC K 2 mX8_isSign [zR 0, zI a2] nu2 (fun v_ nu5 => ∃ r4, v_ = zI r4 ∧ (zin r4 ∧ ((¬ r4 = 0 → (isP K (nu5 0 3) ∧ zC K 0 mX2_worthOf [zR (nu5 0 3), zI a1, zI a2] nu5 (fun v_ nu8 => ∃ r7, v_ = zI r7 ∧ Q (zI r7) nu8))) ∧ (r4 = 0 → Q (zI (-1)) nu5))))))))) : zG K d mX8_worth 0 [zR 0, zI a1, zI a2] [] mu Q := by
  refine g_aload_n dX8_worth_0 rfl ?_
  refine g_iload_n dX8_worth_1 rfl ?_
  refine g_callV (Y' := mX8_isThing) (d' := 1) (As := [zI a1]) (rest := []) dX8_worth_2 lX8_113 vX8_isThing (by omega) (o0 hK) rfl rfl (Nat.le_of_ble_eq_true rfl) rfl (zC_i h (fun r1 nu2 h => ?_))
  obtain ⟨q3, h⟩ := h
  refine g_if_eq (tgt := 16) dX8_worth_5 (by decide) q3 (fun c_ => ?_) (fun c_ => ?_)
  · have h := h.1 c_
    refine g_iconst dX8_worth_16 ?_
    exact g_ireturn dX8_worth_17 rfl h
  · have h := h.2 c_
    refine g_aload_n dX8_worth_8 rfl ?_
    refine g_iload_n dX8_worth_9 rfl ?_
    refine g_callV (Y' := mX8_isSign) (d' := 2) (As := [zI a2]) (rest := []) dX8_worth_10 lX8_116 vX8_isSign (by omega) (o0 hK) rfl rfl (Nat.le_of_ble_eq_true rfl) rfl (zC_i h (fun r4 nu5 h => ?_))
    obtain ⟨q6, h⟩ := h
    refine g_if_ne (tgt := 18) dX8_worth_13 (by decide) q6 (fun c_ => ?_) (fun c_ => ?_)
    · have h := h.1 c_
      refine g_aload_n dX8_worth_18 rfl ?_
      refine g_getM' (jj := 3) dX8_worth_19 (o0 hK) fX8_23 rfl rfl ?_
      refine g_iload_n dX8_worth_22 rfl ?_
      refine g_iload_n dX8_worth_23 rfl ?_
      obtain ⟨q9, h⟩ := h
      refine g_callV (Y' := mX2_worthOf) (d' := 0) (As := [zI a1, zI a2]) (rest := []) dX8_worth_24 lX8_119 vX2_worthOf (by omega) (q9).ob rfl rfl (Nat.le_of_ble_eq_true rfl) rfl (zC_i h (fun r7 nu8 h => ?_))
      exact g_ireturn dX8_worth_27 rfl h
    · have h := h.2 c_
      refine g_iconst dX8_worth_16 ?_
      exact g_ireturn dX8_worth_17 rfl h
theorem sg_X8_write_0 {K d : Nat} {mu : Mem} {Q : AV → Mem → Prop} {a1 a2 : Int} (hd : 1 ≤ d) (hK : 64 ≤ K) (h : zC K 0 mX8_within [zI a1, zI 1, zI 8] mu (fun v_ nu2 => ∃ r1, v_ = zI r1 ∧ (zin r1 ∧ ((¬ r1 = 0 → (zin ((nu2 0 1) + a1) ∧ ((((nu2 0 1) + a1) ≤ 300 → zG K d mX8_write 32 [zR 0, zU, zJ a2, zU, zI (a1 - 1)] [] nu2 Q) ∧ (¬ ((nu2 0 1) + a1) ≤ 300 → Q (zI (-3)) nu2)))) ∧ (r1 = 0 → Q (zI (-1)) nu2))))) : zG K d mX8_write 0 [zR 0, zI a1, zJ a2, zU, zU] [] mu Q := by
  refine g_iload_n dX8_write_0 rfl ?_
  refine g_iconst dX8_write_1 ?_
  refine g_bipush dX8_write_2 rfl ?_
  refine g_callS (Y' := mX8_within) (d' := 0) (As := [zI a1, zI 1, zI 8]) (rest := []) dX8_write_4 lX8_87 vX8_within (by omega) rfl (Nat.le_of_ble_eq_true rfl) rfl (zC_i h (fun r1 nu2 h => ?_))
  obtain ⟨q3, h⟩ := h
  refine g_if_ne (tgt := 12) dX8_write_7 (by decide) q3 (fun c_ => ?_) (fun c_ => ?_)
  · have h := h.1 c_
    refine g_aload_n dX8_write_12 rfl ?_
    refine g_getI' (jj := 1) dX8_write_13 (o0 hK) fX8_91 rfl rfl ?_
    refine g_iload_n dX8_write_16 rfl ?_
    refine g_iadd dX8_write_17 ?_
    refine g_sipush dX8_write_18 rfl ?_
    obtain ⟨q4, h⟩ := h
    refine g_icmp_le (tgt := 27) dX8_write_21 (by decide) q4 (zin_d rfl) (fun c_ => ?_) (fun c_ => ?_)
    · have h := h.1 c_
      refine g_iload_n dX8_write_27 rfl ?_
      refine g_iconst dX8_write_28 ?_
      refine g_isub dX8_write_29 ?_
      refine g_istore dX8_write_30 (by decide) rfl ?_
      exact g_wk (zwk_s (zwk_u (zwk_s (zwk_s (zwk_s zwk_n))))) h
    · have h := h.2 c_
      refine g_bipush dX8_write_24 rfl ?_
      exact g_ireturn dX8_write_26 rfl h
  · have h := h.2 c_
    refine g_iconst dX8_write_10 ?_
    exact g_ireturn dX8_write_11 rfl h
theorem sg_X8_write_32 {K d : Nat} {mu : Mem} {Q : AV → Mem → Prop} {a2 a4 : Int} (hd : 1 ≤ d) (hK : 64 ≤ K) (h : (zin a4 ∧ ((a4 < 0 → Q (zI (mu 0 1)) mu) ∧ (¬ a4 < 0 → (0 ≤ (mu 0 1) ∧ (mu 0 1) < 300 ∧ zG K d mX8_write 32 [zR 0, zU, zJ a2, zU, zI (a4 + (-1))] [] (zup (zup mu 1 (mu 0 1) (((zlus a2 (8 * a4)).bmod 256).bmod 256)) 0 1 (((zup mu 1 (mu 0 1) (((zlus a2 (8 * a4)).bmod 256).bmod 256)) 0 1) + 1)) Q))))) : zG K d mX8_write 32 [zR 0, zU, zJ a2, zU, zI a4] [] mu Q := by
  refine g_iload dX8_write_32 rfl ?_
  obtain ⟨q1, h⟩ := h
  refine g_if_lt (tgt := 71) dX8_write_34 (by decide) q1 (fun c_ => ?_) (fun c_ => ?_)
  · have h := h.1 c_
    refine g_aload_n dX8_write_71 rfl ?_
    refine g_getI' (jj := 1) dX8_write_72 (o0 hK) fX8_91 rfl rfl ?_
    exact g_ireturn dX8_write_75 rfl h
  · have h := h.2 c_
    refine g_aload_n dX8_write_37 rfl ?_
    refine g_getR (k' := 1) dX8_write_38 (o0 hK) fX8_9 (by decide) (by decide) ?_
    refine g_aload_n dX8_write_41 rfl ?_
    refine g_getI' (jj := 1) dX8_write_42 (o0 hK) fX8_91 rfl rfl ?_
    refine g_lload_n dX8_write_45 rfl ?_
    refine g_bipush dX8_write_46 rfl ?_
    refine g_iload dX8_write_48 rfl ?_
    refine g_imul dX8_write_50 ?_
    refine g_lushr dX8_write_51 (zlus_ok _ _) ?_
    refine g_l2i dX8_write_52 ?_
    refine g_i2b dX8_write_53 ?_
    obtain ⟨q2, h⟩ := h
    obtain ⟨q3, h⟩ := h
    refine g_bast' (nn := 300) dX8_write_54 (r1 hK) rfl q2 q3 ?_
    refine g_aload_n dX8_write_55 rfl ?_
    refine g_dup dX8_write_56 (by simp) ?_
    refine g_getI' (jj := 1) dX8_write_57 (o0 hK) fX8_91 rfl rfl ?_
    refine g_iconst dX8_write_60 ?_
    refine g_iadd dX8_write_61 ?_
    refine g_putI' (jj := 1) dX8_write_62 (o0 hK) pX8_91 rfl rfl ?_
    refine g_iinc dX8_write_65 rfl (by decide) rfl ?_
    refine g_goto (tgt := 32) dX8_write_68 (by decide) ?_
    exact g_wk (zwk_s (zwk_s (zwk_s (zwk_s (zwk_s zwk_n))))) h
