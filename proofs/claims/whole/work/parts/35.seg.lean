theorem sg_X9_ahead_0 {K d : Nat} {mu : Mem} {Q : AV → Mem → Prop} {a1 a2 : Int} (hd : 5 ≤ d) (hK : 93 ≤ K) (h : zC K 1 mX9_isQueue [zR 64, zI a1] mu (fun v_ nu2 => ∃ r1, v_ = zI r1 ∧ (zin r1 ∧ ((r1 = 0 → Q (zI (-1)) nu2) ∧ (¬ r1 = 0 → (zin a2 ∧ zC K 0 mX9_in [zJ a2, zJ 0, zJ 11] nu2 (fun v_ nu6 => ∃ r5, v_ = zI r5 ∧ (zin r5 ∧ ((¬ r5 = 0 → zC K 0 mX9_isShort [zR 64] nu6 (fun v_ nu9 => ∃ r8, v_ = zI r8 ∧ (zin r8 ∧ ((¬ r8 = 0 → zC K 4 mX9_layStrangers [zR 64, zI a1] nu9 (fun v_ nu12 => ∃ r11, v_ = zI r11 ∧ (zin r11 ∧ ((r11 ≤ a2 → Q (zI (-4)) nu12) ∧ (¬ r11 ≤ a2 → (0 ≤ a2 ∧ a2 < 12 ∧ Q (zI (nu12 85 a2)) nu12)))))) ∧ (r8 = 0 → Q (zI (-2)) nu9))))) ∧ (r5 = 0 → Q (zI (-1)) nu6)))))))))) : zG K d mX9_ahead 0 [zR 64, zI a1, zI a2] [] mu Q := by
  refine g_aload_n dX9_ahead_0 rfl ?_
  refine g_iload_n dX9_ahead_1 rfl ?_
  refine g_callV (Y' := mX9_isQueue) (d' := 1) (As := [zI a1]) (rest := []) dX9_ahead_2 lX9_211 vX9_isQueue (by omega) (o64 hK) rfl rfl (Nat.le_of_ble_eq_true rfl) rfl (zC_i h (fun r1 nu2 h => ?_))
  obtain ⟨q3, h⟩ := h
  refine g_if_eq (tgt := 20) dX9_ahead_5 (by decide) q3 (fun c_ => ?_) (fun c_ => ?_)
  · have h := h.1 c_
    refine g_iconst dX9_ahead_20 ?_
    exact g_ireturn dX9_ahead_21 rfl h
  · have h := h.2 c_
    refine g_iload_n dX9_ahead_8 rfl ?_
    obtain ⟨q4, h⟩ := h
    refine g_i2l dX9_ahead_9 q4 ?_
    refine g_lconst (x := 0) dX9_ahead_10 rfl ?_
    refine g_ldc2 (x := 11) (zc64 (x := 11) (v := 11) (by decide +kernel) kX9_238) dX9_ahead_11 ?_
    refine g_callS (Y' := mX9_in) (d' := 0) (As := [zJ a2, zJ 0, zJ 11]) (rest := []) dX9_ahead_14 lX9_102 vX9_in (by omega) rfl (Nat.le_of_ble_eq_true rfl) rfl (zC_i h (fun r5 nu6 h => ?_))
    obtain ⟨q7, h⟩ := h
    refine g_if_ne (tgt := 22) dX9_ahead_17 (by decide) q7 (fun c_ => ?_) (fun c_ => ?_)
    · have h := h.1 c_
      refine g_aload_n dX9_ahead_22 rfl ?_
      refine g_callV (Y' := mX9_isShort) (d' := 0) (As := []) (rest := []) dX9_ahead_23 lX9_214 vX9_isShort (by omega) (o64 hK) rfl rfl (Nat.le_of_ble_eq_true rfl) rfl (zC_i h (fun r8 nu9 h => ?_))
      obtain ⟨q10, h⟩ := h
      refine g_if_ne (tgt := 32) dX9_ahead_26 (by decide) q10 (fun c_ => ?_) (fun c_ => ?_)
      · have h := h.1 c_
        refine g_iload_n dX9_ahead_32 rfl ?_
        refine g_aload_n dX9_ahead_33 rfl ?_
        refine g_iload_n dX9_ahead_34 rfl ?_
        refine g_callV (Y' := mX9_layStrangers) (d' := 4) (As := [zI a1]) (rest := [zI a2]) dX9_ahead_35 lX9_240 vX9_layStrangers (by omega) (o64 hK) rfl rfl (Nat.le_of_ble_eq_true rfl) rfl (zC_i h (fun r11 nu12 h => ?_))
        obtain ⟨q13, h⟩ := h
        refine g_icmp_ge (tgt := 50) dX9_ahead_38 (by decide) q4 q13 (fun c_ => ?_) (fun c_ => ?_)
        · have h := h.1 c_
          refine g_bipush dX9_ahead_50 rfl ?_
          exact g_ireturn dX9_ahead_52 rfl h
        · have h := h.2 c_
          refine g_aload_n dX9_ahead_41 rfl ?_
          refine g_getR (k' := 85) dX9_ahead_42 (o64 hK) fX9_71 (by decide) (by decide) ?_
          refine g_iload_n dX9_ahead_45 rfl ?_
          obtain ⟨q14, h⟩ := h
          obtain ⟨q15, h⟩ := h
          refine g_iald' (nn := 12) dX9_ahead_46 (r85 hK) rfl q14 q15 ?_
          refine g_goto (tgt := 52) dX9_ahead_47 (by decide) ?_
          exact g_ireturn dX9_ahead_52 rfl h
      · have h := h.2 c_
        refine g_bipush dX9_ahead_29 rfl ?_
        exact g_ireturn dX9_ahead_31 rfl h
    · have h := h.2 c_
      refine g_iconst dX9_ahead_20 ?_
      exact g_ireturn dX9_ahead_21 rfl h
theorem sg_X9_aheadItem_0 {K d : Nat} {mu : Mem} {Q : AV → Mem → Prop} (hd : 2 ≤ d) (hK : 93 ≤ K) (h : zC K 1 mX9_figures [zR 64, zI 1] mu (fun v_ nu2 => ∃ r1, v_ = zI r1 ∧ (zin r1 ∧ ((r1 = 0 → Q (zI 0) nu2) ∧ (¬ r1 = 0 → (zin (nu2 68 1) ∧ (((nu2 68 1) = 6 → Q (zI 0) nu2) ∧ (¬ (nu2 68 1) = 6 → (zin (nu2 80 0) ∧ (((nu2 80 0) ≤ 5 → (0 ≤ (6 + (nu2 68 1)) ∧ (6 + (nu2 68 1)) < 12 ∧ zC K 0 mX9_meet [zR 64, zI ((zup (zup nu2 69 (6 + (nu2 68 1)) (nu2 80 0)) 68 1 (((zup nu2 69 (6 + (nu2 68 1)) (nu2 80 0)) 68 1) + 1)) 80 0)] (zup (zup nu2 69 (6 + (nu2 68 1)) (nu2 80 0)) 68 1 (((zup nu2 69 (6 + (nu2 68 1)) (nu2 80 0)) 68 1) + 1)) (fun v_ nu9 => v_ = zV ∧ Q (zI 1) nu9))) ∧ (¬ (nu2 80 0) ≤ 5 → Q (zI 0) nu2))))))))))) : zG K d mX9_aheadItem 0 [zR 64] [] mu Q := by
  refine g_aload_n dX9_aheadItem_0 rfl ?_
  refine g_iconst dX9_aheadItem_1 ?_
  refine g_callV (Y' := mX9_figures) (d' := 1) (As := [zI 1]) (rest := []) dX9_aheadItem_2 lX9_128 vX9_figures (by omega) (o64 hK) rfl rfl (Nat.le_of_ble_eq_true rfl) rfl (zC_i h (fun r1 nu2 h => ?_))
  obtain ⟨q3, h⟩ := h
  refine g_if_eq (tgt := 29) dX9_aheadItem_5 (by decide) q3 (fun c_ => ?_) (fun c_ => ?_)
  · have h := h.1 c_
    refine g_iconst dX9_aheadItem_29 ?_
    exact g_zreturn dX9_aheadItem_30 rfl (by decide) h
  · have h := h.2 c_
    refine g_aload_n dX9_aheadItem_8 rfl ?_
    refine g_getR (k' := 68) dX9_aheadItem_9 (o64 hK) fX9_19 (by decide) (by decide) ?_
    refine g_iconst dX9_aheadItem_12 ?_
    refine g_iald' (nn := 2) dX9_aheadItem_13 (r68 hK) rfl (by decide) (by decide) ?_
    refine g_bipush dX9_aheadItem_14 rfl ?_
    obtain ⟨q4, h⟩ := h
    refine g_icmp_eq (tgt := 29) dX9_aheadItem_16 (by decide) q4 (zin_d rfl) (fun c_ => ?_) (fun c_ => ?_)
    · have h := h.1 c_
      refine g_iconst dX9_aheadItem_29 ?_
      exact g_zreturn dX9_aheadItem_30 rfl (by decide) h
    · have h := h.2 c_
      refine g_aload_n dX9_aheadItem_19 rfl ?_
      refine g_getR (k' := 80) dX9_aheadItem_20 (o64 hK) fX9_55 (by decide) (by decide) ?_
      refine g_iconst dX9_aheadItem_23 ?_
      refine g_iald' (nn := 4) dX9_aheadItem_24 (r80 hK) rfl (by decide) (by decide) ?_
      refine g_iconst dX9_aheadItem_25 ?_
      obtain ⟨q5, h⟩ := h
      refine g_icmp_le (tgt := 31) dX9_aheadItem_26 (by decide) q5 (zin_d rfl) (fun c_ => ?_) (fun c_ => ?_)
      · have h := h.1 c_
        refine g_aload_n dX9_aheadItem_31 rfl ?_
        refine g_getR (k' := 69) dX9_aheadItem_32 (o64 hK) fX9_22 (by decide) (by decide) ?_
        refine g_bipush dX9_aheadItem_35 rfl ?_
        refine g_aload_n dX9_aheadItem_37 rfl ?_
        refine g_getR (k' := 68) dX9_aheadItem_38 (o64 hK) fX9_19 (by decide) (by decide) ?_
        refine g_iconst dX9_aheadItem_41 ?_
        refine g_iald' (nn := 2) dX9_aheadItem_42 (r68 hK) rfl (by decide) (by decide) ?_
        refine g_iadd dX9_aheadItem_43 ?_
        refine g_aload_n dX9_aheadItem_44 rfl ?_
        refine g_getR (k' := 80) dX9_aheadItem_45 (o64 hK) fX9_55 (by decide) (by decide) ?_
        refine g_iconst dX9_aheadItem_48 ?_
        refine g_iald' (nn := 4) dX9_aheadItem_49 (r80 hK) rfl (by decide) (by decide) ?_
        obtain ⟨q6, h⟩ := h
        obtain ⟨q7, h⟩ := h
        refine g_iast' (nn := 12) dX9_aheadItem_50 (r69 hK) rfl q6 q7 ?_
        refine g_aload_n dX9_aheadItem_51 rfl ?_
        refine g_getR (k' := 68) dX9_aheadItem_52 (o64 hK) fX9_19 (by decide) (by decide) ?_
        refine g_iconst dX9_aheadItem_55 ?_
        refine g_dup2 dX9_aheadItem_56 (by simp) (by simp) ?_
        refine g_iald' (nn := 2) dX9_aheadItem_57 (r68 hK) rfl (by decide) (by decide) ?_
        refine g_iconst dX9_aheadItem_58 ?_
        refine g_iadd dX9_aheadItem_59 ?_
        refine g_iast' (nn := 2) dX9_aheadItem_60 (r68 hK) rfl (by decide) (by decide) ?_
        refine g_aload_n dX9_aheadItem_61 rfl ?_
        refine g_aload_n dX9_aheadItem_62 rfl ?_
        refine g_getR (k' := 80) dX9_aheadItem_63 (o64 hK) fX9_55 (by decide) (by decide) ?_
        refine g_iconst dX9_aheadItem_66 ?_
        refine g_iald' (nn := 4) dX9_aheadItem_67 (r80 hK) rfl (by decide) (by decide) ?_
        refine g_callV (Y' := mX9_meet) (d' := 0) (As := [zI ((zup (zup nu2 69 (6 + (nu2 68 1)) (nu2 80 0)) 68 1 (((zup nu2 69 (6 + (nu2 68 1)) (nu2 80 0)) 68 1) + 1)) 80 0)]) (rest := []) dX9_aheadItem_68 lX9_132 vX9_meet (by omega) (o64 hK) rfl rfl (Nat.le_of_ble_eq_true rfl) rfl (zC_v h (fun nu9 h => ?_))
        refine g_iconst dX9_aheadItem_71 ?_
        exact g_zreturn dX9_aheadItem_72 rfl (by decide) h
      · have h := h.2 c_
        refine g_iconst dX9_aheadItem_29 ?_
        exact g_zreturn dX9_aheadItem_30 rfl (by decide) h
theorem sg_X9_askFor_0 {K d : Nat} {mu : Mem} {Q : AV → Mem → Prop} {a1 : Int} (hd : 2 ≤ d) (hK : 93 ≤ K) (h : zC K 0 mX9_askNow [zR 64, zI 0] mu (fun v_ nu2 => v_ = zV ∧ zG K d mX9_askFor 13 [zR 64, zI a1, zI (-4), zI (-1), zI (-1), zU, zU] [] nu2 Q)) : zG K d mX9_askFor 0 [zR 64, zI a1, zU, zU, zU, zU, zU] [] mu Q := by
  refine g_bipush dX9_askFor_0 rfl ?_
  refine g_istore_n dX9_askFor_2 (by decide) rfl ?_
  refine g_iconst dX9_askFor_3 ?_
  refine g_istore_n dX9_askFor_4 (by decide) rfl ?_
  refine g_aload_n dX9_askFor_5 rfl ?_
  refine g_iconst dX9_askFor_6 ?_
  refine g_callV (Y' := mX9_askNow) (d' := 0) (As := [zI 0]) (rest := []) dX9_askFor_7 lX9_181 vX9_askNow (by omega) (o64 hK) rfl rfl (Nat.le_of_ble_eq_true rfl) rfl (zC_v h (fun nu2 h => ?_))
  refine g_iconst dX9_askFor_10 ?_
  refine g_istore dX9_askFor_11 (by decide) rfl ?_
  exact g_wk (zwk_s (zwk_s (zwk_s (zwk_s (zwk_s (zwk_s (zwk_s zwk_n))))))) h
theorem sg_X9_askFor_13 {K d : Nat} {mu : Mem} {Q : AV → Mem → Prop} {a1 a2 a3 a4 : Int} (hd : 2 ≤ d) (hK : 93 ≤ K) (h : (zin a4 ∧ zin (mu 66 0) ∧ (((mu 66 0) ≤ a4 → (0 ≤ ((mu 64 22) - 1) ∧ ((mu 64 22) - 1) < 16 ∧ Q (zI a2) (zup mu 81 ((mu 64 22) - 1) a2))) ∧ (¬ (mu 66 0) ≤ a4 → ((0 ≤ a4 → (0 ≤ ((mu 64 22) - 1) ∧ ((mu 64 22) - 1) < 16 ∧ zC K 1 mX9_gives [zR 64, zI ((zup mu 81 ((mu 64 22) - 1) a4) 67 0)] (zup mu 81 ((mu 64 22) - 1) a4) (fun v_ nu8 => ∃ r7, v_ = zI r7 ∧ (0 ≤ ((7 * a1) + r7) ∧ ((7 * a1) + r7) < 84 ∧ zin (nu8 72 ((7 * a1) + r7)) ∧ zin a3 ∧ (((nu8 72 ((7 * a1) + r7)) ≤ a3 → zG K d mX9_askFor 13 [zR 64, zI a1, zI a2, zI a3, zI (a4 + 1), zU, zU] [] nu8 Q) ∧ (¬ (nu8 72 ((7 * a1) + r7)) ≤ a3 → zG K d mX9_askFor 13 [zR 64, zI a1, zI a4, zI (nu8 72 ((7 * a1) + r7)), zI (a4 + 1), zU, zU] [] nu8 Q)))))) ∧ (¬ 0 ≤ a4 → (0 ≤ ((mu 64 22) - 1) ∧ ((mu 64 22) - 1) < 16 ∧ zC K 1 mX9_gives [zR 64, zI ((zup mu 81 ((mu 64 22) - 1) a1) 67 0)] (zup mu 81 ((mu 64 22) - 1) a1) (fun v_ nu16 => ∃ r15, v_ = zI r15 ∧ (0 ≤ ((7 * a1) + r15) ∧ ((7 * a1) + r15) < 84 ∧ zin (nu16 72 ((7 * a1) + r15)) ∧ zin a3 ∧ (((nu16 72 ((7 * a1) + r15)) ≤ a3 → zG K d mX9_askFor 13 [zR 64, zI a1, zI a2, zI a3, zI (a4 + 1), zU, zU] [] nu16 Q) ∧ (¬ (nu16 72 ((7 * a1) + r15)) ≤ a3 → zG K d mX9_askFor 13 [zR 64, zI a1, zI a1, zI (nu16 72 ((7 * a1) + r15)), zI (a4 + 1), zU, zU] [] nu16 Q))))))))))) : zG K d mX9_askFor 13 [zR 64, zI a1, zI a2, zI a3, zI a4, zU, zU] [] mu Q := by
  refine g_iload dX9_askFor_13 rfl ?_
  refine g_aload_n dX9_askFor_15 rfl ?_
  refine g_getR (k' := 66) dX9_askFor_16 (o64 hK) fX9_13 (by decide) (by decide) ?_
  refine g_iconst dX9_askFor_19 ?_
  refine g_iald' (nn := 2) dX9_askFor_20 (r66 hK) rfl (by decide) (by decide) ?_
  obtain ⟨q1, h⟩ := h
  obtain ⟨q2, h⟩ := h
  refine g_icmp_ge (tgt := 90) dX9_askFor_21 (by decide) q1 q2 (fun c_ => ?_) (fun c_ => ?_)
  · have h := h.1 c_
    refine g_aload_n dX9_askFor_90 rfl ?_
    refine g_getR (k' := 81) dX9_askFor_91 (o64 hK) fX9_58 (by decide) (by decide) ?_
    refine g_aload_n dX9_askFor_94 rfl ?_
    refine g_getI' (jj := 22) dX9_askFor_95 (o64 hK) fX9_171 rfl rfl ?_
    refine g_iconst dX9_askFor_98 ?_
    refine g_isub dX9_askFor_99 ?_
    refine g_iload_n dX9_askFor_100 rfl ?_
    obtain ⟨q3, h⟩ := h
    obtain ⟨q4, h⟩ := h
    refine g_iast' (nn := 16) dX9_askFor_101 (r81 hK) rfl q3 q4 ?_
    refine g_iload_n dX9_askFor_102 rfl ?_
    exact g_ireturn dX9_askFor_103 rfl h
  · have h := h.2 c_
    refine g_iload dX9_askFor_24 rfl ?_
    refine g_if_ge (tgt := 33) dX9_askFor_26 (by decide) q1 (fun c_ => ?_) (fun c_ => ?_)
    · have h := h.1 c_
      refine g_iload dX9_askFor_33 rfl ?_
      refine g_istore dX9_askFor_35 (by decide) rfl ?_
      refine g_aload_n dX9_askFor_37 rfl ?_
      refine g_getR (k' := 81) dX9_askFor_38 (o64 hK) fX9_58 (by decide) (by decide) ?_
      refine g_aload_n dX9_askFor_41 rfl ?_
      refine g_getI' (jj := 22) dX9_askFor_42 (o64 hK) fX9_171 rfl rfl ?_
      refine g_iconst dX9_askFor_45 ?_
      refine g_isub dX9_askFor_46 ?_
      refine g_iload dX9_askFor_47 rfl ?_
      obtain ⟨q5, h⟩ := h
      obtain ⟨q6, h⟩ := h
      refine g_iast' (nn := 16) dX9_askFor_49 (r81 hK) rfl q5 q6 ?_
      refine g_aload_n dX9_askFor_50 rfl ?_
      refine g_getR (k' := 72) dX9_askFor_51 (o64 hK) fX9_31 (by decide) (by decide) ?_
      refine g_bipush dX9_askFor_54 rfl ?_
      refine g_iload_n dX9_askFor_56 rfl ?_
      refine g_imul dX9_askFor_57 ?_
      refine g_aload_n dX9_askFor_58 rfl ?_
      refine g_aload_n dX9_askFor_59 rfl ?_
      refine g_getR (k' := 67) dX9_askFor_60 (o64 hK) fX9_16 (by decide) (by decide) ?_
      refine g_iconst dX9_askFor_63 ?_
      refine g_iald' (nn := 2) dX9_askFor_64 (r67 hK) rfl (by decide) (by decide) ?_
      refine g_callV (Y' := mX9_gives) (d' := 1) (As := [zI ((zup mu 81 ((mu 64 22) - 1) a4) 67 0)]) (rest := [zI (7 * a1), zR 72]) dX9_askFor_65 lX9_184 vX9_gives (by omega) (o64 hK) rfl rfl (Nat.le_of_ble_eq_true rfl) rfl (zC_i h (fun r7 nu8 h => ?_))
      refine g_iadd dX9_askFor_68 ?_
      obtain ⟨q9, h⟩ := h
      obtain ⟨q10, h⟩ := h
      refine g_iald' (nn := 84) dX9_askFor_69 (r72 hK) rfl q9 q10 ?_
      refine g_istore dX9_askFor_70 (by decide) rfl ?_
      refine g_iload dX9_askFor_72 rfl ?_
      refine g_iload_n dX9_askFor_74 rfl ?_
      obtain ⟨q11, h⟩ := h
      obtain ⟨q12, h⟩ := h
      refine g_icmp_le (tgt := 84) dX9_askFor_75 (by decide) q11 q12 (fun c_ => ?_) (fun c_ => ?_)
      · have h := h.1 c_
        refine g_iinc dX9_askFor_84 rfl (by decide) rfl ?_
        refine g_goto (tgt := 13) dX9_askFor_87 (by decide) ?_
        exact g_wk (zwk_s (zwk_s (zwk_s (zwk_s (zwk_s (zwk_u (zwk_u zwk_n))))))) h
      · have h := h.2 c_
        refine g_iload dX9_askFor_78 rfl ?_
        refine g_istore_n dX9_askFor_80 (by decide) rfl ?_
        refine g_iload dX9_askFor_81 rfl ?_
        refine g_istore_n dX9_askFor_83 (by decide) rfl ?_
        refine g_iinc dX9_askFor_84 rfl (by decide) rfl ?_
        refine g_goto (tgt := 13) dX9_askFor_87 (by decide) ?_
        exact g_wk (zwk_s (zwk_s (zwk_s (zwk_s (zwk_s (zwk_u (zwk_u zwk_n))))))) h
    · have h := h.2 c_
      refine g_iload_n dX9_askFor_29 rfl ?_
      refine g_goto (tgt := 35) dX9_askFor_30 (by decide) ?_
      refine g_istore dX9_askFor_35 (by decide) rfl ?_
      refine g_aload_n dX9_askFor_37 rfl ?_
      refine g_getR (k' := 81) dX9_askFor_38 (o64 hK) fX9_58 (by decide) (by decide) ?_
      refine g_aload_n dX9_askFor_41 rfl ?_
      refine g_getI' (jj := 22) dX9_askFor_42 (o64 hK) fX9_171 rfl rfl ?_
      refine g_iconst dX9_askFor_45 ?_
      refine g_isub dX9_askFor_46 ?_
      refine g_iload dX9_askFor_47 rfl ?_
      obtain ⟨q13, h⟩ := h
      obtain ⟨q14, h⟩ := h
      refine g_iast' (nn := 16) dX9_askFor_49 (r81 hK) rfl q13 q14 ?_
      refine g_aload_n dX9_askFor_50 rfl ?_
      refine g_getR (k' := 72) dX9_askFor_51 (o64 hK) fX9_31 (by decide) (by decide) ?_
      refine g_bipush dX9_askFor_54 rfl ?_
      refine g_iload_n dX9_askFor_56 rfl ?_
      refine g_imul dX9_askFor_57 ?_
      refine g_aload_n dX9_askFor_58 rfl ?_
      refine g_aload_n dX9_askFor_59 rfl ?_
      refine g_getR (k' := 67) dX9_askFor_60 (o64 hK) fX9_16 (by decide) (by decide) ?_
      refine g_iconst dX9_askFor_63 ?_
      refine g_iald' (nn := 2) dX9_askFor_64 (r67 hK) rfl (by decide) (by decide) ?_
      refine g_callV (Y' := mX9_gives) (d' := 1) (As := [zI ((zup mu 81 ((mu 64 22) - 1) a1) 67 0)]) (rest := [zI (7 * a1), zR 72]) dX9_askFor_65 lX9_184 vX9_gives (by omega) (o64 hK) rfl rfl (Nat.le_of_ble_eq_true rfl) rfl (zC_i h (fun r15 nu16 h => ?_))
      refine g_iadd dX9_askFor_68 ?_
      obtain ⟨q17, h⟩ := h
      obtain ⟨q18, h⟩ := h
      refine g_iald' (nn := 84) dX9_askFor_69 (r72 hK) rfl q17 q18 ?_
      refine g_istore dX9_askFor_70 (by decide) rfl ?_
      refine g_iload dX9_askFor_72 rfl ?_
      refine g_iload_n dX9_askFor_74 rfl ?_
      obtain ⟨q19, h⟩ := h
      obtain ⟨q20, h⟩ := h
      refine g_icmp_le (tgt := 84) dX9_askFor_75 (by decide) q19 q20 (fun c_ => ?_) (fun c_ => ?_)
      · have h := h.1 c_
        refine g_iinc dX9_askFor_84 rfl (by decide) rfl ?_
        refine g_goto (tgt := 13) dX9_askFor_87 (by decide) ?_
        exact g_wk (zwk_s (zwk_s (zwk_s (zwk_s (zwk_s (zwk_u (zwk_u zwk_n))))))) h
      · have h := h.2 c_
        refine g_iload dX9_askFor_78 rfl ?_
        refine g_istore_n dX9_askFor_80 (by decide) rfl ?_
        refine g_iload dX9_askFor_81 rfl ?_
        refine g_istore_n dX9_askFor_83 (by decide) rfl ?_
        refine g_iinc dX9_askFor_84 rfl (by decide) rfl ?_
        refine g_goto (tgt := 13) dX9_askFor_87 (by decide) ?_
        exact g_wk (zwk_s (zwk_s (zwk_s (zwk_s (zwk_s (zwk_u (zwk_u zwk_n))))))) h
theorem sg_X9_askNow_0 {K d : Nat} {mu : Mem} {Q : AV → Mem → Prop} {a1 : Int} (hd : 0 ≤ d) (hK : 93 ≤ K) (h : (0 ≤ (mu 64 22) ∧ (mu 64 22) < 16 ∧ Q zV (zup (zup mu 81 (mu 64 22) a1) 64 22 (((zup mu 81 (mu 64 22) a1) 64 22) + 1)))) : zG K d mX9_askNow 0 [zR 64, zI a1] [] mu Q := by
  refine g_aload_n dX9_askNow_0 rfl ?_
  refine g_getR (k' := 81) dX9_askNow_1 (o64 hK) fX9_58 (by decide) (by decide) ?_
  refine g_aload_n dX9_askNow_4 rfl ?_
  refine g_getI' (jj := 22) dX9_askNow_5 (o64 hK) fX9_171 rfl rfl ?_
  refine g_iload_n dX9_askNow_8 rfl ?_
  obtain ⟨q1, h⟩ := h
  obtain ⟨q2, h⟩ := h
  refine g_iast' (nn := 16) dX9_askNow_9 (r81 hK) rfl q1 q2 ?_
  refine g_aload_n dX9_askNow_10 rfl ?_
  refine g_dup dX9_askNow_11 (by simp) ?_
  refine g_getI' (jj := 22) dX9_askNow_12 (o64 hK) fX9_171 rfl rfl ?_
  refine g_iconst dX9_askNow_15 ?_
  refine g_iadd dX9_askNow_16 ?_
  refine g_putI' (jj := 22) dX9_askNow_17 (o64 hK) pX9_171 rfl rfl ?_
  exact g_return dX9_askNow_20 rfl h
theorem sg_X9_asks_0 {K d : Nat} {mu : Mem} {Q : AV → Mem → Prop} {a1 a2 : Int} (hd : 3 ≤ d) (hK : 93 ≤ K) (h : zC K 1 mX9_isWish [zR 64, zI a1] mu (fun v_ nu2 => ∃ r1, v_ = zI r1 ∧ (zin r1 ∧ ((r1 = 0 → Q (zI (-1)) nu2) ∧ (¬ r1 = 0 → (zin a2 ∧ zC K 0 mX9_in [zJ a2, zJ 0, zJ 1] nu2 (fun v_ nu6 => ∃ r5, v_ = zI r5 ∧ (zin r5 ∧ ((¬ r5 = 0 → zC K 0 mX9_beginRow [zR 64] nu6 (fun v_ nu9 => v_ = zV ∧ zG K d mX9_asks 29 [zR 64, zI a1, zI a2, zI 0, zI 0] [] nu9 Q)) ∧ (r5 = 0 → Q (zI (-1)) nu6)))))))))) : zG K d mX9_asks 0 [zR 64, zI a1, zI a2, zU, zU] [] mu Q := by
  refine g_aload_n dX9_asks_0 rfl ?_
  refine g_iload_n dX9_asks_1 rfl ?_
  refine g_callV (Y' := mX9_isWish) (d' := 1) (As := [zI a1]) (rest := []) dX9_asks_2 lX9_187 vX9_isWish (by omega) (o64 hK) rfl rfl (Nat.le_of_ble_eq_true rfl) rfl (zC_i h (fun r1 nu2 h => ?_))
  obtain ⟨q3, h⟩ := h
  refine g_if_eq (tgt := 18) dX9_asks_5 (by decide) q3 (fun c_ => ?_) (fun c_ => ?_)
  · have h := h.1 c_
    refine g_iconst dX9_asks_18 ?_
    exact g_ireturn dX9_asks_19 rfl h
  · have h := h.2 c_
    refine g_iload_n dX9_asks_8 rfl ?_
    obtain ⟨q4, h⟩ := h
    refine g_i2l dX9_asks_9 q4 ?_
    refine g_lconst (x := 0) dX9_asks_10 rfl ?_
    refine g_lconst (x := 1) dX9_asks_11 rfl ?_
    refine g_callS (Y' := mX9_in) (d' := 0) (As := [zJ a2, zJ 0, zJ 1]) (rest := []) dX9_asks_12 lX9_102 vX9_in (by omega) rfl (Nat.le_of_ble_eq_true rfl) rfl (zC_i h (fun r5 nu6 h => ?_))
    obtain ⟨q7, h⟩ := h
    refine g_if_ne (tgt := 20) dX9_asks_15 (by decide) q7 (fun c_ => ?_) (fun c_ => ?_)
    · have h := h.1 c_
      refine g_aload_n dX9_asks_20 rfl ?_
      refine g_callV (Y' := mX9_beginRow) (d' := 0) (As := []) (rest := []) dX9_asks_21 lX9_178 vX9_beginRow (by omega) (o64 hK) rfl rfl (Nat.le_of_ble_eq_true rfl) rfl (zC_v h (fun nu9 h => ?_))
      refine g_iconst dX9_asks_24 ?_
      refine g_istore_n dX9_asks_25 (by decide) rfl ?_
      refine g_iconst dX9_asks_26 ?_
      refine g_istore dX9_asks_27 (by decide) rfl ?_
      exact g_wk (zwk_s (zwk_s (zwk_s (zwk_s (zwk_s zwk_n))))) h
    · have h := h.2 c_
      refine g_iconst dX9_asks_18 ?_
      exact g_ireturn dX9_asks_19 rfl h
theorem sg_X9_asks_29 {K d : Nat} {mu : Mem} {Q : AV → Mem → Prop} {a1 a2 a3 a4 : Int} (hd : 3 ≤ d) (hK : 93 ≤ K) (h : (zin a4 ∧ zin a1 ∧ ((a1 < a4 → (zin a2 ∧ ((¬ a2 = 0 → zC K 1 mX9_gives [zR 64, zI (mu 67 0)] mu (fun v_ nu5 => ∃ r4, v_ = zI r4 ∧ Q (zI r4) nu5)) ∧ (a2 = 0 → Q (zI a3) mu)))) ∧ (¬ a1 < a4 → (0 ≤ a4 ∧ a4 < 20 ∧ zC K 2 mX9_askFor [zR 64, zI (mu 71 a4)] mu (fun v_ nu9 => ∃ r8, v_ = zI r8 ∧ zG K d mX9_asks 29 [zR 64, zI a1, zI a2, zI r8, zI (a4 + 1)] [] nu9 Q)))))) : zG K d mX9_asks 29 [zR 64, zI a1, zI a2, zI a3, zI a4] [] mu Q := by
  refine g_iload dX9_asks_29 rfl ?_
  refine g_iload_n dX9_asks_31 rfl ?_
  obtain ⟨q1, h⟩ := h
  obtain ⟨q2, h⟩ := h
  refine g_icmp_gt (tgt := 53) dX9_asks_32 (by decide) q1 q2 (fun c_ => ?_) (fun c_ => ?_)
  · have h := h.1 c_
    refine g_iload_n dX9_asks_53 rfl ?_
    obtain ⟨q3, h⟩ := h
    refine g_if_ne (tgt := 61) dX9_asks_54 (by decide) q3 (fun c_ => ?_) (fun c_ => ?_)
    · have h := h.1 c_
      refine g_aload_n dX9_asks_61 rfl ?_
      refine g_aload_n dX9_asks_62 rfl ?_
      refine g_getR (k' := 67) dX9_asks_63 (o64 hK) fX9_16 (by decide) (by decide) ?_
      refine g_iconst dX9_asks_66 ?_
      refine g_iald' (nn := 2) dX9_asks_67 (r67 hK) rfl (by decide) (by decide) ?_
      refine g_callV (Y' := mX9_gives) (d' := 1) (As := [zI (mu 67 0)]) (rest := []) dX9_asks_68 lX9_184 vX9_gives (by omega) (o64 hK) rfl rfl (Nat.le_of_ble_eq_true rfl) rfl (zC_i h (fun r4 nu5 h => ?_))
      exact g_ireturn dX9_asks_71 rfl h
    · have h := h.2 c_
      refine g_iload_n dX9_asks_57 rfl ?_
      refine g_goto (tgt := 71) dX9_asks_58 (by decide) ?_
      exact g_ireturn dX9_asks_71 rfl h
  · have h := h.2 c_
    refine g_aload_n dX9_asks_35 rfl ?_
    refine g_aload_n dX9_asks_36 rfl ?_
    refine g_getR (k' := 71) dX9_asks_37 (o64 hK) fX9_28 (by decide) (by decide) ?_
    refine g_iload dX9_asks_40 rfl ?_
    obtain ⟨q6, h⟩ := h
    obtain ⟨q7, h⟩ := h
    refine g_iald' (nn := 20) dX9_asks_42 (r71 hK) rfl q6 q7 ?_
    refine g_callV (Y' := mX9_askFor) (d' := 2) (As := [zI (mu 71 a4)]) (rest := []) dX9_asks_43 lX9_243 vX9_askFor (by omega) (o64 hK) rfl rfl (Nat.le_of_ble_eq_true rfl) rfl (zC_i h (fun r8 nu9 h => ?_))
    refine g_istore_n dX9_asks_46 (by decide) rfl ?_
    refine g_iinc dX9_asks_47 rfl (by decide) rfl ?_
    refine g_goto (tgt := 29) dX9_asks_50 (by decide) ?_
    exact g_wk (zwk_s (zwk_s (zwk_s (zwk_s (zwk_s zwk_n))))) h
theorem sg_X9_back_0 {K d : Nat} {mu : Mem} {Q : AV → Mem → Prop} (hd : 1 ≤ d) (hK : 93 ≤ K) (h : (zin (mu 64 16) ∧ ((¬ (mu 64 16) = 0 → zC K 0 mX9_copy [zR 64, zI (mu 64 16), zI 0] mu (fun v_ nu3 => v_ = zV ∧ Q (zI ((zup nu3 64 16 ((nu3 64 16) - 1)) 64 16)) (zup nu3 64 16 ((nu3 64 16) - 1)))) ∧ ((mu 64 16) = 0 → Q (zI (-2)) mu)))) : zG K d mX9_back 0 [zR 64] [] mu Q := by
  refine g_aload_n dX9_back_0 rfl ?_
  refine g_getI' (jj := 16) dX9_back_1 (o64 hK) fX9_162 rfl rfl ?_
  obtain ⟨q1, h⟩ := h
  refine g_if_ne (tgt := 10) dX9_back_4 (by decide) q1 (fun c_ => ?_) (fun c_ => ?_)
  · have h := h.1 c_
    refine g_aload_n dX9_back_10 rfl ?_
    refine g_aload_n dX9_back_11 rfl ?_
    refine g_getI' (jj := 16) dX9_back_12 (o64 hK) fX9_162 rfl rfl ?_
    refine g_iconst dX9_back_15 ?_
    refine g_callV (Y' := mX9_copy) (d' := 0) (As := [zI (mu 64 16), zI 0]) (rest := []) dX9_back_16 lX9_279 vX9_copy (by omega) (o64 hK) rfl rfl (Nat.le_of_ble_eq_true rfl) rfl (zC_v h (fun nu3 h => ?_))
    refine g_aload_n dX9_back_19 rfl ?_
    refine g_dup dX9_back_20 (by simp) ?_
    refine g_getI' (jj := 16) dX9_back_21 (o64 hK) fX9_162 rfl rfl ?_
    refine g_iconst dX9_back_24 ?_
    refine g_isub dX9_back_25 ?_
    refine g_putI' (jj := 16) dX9_back_26 (o64 hK) pX9_162 rfl rfl ?_
    refine g_aload_n dX9_back_29 rfl ?_
    refine g_getI' (jj := 16) dX9_back_30 (o64 hK) fX9_162 rfl rfl ?_
    exact g_ireturn dX9_back_33 rfl h
  · have h := h.2 c_
    refine g_bipush dX9_back_7 rfl ?_
    exact g_ireturn dX9_back_9 rfl h
theorem sg_X9_before_0 {K d : Nat} {mu : Mem} {Q : AV → Mem → Prop} (hd : 1 ≤ d) (hK : 93 ≤ K) (h : (zin (mu 74 0) ∧ ((¬ (mu 74 0) = 0 → zG K d mX9_before 17 [zR 64, zJ 1, zU, zI 0, zU, zU, zU, zU] [] mu Q) ∧ ((mu 74 0) = 0 → Q (zJ (-2)) mu)))) : zG K d mX9_before 0 [zR 64, zU, zU, zU, zU, zU, zU, zU] [] mu Q := by
  refine g_aload_n dX9_before_0 rfl ?_
  refine g_getR (k' := 74) dX9_before_1 (o64 hK) fX9_37 (by decide) (by decide) ?_
  refine g_iconst dX9_before_4 ?_
  refine g_iald' (nn := 2) dX9_before_5 (r74 hK) rfl (by decide) (by decide) ?_
  obtain ⟨q1, h⟩ := h
  refine g_if_ne (tgt := 13) dX9_before_6 (by decide) q1 (fun c_ => ?_) (fun c_ => ?_)
  · have h := h.1 c_
    refine g_lconst (x := 1) dX9_before_13 rfl ?_
    refine g_lstore_n dX9_before_14 (by decide) rfl ?_
    refine g_iconst dX9_before_15 ?_
    refine g_istore_n dX9_before_16 (by decide) rfl ?_
    exact g_wk (zwk_s (zwk_s (zwk_s (zwk_s (zwk_s (zwk_s (zwk_s (zwk_s zwk_n)))))))) h
  · have h := h.2 c_
    refine g_ldc2 (x := (-2)) (zc64 (x := (-2)) (v := (-2)) (by decide +kernel) kX9_252) dX9_before_9 ?_
    exact g_lreturn dX9_before_12 rfl h
theorem sg_X9_before_17 {K d : Nat} {mu : Mem} {Q : AV → Mem → Prop} {a1 a3 : Int} (hd : 1 ≤ d) (hK : 93 ≤ K) (h : (zin a3 ∧ zin (mu 74 0) ∧ (((mu 74 0) ≤ a3 → Q (zJ a1) mu) ∧ (¬ (mu 74 0) ≤ a3 → zG K d mX9_before 33 [zR 64, zJ a1, zU, zI a3, zI 0, zI 0, zU, zU] [] mu Q)))) : zG K d mX9_before 17 [zR 64, zJ a1, zU, zI a3, zU, zU, zU, zU] [] mu Q := by
  refine g_iload_n dX9_before_17 rfl ?_
  refine g_aload_n dX9_before_18 rfl ?_
  refine g_getR (k' := 74) dX9_before_19 (o64 hK) fX9_37 (by decide) (by decide) ?_
  refine g_iconst dX9_before_22 ?_
  refine g_iald' (nn := 2) dX9_before_23 (r74 hK) rfl (by decide) (by decide) ?_
  obtain ⟨q1, h⟩ := h
  obtain ⟨q2, h⟩ := h
  refine g_icmp_ge (tgt := 235) dX9_before_24 (by decide) q1 q2 (fun c_ => ?_) (fun c_ => ?_)
  · have h := h.1 c_
    refine g_lload_n dX9_before_235 rfl ?_
    exact g_lreturn dX9_before_236 rfl h
  · have h := h.2 c_
    refine g_iconst dX9_before_27 ?_
    refine g_istore dX9_before_28 (by decide) rfl ?_
    refine g_iconst dX9_before_30 ?_
    refine g_istore dX9_before_31 (by decide) rfl ?_
    exact g_wk (zwk_s (zwk_s (zwk_s (zwk_s (zwk_s (zwk_s (zwk_s (zwk_s zwk_n)))))))) h
theorem sg_X9_before_33 {K d : Nat} {mu : Mem} {Q : AV → Mem → Prop} {a1 a3 a4 a5 : Int} (hd : 1 ≤ d) (hK : 93 ≤ K) (h : (zin a5 ∧ zin (mu 66 0) ∧ (((mu 66 0) < a5 → zG K d mX9_before 122 [zR 64, zJ a1, zU, zI a3, zI a4, zI (-4), zI 1, zI 0] [] mu Q) ∧ (¬ (mu 66 0) < a5 → (((mu 66 0) ≤ a5 → (0 ≤ (3 * a3) ∧ (3 * a3) < 54 ∧ 0 ≤ ((3 * a3) + 1) ∧ ((3 * a3) + 1) < 54 ∧ zC K 0 mX9_three [zI 6, zI (mu 77 (3 * a3)), zI (mu 77 ((3 * a3) + 1))] mu (fun v_ nu8 => ∃ r7, v_ = zI r7 ∧ (0 ≤ ((3 * a3) + 2) ∧ ((3 * a3) + 2) < 54 ∧ zin r7 ∧ zin (nu8 77 ((3 * a3) + 2)) ∧ ((¬ r7 = (nu8 77 ((3 * a3) + 2)) → zG K d mX9_before 33 [zR 64, zJ a1, zU, zI a3, zI (a4 + 0), zI (a5 + 1), zU, zU] [] nu8 Q) ∧ (r7 = (nu8 77 ((3 * a3) + 2)) → zG K d mX9_before 33 [zR 64, zJ a1, zU, zI a3, zI (a4 + 1), zI (a5 + 1), zU, zU] [] nu8 Q)))))) ∧ (¬ (mu 66 0) ≤ a5 → (0 ≤ (3 * a3) ∧ (3 * a3) < 54 ∧ 0 ≤ ((3 * a3) + 1) ∧ ((3 * a3) + 1) < 54 ∧ zC K 0 mX9_three [zI a5, zI (mu 77 (3 * a3)), zI (mu 77 ((3 * a3) + 1))] mu (fun v_ nu18 => ∃ r17, v_ = zI r17 ∧ (0 ≤ ((3 * a3) + 2) ∧ ((3 * a3) + 2) < 54 ∧ zin r17 ∧ zin (nu18 77 ((3 * a3) + 2)) ∧ ((¬ r17 = (nu18 77 ((3 * a3) + 2)) → zG K d mX9_before 33 [zR 64, zJ a1, zU, zI a3, zI (a4 + 0), zI (a5 + 1), zU, zU] [] nu18 Q) ∧ (r17 = (nu18 77 ((3 * a3) + 2)) → zG K d mX9_before 33 [zR 64, zJ a1, zU, zI a3, zI (a4 + 1), zI (a5 + 1), zU, zU] [] nu18 Q))))))))))) : zG K d mX9_before 33 [zR 64, zJ a1, zU, zI a3, zI a4, zI a5, zU, zU] [] mu Q := by
  refine g_iload dX9_before_33 rfl ?_
  refine g_aload_n dX9_before_35 rfl ?_
  refine g_getR (k' := 66) dX9_before_36 (o64 hK) fX9_13 (by decide) (by decide) ?_
  refine g_iconst dX9_before_39 ?_
  refine g_iald' (nn := 2) dX9_before_40 (r66 hK) rfl (by decide) (by decide) ?_
  obtain ⟨q1, h⟩ := h
  obtain ⟨q2, h⟩ := h
  refine g_icmp_gt (tgt := 112) dX9_before_41 (by decide) q1 q2 (fun c_ => ?_) (fun c_ => ?_)
  · have h := h.1 c_
    refine g_bipush dX9_before_112 rfl ?_
    refine g_istore dX9_before_114 (by decide) rfl ?_
    refine g_iconst dX9_before_116 ?_
    refine g_istore dX9_before_117 (by decide) rfl ?_
    refine g_iconst dX9_before_119 ?_
    refine g_istore dX9_before_120 (by decide) rfl ?_
    exact g_wk (zwk_s (zwk_s (zwk_s (zwk_s (zwk_s (zwk_s (zwk_s (zwk_s zwk_n)))))))) h
  · have h := h.2 c_
    refine g_iload dX9_before_44 rfl ?_
    refine g_iload dX9_before_46 rfl ?_
    refine g_aload_n dX9_before_48 rfl ?_
    refine g_getR (k' := 66) dX9_before_49 (o64 hK) fX9_13 (by decide) (by decide) ?_
    refine g_iconst dX9_before_52 ?_
    refine g_iald' (nn := 2) dX9_before_53 (r66 hK) rfl (by decide) (by decide) ?_
    refine g_icmp_ge (tgt := 62) dX9_before_54 (by decide) q1 q2 (fun c_ => ?_) (fun c_ => ?_)
    · have h := h.1 c_
      refine g_bipush dX9_before_62 rfl ?_
      refine g_aload_n dX9_before_64 rfl ?_
      refine g_getR (k' := 77) dX9_before_65 (o64 hK) fX9_46 (by decide) (by decide) ?_
      refine g_iconst dX9_before_68 ?_
      refine g_iload_n dX9_before_69 rfl ?_
      refine g_imul dX9_before_70 ?_
      obtain ⟨q3, h⟩ := h
      obtain ⟨q4, h⟩ := h
      refine g_iald' (nn := 54) dX9_before_71 (r77 hK) rfl q3 q4 ?_
      refine g_aload_n dX9_before_72 rfl ?_
      refine g_getR (k' := 77) dX9_before_73 (o64 hK) fX9_46 (by decide) (by decide) ?_
      refine g_iconst dX9_before_76 ?_
      refine g_iload_n dX9_before_77 rfl ?_
      refine g_imul dX9_before_78 ?_
      refine g_iconst dX9_before_79 ?_
      refine g_iadd dX9_before_80 ?_
      obtain ⟨q5, h⟩ := h
      obtain ⟨q6, h⟩ := h
      refine g_iald' (nn := 54) dX9_before_81 (r77 hK) rfl q5 q6 ?_
      refine g_callS (Y' := mX9_three) (d' := 0) (As := [zI 6, zI (mu 77 (3 * a3)), zI (mu 77 ((3 * a3) + 1))]) (rest := [zI a4]) dX9_before_82 lX9_193 vX9_three (by omega) rfl (Nat.le_of_ble_eq_true rfl) rfl (zC_i h (fun r7 nu8 h => ?_))
      refine g_aload_n dX9_before_85 rfl ?_
      refine g_getR (k' := 77) dX9_before_86 (o64 hK) fX9_46 (by decide) (by decide) ?_
      refine g_iconst dX9_before_89 ?_
      refine g_iload_n dX9_before_90 rfl ?_
      refine g_imul dX9_before_91 ?_
      refine g_iconst dX9_before_92 ?_
      refine g_iadd dX9_before_93 ?_
      obtain ⟨q9, h⟩ := h
      obtain ⟨q10, h⟩ := h
      refine g_iald' (nn := 54) dX9_before_94 (r77 hK) rfl q9 q10 ?_
      obtain ⟨q11, h⟩ := h
      obtain ⟨q12, h⟩ := h
      refine g_icmp_ne (tgt := 102) dX9_before_95 (by decide) q11 q12 (fun c_ => ?_) (fun c_ => ?_)
      · have h := h.1 c_
        refine g_iconst dX9_before_102 ?_
        refine g_iadd dX9_before_103 ?_
        refine g_istore dX9_before_104 (by decide) rfl ?_
        refine g_iinc dX9_before_106 rfl (by decide) rfl ?_
        refine g_goto (tgt := 33) dX9_before_109 (by decide) ?_
        exact g_wk (zwk_s (zwk_s (zwk_s (zwk_s (zwk_s (zwk_s (zwk_s (zwk_s zwk_n)))))))) h
      · have h := h.2 c_
        refine g_iconst dX9_before_98 ?_
        refine g_goto (tgt := 103) dX9_before_99 (by decide) ?_
        refine g_iadd dX9_before_103 ?_
        refine g_istore dX9_before_104 (by decide) rfl ?_
        refine g_iinc dX9_before_106 rfl (by decide) rfl ?_
        refine g_goto (tgt := 33) dX9_before_109 (by decide) ?_
        exact g_wk (zwk_s (zwk_s (zwk_s (zwk_s (zwk_s (zwk_s (zwk_s (zwk_s zwk_n)))))))) h
    · have h := h.2 c_
      refine g_iload dX9_before_57 rfl ?_
      refine g_goto (tgt := 64) dX9_before_59 (by decide) ?_
      refine g_aload_n dX9_before_64 rfl ?_
      refine g_getR (k' := 77) dX9_before_65 (o64 hK) fX9_46 (by decide) (by decide) ?_
      refine g_iconst dX9_before_68 ?_
      refine g_iload_n dX9_before_69 rfl ?_
      refine g_imul dX9_before_70 ?_
      obtain ⟨q13, h⟩ := h
      obtain ⟨q14, h⟩ := h
      refine g_iald' (nn := 54) dX9_before_71 (r77 hK) rfl q13 q14 ?_
      refine g_aload_n dX9_before_72 rfl ?_
      refine g_getR (k' := 77) dX9_before_73 (o64 hK) fX9_46 (by decide) (by decide) ?_
      refine g_iconst dX9_before_76 ?_
      refine g_iload_n dX9_before_77 rfl ?_
      refine g_imul dX9_before_78 ?_
      refine g_iconst dX9_before_79 ?_
      refine g_iadd dX9_before_80 ?_
      obtain ⟨q15, h⟩ := h
      obtain ⟨q16, h⟩ := h
      refine g_iald' (nn := 54) dX9_before_81 (r77 hK) rfl q15 q16 ?_
      refine g_callS (Y' := mX9_three) (d' := 0) (As := [zI a5, zI (mu 77 (3 * a3)), zI (mu 77 ((3 * a3) + 1))]) (rest := [zI a4]) dX9_before_82 lX9_193 vX9_three (by omega) rfl (Nat.le_of_ble_eq_true rfl) rfl (zC_i h (fun r17 nu18 h => ?_))
      refine g_aload_n dX9_before_85 rfl ?_
      refine g_getR (k' := 77) dX9_before_86 (o64 hK) fX9_46 (by decide) (by decide) ?_
      refine g_iconst dX9_before_89 ?_
      refine g_iload_n dX9_before_90 rfl ?_
      refine g_imul dX9_before_91 ?_
      refine g_iconst dX9_before_92 ?_
      refine g_iadd dX9_before_93 ?_
      obtain ⟨q19, h⟩ := h
      obtain ⟨q20, h⟩ := h
      refine g_iald' (nn := 54) dX9_before_94 (r77 hK) rfl q19 q20 ?_
      obtain ⟨q21, h⟩ := h
      obtain ⟨q22, h⟩ := h
      refine g_icmp_ne (tgt := 102) dX9_before_95 (by decide) q21 q22 (fun c_ => ?_) (fun c_ => ?_)
      · have h := h.1 c_
        refine g_iconst dX9_before_102 ?_
        refine g_iadd dX9_before_103 ?_
        refine g_istore dX9_before_104 (by decide) rfl ?_
        refine g_iinc dX9_before_106 rfl (by decide) rfl ?_
        refine g_goto (tgt := 33) dX9_before_109 (by decide) ?_
        exact g_wk (zwk_s (zwk_s (zwk_s (zwk_s (zwk_s (zwk_s (zwk_s (zwk_s zwk_n)))))))) h
      · have h := h.2 c_
        refine g_iconst dX9_before_98 ?_
        refine g_goto (tgt := 103) dX9_before_99 (by decide) ?_
        refine g_iadd dX9_before_103 ?_
        refine g_istore dX9_before_104 (by decide) rfl ?_
        refine g_iinc dX9_before_106 rfl (by decide) rfl ?_
        refine g_goto (tgt := 33) dX9_before_109 (by decide) ?_
        exact g_wk (zwk_s (zwk_s (zwk_s (zwk_s (zwk_s (zwk_s (zwk_s (zwk_s zwk_n)))))))) h
theorem sg_X9_before_122 {K d : Nat} {mu : Mem} {Q : AV → Mem → Prop} {a1 a3 a4 a5 a6 a7 : Int} (hd : 1 ≤ d) (hK : 93 ≤ K) (h : (zin a7 ∧ zin (mu 74 0) ∧ (((mu 74 0) ≤ a7 → (zin a6 ∧ ((a6 = 0 → zG K d mX9_before 17 [zR 64, zJ (a1 * 0), zU, zI (a3 + 1), zU, zU, zU, zU] [] mu Q) ∧ (¬ a6 = 0 → (zin a5 ∧ ((0 ≤ a5 → (zin (a4 * 1) ∧ zG K d mX9_before 17 [zR 64, zJ (a1 * (a4 * 1)), zU, zI (a3 + 1), zU, zU, zU, zU] [] mu Q)) ∧ (¬ 0 ≤ a5 → (zin (a4 * ((mu 66 0) + 1)) ∧ zG K d mX9_before 17 [zR 64, zJ (a1 * (a4 * ((mu 66 0) + 1))), zU, zI (a3 + 1), zU, zU, zU, zU] [] mu Q)))))))) ∧ (¬ (mu 74 0) ≤ a7 → (0 ≤ a7 ∧ a7 < 12 ∧ zin (mu 75 a7) ∧ zin a3 ∧ ((¬ (mu 75 a7) = a3 → zG K d mX9_before 122 [zR 64, zJ a1, zU, zI a3, zI a4, zI a5, zI a6, zI (a7 + 1)] [] mu Q) ∧ ((mu 75 a7) = a3 → (zin a6 ∧ ((a6 = 0 → (0 ≤ ((3 * a7) + 1) ∧ ((3 * a7) + 1) < 54 ∧ zG K d mX9_before 122 [zR 64, zJ a1, zU, zI a3, zI a4, zI (mu 77 ((3 * a7) + 1)), zI 0, zI (a7 + 1)] [] mu Q)) ∧ (¬ a6 = 0 → (zin a5 ∧ ((a5 < 0 → (0 ≤ ((3 * a7) + 1) ∧ ((3 * a7) + 1) < 54 ∧ zG K d mX9_before 122 [zR 64, zJ a1, zU, zI a3, zI a4, zI (mu 77 ((3 * a7) + 1)), zI 1, zI (a7 + 1)] [] mu Q)) ∧ (¬ a5 < 0 → (0 ≤ ((3 * a7) + 1) ∧ ((3 * a7) + 1) < 54 ∧ zin (mu 77 ((3 * a7) + 1)) ∧ ((¬ a5 = (mu 77 ((3 * a7) + 1)) → zG K d mX9_before 122 [zR 64, zJ a1, zU, zI a3, zI a4, zI (mu 77 ((3 * a7) + 1)), zI 0, zI (a7 + 1)] [] mu Q) ∧ (a5 = (mu 77 ((3 * a7) + 1)) → zG K d mX9_before 122 [zR 64, zJ a1, zU, zI a3, zI a4, zI (mu 77 ((3 * a7) + 1)), zI 1, zI (a7 + 1)] [] mu Q)))))))))))))))) : zG K d mX9_before 122 [zR 64, zJ a1, zU, zI a3, zI a4, zI a5, zI a6, zI a7] [] mu Q := by
  refine g_iload dX9_before_122 rfl ?_
  refine g_aload_n dX9_before_124 rfl ?_
  refine g_getR (k' := 74) dX9_before_125 (o64 hK) fX9_37 (by decide) (by decide) ?_
  refine g_iconst dX9_before_128 ?_
  refine g_iald' (nn := 2) dX9_before_129 (r74 hK) rfl (by decide) (by decide) ?_
  obtain ⟨q1, h⟩ := h
  obtain ⟨q2, h⟩ := h
  refine g_icmp_ge (tgt := 196) dX9_before_130 (by decide) q1 q2 (fun c_ => ?_) (fun c_ => ?_)
  · have h := h.1 c_
    refine g_lload_n dX9_before_196 rfl ?_
    refine g_iload dX9_before_197 rfl ?_
    obtain ⟨q3, h⟩ := h
    refine g_if_eq (tgt := 226) dX9_before_199 (by decide) q3 (fun c_ => ?_) (fun c_ => ?_)
    · have h := h.1 c_
      refine g_lconst (x := 0) dX9_before_226 rfl ?_
      refine g_lmul dX9_before_227 ?_
      refine g_lstore_n dX9_before_228 (by decide) rfl ?_
      refine g_iinc dX9_before_229 rfl (by decide) rfl ?_
      refine g_goto (tgt := 17) dX9_before_232 (by decide) ?_
      exact g_wk (zwk_s (zwk_s (zwk_s (zwk_s (zwk_u (zwk_u (zwk_u (zwk_u zwk_n)))))))) h
    · have h := h.2 c_
      refine g_iload dX9_before_202 rfl ?_
      refine g_iload dX9_before_204 rfl ?_
      obtain ⟨q4, h⟩ := h
      refine g_if_ge (tgt := 220) dX9_before_206 (by decide) q4 (fun c_ => ?_) (fun c_ => ?_)
      · have h := h.1 c_
        refine g_iconst dX9_before_220 ?_
        refine g_imul dX9_before_221 ?_
        obtain ⟨q5, h⟩ := h
        refine g_i2l dX9_before_222 q5 ?_
        refine g_goto (tgt := 227) dX9_before_223 (by decide) ?_
        refine g_lmul dX9_before_227 ?_
        refine g_lstore_n dX9_before_228 (by decide) rfl ?_
        refine g_iinc dX9_before_229 rfl (by decide) rfl ?_
        refine g_goto (tgt := 17) dX9_before_232 (by decide) ?_
        exact g_wk (zwk_s (zwk_s (zwk_s (zwk_s (zwk_u (zwk_u (zwk_u (zwk_u zwk_n)))))))) h
      · have h := h.2 c_
        refine g_aload_n dX9_before_209 rfl ?_
        refine g_getR (k' := 66) dX9_before_210 (o64 hK) fX9_13 (by decide) (by decide) ?_
        refine g_iconst dX9_before_213 ?_
        refine g_iald' (nn := 2) dX9_before_214 (r66 hK) rfl (by decide) (by decide) ?_
        refine g_iconst dX9_before_215 ?_
        refine g_iadd dX9_before_216 ?_
        refine g_goto (tgt := 221) dX9_before_217 (by decide) ?_
        refine g_imul dX9_before_221 ?_
        obtain ⟨q6, h⟩ := h
        refine g_i2l dX9_before_222 q6 ?_
        refine g_goto (tgt := 227) dX9_before_223 (by decide) ?_
        refine g_lmul dX9_before_227 ?_
        refine g_lstore_n dX9_before_228 (by decide) rfl ?_
        refine g_iinc dX9_before_229 rfl (by decide) rfl ?_
        refine g_goto (tgt := 17) dX9_before_232 (by decide) ?_
        exact g_wk (zwk_s (zwk_s (zwk_s (zwk_s (zwk_u (zwk_u (zwk_u (zwk_u zwk_n)))))))) h
  · have h := h.2 c_
    refine g_aload_n dX9_before_133 rfl ?_
    refine g_getR (k' := 75) dX9_before_134 (o64 hK) fX9_40 (by decide) (by decide) ?_
    refine g_iload dX9_before_137 rfl ?_
    obtain ⟨q7, h⟩ := h
    obtain ⟨q8, h⟩ := h
    refine g_iald' (nn := 12) dX9_before_139 (r75 hK) rfl q7 q8 ?_
    refine g_iload_n dX9_before_140 rfl ?_
    obtain ⟨q9, h⟩ := h
    obtain ⟨q10, h⟩ := h
    refine g_icmp_ne (tgt := 190) dX9_before_141 (by decide) q9 q10 (fun c_ => ?_) (fun c_ => ?_)
    · have h := h.1 c_
      refine g_iinc dX9_before_190 rfl (by decide) rfl ?_
      refine g_goto (tgt := 122) dX9_before_193 (by decide) ?_
      exact g_wk (zwk_s (zwk_s (zwk_s (zwk_s (zwk_s (zwk_s (zwk_s (zwk_s zwk_n)))))))) h
    · have h := h.2 c_
      refine g_iload dX9_before_144 rfl ?_
      obtain ⟨q11, h⟩ := h
      refine g_if_eq (tgt := 174) dX9_before_146 (by decide) q11 (fun c_ => ?_) (fun c_ => ?_)
      · have h := h.1 c_
        refine g_iconst dX9_before_174 ?_
        refine g_istore dX9_before_175 (by decide) rfl ?_
        refine g_aload_n dX9_before_177 rfl ?_
        refine g_getR (k' := 77) dX9_before_178 (o64 hK) fX9_46 (by decide) (by decide) ?_
        refine g_iconst dX9_before_181 ?_
        refine g_iload dX9_before_182 rfl ?_
        refine g_imul dX9_before_184 ?_
        refine g_iconst dX9_before_185 ?_
        refine g_iadd dX9_before_186 ?_
        obtain ⟨q12, h⟩ := h
        obtain ⟨q13, h⟩ := h
        refine g_iald' (nn := 54) dX9_before_187 (r77 hK) rfl q12 q13 ?_
        refine g_istore dX9_before_188 (by decide) rfl ?_
        refine g_iinc dX9_before_190 rfl (by decide) rfl ?_
        refine g_goto (tgt := 122) dX9_before_193 (by decide) ?_
        exact g_wk (zwk_s (zwk_s (zwk_s (zwk_s (zwk_s (zwk_s (zwk_s (zwk_s zwk_n)))))))) h
      · have h := h.2 c_
        refine g_iload dX9_before_149 rfl ?_
        obtain ⟨q14, h⟩ := h
        refine g_if_lt (tgt := 170) dX9_before_151 (by decide) q14 (fun c_ => ?_) (fun c_ => ?_)
        · have h := h.1 c_
          refine g_iconst dX9_before_170 ?_
          refine g_goto (tgt := 175) dX9_before_171 (by decide) ?_
          refine g_istore dX9_before_175 (by decide) rfl ?_
          refine g_aload_n dX9_before_177 rfl ?_
          refine g_getR (k' := 77) dX9_before_178 (o64 hK) fX9_46 (by decide) (by decide) ?_
          refine g_iconst dX9_before_181 ?_
          refine g_iload dX9_before_182 rfl ?_
          refine g_imul dX9_before_184 ?_
          refine g_iconst dX9_before_185 ?_
          refine g_iadd dX9_before_186 ?_
          obtain ⟨q15, h⟩ := h
          obtain ⟨q16, h⟩ := h
          refine g_iald' (nn := 54) dX9_before_187 (r77 hK) rfl q15 q16 ?_
          refine g_istore dX9_before_188 (by decide) rfl ?_
          refine g_iinc dX9_before_190 rfl (by decide) rfl ?_
          refine g_goto (tgt := 122) dX9_before_193 (by decide) ?_
          exact g_wk (zwk_s (zwk_s (zwk_s (zwk_s (zwk_s (zwk_s (zwk_s (zwk_s zwk_n)))))))) h
        · have h := h.2 c_
          refine g_iload dX9_before_154 rfl ?_
          refine g_aload_n dX9_before_156 rfl ?_
          refine g_getR (k' := 77) dX9_before_157 (o64 hK) fX9_46 (by decide) (by decide) ?_
          refine g_iconst dX9_before_160 ?_
          refine g_iload dX9_before_161 rfl ?_
          refine g_imul dX9_before_163 ?_
          refine g_iconst dX9_before_164 ?_
          refine g_iadd dX9_before_165 ?_
          obtain ⟨q17, h⟩ := h
          obtain ⟨q18, h⟩ := h
          refine g_iald' (nn := 54) dX9_before_166 (r77 hK) rfl q17 q18 ?_
          obtain ⟨q19, h⟩ := h
          refine g_icmp_ne (tgt := 174) dX9_before_167 (by decide) q14 q19 (fun c_ => ?_) (fun c_ => ?_)
          · have h := h.1 c_
            refine g_iconst dX9_before_174 ?_
            refine g_istore dX9_before_175 (by decide) rfl ?_
            refine g_aload_n dX9_before_177 rfl ?_
            refine g_getR (k' := 77) dX9_before_178 (o64 hK) fX9_46 (by decide) (by decide) ?_
            refine g_iconst dX9_before_181 ?_
            refine g_iload dX9_before_182 rfl ?_
            refine g_imul dX9_before_184 ?_
            refine g_iconst dX9_before_185 ?_
            refine g_iadd dX9_before_186 ?_
            refine g_iald' (nn := 54) dX9_before_187 (r77 hK) rfl q17 q18 ?_
            refine g_istore dX9_before_188 (by decide) rfl ?_
            refine g_iinc dX9_before_190 rfl (by decide) rfl ?_
            refine g_goto (tgt := 122) dX9_before_193 (by decide) ?_
            exact g_wk (zwk_s (zwk_s (zwk_s (zwk_s (zwk_s (zwk_s (zwk_s (zwk_s zwk_n)))))))) h
          · have h := h.2 c_
            refine g_iconst dX9_before_170 ?_
            refine g_goto (tgt := 175) dX9_before_171 (by decide) ?_
            refine g_istore dX9_before_175 (by decide) rfl ?_
            refine g_aload_n dX9_before_177 rfl ?_
            refine g_getR (k' := 77) dX9_before_178 (o64 hK) fX9_46 (by decide) (by decide) ?_
            refine g_iconst dX9_before_181 ?_
            refine g_iload dX9_before_182 rfl ?_
            refine g_imul dX9_before_184 ?_
            refine g_iconst dX9_before_185 ?_
            refine g_iadd dX9_before_186 ?_
            refine g_iald' (nn := 54) dX9_before_187 (r77 hK) rfl q17 q18 ?_
            refine g_istore dX9_before_188 (by decide) rfl ?_
            refine g_iinc dX9_before_190 rfl (by decide) rfl ?_
            refine g_goto (tgt := 122) dX9_before_193 (by decide) ?_
            exact g_wk (zwk_s (zwk_s (zwk_s (zwk_s (zwk_s (zwk_s (zwk_s (zwk_s zwk_n)))))))) h
theorem sg_X9_beginRow_0 {K d : Nat} {mu : Mem} {Q : AV → Mem → Prop} (hd : 0 ≤ d) (hK : 93 ≤ K) (h : zG K d mX9_beginRow 12 [zR 64, zI 0] [] (zup mu 64 22 (mu 68 0)) Q) : zG K d mX9_beginRow 0 [zR 64, zU] [] mu Q := by
  refine g_aload_n dX9_beginRow_0 rfl ?_
  refine g_aload_n dX9_beginRow_1 rfl ?_
  refine g_getR (k' := 68) dX9_beginRow_2 (o64 hK) fX9_19 (by decide) (by decide) ?_
  refine g_iconst dX9_beginRow_5 ?_
  refine g_iald' (nn := 2) dX9_beginRow_6 (r68 hK) rfl (by decide) (by decide) ?_
  refine g_putI' (jj := 22) dX9_beginRow_7 (o64 hK) pX9_171 rfl rfl ?_
  refine g_iconst dX9_beginRow_10 ?_
  refine g_istore_n dX9_beginRow_11 (by decide) rfl ?_
  exact g_wk (zwk_s (zwk_s zwk_n)) h
theorem sg_X9_beginRow_12 {K d : Nat} {mu : Mem} {Q : AV → Mem → Prop} {a1 : Int} (hd : 0 ≤ d) (hK : 93 ≤ K) (h : (zin a1 ∧ zin (mu 64 22) ∧ (((mu 64 22) ≤ a1 → Q zV mu) ∧ (¬ (mu 64 22) ≤ a1 → (0 ≤ a1 ∧ a1 < 12 ∧ a1 < 16 ∧ zG K d mX9_beginRow 12 [zR 64, zI (a1 + 1)] [] (zup mu 81 a1 (mu 69 a1)) Q))))) : zG K d mX9_beginRow 12 [zR 64, zI a1] [] mu Q := by
  refine g_iload_n dX9_beginRow_12 rfl ?_
  refine g_aload_n dX9_beginRow_13 rfl ?_
  refine g_getI' (jj := 22) dX9_beginRow_14 (o64 hK) fX9_171 rfl rfl ?_
  obtain ⟨q1, h⟩ := h
  obtain ⟨q2, h⟩ := h
  refine g_icmp_ge (tgt := 38) dX9_beginRow_17 (by decide) q1 q2 (fun c_ => ?_) (fun c_ => ?_)
  · have h := h.1 c_
    exact g_return dX9_beginRow_38 rfl h
  · have h := h.2 c_
    refine g_aload_n dX9_beginRow_20 rfl ?_
    refine g_getR (k' := 81) dX9_beginRow_21 (o64 hK) fX9_58 (by decide) (by decide) ?_
    refine g_iload_n dX9_beginRow_24 rfl ?_
    refine g_aload_n dX9_beginRow_25 rfl ?_
    refine g_getR (k' := 69) dX9_beginRow_26 (o64 hK) fX9_22 (by decide) (by decide) ?_
    refine g_iload_n dX9_beginRow_29 rfl ?_
    obtain ⟨q3, h⟩ := h
    obtain ⟨q4, h⟩ := h
    refine g_iald' (nn := 12) dX9_beginRow_30 (r69 hK) rfl q3 q4 ?_
    obtain ⟨q5, h⟩ := h
    refine g_iast' (nn := 16) dX9_beginRow_31 (r81 hK) rfl q3 q5 ?_
    refine g_iinc dX9_beginRow_32 rfl (by decide) rfl ?_
    refine g_goto (tgt := 12) dX9_beginRow_35 (by decide) ?_
    exact g_wk (zwk_s (zwk_s zwk_n)) h
theorem sg_X9_bring_0 {K d : Nat} {mu : Mem} {Q : AV → Mem → Prop} {a1 a2 a3 a4 a5 : Int} (hd : 2 ≤ d) (hK : 93 ≤ K) (h : (0 ≤ a5 ∧ a5 < 20 ∧ zC K 1 mX9_shortly [zR 64, zI a3, zI a4, zI (mu 71 a5)] mu (fun v_ nu4 => ∃ r3, v_ = zI r3 ∧ (zin r3 ∧ zin (mu 71 a5) ∧ ((¬ r3 = (mu 71 a5) → zC K 0 mX9_spot [zI (zor a2 (zshl 1 a5)), zI a4, zI (mu 71 a5)] nu4 (fun v_ nu8 => ∃ r7, v_ = zI r7 ∧ (0 ≤ r7 ∧ r7 < 65536 ∧ zin (nu8 82 r7) ∧ (((nu8 82 r7) < 0 → Q (zI (-4)) nu8) ∧ (¬ (nu8 82 r7) < 0 → zC K 0 mX9_has [zI a1, zI a5] nu8 (fun v_ nu13 => ∃ r12, v_ = zI r12 ∧ (zin r12 ∧ ((r12 = 0 → Q (zI ((nu8 82 r7) + 0)) nu13) ∧ (¬ r12 = 0 → Q (zI (-4)) nu13))))))))) ∧ (r3 = (mu 71 a5) → zC K 0 mX9_spot [zI (zor a2 (zshl 1 a5)), zI a4, zI (mu 71 a5)] nu4 (fun v_ nu16 => ∃ r15, v_ = zI r15 ∧ (0 ≤ r15 ∧ r15 < 65536 ∧ zin (nu16 82 r15) ∧ (((nu16 82 r15) < 0 → Q (zI (-4)) nu16) ∧ (¬ (nu16 82 r15) < 0 → zC K 0 mX9_has [zI a1, zI a5] nu16 (fun v_ nu21 => ∃ r20, v_ = zI r20 ∧ (zin r20 ∧ ((r20 = 0 → Q (zI ((nu16 82 r15) + 1)) nu21) ∧ (¬ r20 = 0 → Q (zI ((nu16 82 r15) + 1)) nu21)))))))))))))) : zG K d mX9_bring 0 [zR 64, zI a1, zI a2, zI a3, zI a4, zI a5, zU, zU, zU] [] mu Q := by
  refine g_aload_n dX9_bring_0 rfl ?_
  refine g_getR (k' := 71) dX9_bring_1 (o64 hK) fX9_28 (by decide) (by decide) ?_
  refine g_iload dX9_bring_4 rfl ?_
  obtain ⟨q1, h⟩ := h
  obtain ⟨q2, h⟩ := h
  refine g_iald' (nn := 20) dX9_bring_6 (r71 hK) rfl q1 q2 ?_
  refine g_istore dX9_bring_7 (by decide) rfl ?_
  refine g_aload_n dX9_bring_9 rfl ?_
  refine g_iload_n dX9_bring_10 rfl ?_
  refine g_iload dX9_bring_11 rfl ?_
  refine g_iload dX9_bring_13 rfl ?_
  refine g_callV (Y' := mX9_shortly) (d' := 1) (As := [zI a3, zI a4, zI (mu 71 a5)]) (rest := []) dX9_bring_15 lX9_197 vX9_shortly (by omega) (o64 hK) rfl rfl (Nat.le_of_ble_eq_true rfl) rfl (zC_i h (fun r3 nu4 h => ?_))
  refine g_iload dX9_bring_18 rfl ?_
  obtain ⟨q5, h⟩ := h
  obtain ⟨q6, h⟩ := h
  refine g_icmp_ne (tgt := 27) dX9_bring_20 (by decide) q5 q6 (fun c_ => ?_) (fun c_ => ?_)
  · have h := h.1 c_
    refine g_iconst dX9_bring_27 ?_
    refine g_istore dX9_bring_28 (by decide) rfl ?_
    refine g_aload_n dX9_bring_30 rfl ?_
    refine g_getR (k' := 82) dX9_bring_31 (o64 hK) fX9_62 (by decide) (by decide) ?_
    refine g_iload_n dX9_bring_34 rfl ?_
    refine g_iconst dX9_bring_35 ?_
    refine g_iload dX9_bring_36 rfl ?_
    refine g_ishl dX9_bring_38 (zshl_ok _ _) ?_
    refine g_ior dX9_bring_39 (zor_ok _ _) ?_
    refine g_iload dX9_bring_40 rfl ?_
    refine g_iload dX9_bring_42 rfl ?_
    refine g_callS (Y' := mX9_spot) (d' := 0) (As := [zI (zor a2 (zshl 1 a5)), zI a4, zI (mu 71 a5)]) (rest := [zR 82]) dX9_bring_44 lX9_200 vX9_spot (by omega) rfl (Nat.le_of_ble_eq_true rfl) rfl (zC_i h (fun r7 nu8 h => ?_))
    obtain ⟨q9, h⟩ := h
    obtain ⟨q10, h⟩ := h
    refine g_iald' (nn := 65536) dX9_bring_47 (r82 hK) rfl q9 q10 ?_
    refine g_istore dX9_bring_48 (by decide) rfl ?_
    refine g_iload dX9_bring_50 rfl ?_
    obtain ⟨q11, h⟩ := h
    refine g_if_lt (tgt := 69) dX9_bring_52 (by decide) q11 (fun c_ => ?_) (fun c_ => ?_)
    · have h := h.1 c_
      refine g_bipush dX9_bring_69 rfl ?_
      refine g_goto (tgt := 87) dX9_bring_71 (by decide) ?_
      exact g_ireturn dX9_bring_87 rfl h
    · have h := h.2 c_
      refine g_iload_n dX9_bring_55 rfl ?_
      refine g_iload dX9_bring_56 rfl ?_
      refine g_callS (Y' := mX9_has) (d' := 0) (As := [zI a1, zI a5]) (rest := []) dX9_bring_58 lX9_203 vX9_has (by omega) rfl (Nat.le_of_ble_eq_true rfl) rfl (zC_i h (fun r12 nu13 h => ?_))
      obtain ⟨q14, h⟩ := h
      refine g_if_eq (tgt := 74) dX9_bring_61 (by decide) q14 (fun c_ => ?_) (fun c_ => ?_)
      · have h := h.1 c_
        refine g_iload dX9_bring_74 rfl ?_
        refine g_iload dX9_bring_76 rfl ?_
        refine g_if_eq (tgt := 85) dX9_bring_78 (by decide) (zin_d rfl) (fun _ => ?_) (fun c => absurd (by decide) c)
        refine g_iconst dX9_bring_85 ?_
        refine g_iadd dX9_bring_86 ?_
        exact g_ireturn dX9_bring_87 rfl h
      · have h := h.2 c_
        refine g_iload dX9_bring_64 rfl ?_
        refine g_if_ne (tgt := 74) dX9_bring_66 (by decide) (zin_d rfl) (fun c => absurd rfl c) (fun _ => ?_)
        refine g_bipush dX9_bring_69 rfl ?_
        refine g_goto (tgt := 87) dX9_bring_71 (by decide) ?_
        exact g_ireturn dX9_bring_87 rfl h
  · have h := h.2 c_
    refine g_iconst dX9_bring_23 ?_
    refine g_goto (tgt := 28) dX9_bring_24 (by decide) ?_
    refine g_istore dX9_bring_28 (by decide) rfl ?_
    refine g_aload_n dX9_bring_30 rfl ?_
    refine g_getR (k' := 82) dX9_bring_31 (o64 hK) fX9_62 (by decide) (by decide) ?_
    refine g_iload_n dX9_bring_34 rfl ?_
    refine g_iconst dX9_bring_35 ?_
    refine g_iload dX9_bring_36 rfl ?_
    refine g_ishl dX9_bring_38 (zshl_ok _ _) ?_
    refine g_ior dX9_bring_39 (zor_ok _ _) ?_
    refine g_iload dX9_bring_40 rfl ?_
    refine g_iload dX9_bring_42 rfl ?_
    refine g_callS (Y' := mX9_spot) (d' := 0) (As := [zI (zor a2 (zshl 1 a5)), zI a4, zI (mu 71 a5)]) (rest := [zR 82]) dX9_bring_44 lX9_200 vX9_spot (by omega) rfl (Nat.le_of_ble_eq_true rfl) rfl (zC_i h (fun r15 nu16 h => ?_))
    obtain ⟨q17, h⟩ := h
    obtain ⟨q18, h⟩ := h
    refine g_iald' (nn := 65536) dX9_bring_47 (r82 hK) rfl q17 q18 ?_
    refine g_istore dX9_bring_48 (by decide) rfl ?_
    refine g_iload dX9_bring_50 rfl ?_
    obtain ⟨q19, h⟩ := h
    refine g_if_lt (tgt := 69) dX9_bring_52 (by decide) q19 (fun c_ => ?_) (fun c_ => ?_)
    · have h := h.1 c_
      refine g_bipush dX9_bring_69 rfl ?_
      refine g_goto (tgt := 87) dX9_bring_71 (by decide) ?_
      exact g_ireturn dX9_bring_87 rfl h
    · have h := h.2 c_
      refine g_iload_n dX9_bring_55 rfl ?_
      refine g_iload dX9_bring_56 rfl ?_
      refine g_callS (Y' := mX9_has) (d' := 0) (As := [zI a1, zI a5]) (rest := []) dX9_bring_58 lX9_203 vX9_has (by omega) rfl (Nat.le_of_ble_eq_true rfl) rfl (zC_i h (fun r20 nu21 h => ?_))
      obtain ⟨q22, h⟩ := h
      refine g_if_eq (tgt := 74) dX9_bring_61 (by decide) q22 (fun c_ => ?_) (fun c_ => ?_)
      · have h := h.1 c_
        refine g_iload dX9_bring_74 rfl ?_
        refine g_iload dX9_bring_76 rfl ?_
        refine g_if_eq (tgt := 85) dX9_bring_78 (by decide) (zin_d rfl) (fun c => absurd c (by decide)) (fun _ => ?_)
        refine g_iconst dX9_bring_81 ?_
        refine g_goto (tgt := 86) dX9_bring_82 (by decide) ?_
        refine g_iadd dX9_bring_86 ?_
        exact g_ireturn dX9_bring_87 rfl h
      · have h := h.2 c_
        refine g_iload dX9_bring_64 rfl ?_
        refine g_if_ne (tgt := 74) dX9_bring_66 (by decide) (zin_d rfl) (fun _ => ?_) (fun c => absurd c (by decide))
        refine g_iload dX9_bring_74 rfl ?_
        refine g_iload dX9_bring_76 rfl ?_
        refine g_if_eq (tgt := 85) dX9_bring_78 (by decide) (zin_d rfl) (fun c => absurd c (by decide)) (fun _ => ?_)
        refine g_iconst dX9_bring_81 ?_
        refine g_goto (tgt := 86) dX9_bring_82 (by decide) ?_
        refine g_iadd dX9_bring_86 ?_
        exact g_ireturn dX9_bring_87 rfl h
theorem sg_X9_byQueue_0 {K d : Nat} {mu : Mem} {Q : AV → Mem → Prop} {a1 a2 a3 a4 : Int} (hd : 2 ≤ d) (hK : 93 ≤ K) (h : (0 ≤ a2 ∧ a2 < 20 ∧ zC K 0 mX9_has [zI a1, zI a2] mu (fun v_ nu4 => ∃ r3, v_ = zI r3 ∧ (zin r3 ∧ ((r3 = 0 → zC K 0 mX9_stand [zI (a2 + 1), zI a4, zI (mu 71 a2)] nu4 (fun v_ nu7 => ∃ r6, v_ = zI r6 ∧ (0 ≤ r6 ∧ r6 < 704 ∧ Q (zI (nu7 83 r6)) nu7))) ∧ (¬ r3 = 0 → zC K 1 mX9_shortly [zR 64, zI a3, zI a4, zI (mu 71 a2)] nu4 (fun v_ nu11 => ∃ r10, v_ = zI r10 ∧ (zin r10 ∧ zin (mu 71 a2) ∧ ((r10 = (mu 71 a2) → zC K 0 mX9_stand [zI (a2 + 1), zI a4, zI (mu 71 a2)] nu11 (fun v_ nu15 => ∃ r14, v_ = zI r14 ∧ (0 ≤ r14 ∧ r14 < 704 ∧ Q (zI (nu15 83 r14)) nu15))) ∧ (¬ r10 = (mu 71 a2) → Q (zI 99) nu11)))))))))) : zG K d mX9_byQueue 0 [zR 64, zI a1, zI a2, zI a3, zI a4, zU] [] mu Q := by
  refine g_aload_n dX9_byQueue_0 rfl ?_
  refine g_getR (k' := 71) dX9_byQueue_1 (o64 hK) fX9_28 (by decide) (by decide) ?_
  refine g_iload_n dX9_byQueue_4 rfl ?_
  obtain ⟨q1, h⟩ := h
  obtain ⟨q2, h⟩ := h
  refine g_iald' (nn := 20) dX9_byQueue_5 (r71 hK) rfl q1 q2 ?_
  refine g_istore dX9_byQueue_6 (by decide) rfl ?_
  refine g_iload_n dX9_byQueue_8 rfl ?_
  refine g_iload_n dX9_byQueue_9 rfl ?_
  refine g_callS (Y' := mX9_has) (d' := 0) (As := [zI a1, zI a2]) (rest := []) dX9_byQueue_10 lX9_203 vX9_has (by omega) rfl (Nat.le_of_ble_eq_true rfl) rfl (zC_i h (fun r3 nu4 h => ?_))
  obtain ⟨q5, h⟩ := h
  refine g_if_eq (tgt := 35) dX9_byQueue_13 (by decide) q5 (fun c_ => ?_) (fun c_ => ?_)
  · have h := h.1 c_
    refine g_aload_n dX9_byQueue_35 rfl ?_
    refine g_getR (k' := 83) dX9_byQueue_36 (o64 hK) fX9_65 (by decide) (by decide) ?_
    refine g_iload_n dX9_byQueue_39 rfl ?_
    refine g_iconst dX9_byQueue_40 ?_
    refine g_iadd dX9_byQueue_41 ?_
    refine g_iload dX9_byQueue_42 rfl ?_
    refine g_iload dX9_byQueue_44 rfl ?_
    refine g_callS (Y' := mX9_stand) (d' := 0) (As := [zI (a2 + 1), zI a4, zI (mu 71 a2)]) (rest := [zR 83]) dX9_byQueue_46 lX9_223 vX9_stand (by omega) rfl (Nat.le_of_ble_eq_true rfl) rfl (zC_i h (fun r6 nu7 h => ?_))
    obtain ⟨q8, h⟩ := h
    obtain ⟨q9, h⟩ := h
    refine g_iald' (nn := 704) dX9_byQueue_49 (r83 hK) rfl q8 q9 ?_
    exact g_ireturn dX9_byQueue_50 rfl h
  · have h := h.2 c_
    refine g_aload_n dX9_byQueue_16 rfl ?_
    refine g_iload_n dX9_byQueue_17 rfl ?_
    refine g_iload dX9_byQueue_18 rfl ?_
    refine g_iload dX9_byQueue_20 rfl ?_
    refine g_callV (Y' := mX9_shortly) (d' := 1) (As := [zI a3, zI a4, zI (mu 71 a2)]) (rest := []) dX9_byQueue_22 lX9_197 vX9_shortly (by omega) (o64 hK) rfl rfl (Nat.le_of_ble_eq_true rfl) rfl (zC_i h (fun r10 nu11 h => ?_))
    refine g_iload dX9_byQueue_25 rfl ?_
    obtain ⟨q12, h⟩ := h
    obtain ⟨q13, h⟩ := h
    refine g_icmp_eq (tgt := 35) dX9_byQueue_27 (by decide) q12 q13 (fun c_ => ?_) (fun c_ => ?_)
    · have h := h.1 c_
      refine g_aload_n dX9_byQueue_35 rfl ?_
      refine g_getR (k' := 83) dX9_byQueue_36 (o64 hK) fX9_65 (by decide) (by decide) ?_
      refine g_iload_n dX9_byQueue_39 rfl ?_
      refine g_iconst dX9_byQueue_40 ?_
      refine g_iadd dX9_byQueue_41 ?_
      refine g_iload dX9_byQueue_42 rfl ?_
      refine g_iload dX9_byQueue_44 rfl ?_
      refine g_callS (Y' := mX9_stand) (d' := 0) (As := [zI (a2 + 1), zI a4, zI (mu 71 a2)]) (rest := [zR 83]) dX9_byQueue_46 lX9_223 vX9_stand (by omega) rfl (Nat.le_of_ble_eq_true rfl) rfl (zC_i h (fun r14 nu15 h => ?_))
      obtain ⟨q16, h⟩ := h
      obtain ⟨q17, h⟩ := h
      refine g_iald' (nn := 704) dX9_byQueue_49 (r83 hK) rfl q16 q17 ?_
      exact g_ireturn dX9_byQueue_50 rfl h
    · have h := h.2 c_
      refine g_bipush dX9_byQueue_30 rfl ?_
      refine g_goto (tgt := 50) dX9_byQueue_32 (by decide) ?_
      exact g_ireturn dX9_byQueue_50 rfl h
theorem sg_X9_byteAt_0 {K d : Nat} {mu : Mem} {Q : AV → Mem → Prop} {a1 : Int} (hd : 0 ≤ d) (hK : 93 ≤ K) (h : (zin a1 ∧ zin (mu 64 0) ∧ (((mu 64 0) ≤ a1 → Q (zI 0) mu) ∧ (¬ (mu 64 0) ≤ a1 → (0 ≤ a1 ∧ a1 < 300 ∧ Q (zI (mu 65 a1)) mu))))) : zG K d mX9_byteAt 0 [zR 64, zI a1] [] mu Q := by
  refine g_iload_n dX9_byteAt_0 rfl ?_
  refine g_aload_n dX9_byteAt_1 rfl ?_
  refine g_getI' (jj := 0) dX9_byteAt_2 (o64 hK) fX9_106 rfl rfl ?_
  obtain ⟨q1, h⟩ := h
  obtain ⟨q2, h⟩ := h
  refine g_icmp_ge (tgt := 17) dX9_byteAt_5 (by decide) q1 q2 (fun c_ => ?_) (fun c_ => ?_)
  · have h := h.1 c_
    refine g_iconst dX9_byteAt_17 ?_
    exact g_ireturn dX9_byteAt_18 rfl h
  · have h := h.2 c_
    refine g_aload_n dX9_byteAt_8 rfl ?_
    refine g_getR (k' := 65) dX9_byteAt_9 (o64 hK) fX9_7 (by decide) (by decide) ?_
    refine g_iload_n dX9_byteAt_12 rfl ?_
    obtain ⟨q3, h⟩ := h
    obtain ⟨q4, h⟩ := h
    refine g_iald' (nn := 300) dX9_byteAt_13 (r65 hK) rfl q3 q4 ?_
    refine g_goto (tgt := 18) dX9_byteAt_14 (by decide) ?_
    exact g_ireturn dX9_byteAt_18 rfl h
theorem sg_X9_common_0 {K d : Nat} {mu : Mem} {Q : AV → Mem → Prop} {a0 a2 : Int} (hd : 0 ≤ d) (hK : 93 ≤ K) (h : zG K d mX9_common 6 [zU, zU, zU, zU, zJ a0, zU, zJ a2, zU, zU, zU] [] mu Q) : zG K d mX9_common 0 [zJ a0, zU, zJ a2, zU, zU, zU, zU, zU, zU, zU] [] mu Q := by
  refine g_lload_n dX9_common_0 rfl ?_
  refine g_lstore dX9_common_1 (by decide) rfl ?_
  refine g_lload_n dX9_common_3 rfl ?_
  refine g_lstore dX9_common_4 (by decide) rfl ?_
  exact g_wk (zwk_u (zwk_s (zwk_u (zwk_s (zwk_s (zwk_s (zwk_s (zwk_s (zwk_s (zwk_s zwk_n)))))))))) h
theorem sg_X9_common_6 {K d : Nat} {mu : Mem} {Q : AV → Mem → Prop} {a4 a6 : Int} (hd : 0 ≤ d) (hK : 93 ≤ K) (h : (zil a6 ∧ ((a6 = 0 → Q (zJ a4) mu) ∧ (¬ a6 = 0 → (zil a4 ∧ 0 < a6 ∧ zG K d mX9_common 6 [zU, zU, zU, zU, zJ a6, zU, zJ (a4.tmod a6), zU, zU, zU] [] mu Q))))) : zG K d mX9_common 6 [zU, zU, zU, zU, zJ a4, zU, zJ a6, zU, zU, zU] [] mu Q := by
  refine g_lload dX9_common_6 rfl ?_
  refine g_lconst (x := 0) dX9_common_8 rfl ?_
  obtain ⟨q1, h⟩ := h
  refine g_lcmp_eq (tgt := 31) dX9_common_9 dX9_common_10 (by decide) q1 (zil_d rfl) (fun c_ => ?_) (fun c_ => ?_)
  · have h := h.1 c_
    refine g_lload dX9_common_31 rfl ?_
    exact g_lreturn dX9_common_33 rfl h
  · have h := h.2 c_
    refine g_lload dX9_common_13 rfl ?_
    refine g_lload dX9_common_15 rfl ?_
    obtain ⟨q2, h⟩ := h
    obtain ⟨q3, h⟩ := h
    refine g_lrem dX9_common_17 q2 q1 q3 ?_
    refine g_lstore dX9_common_18 (by decide) rfl ?_
    refine g_lload dX9_common_20 rfl ?_
    refine g_lstore dX9_common_22 (by decide) rfl ?_
    refine g_lload dX9_common_24 rfl ?_
    refine g_lstore dX9_common_26 (by decide) rfl ?_
    refine g_goto (tgt := 6) dX9_common_28 (by decide) ?_
    exact g_wk (zwk_s (zwk_s (zwk_s (zwk_s (zwk_s (zwk_s (zwk_s (zwk_s (zwk_u (zwk_s zwk_n)))))))))) h
theorem sg_X9_copy_0 {K d : Nat} {mu : Mem} {Q : AV → Mem → Prop} {a1 a2 : Int} (hd : 0 ≤ d) (hK : 93 ≤ K) (h : zG K d mX9_copy 2 [zR 64, zI a1, zI a2, zI 0] [] mu Q) : zG K d mX9_copy 0 [zR 64, zI a1, zI a2, zU] [] mu Q := by
  refine g_iconst dX9_copy_0 ?_
  refine g_istore_n dX9_copy_1 (by decide) rfl ?_
  exact g_wk (zwk_s (zwk_s (zwk_s (zwk_s zwk_n)))) h
theorem sg_X9_copy_2 {K d : Nat} {mu : Mem} {Q : AV → Mem → Prop} {a1 a2 a3 : Int} (hd : 0 ≤ d) (hK : 93 ≤ K) (h : (zin a3 ∧ ((18 ≤ a3 → (0 ≤ a1 ∧ a1 < 3 ∧ 0 ≤ a2 ∧ a2 < 3 ∧ zG K d mX9_copy 50 [zR 64, zI a1, zI a2, zI 0] [] (zup mu 78 a2 (mu 78 a1)) Q)) ∧ (¬ 18 ≤ a3 → (0 ≤ ((18 * a1) + a3) ∧ ((18 * a1) + a3) < 54 ∧ 0 ≤ ((18 * a2) + a3) ∧ ((18 * a2) + a3) < 54 ∧ zG K d mX9_copy 2 [zR 64, zI a1, zI a2, zI (a3 + 1)] [] (zup mu 77 ((18 * a2) + a3) (mu 77 ((18 * a1) + a3))) Q))))) : zG K d mX9_copy 2 [zR 64, zI a1, zI a2, zI a3] [] mu Q := by
  refine g_iload_n dX9_copy_2 rfl ?_
  refine g_bipush dX9_copy_3 rfl ?_
  obtain ⟨q1, h⟩ := h
  refine g_icmp_ge (tgt := 36) dX9_copy_5 (by decide) q1 (zin_d rfl) (fun c_ => ?_) (fun c_ => ?_)
  · have h := h.1 c_
    refine g_aload_n dX9_copy_36 rfl ?_
    refine g_getR (k' := 78) dX9_copy_37 (o64 hK) fX9_49 (by decide) (by decide) ?_
    refine g_iload_n dX9_copy_40 rfl ?_
    refine g_aload_n dX9_copy_41 rfl ?_
    refine g_getR (k' := 78) dX9_copy_42 (o64 hK) fX9_49 (by decide) (by decide) ?_
    refine g_iload_n dX9_copy_45 rfl ?_
    obtain ⟨q2, h⟩ := h
    obtain ⟨q3, h⟩ := h
    refine g_iald' (nn := 3) dX9_copy_46 (r78 hK) rfl q2 q3 ?_
    obtain ⟨q4, h⟩ := h
    obtain ⟨q5, h⟩ := h
    refine g_iast' (nn := 3) dX9_copy_47 (r78 hK) rfl q4 q5 ?_
    refine g_iconst dX9_copy_48 ?_
    refine g_istore_n dX9_copy_49 (by decide) rfl ?_
    exact g_wk (zwk_s (zwk_s (zwk_s (zwk_s zwk_n)))) h
  · have h := h.2 c_
    refine g_aload_n dX9_copy_8 rfl ?_
    refine g_getR (k' := 77) dX9_copy_9 (o64 hK) fX9_46 (by decide) (by decide) ?_
    refine g_bipush dX9_copy_12 rfl ?_
    refine g_iload_n dX9_copy_14 rfl ?_
    refine g_imul dX9_copy_15 ?_
    refine g_iload_n dX9_copy_16 rfl ?_
    refine g_iadd dX9_copy_17 ?_
    refine g_aload_n dX9_copy_18 rfl ?_
    refine g_getR (k' := 77) dX9_copy_19 (o64 hK) fX9_46 (by decide) (by decide) ?_
    refine g_bipush dX9_copy_22 rfl ?_
    refine g_iload_n dX9_copy_24 rfl ?_
    refine g_imul dX9_copy_25 ?_
    refine g_iload_n dX9_copy_26 rfl ?_
    refine g_iadd dX9_copy_27 ?_
    obtain ⟨q6, h⟩ := h
    obtain ⟨q7, h⟩ := h
    refine g_iald' (nn := 54) dX9_copy_28 (r77 hK) rfl q6 q7 ?_
    obtain ⟨q8, h⟩ := h
    obtain ⟨q9, h⟩ := h
    refine g_iast' (nn := 54) dX9_copy_29 (r77 hK) rfl q8 q9 ?_
    refine g_iinc dX9_copy_30 rfl (by decide) rfl ?_
    refine g_goto (tgt := 2) dX9_copy_33 (by decide) ?_
    exact g_wk (zwk_s (zwk_s (zwk_s (zwk_s zwk_n)))) h
theorem sg_X9_copy_50 {K d : Nat} {mu : Mem} {Q : AV → Mem → Prop} {a1 a2 a3 : Int} (hd : 0 ≤ d) (hK : 93 ≤ K) (h : (zin a3 ∧ ((10 ≤ a3 → Q zV mu) ∧ (¬ 10 ≤ a3 → (0 ≤ ((10 * a1) + a3) ∧ ((10 * a1) + a3) < 30 ∧ 0 ≤ ((10 * a2) + a3) ∧ ((10 * a2) + a3) < 30 ∧ zG K d mX9_copy 50 [zR 64, zI a1, zI a2, zI (a3 + 1)] [] (zup mu 79 ((10 * a2) + a3) (mu 79 ((10 * a1) + a3))) Q))))) : zG K d mX9_copy 50 [zR 64, zI a1, zI a2, zI a3] [] mu Q := by
  refine g_iload_n dX9_copy_50 rfl ?_
  refine g_bipush dX9_copy_51 rfl ?_
  obtain ⟨q1, h⟩ := h
  refine g_icmp_ge (tgt := 84) dX9_copy_53 (by decide) q1 (zin_d rfl) (fun c_ => ?_) (fun c_ => ?_)
  · have h := h.1 c_
    exact g_return dX9_copy_84 rfl h
  · have h := h.2 c_
    refine g_aload_n dX9_copy_56 rfl ?_
    refine g_getR (k' := 79) dX9_copy_57 (o64 hK) fX9_52 (by decide) (by decide) ?_
    refine g_bipush dX9_copy_60 rfl ?_
    refine g_iload_n dX9_copy_62 rfl ?_
    refine g_imul dX9_copy_63 ?_
    refine g_iload_n dX9_copy_64 rfl ?_
    refine g_iadd dX9_copy_65 ?_
    refine g_aload_n dX9_copy_66 rfl ?_
    refine g_getR (k' := 79) dX9_copy_67 (o64 hK) fX9_52 (by decide) (by decide) ?_
    refine g_bipush dX9_copy_70 rfl ?_
    refine g_iload_n dX9_copy_72 rfl ?_
    refine g_imul dX9_copy_73 ?_
    refine g_iload_n dX9_copy_74 rfl ?_
    refine g_iadd dX9_copy_75 ?_
    obtain ⟨q2, h⟩ := h
    obtain ⟨q3, h⟩ := h
    refine g_iald' (nn := 30) dX9_copy_76 (r79 hK) rfl q2 q3 ?_
    obtain ⟨q4, h⟩ := h
    obtain ⟨q5, h⟩ := h
    refine g_iast' (nn := 30) dX9_copy_77 (r79 hK) rfl q4 q5 ?_
    refine g_iinc dX9_copy_78 rfl (by decide) rfl ?_
    refine g_goto (tgt := 50) dX9_copy_81 (by decide) ?_
    exact g_wk (zwk_s (zwk_s (zwk_s (zwk_s zwk_n)))) h
theorem sg_X9_count_0 {K d : Nat} {mu : Mem} {Q : AV → Mem → Prop} {a1 : Int} (hd : 0 ≤ d) (hK : 93 ≤ K) (h : (zin a1 ∧ (((a1 < 0 ∨ 7 < a1) → Q (zI (-1)) mu) ∧ (a1 = 0 → Q (zI (mu 70 0)) mu) ∧ (a1 = 1 → Q (zI (mu 66 0)) mu) ∧ (a1 = 2 → Q (zI (mu 68 0)) mu) ∧ (a1 = 3 → Q (zI (mu 74 0)) mu) ∧ (a1 = 4 → Q (zI (mu 78 0)) mu) ∧ (a1 = 5 → Q (zI (mu 64 0)) mu) ∧ (a1 = 6 → Q (zI (mu 64 16)) mu) ∧ (a1 = 7 → Q (zI (mu 67 0)) mu)))) : zG K d mX9_count 0 [zR 64, zI a1] [] mu Q := by
  refine g_iload_n dX9_count_0 rfl ?_
  obtain ⟨q1, h⟩ := h
  by_cases hsw : a1 < 0 ∨ 7 < a1
  · have h := h.1 hsw
    refine g_swOut (tgt := 100) dX9_count_1 q1 hsw (by decide) ?_
    refine g_iconst dX9_count_100 ?_
    exact g_ireturn dX9_count_101 rfl h
  · have h := h.2
    have hsw1 : 0 ≤ a1 := by omega
    have hsw2 : a1 ≤ 7 := by omega
    by_cases hc0 : a1 = 0
    · have h := h.1 hc0
      refine g_swIn (tgt := 48) dX9_count_1 q1 hsw1 hsw2 (by rw [hc0]; rfl) (by decide) ?_
      refine g_aload_n dX9_count_48 rfl ?_
      refine g_getR (k' := 70) dX9_count_49 (o64 hK) fX9_25 (by decide) (by decide) ?_
      refine g_iconst dX9_count_52 ?_
      refine g_iald' (nn := 2) dX9_count_53 (r70 hK) rfl (by decide) (by decide) ?_
      exact g_ireturn dX9_count_54 rfl h
    by_cases hc1 : a1 = 1
    · have h := h.2.1 hc1
      refine g_swIn (tgt := 55) dX9_count_1 q1 hsw1 hsw2 (by rw [hc1]; rfl) (by decide) ?_
      refine g_aload_n dX9_count_55 rfl ?_
      refine g_getR (k' := 66) dX9_count_56 (o64 hK) fX9_13 (by decide) (by decide) ?_
      refine g_iconst dX9_count_59 ?_
      refine g_iald' (nn := 2) dX9_count_60 (r66 hK) rfl (by decide) (by decide) ?_
      exact g_ireturn dX9_count_61 rfl h
    by_cases hc2 : a1 = 2
    · have h := h.2.2.1 hc2
      refine g_swIn (tgt := 62) dX9_count_1 q1 hsw1 hsw2 (by rw [hc2]; rfl) (by decide) ?_
      refine g_aload_n dX9_count_62 rfl ?_
      refine g_getR (k' := 68) dX9_count_63 (o64 hK) fX9_19 (by decide) (by decide) ?_
      refine g_iconst dX9_count_66 ?_
      refine g_iald' (nn := 2) dX9_count_67 (r68 hK) rfl (by decide) (by decide) ?_
      exact g_ireturn dX9_count_68 rfl h
    by_cases hc3 : a1 = 3
    · have h := h.2.2.2.1 hc3
      refine g_swIn (tgt := 69) dX9_count_1 q1 hsw1 hsw2 (by rw [hc3]; rfl) (by decide) ?_
      refine g_aload_n dX9_count_69 rfl ?_
      refine g_getR (k' := 74) dX9_count_70 (o64 hK) fX9_37 (by decide) (by decide) ?_
      refine g_iconst dX9_count_73 ?_
      refine g_iald' (nn := 2) dX9_count_74 (r74 hK) rfl (by decide) (by decide) ?_
      exact g_ireturn dX9_count_75 rfl h
    by_cases hc4 : a1 = 4
    · have h := h.2.2.2.2.1 hc4
      refine g_swIn (tgt := 76) dX9_count_1 q1 hsw1 hsw2 (by rw [hc4]; rfl) (by decide) ?_
      refine g_aload_n dX9_count_76 rfl ?_
      refine g_getR (k' := 78) dX9_count_77 (o64 hK) fX9_49 (by decide) (by decide) ?_
      refine g_iconst dX9_count_80 ?_
      refine g_iald' (nn := 3) dX9_count_81 (r78 hK) rfl (by decide) (by decide) ?_
      exact g_ireturn dX9_count_82 rfl h
    by_cases hc5 : a1 = 5
    · have h := h.2.2.2.2.2.1 hc5
      refine g_swIn (tgt := 83) dX9_count_1 q1 hsw1 hsw2 (by rw [hc5]; rfl) (by decide) ?_
      refine g_aload_n dX9_count_83 rfl ?_
      refine g_getI' (jj := 0) dX9_count_84 (o64 hK) fX9_106 rfl rfl ?_
      exact g_ireturn dX9_count_87 rfl h
    by_cases hc6 : a1 = 6
    · have h := h.2.2.2.2.2.2.1 hc6
      refine g_swIn (tgt := 88) dX9_count_1 q1 hsw1 hsw2 (by rw [hc6]; rfl) (by decide) ?_
      refine g_aload_n dX9_count_88 rfl ?_
      refine g_getI' (jj := 16) dX9_count_89 (o64 hK) fX9_162 rfl rfl ?_
      exact g_ireturn dX9_count_92 rfl h
    by_cases hc7 : a1 = 7
    · have h := h.2.2.2.2.2.2.2 hc7
      refine g_swIn (tgt := 93) dX9_count_1 q1 hsw1 hsw2 (by rw [hc7]; rfl) (by decide) ?_
      refine g_aload_n dX9_count_93 rfl ?_
      refine g_getR (k' := 67) dX9_count_94 (o64 hK) fX9_16 (by decide) (by decide) ?_
      refine g_iconst dX9_count_97 ?_
      refine g_iald' (nn := 2) dX9_count_98 (r67 hK) rfl (by decide) (by decide) ?_
      exact g_ireturn dX9_count_99 rfl h
    · exact absurd hsw2 (by omega)
theorem sg_X9_fault_0 {K d : Nat} {mu : Mem} {Q : AV → Mem → Prop} (hd : 5 ≤ d) (hK : 93 ≤ K) (h : zC K 4 mX9_readAll [zR 64] mu (fun v_ nu2 => ∃ r1, v_ = zI r1 ∧ Q (zI r1) nu2)) : zG K d mX9_fault 0 [zR 64] [] mu Q := by
  refine g_aload_n dX9_fault_0 rfl ?_
  refine g_callV (Y' := mX9_readAll) (d' := 4) (As := []) (rest := []) dX9_fault_1 lX9_158 vX9_readAll (by omega) (o64 hK) rfl rfl (Nat.le_of_ble_eq_true rfl) rfl (zC_i h (fun r1 nu2 h => ?_))
  exact g_ireturn dX9_fault_4 rfl h
theorem sg_X9_figures_0 {K d : Nat} {mu : Mem} {Q : AV → Mem → Prop} {a1 : Int} (hd : 1 ≤ d) (hK : 93 ≤ K) (h : zG K d mX9_figures 2 [zR 64, zI a1, zI 0, zU, zU] [] mu Q) : zG K d mX9_figures 0 [zR 64, zI a1, zU, zU, zU] [] mu Q := by
  refine g_iconst dX9_figures_0 ?_
  refine g_istore_n dX9_figures_1 (by decide) rfl ?_
  exact g_wk (zwk_s (zwk_s (zwk_s (zwk_s (zwk_s zwk_n))))) h
theorem sg_X9_figures_2 {K d : Nat} {mu : Mem} {Q : AV → Mem → Prop} {a1 a2 : Int} (hd : 1 ≤ d) (hK : 93 ≤ K) (h : (zin a2 ∧ zin a1 ∧ ((a1 ≤ a2 → Q (zI 1) mu) ∧ (¬ a1 ≤ a2 → zG K d mX9_figures 12 [zR 64, zI a1, zI a2, zI 0, zI 0] [] mu Q)))) : zG K d mX9_figures 2 [zR 64, zI a1, zI a2, zU, zU] [] mu Q := by
  refine g_iload_n dX9_figures_2 rfl ?_
  refine g_iload_n dX9_figures_3 rfl ?_
  obtain ⟨q1, h⟩ := h
  obtain ⟨q2, h⟩ := h
  refine g_icmp_ge (tgt := 136) dX9_figures_4 (by decide) q1 q2 (fun c_ => ?_) (fun c_ => ?_)
  · have h := h.1 c_
    refine g_iconst dX9_figures_136 ?_
    exact g_zreturn dX9_figures_137 rfl (by decide) h
  · have h := h.2 c_
    refine g_iconst dX9_figures_7 ?_
    refine g_istore_n dX9_figures_8 (by decide) rfl ?_
    refine g_iconst dX9_figures_9 ?_
    refine g_istore dX9_figures_10 (by decide) rfl ?_
    exact g_wk (zwk_s (zwk_s (zwk_s (zwk_s (zwk_s zwk_n))))) h
theorem sg_X9_figures_12 {K d : Nat} {mu : Mem} {Q : AV → Mem → Prop} {a1 a2 a3 a4 : Int} (hd : 1 ≤ d) (hK : 93 ≤ K) (h : zC K 0 mX9_byteAt [zR 64, zI (mu 64 17)] mu (fun v_ nu2 => ∃ r1, v_ = zI r1 ∧ (zin r1 ∧ zC K 0 mX9_in [zJ r1, zJ 48, zJ 57] nu2 (fun v_ nu5 => ∃ r4, v_ = zI r4 ∧ (zin r4 ∧ ((r4 = 0 → (zin a3 ∧ zC K 0 mX9_in [zJ a3, zJ 1, zJ 3] nu5 (fun v_ nu9 => ∃ r8, v_ = zI r8 ∧ (zin r8 ∧ ((r8 = 0 → Q (zI 0) nu9) ∧ (¬ r8 = 0 → zC K 0 mX9_byteAt [zR 64, zI (nu9 64 17)] nu9 (fun v_ nu12 => ∃ r11, v_ = zI r11 ∧ (zin a2 ∧ zin (a1 - 1) ∧ (((a1 - 1) ≤ a2 → (zin r11 ∧ ((r11 = 59 → (0 ≤ a2 ∧ a2 < 4 ∧ zG K d mX9_figures 2 [zR 64, zI a1, zI (a2 + 1), zU, zU] [] (zup (zup nu12 80 a2 a4) 64 17 (((zup nu12 80 a2 a4) 64 17) + 1)) Q)) ∧ (¬ r11 = 59 → Q (zI 0) nu12)))) ∧ (¬ (a1 - 1) ≤ a2 → (zin r11 ∧ ((r11 = 44 → (0 ≤ a2 ∧ a2 < 4 ∧ zG K d mX9_figures 2 [zR 64, zI a1, zI (a2 + 1), zU, zU] [] (zup (zup nu12 80 a2 a4) 64 17 (((zup nu12 80 a2 a4) 64 17) + 1)) Q)) ∧ (¬ r11 = 44 → Q (zI 0) nu12))))))))))))) ∧ (¬ r4 = 0 → (zin a3 ∧ ((4 ≤ a3 → zC K 0 mX9_in [zJ a3, zJ 1, zJ 3] nu5 (fun v_ nu23 => ∃ r22, v_ = zI r22 ∧ (zin r22 ∧ ((r22 = 0 → Q (zI 0) nu23) ∧ (¬ r22 = 0 → zC K 0 mX9_byteAt [zR 64, zI (nu23 64 17)] nu23 (fun v_ nu26 => ∃ r25, v_ = zI r25 ∧ (zin a2 ∧ zin (a1 - 1) ∧ (((a1 - 1) ≤ a2 → (zin r25 ∧ ((r25 = 59 → (0 ≤ a2 ∧ a2 < 4 ∧ zG K d mX9_figures 2 [zR 64, zI a1, zI (a2 + 1), zU, zU] [] (zup (zup nu26 80 a2 a4) 64 17 (((zup nu26 80 a2 a4) 64 17) + 1)) Q)) ∧ (¬ r25 = 59 → Q (zI 0) nu26)))) ∧ (¬ (a1 - 1) ≤ a2 → (zin r25 ∧ ((r25 = 44 → (0 ≤ a2 ∧ a2 < 4 ∧ zG K d mX9_figures 2 [zR 64, zI a1, zI (a2 + 1), zU, zU] [] (zup (zup nu26 80 a2 a4) 64 17 (((zup nu26 80 a2 a4) 64 17) + 1)) Q)) ∧ (¬ r25 = 44 → Q (zI 0) nu26)))))))))))) ∧ (¬ 4 ≤ a3 → zC K 0 mX9_byteAt [zR 64, zI (nu5 64 17)] nu5 (fun v_ nu36 => ∃ r35, v_ = zI r35 ∧ zG K d mX9_figures 12 [zR 64, zI a1, zI a2, zI (a3 + 1), zI (((10 * a4) + r35) - 48)] [] (zup nu36 64 17 ((nu36 64 17) + 1)) Q))))))))))) : zG K d mX9_figures 12 [zR 64, zI a1, zI a2, zI a3, zI a4] [] mu Q := by
  refine g_aload_n dX9_figures_12 rfl ?_
  refine g_aload_n dX9_figures_13 rfl ?_
  refine g_getI' (jj := 17) dX9_figures_14 (o64 hK) fX9_112 rfl rfl ?_
  refine g_callV (Y' := mX9_byteAt) (d' := 0) (As := [zI (mu 64 17)]) (rest := []) dX9_figures_17 lX9_115 vX9_byteAt (by omega) (o64 hK) rfl rfl (Nat.le_of_ble_eq_true rfl) rfl (zC_i h (fun r1 nu2 h => ?_))
  obtain ⟨q3, h⟩ := h
  refine g_i2l dX9_figures_20 q3 ?_
  refine g_ldc2 (x := 48) (zc64 (x := 48) (v := 48) (by decide +kernel) kX9_119) dX9_figures_21 ?_
  refine g_ldc2 (x := 57) (zc64 (x := 57) (v := 57) (by decide +kernel) kX9_121) dX9_figures_24 ?_
  refine g_callS (Y' := mX9_in) (d' := 0) (As := [zJ r1, zJ 48, zJ 57]) (rest := []) dX9_figures_27 lX9_102 vX9_in (by omega) rfl (Nat.le_of_ble_eq_true rfl) rfl (zC_i h (fun r4 nu5 h => ?_))
  obtain ⟨q6, h⟩ := h
  refine g_if_eq (tgt := 73) dX9_figures_30 (by decide) q6 (fun c_ => ?_) (fun c_ => ?_)
  · have h := h.1 c_
    refine g_iload_n dX9_figures_73 rfl ?_
    obtain ⟨q7, h⟩ := h
    refine g_i2l dX9_figures_74 q7 ?_
    refine g_lconst (x := 1) dX9_figures_75 rfl ?_
    refine g_ldc2 (x := 3) (zc64 (x := 3) (v := 3) (by decide +kernel) kX9_123) dX9_figures_76 ?_
    refine g_callS (Y' := mX9_in) (d' := 0) (As := [zJ a3, zJ 1, zJ 3]) (rest := []) dX9_figures_79 lX9_102 vX9_in (by omega) rfl (Nat.le_of_ble_eq_true rfl) rfl (zC_i h (fun r8 nu9 h => ?_))
    obtain ⟨q10, h⟩ := h
    refine g_if_eq (tgt := 110) dX9_figures_82 (by decide) q10 (fun c_ => ?_) (fun c_ => ?_)
    · have h := h.1 c_
      refine g_iconst dX9_figures_110 ?_
      exact g_zreturn dX9_figures_111 rfl (by decide) h
    · have h := h.2 c_
      refine g_aload_n dX9_figures_85 rfl ?_
      refine g_aload_n dX9_figures_86 rfl ?_
      refine g_getI' (jj := 17) dX9_figures_87 (o64 hK) fX9_112 rfl rfl ?_
      refine g_callV (Y' := mX9_byteAt) (d' := 0) (As := [zI (nu9 64 17)]) (rest := []) dX9_figures_90 lX9_115 vX9_byteAt (by omega) (o64 hK) rfl rfl (Nat.le_of_ble_eq_true rfl) rfl (zC_i h (fun r11 nu12 h => ?_))
      refine g_iload_n dX9_figures_93 rfl ?_
      refine g_iload_n dX9_figures_94 rfl ?_
      refine g_iconst dX9_figures_95 ?_
      refine g_isub dX9_figures_96 ?_
      obtain ⟨q13, h⟩ := h
      obtain ⟨q14, h⟩ := h
      refine g_icmp_ge (tgt := 105) dX9_figures_97 (by decide) q13 q14 (fun c_ => ?_) (fun c_ => ?_)
      · have h := h.1 c_
        refine g_bipush dX9_figures_105 rfl ?_
        obtain ⟨q15, h⟩ := h
        refine g_icmp_eq (tgt := 112) dX9_figures_107 (by decide) q15 (zin_d rfl) (fun c_ => ?_) (fun c_ => ?_)
        · have h := h.1 c_
          refine g_aload_n dX9_figures_112 rfl ?_
          refine g_getR (k' := 80) dX9_figures_113 (o64 hK) fX9_55 (by decide) (by decide) ?_
          refine g_iload_n dX9_figures_116 rfl ?_
          refine g_iload dX9_figures_117 rfl ?_
          obtain ⟨q16, h⟩ := h
          obtain ⟨q17, h⟩ := h
          refine g_iast' (nn := 4) dX9_figures_119 (r80 hK) rfl q16 q17 ?_
          refine g_aload_n dX9_figures_120 rfl ?_
          refine g_dup dX9_figures_121 (by simp) ?_
          refine g_getI' (jj := 17) dX9_figures_122 (o64 hK) fX9_112 rfl rfl ?_
          refine g_iconst dX9_figures_125 ?_
          refine g_iadd dX9_figures_126 ?_
          refine g_putI' (jj := 17) dX9_figures_127 (o64 hK) pX9_112 rfl rfl ?_
          refine g_iinc dX9_figures_130 rfl (by decide) rfl ?_
          refine g_goto (tgt := 2) dX9_figures_133 (by decide) ?_
          exact g_wk (zwk_s (zwk_s (zwk_s (zwk_u (zwk_u zwk_n))))) h
        · have h := h.2 c_
          refine g_iconst dX9_figures_110 ?_
          exact g_zreturn dX9_figures_111 rfl (by decide) h
      · have h := h.2 c_
        refine g_bipush dX9_figures_100 rfl ?_
        refine g_goto (tgt := 107) dX9_figures_102 (by decide) ?_
        obtain ⟨q18, h⟩ := h
        refine g_icmp_eq (tgt := 112) dX9_figures_107 (by decide) q18 (zin_d rfl) (fun c_ => ?_) (fun c_ => ?_)
        · have h := h.1 c_
          refine g_aload_n dX9_figures_112 rfl ?_
          refine g_getR (k' := 80) dX9_figures_113 (o64 hK) fX9_55 (by decide) (by decide) ?_
          refine g_iload_n dX9_figures_116 rfl ?_
          refine g_iload dX9_figures_117 rfl ?_
          obtain ⟨q19, h⟩ := h
          obtain ⟨q20, h⟩ := h
          refine g_iast' (nn := 4) dX9_figures_119 (r80 hK) rfl q19 q20 ?_
          refine g_aload_n dX9_figures_120 rfl ?_
          refine g_dup dX9_figures_121 (by simp) ?_
          refine g_getI' (jj := 17) dX9_figures_122 (o64 hK) fX9_112 rfl rfl ?_
          refine g_iconst dX9_figures_125 ?_
          refine g_iadd dX9_figures_126 ?_
          refine g_putI' (jj := 17) dX9_figures_127 (o64 hK) pX9_112 rfl rfl ?_
          refine g_iinc dX9_figures_130 rfl (by decide) rfl ?_
          refine g_goto (tgt := 2) dX9_figures_133 (by decide) ?_
          exact g_wk (zwk_s (zwk_s (zwk_s (zwk_u (zwk_u zwk_n))))) h
        · have h := h.2 c_
          refine g_iconst dX9_figures_110 ?_
          exact g_zreturn dX9_figures_111 rfl (by decide) h
  · have h := h.2 c_
    refine g_iload_n dX9_figures_33 rfl ?_
    refine g_iconst dX9_figures_34 ?_
    obtain ⟨q21, h⟩ := h
    refine g_icmp_ge (tgt := 73) dX9_figures_35 (by decide) q21 (zin_d rfl) (fun c_ => ?_) (fun c_ => ?_)
    · have h := h.1 c_
      refine g_iload_n dX9_figures_73 rfl ?_
      refine g_i2l dX9_figures_74 q21 ?_
      refine g_lconst (x := 1) dX9_figures_75 rfl ?_
      refine g_ldc2 (x := 3) (zc64 (x := 3) (v := 3) (by decide +kernel) kX9_123) dX9_figures_76 ?_
      refine g_callS (Y' := mX9_in) (d' := 0) (As := [zJ a3, zJ 1, zJ 3]) (rest := []) dX9_figures_79 lX9_102 vX9_in (by omega) rfl (Nat.le_of_ble_eq_true rfl) rfl (zC_i h (fun r22 nu23 h => ?_))
      obtain ⟨q24, h⟩ := h
      refine g_if_eq (tgt := 110) dX9_figures_82 (by decide) q24 (fun c_ => ?_) (fun c_ => ?_)
      · have h := h.1 c_
        refine g_iconst dX9_figures_110 ?_
        exact g_zreturn dX9_figures_111 rfl (by decide) h
      · have h := h.2 c_
        refine g_aload_n dX9_figures_85 rfl ?_
        refine g_aload_n dX9_figures_86 rfl ?_
        refine g_getI' (jj := 17) dX9_figures_87 (o64 hK) fX9_112 rfl rfl ?_
        refine g_callV (Y' := mX9_byteAt) (d' := 0) (As := [zI (nu23 64 17)]) (rest := []) dX9_figures_90 lX9_115 vX9_byteAt (by omega) (o64 hK) rfl rfl (Nat.le_of_ble_eq_true rfl) rfl (zC_i h (fun r25 nu26 h => ?_))
        refine g_iload_n dX9_figures_93 rfl ?_
        refine g_iload_n dX9_figures_94 rfl ?_
        refine g_iconst dX9_figures_95 ?_
        refine g_isub dX9_figures_96 ?_
        obtain ⟨q27, h⟩ := h
        obtain ⟨q28, h⟩ := h
        refine g_icmp_ge (tgt := 105) dX9_figures_97 (by decide) q27 q28 (fun c_ => ?_) (fun c_ => ?_)
        · have h := h.1 c_
          refine g_bipush dX9_figures_105 rfl ?_
          obtain ⟨q29, h⟩ := h
          refine g_icmp_eq (tgt := 112) dX9_figures_107 (by decide) q29 (zin_d rfl) (fun c_ => ?_) (fun c_ => ?_)
          · have h := h.1 c_
            refine g_aload_n dX9_figures_112 rfl ?_
            refine g_getR (k' := 80) dX9_figures_113 (o64 hK) fX9_55 (by decide) (by decide) ?_
            refine g_iload_n dX9_figures_116 rfl ?_
            refine g_iload dX9_figures_117 rfl ?_
            obtain ⟨q30, h⟩ := h
            obtain ⟨q31, h⟩ := h
            refine g_iast' (nn := 4) dX9_figures_119 (r80 hK) rfl q30 q31 ?_
            refine g_aload_n dX9_figures_120 rfl ?_
            refine g_dup dX9_figures_121 (by simp) ?_
            refine g_getI' (jj := 17) dX9_figures_122 (o64 hK) fX9_112 rfl rfl ?_
            refine g_iconst dX9_figures_125 ?_
            refine g_iadd dX9_figures_126 ?_
            refine g_putI' (jj := 17) dX9_figures_127 (o64 hK) pX9_112 rfl rfl ?_
            refine g_iinc dX9_figures_130 rfl (by decide) rfl ?_
            refine g_goto (tgt := 2) dX9_figures_133 (by decide) ?_
            exact g_wk (zwk_s (zwk_s (zwk_s (zwk_u (zwk_u zwk_n))))) h
          · have h := h.2 c_
            refine g_iconst dX9_figures_110 ?_
            exact g_zreturn dX9_figures_111 rfl (by decide) h
        · have h := h.2 c_
          refine g_bipush dX9_figures_100 rfl ?_
          refine g_goto (tgt := 107) dX9_figures_102 (by decide) ?_
          obtain ⟨q32, h⟩ := h
          refine g_icmp_eq (tgt := 112) dX9_figures_107 (by decide) q32 (zin_d rfl) (fun c_ => ?_) (fun c_ => ?_)
          · have h := h.1 c_
            refine g_aload_n dX9_figures_112 rfl ?_
            refine g_getR (k' := 80) dX9_figures_113 (o64 hK) fX9_55 (by decide) (by decide) ?_
            refine g_iload_n dX9_figures_116 rfl ?_
            refine g_iload dX9_figures_117 rfl ?_
            obtain ⟨q33, h⟩ := h
            obtain ⟨q34, h⟩ := h
            refine g_iast' (nn := 4) dX9_figures_119 (r80 hK) rfl q33 q34 ?_
            refine g_aload_n dX9_figures_120 rfl ?_
            refine g_dup dX9_figures_121 (by simp) ?_
            refine g_getI' (jj := 17) dX9_figures_122 (o64 hK) fX9_112 rfl rfl ?_
            refine g_iconst dX9_figures_125 ?_
            refine g_iadd dX9_figures_126 ?_
            refine g_putI' (jj := 17) dX9_figures_127 (o64 hK) pX9_112 rfl rfl ?_
            refine g_iinc dX9_figures_130 rfl (by decide) rfl ?_
            refine g_goto (tgt := 2) dX9_figures_133 (by decide) ?_
            exact g_wk (zwk_s (zwk_s (zwk_s (zwk_u (zwk_u zwk_n))))) h
          · have h := h.2 c_
            refine g_iconst dX9_figures_110 ?_
            exact g_zreturn dX9_figures_111 rfl (by decide) h
    · have h := h.2 c_
      refine g_bipush dX9_figures_38 rfl ?_
      refine g_iload dX9_figures_40 rfl ?_
      refine g_imul dX9_figures_42 ?_
      refine g_aload_n dX9_figures_43 rfl ?_
      refine g_aload_n dX9_figures_44 rfl ?_
      refine g_getI' (jj := 17) dX9_figures_45 (o64 hK) fX9_112 rfl rfl ?_
      refine g_callV (Y' := mX9_byteAt) (d' := 0) (As := [zI (nu5 64 17)]) (rest := [zI (10 * a4)]) dX9_figures_48 lX9_115 vX9_byteAt (by omega) (o64 hK) rfl rfl (Nat.le_of_ble_eq_true rfl) rfl (zC_i h (fun r35 nu36 h => ?_))
      refine g_iadd dX9_figures_51 ?_
      refine g_bipush dX9_figures_52 rfl ?_
      refine g_isub dX9_figures_54 ?_
      refine g_istore dX9_figures_55 (by decide) rfl ?_
      refine g_iinc dX9_figures_57 rfl (by decide) rfl ?_
      refine g_aload_n dX9_figures_60 rfl ?_
      refine g_dup dX9_figures_61 (by simp) ?_
      refine g_getI' (jj := 17) dX9_figures_62 (o64 hK) fX9_112 rfl rfl ?_
      refine g_iconst dX9_figures_65 ?_
      refine g_iadd dX9_figures_66 ?_
      refine g_putI' (jj := 17) dX9_figures_67 (o64 hK) pX9_112 rfl rfl ?_
      refine g_goto (tgt := 12) dX9_figures_70 (by decide) ?_
      exact g_wk (zwk_s (zwk_s (zwk_s (zwk_s (zwk_s zwk_n))))) h
theorem sg_X9_gift_0 {K d : Nat} {mu : Mem} {Q : AV → Mem → Prop} {a1 : Int} (hd : 3 ≤ d) (hK : 93 ≤ K) (h : zC K 2 mX9_isGift [zR 64, zI a1] mu (fun v_ nu2 => ∃ r1, v_ = zI r1 ∧ (zin r1 ∧ ((¬ r1 = 0 → (zin (nu2 78 0) ∧ ((¬ (nu2 78 0) = 10 → (0 ≤ (nu2 78 0) ∧ (nu2 78 0) < 30 ∧ Q (zI ((zup (zup nu2 79 (nu2 78 0) a1) 78 0 (((zup nu2 79 (nu2 78 0) a1) 78 0) + 1)) 78 0)) (zup (zup nu2 79 (nu2 78 0) a1) 78 0 (((zup nu2 79 (nu2 78 0) a1) 78 0) + 1)))) ∧ ((nu2 78 0) = 10 → Q (zI (-3)) nu2)))) ∧ (r1 = 0 → Q (zI (-1)) nu2))))) : zG K d mX9_gift 0 [zR 64, zI a1] [] mu Q := by
  refine g_aload_n dX9_gift_0 rfl ?_
  refine g_iload_n dX9_gift_1 rfl ?_
  refine g_callV (Y' := mX9_isGift) (d' := 2) (As := [zI a1]) (rest := []) dX9_gift_2 lX9_168 vX9_isGift (by omega) (o64 hK) rfl rfl (Nat.le_of_ble_eq_true rfl) rfl (zC_i h (fun r1 nu2 h => ?_))
  obtain ⟨q3, h⟩ := h
  refine g_if_ne (tgt := 10) dX9_gift_5 (by decide) q3 (fun c_ => ?_) (fun c_ => ?_)
  · have h := h.1 c_
    refine g_aload_n dX9_gift_10 rfl ?_
    refine g_getR (k' := 78) dX9_gift_11 (o64 hK) fX9_49 (by decide) (by decide) ?_
    refine g_iconst dX9_gift_14 ?_
    refine g_iald' (nn := 3) dX9_gift_15 (r78 hK) rfl (by decide) (by decide) ?_
    refine g_bipush dX9_gift_16 rfl ?_
    obtain ⟨q4, h⟩ := h
    refine g_icmp_ne (tgt := 24) dX9_gift_18 (by decide) q4 (zin_d rfl) (fun c_ => ?_) (fun c_ => ?_)
    · have h := h.1 c_
      refine g_aload_n dX9_gift_24 rfl ?_
      refine g_getR (k' := 79) dX9_gift_25 (o64 hK) fX9_52 (by decide) (by decide) ?_
      refine g_aload_n dX9_gift_28 rfl ?_
      refine g_getR (k' := 78) dX9_gift_29 (o64 hK) fX9_49 (by decide) (by decide) ?_
      refine g_iconst dX9_gift_32 ?_
      refine g_iald' (nn := 3) dX9_gift_33 (r78 hK) rfl (by decide) (by decide) ?_
      refine g_iload_n dX9_gift_34 rfl ?_
      obtain ⟨q5, h⟩ := h
      obtain ⟨q6, h⟩ := h
      refine g_iast' (nn := 30) dX9_gift_35 (r79 hK) rfl q5 q6 ?_
      refine g_aload_n dX9_gift_36 rfl ?_
      refine g_getR (k' := 78) dX9_gift_37 (o64 hK) fX9_49 (by decide) (by decide) ?_
      refine g_iconst dX9_gift_40 ?_
      refine g_dup2 dX9_gift_41 (by simp) (by simp) ?_
      refine g_iald' (nn := 3) dX9_gift_42 (r78 hK) rfl (by decide) (by decide) ?_
      refine g_iconst dX9_gift_43 ?_
      refine g_iadd dX9_gift_44 ?_
      refine g_iast' (nn := 3) dX9_gift_45 (r78 hK) rfl (by decide) (by decide) ?_
      refine g_aload_n dX9_gift_46 rfl ?_
      refine g_getR (k' := 78) dX9_gift_47 (o64 hK) fX9_49 (by decide) (by decide) ?_
      refine g_iconst dX9_gift_50 ?_
      refine g_iald' (nn := 3) dX9_gift_51 (r78 hK) rfl (by decide) (by decide) ?_
      exact g_ireturn dX9_gift_52 rfl h
    · have h := h.2 c_
      refine g_bipush dX9_gift_21 rfl ?_
      exact g_ireturn dX9_gift_23 rfl h
  · have h := h.2 c_
    refine g_iconst dX9_gift_8 ?_
    exact g_ireturn dX9_gift_9 rfl h
theorem sg_X9_given_0 {K d : Nat} {mu : Mem} {Q : AV → Mem → Prop} {a1 : Int} (hd : 3 ≤ d) (hK : 93 ≤ K) (h : zC K 1 mX9_isWish [zR 64, zI a1] mu (fun v_ nu2 => ∃ r1, v_ = zI r1 ∧ (zin r1 ∧ ((r1 = 0 → Q (zI (-1)) nu2) ∧ (¬ r1 = 0 → zC K 2 mX9_givenBy [zR 64, zI (nu2 67 0), zI a1] nu2 (fun v_ nu5 => ∃ r4, v_ = zI r4 ∧ Q (zI r4) nu5)))))) : zG K d mX9_given 0 [zR 64, zI a1] [] mu Q := by
  refine g_aload_n dX9_given_0 rfl ?_
  refine g_iload_n dX9_given_1 rfl ?_
  refine g_callV (Y' := mX9_isWish) (d' := 1) (As := [zI a1]) (rest := []) dX9_given_2 lX9_187 vX9_isWish (by omega) (o64 hK) rfl rfl (Nat.le_of_ble_eq_true rfl) rfl (zC_i h (fun r1 nu2 h => ?_))
  obtain ⟨q3, h⟩ := h
  refine g_if_eq (tgt := 22) dX9_given_5 (by decide) q3 (fun c_ => ?_) (fun c_ => ?_)
  · have h := h.1 c_
    refine g_iconst dX9_given_22 ?_
    exact g_ireturn dX9_given_23 rfl h
  · have h := h.2 c_
    refine g_aload_n dX9_given_8 rfl ?_
    refine g_aload_n dX9_given_9 rfl ?_
    refine g_getR (k' := 67) dX9_given_10 (o64 hK) fX9_16 (by decide) (by decide) ?_
    refine g_iconst dX9_given_13 ?_
    refine g_iald' (nn := 2) dX9_given_14 (r67 hK) rfl (by decide) (by decide) ?_
    refine g_iload_n dX9_given_15 rfl ?_
    refine g_callV (Y' := mX9_givenBy) (d' := 2) (As := [zI (nu2 67 0), zI a1]) (rest := []) dX9_given_16 lX9_190 vX9_givenBy (by omega) (o64 hK) rfl rfl (Nat.le_of_ble_eq_true rfl) rfl (zC_i h (fun r4 nu5 h => ?_))
    refine g_goto (tgt := 23) dX9_given_19 (by decide) ?_
    exact g_ireturn dX9_given_23 rfl h
theorem sg_X9_givenBy_0 {K d : Nat} {mu : Mem} {Q : AV → Mem → Prop} {a1 a2 : Int} (hd : 2 ≤ d) (hK : 93 ≤ K) (h : zC K 0 mX9_beginRow [zR 64] mu (fun v_ nu2 => v_ = zV ∧ zG K d mX9_givenBy 6 [zR 64, zI a1, zI a2, zI 0] [] nu2 Q)) : zG K d mX9_givenBy 0 [zR 64, zI a1, zI a2, zU] [] mu Q := by
  refine g_aload_n dX9_givenBy_0 rfl ?_
  refine g_callV (Y' := mX9_beginRow) (d' := 0) (As := []) (rest := []) dX9_givenBy_1 lX9_178 vX9_beginRow (by omega) (o64 hK) rfl rfl (Nat.le_of_ble_eq_true rfl) rfl (zC_v h (fun nu2 h => ?_))
  refine g_iconst dX9_givenBy_4 ?_
  refine g_istore_n dX9_givenBy_5 (by decide) rfl ?_
  exact g_wk (zwk_s (zwk_s (zwk_s (zwk_s zwk_n)))) h
theorem sg_X9_givenBy_6 {K d : Nat} {mu : Mem} {Q : AV → Mem → Prop} {a1 a2 a3 : Int} (hd : 2 ≤ d) (hK : 93 ≤ K) (h : (zin a3 ∧ zin a2 ∧ ((a2 < a3 → zC K 1 mX9_gives [zR 64, zI a1] mu (fun v_ nu4 => ∃ r3, v_ = zI r3 ∧ Q (zI r3) nu4)) ∧ (¬ a2 < a3 → (0 ≤ a3 ∧ a3 < 20 ∧ zC K 0 mX9_askNow [zR 64, zI (mu 71 a3)] mu (fun v_ nu8 => v_ = zV ∧ zG K d mX9_givenBy 6 [zR 64, zI a1, zI a2, zI (a3 + 1)] [] nu8 Q)))))) : zG K d mX9_givenBy 6 [zR 64, zI a1, zI a2, zI a3] [] mu Q := by
  refine g_iload_n dX9_givenBy_6 rfl ?_
  refine g_iload_n dX9_givenBy_7 rfl ?_
  obtain ⟨q1, h⟩ := h
  obtain ⟨q2, h⟩ := h
  refine g_icmp_gt (tgt := 27) dX9_givenBy_8 (by decide) q1 q2 (fun c_ => ?_) (fun c_ => ?_)
  · have h := h.1 c_
    refine g_aload_n dX9_givenBy_27 rfl ?_
    refine g_iload_n dX9_givenBy_28 rfl ?_
    refine g_callV (Y' := mX9_gives) (d' := 1) (As := [zI a1]) (rest := []) dX9_givenBy_29 lX9_184 vX9_gives (by omega) (o64 hK) rfl rfl (Nat.le_of_ble_eq_true rfl) rfl (zC_i h (fun r3 nu4 h => ?_))
    exact g_ireturn dX9_givenBy_32 rfl h
  · have h := h.2 c_
    refine g_aload_n dX9_givenBy_11 rfl ?_
    refine g_aload_n dX9_givenBy_12 rfl ?_
    refine g_getR (k' := 71) dX9_givenBy_13 (o64 hK) fX9_28 (by decide) (by decide) ?_
    refine g_iload_n dX9_givenBy_16 rfl ?_
    obtain ⟨q5, h⟩ := h
    obtain ⟨q6, h⟩ := h
    refine g_iald' (nn := 20) dX9_givenBy_17 (r71 hK) rfl q5 q6 ?_
    refine g_callV (Y' := mX9_askNow) (d' := 0) (As := [zI (mu 71 a3)]) (rest := []) dX9_givenBy_18 lX9_181 vX9_askNow (by omega) (o64 hK) rfl rfl (Nat.le_of_ble_eq_true rfl) rfl (zC_v h (fun nu8 h => ?_))
    refine g_iinc dX9_givenBy_21 rfl (by decide) rfl ?_
    refine g_goto (tgt := 6) dX9_givenBy_24 (by decide) ?_
    exact g_wk (zwk_s (zwk_s (zwk_s (zwk_s zwk_n)))) h
theorem sg_X9_gives_0 {K d : Nat} {mu : Mem} {Q : AV → Mem → Prop} {a1 : Int} (hd : 1 ≤ d) (hK : 93 ≤ K) (h : (zin a1 ∧ ((¬ a1 = 3 → ((¬ a1 = 0 → ((¬ a1 = 1 → zC K 0 mX9_mostOf [zR 64, zI 7, zI 4] mu (fun v_ nu3 => ∃ r2, v_ = zI r2 ∧ Q (zI r2) nu3)) ∧ (a1 = 1 → zC K 0 mX9_mostOf [zR 64, zI 5, zI 3] mu (fun v_ nu5 => ∃ r4, v_ = zI r4 ∧ Q (zI r4) nu5)))) ∧ (a1 = 0 → zC K 0 mX9_mostOf [zR 64, zI 3, zI 2] mu (fun v_ nu7 => ∃ r6, v_ = zI r6 ∧ Q (zI r6) nu7)))) ∧ (a1 = 3 → (zin (mu 64 22) ∧ (((mu 64 22) ≤ 1 → Q (zI 6) mu) ∧ (¬ (mu 64 22) ≤ 1 → (0 ≤ ((mu 64 22) - 2) ∧ ((mu 64 22) - 2) < 16 ∧ Q (zI (mu 81 ((mu 64 22) - 2))) mu)))))))) : zG K d mX9_gives 0 [zR 64, zI a1] [] mu Q := by
  refine g_iload_n dX9_gives_0 rfl ?_
  refine g_iconst dX9_gives_1 ?_
  obtain ⟨q1, h⟩ := h
  refine g_icmp_ne (tgt := 30) dX9_gives_2 (by decide) q1 (zin_d rfl) (fun c_ => ?_) (fun c_ => ?_)
  · have h := h.1 c_
    refine g_iload_n dX9_gives_30 rfl ?_
    refine g_if_ne (tgt := 43) dX9_gives_31 (by decide) q1 (fun c_ => ?_) (fun c_ => ?_)
    · have h := h.1 c_
      refine g_iload_n dX9_gives_43 rfl ?_
      refine g_iconst dX9_gives_44 ?_
      refine g_icmp_ne (tgt := 57) dX9_gives_45 (by decide) q1 (zin_d rfl) (fun c_ => ?_) (fun c_ => ?_)
      · have h := h.1 c_
        refine g_aload_n dX9_gives_57 rfl ?_
        refine g_bipush dX9_gives_58 rfl ?_
        refine g_iconst dX9_gives_60 ?_
        refine g_callV (Y' := mX9_mostOf) (d' := 0) (As := [zI 7, zI 4]) (rest := []) dX9_gives_61 lX9_174 vX9_mostOf (by omega) (o64 hK) rfl rfl (Nat.le_of_ble_eq_true rfl) rfl (zC_i h (fun r2 nu3 h => ?_))
        exact g_ireturn dX9_gives_64 rfl h
      · have h := h.2 c_
        refine g_aload_n dX9_gives_48 rfl ?_
        refine g_iconst dX9_gives_49 ?_
        refine g_iconst dX9_gives_50 ?_
        refine g_callV (Y' := mX9_mostOf) (d' := 0) (As := [zI 5, zI 3]) (rest := []) dX9_gives_51 lX9_174 vX9_mostOf (by omega) (o64 hK) rfl rfl (Nat.le_of_ble_eq_true rfl) rfl (zC_i h (fun r4 nu5 h => ?_))
        refine g_goto (tgt := 64) dX9_gives_54 (by decide) ?_
        exact g_ireturn dX9_gives_64 rfl h
    · have h := h.2 c_
      refine g_aload_n dX9_gives_34 rfl ?_
      refine g_iconst dX9_gives_35 ?_
      refine g_iconst dX9_gives_36 ?_
      refine g_callV (Y' := mX9_mostOf) (d' := 0) (As := [zI 3, zI 2]) (rest := []) dX9_gives_37 lX9_174 vX9_mostOf (by omega) (o64 hK) rfl rfl (Nat.le_of_ble_eq_true rfl) rfl (zC_i h (fun r6 nu7 h => ?_))
      refine g_goto (tgt := 64) dX9_gives_40 (by decide) ?_
      exact g_ireturn dX9_gives_64 rfl h
  · have h := h.2 c_
    refine g_aload_n dX9_gives_5 rfl ?_
    refine g_getI' (jj := 22) dX9_gives_6 (o64 hK) fX9_171 rfl rfl ?_
    refine g_iconst dX9_gives_9 ?_
    obtain ⟨q8, h⟩ := h
    refine g_icmp_le (tgt := 27) dX9_gives_10 (by decide) q8 (zin_d rfl) (fun c_ => ?_) (fun c_ => ?_)
    · have h := h.1 c_
      refine g_bipush dX9_gives_27 rfl ?_
      exact g_ireturn dX9_gives_29 rfl h
    · have h := h.2 c_
      refine g_aload_n dX9_gives_13 rfl ?_
      refine g_getR (k' := 81) dX9_gives_14 (o64 hK) fX9_58 (by decide) (by decide) ?_
      refine g_aload_n dX9_gives_17 rfl ?_
      refine g_getI' (jj := 22) dX9_gives_18 (o64 hK) fX9_171 rfl rfl ?_
      refine g_iconst dX9_gives_21 ?_
      refine g_isub dX9_gives_22 ?_
      obtain ⟨q9, h⟩ := h
      obtain ⟨q10, h⟩ := h
      refine g_iald' (nn := 16) dX9_gives_23 (r81 hK) rfl q9 q10 ?_
      refine g_goto (tgt := 29) dX9_gives_24 (by decide) ?_
      exact g_ireturn dX9_gives_29 rfl h
theorem sg_X9_goRound_0 {K d : Nat} {mu : Mem} {Q : AV → Mem → Prop} (hd : 1 ≤ d) (hK : 93 ≤ K) (h : zG K d mX9_goRound 2 [zR 64, zI 0, zU, zU, zU] [] mu Q) : zG K d mX9_goRound 0 [zR 64, zU, zU, zU, zU] [] mu Q := by
  refine g_iconst dX9_goRound_0 ?_
  refine g_istore_n dX9_goRound_1 (by decide) rfl ?_
  exact g_wk (zwk_s (zwk_s (zwk_s (zwk_s (zwk_s zwk_n))))) h
theorem sg_X9_goRound_2 {K d : Nat} {mu : Mem} {Q : AV → Mem → Prop} {a1 : Int} (hd : 1 ≤ d) (hK : 93 ≤ K) (h : (zin a1 ∧ zin (mu 74 0) ∧ (((mu 74 0) ≤ a1 → zG K d mX9_goRound 36 [zR 64, zI 0, zU, zU, zU] [] mu Q) ∧ (¬ (mu 74 0) ≤ a1 → (0 ≤ ((3 * a1) + 2) ∧ ((3 * a1) + 2) < 18 ∧ 0 ≤ a1 ∧ a1 < 6 ∧ zG K d mX9_goRound 2 [zR 64, zI (a1 + 1), zU, zU, zU] [] (zup mu 91 a1 (mu 90 ((3 * a1) + 2))) Q))))) : zG K d mX9_goRound 2 [zR 64, zI a1, zU, zU, zU] [] mu Q := by
  refine g_iload_n dX9_goRound_2 rfl ?_
  refine g_aload_n dX9_goRound_3 rfl ?_
  refine g_getR (k' := 74) dX9_goRound_4 (o64 hK) fX9_37 (by decide) (by decide) ?_
  refine g_iconst dX9_goRound_7 ?_
  refine g_iald' (nn := 2) dX9_goRound_8 (r74 hK) rfl (by decide) (by decide) ?_
  obtain ⟨q1, h⟩ := h
  obtain ⟨q2, h⟩ := h
  refine g_icmp_ge (tgt := 34) dX9_goRound_9 (by decide) q1 q2 (fun c_ => ?_) (fun c_ => ?_)
  · have h := h.1 c_
    refine g_iconst dX9_goRound_34 ?_
    refine g_istore_n dX9_goRound_35 (by decide) rfl ?_
    exact g_wk (zwk_s (zwk_s (zwk_s (zwk_s (zwk_s zwk_n))))) h
  · have h := h.2 c_
    refine g_aload_n dX9_goRound_12 rfl ?_
    refine g_getR (k' := 91) dX9_goRound_13 (o64 hK) fX9_90 (by decide) (by decide) ?_
    refine g_iload_n dX9_goRound_16 rfl ?_
    refine g_aload_n dX9_goRound_17 rfl ?_
    refine g_getR (k' := 90) dX9_goRound_18 (o64 hK) fX9_87 (by decide) (by decide) ?_
    refine g_iconst dX9_goRound_21 ?_
    refine g_iload_n dX9_goRound_22 rfl ?_
    refine g_imul dX9_goRound_23 ?_
    refine g_iconst dX9_goRound_24 ?_
    refine g_iadd dX9_goRound_25 ?_
    obtain ⟨q3, h⟩ := h
    obtain ⟨q4, h⟩ := h
    refine g_iald' (nn := 18) dX9_goRound_26 (r90 hK) rfl q3 q4 ?_
    obtain ⟨q5, h⟩ := h
    obtain ⟨q6, h⟩ := h
    refine g_iast' (nn := 6) dX9_goRound_27 (r91 hK) rfl q5 q6 ?_
    refine g_iinc dX9_goRound_28 rfl (by decide) rfl ?_
    refine g_goto (tgt := 2) dX9_goRound_31 (by decide) ?_
    exact g_wk (zwk_s (zwk_s (zwk_s (zwk_s (zwk_s zwk_n))))) h
theorem sg_X9_goRound_36 {K d : Nat} {mu : Mem} {Q : AV → Mem → Prop} {a1 : Int} (hd : 1 ≤ d) (hK : 93 ≤ K) (h : (zin a1 ∧ zin (mu 74 0) ∧ (((mu 74 0) ≤ a1 → Q zV mu) ∧ (¬ (mu 74 0) ≤ a1 → (0 ≤ (3 * a1) ∧ (3 * a1) < 18 ∧ 0 ≤ ((3 * a1) + 1) ∧ ((3 * a1) + 1) < 18 ∧ 0 ≤ a1 ∧ a1 < 12 ∧ 0 ≤ (mu 75 a1) ∧ (mu 75 a1) < 6 ∧ zC K 0 mX9_three [zI (mu 90 (3 * a1)), zI (mu 90 ((3 * a1) + 1)), zI (mu 91 (mu 75 a1))] (zup (zup mu 90 (3 * a1) (mu 90 ((3 * a1) + 1))) 90 ((3 * a1) + 1) (mu 91 (mu 75 a1))) (fun v_ nu12 => ∃ r11, v_ = zI r11 ∧ (0 ≤ ((3 * a1) + 2) ∧ ((3 * a1) + 2) < 18 ∧ zG K d mX9_goRound 36 [zR 64, zI (a1 + 1), zU, zU, zU] [] (zup nu12 90 ((3 * a1) + 2) r11) Q))))))) : zG K d mX9_goRound 36 [zR 64, zI a1, zU, zU, zU] [] mu Q := by
  refine g_iload_n dX9_goRound_36 rfl ?_
  refine g_aload_n dX9_goRound_37 rfl ?_
  refine g_getR (k' := 74) dX9_goRound_38 (o64 hK) fX9_37 (by decide) (by decide) ?_
  refine g_iconst dX9_goRound_41 ?_
  refine g_iald' (nn := 2) dX9_goRound_42 (r74 hK) rfl (by decide) (by decide) ?_
  obtain ⟨q1, h⟩ := h
  obtain ⟨q2, h⟩ := h
  refine g_icmp_ge (tgt := 123) dX9_goRound_43 (by decide) q1 q2 (fun c_ => ?_) (fun c_ => ?_)
  · have h := h.1 c_
    exact g_return dX9_goRound_123 rfl h
  · have h := h.2 c_
    refine g_aload_n dX9_goRound_46 rfl ?_
    refine g_getR (k' := 90) dX9_goRound_47 (o64 hK) fX9_87 (by decide) (by decide) ?_
    refine g_iconst dX9_goRound_50 ?_
    refine g_iload_n dX9_goRound_51 rfl ?_
    refine g_imul dX9_goRound_52 ?_
    obtain ⟨q3, h⟩ := h
    obtain ⟨q4, h⟩ := h
    refine g_iald' (nn := 18) dX9_goRound_53 (r90 hK) rfl q3 q4 ?_
    refine g_istore_n dX9_goRound_54 (by decide) rfl ?_
    refine g_aload_n dX9_goRound_55 rfl ?_
    refine g_getR (k' := 90) dX9_goRound_56 (o64 hK) fX9_87 (by decide) (by decide) ?_
    refine g_iconst dX9_goRound_59 ?_
    refine g_iload_n dX9_goRound_60 rfl ?_
    refine g_imul dX9_goRound_61 ?_
    refine g_iconst dX9_goRound_62 ?_
    refine g_iadd dX9_goRound_63 ?_
    obtain ⟨q5, h⟩ := h
    obtain ⟨q6, h⟩ := h
    refine g_iald' (nn := 18) dX9_goRound_64 (r90 hK) rfl q5 q6 ?_
    refine g_istore_n dX9_goRound_65 (by decide) rfl ?_
    refine g_aload_n dX9_goRound_66 rfl ?_
    refine g_getR (k' := 91) dX9_goRound_67 (o64 hK) fX9_90 (by decide) (by decide) ?_
    refine g_aload_n dX9_goRound_70 rfl ?_
    refine g_getR (k' := 75) dX9_goRound_71 (o64 hK) fX9_40 (by decide) (by decide) ?_
    refine g_iload_n dX9_goRound_74 rfl ?_
    obtain ⟨q7, h⟩ := h
    obtain ⟨q8, h⟩ := h
    refine g_iald' (nn := 12) dX9_goRound_75 (r75 hK) rfl q7 q8 ?_
    obtain ⟨q9, h⟩ := h
    obtain ⟨q10, h⟩ := h
    refine g_iald' (nn := 6) dX9_goRound_76 (r91 hK) rfl q9 q10 ?_
    refine g_istore dX9_goRound_77 (by decide) rfl ?_
    refine g_aload_n dX9_goRound_79 rfl ?_
    refine g_getR (k' := 90) dX9_goRound_80 (o64 hK) fX9_87 (by decide) (by decide) ?_
    refine g_iconst dX9_goRound_83 ?_
    refine g_iload_n dX9_goRound_84 rfl ?_
    refine g_imul dX9_goRound_85 ?_
    refine g_iload_n dX9_goRound_86 rfl ?_
    refine g_iast' (nn := 18) dX9_goRound_87 (r90 hK) rfl q3 q4 ?_
    refine g_aload_n dX9_goRound_88 rfl ?_
    refine g_getR (k' := 90) dX9_goRound_89 (o64 hK) fX9_87 (by decide) (by decide) ?_
    refine g_iconst dX9_goRound_92 ?_
    refine g_iload_n dX9_goRound_93 rfl ?_
    refine g_imul dX9_goRound_94 ?_
    refine g_iconst dX9_goRound_95 ?_
    refine g_iadd dX9_goRound_96 ?_
    refine g_iload dX9_goRound_97 rfl ?_
    refine g_iast' (nn := 18) dX9_goRound_99 (r90 hK) rfl q5 q6 ?_
    refine g_aload_n dX9_goRound_100 rfl ?_
    refine g_getR (k' := 90) dX9_goRound_101 (o64 hK) fX9_87 (by decide) (by decide) ?_
    refine g_iconst dX9_goRound_104 ?_
    refine g_iload_n dX9_goRound_105 rfl ?_
    refine g_imul dX9_goRound_106 ?_
    refine g_iconst dX9_goRound_107 ?_
    refine g_iadd dX9_goRound_108 ?_
    refine g_iload_n dX9_goRound_109 rfl ?_
    refine g_iload_n dX9_goRound_110 rfl ?_
    refine g_iload dX9_goRound_111 rfl ?_
    refine g_callS (Y' := mX9_three) (d' := 0) (As := [zI (mu 90 (3 * a1)), zI (mu 90 ((3 * a1) + 1)), zI (mu 91 (mu 75 a1))]) (rest := [zI ((3 * a1) + 2), zR 90]) dX9_goRound_113 lX9_193 vX9_three (by omega) rfl (Nat.le_of_ble_eq_true rfl) rfl (zC_i h (fun r11 nu12 h => ?_))
    obtain ⟨q13, h⟩ := h
    obtain ⟨q14, h⟩ := h
    refine g_iast' (nn := 18) dX9_goRound_116 (r90 hK) rfl q13 q14 ?_
    refine g_iinc dX9_goRound_117 rfl (by decide) rfl ?_
    refine g_goto (tgt := 36) dX9_goRound_120 (by decide) ?_
    exact g_wk (zwk_s (zwk_s (zwk_u (zwk_u (zwk_u zwk_n))))) h
theorem sg_X9_has_0 {K d : Nat} {mu : Mem} {Q : AV → Mem → Prop} {a0 a1 : Int} (hd : 0 ≤ d) (hK : 93 ≤ K) (h : (zin (zand (zshr a0 a1) 1) ∧ ((¬ (zand (zshr a0 a1) 1) = 1 → Q (zI 0) mu) ∧ ((zand (zshr a0 a1) 1) = 1 → Q (zI 1) mu)))) : zG K d mX9_has 0 [zI a0, zI a1] [] mu Q := by
  refine g_iload_n dX9_has_0 rfl ?_
  refine g_iload_n dX9_has_1 rfl ?_
  refine g_ishr dX9_has_2 (zshr_ok _ _) ?_
  refine g_iconst dX9_has_3 ?_
  refine g_iand dX9_has_4 (zand_ok _ _) ?_
  refine g_iconst dX9_has_5 ?_
  obtain ⟨q1, h⟩ := h
  refine g_icmp_ne (tgt := 13) dX9_has_6 (by decide) q1 (zin_d rfl) (fun c_ => ?_) (fun c_ => ?_)
  · have h := h.1 c_
    refine g_iconst dX9_has_13 ?_
    exact g_zreturn dX9_has_14 rfl (by decide) h
  · have h := h.2 c_
    refine g_iconst dX9_has_9 ?_
    refine g_goto (tgt := 14) dX9_has_10 (by decide) ?_
    exact g_zreturn dX9_has_14 rfl (by decide) h
theorem sg_X9_have_0 {K d : Nat} {mu : Mem} {Q : AV → Mem → Prop} (hd : 3 ≤ d) (hK : 93 ≤ K) (h : zG K d mX9_have 4 [zR 64, zI 0, zI 0] [] mu Q) : zG K d mX9_have 0 [zR 64, zU, zU] [] mu Q := by
  refine g_iconst dX9_have_0 ?_
  refine g_istore_n dX9_have_1 (by decide) rfl ?_
  refine g_iconst dX9_have_2 ?_
  refine g_istore_n dX9_have_3 (by decide) rfl ?_
  exact g_wk (zwk_s (zwk_s (zwk_s zwk_n))) h
theorem sg_X9_have_4 {K d : Nat} {mu : Mem} {Q : AV → Mem → Prop} {a1 a2 : Int} (hd : 3 ≤ d) (hK : 93 ≤ K) (h : (zin a2 ∧ zin (mu 70 0) ∧ (((mu 70 0) ≤ a2 → Q (zI a1) mu) ∧ (¬ (mu 70 0) ≤ a2 → zC K 2 mX9_givenBy [zR 64, zI (mu 67 0), zI a2] mu (fun v_ nu4 => ∃ r3, v_ = zI r3 ∧ (0 ≤ a2 ∧ a2 < 20 ∧ zin r3 ∧ zin (nu4 71 a2) ∧ ((¬ r3 = (nu4 71 a2) → zG K d mX9_have 4 [zR 64, zI (a1 + 0), zI (a2 + 1)] [] nu4 Q) ∧ (r3 = (nu4 71 a2) → zG K d mX9_have 4 [zR 64, zI (a1 + 1), zI (a2 + 1)] [] nu4 Q)))))))) : zG K d mX9_have 4 [zR 64, zI a1, zI a2] [] mu Q := by
  refine g_iload_n dX9_have_4 rfl ?_
  refine g_aload_n dX9_have_5 rfl ?_
  refine g_getR (k' := 70) dX9_have_6 (o64 hK) fX9_25 (by decide) (by decide) ?_
  refine g_iconst dX9_have_9 ?_
  refine g_iald' (nn := 2) dX9_have_10 (r70 hK) rfl (by decide) (by decide) ?_
  obtain ⟨q1, h⟩ := h
  obtain ⟨q2, h⟩ := h
  refine g_icmp_ge (tgt := 48) dX9_have_11 (by decide) q1 q2 (fun c_ => ?_) (fun c_ => ?_)
  · have h := h.1 c_
    refine g_iload_n dX9_have_48 rfl ?_
    exact g_ireturn dX9_have_49 rfl h
  · have h := h.2 c_
    refine g_iload_n dX9_have_14 rfl ?_
    refine g_aload_n dX9_have_15 rfl ?_
    refine g_aload_n dX9_have_16 rfl ?_
    refine g_getR (k' := 67) dX9_have_17 (o64 hK) fX9_16 (by decide) (by decide) ?_
    refine g_iconst dX9_have_20 ?_
    refine g_iald' (nn := 2) dX9_have_21 (r67 hK) rfl (by decide) (by decide) ?_
    refine g_iload_n dX9_have_22 rfl ?_
    refine g_callV (Y' := mX9_givenBy) (d' := 2) (As := [zI (mu 67 0), zI a2]) (rest := [zI a1]) dX9_have_23 lX9_190 vX9_givenBy (by omega) (o64 hK) rfl rfl (Nat.le_of_ble_eq_true rfl) rfl (zC_i h (fun r3 nu4 h => ?_))
    refine g_aload_n dX9_have_26 rfl ?_
    refine g_getR (k' := 71) dX9_have_27 (o64 hK) fX9_28 (by decide) (by decide) ?_
    refine g_iload_n dX9_have_30 rfl ?_
    obtain ⟨q5, h⟩ := h
    obtain ⟨q6, h⟩ := h
    refine g_iald' (nn := 20) dX9_have_31 (r71 hK) rfl q5 q6 ?_
    obtain ⟨q7, h⟩ := h
    obtain ⟨q8, h⟩ := h
    refine g_icmp_ne (tgt := 39) dX9_have_32 (by decide) q7 q8 (fun c_ => ?_) (fun c_ => ?_)
    · have h := h.1 c_
      refine g_iconst dX9_have_39 ?_
      refine g_iadd dX9_have_40 ?_
      refine g_istore_n dX9_have_41 (by decide) rfl ?_
      refine g_iinc dX9_have_42 rfl (by decide) rfl ?_
      refine g_goto (tgt := 4) dX9_have_45 (by decide) ?_
      exact g_wk (zwk_s (zwk_s (zwk_s zwk_n))) h
    · have h := h.2 c_
      refine g_iconst dX9_have_35 ?_
      refine g_goto (tgt := 40) dX9_have_36 (by decide) ?_
      refine g_iadd dX9_have_40 ?_
      refine g_istore_n dX9_have_41 (by decide) rfl ?_
      refine g_iinc dX9_have_42 rfl (by decide) rfl ?_
      refine g_goto (tgt := 4) dX9_have_45 (by decide) ?_
      exact g_wk (zwk_s (zwk_s (zwk_s zwk_n))) h
theorem sg_X9_in_0 {K d : Nat} {mu : Mem} {Q : AV → Mem → Prop} {a0 a2 a4 : Int} (hd : 0 ≤ d) (hK : 93 ≤ K) (h : (zil a0 ∧ zil a2 ∧ ((a0 < a2 → Q (zI 0) mu) ∧ (¬ a0 < a2 → (zil a4 ∧ ((a4 < a0 → Q (zI 0) mu) ∧ (¬ a4 < a0 → Q (zI 1) mu))))))) : zG K d mX9_in 0 [zJ a0, zU, zJ a2, zU, zJ a4, zU] [] mu Q := by
  refine g_lload_n dX9_in_0 rfl ?_
  refine g_lload_n dX9_in_1 rfl ?_
  obtain ⟨q1, h⟩ := h
  obtain ⟨q2, h⟩ := h
  refine g_lcmp_lt (tgt := 17) dX9_in_2 dX9_in_3 (by decide) q1 q2 (fun c_ => ?_) (fun c_ => ?_)
  · have h := h.1 c_
    refine g_iconst dX9_in_17 ?_
    exact g_zreturn dX9_in_18 rfl (by decide) h
  · have h := h.2 c_
    refine g_lload_n dX9_in_6 rfl ?_
    refine g_lload dX9_in_7 rfl ?_
    obtain ⟨q3, h⟩ := h
    refine g_lcmp_gt (tgt := 17) dX9_in_9 dX9_in_10 (by decide) q1 q3 (fun c_ => ?_) (fun c_ => ?_)
    · have h := h.1 c_
      refine g_iconst dX9_in_17 ?_
      exact g_zreturn dX9_in_18 rfl (by decide) h
    · have h := h.2 c_
      refine g_iconst dX9_in_13 ?_
      refine g_goto (tgt := 18) dX9_in_14 (by decide) ?_
      exact g_zreturn dX9_in_18 rfl (by decide) h
theorem sg_X9_isGift_0 {K d : Nat} {mu : Mem} {Q : AV → Mem → Prop} {a1 : Int} (hd : 2 ≤ d) (hK : 93 ≤ K) (h : zC K 1 mX9_isThing [zR 64, zI a1] mu (fun v_ nu2 => ∃ r1, v_ = zI r1 ∧ (zin r1 ∧ ((¬ r1 = 0 → Q (zI 1) nu2) ∧ (r1 = 0 → (zin a1 ∧ ((¬ a1 = 6 → Q (zI 0) nu2) ∧ (a1 = 6 → Q (zI 1) nu2)))))))) : zG K d mX9_isGift 0 [zR 64, zI a1] [] mu Q := by
  refine g_aload_n dX9_isGift_0 rfl ?_
  refine g_iload_n dX9_isGift_1 rfl ?_
  refine g_callV (Y' := mX9_isThing) (d' := 1) (As := [zI a1]) (rest := []) dX9_isGift_2 lX9_165 vX9_isThing (by omega) (o64 hK) rfl rfl (Nat.le_of_ble_eq_true rfl) rfl (zC_i h (fun r1 nu2 h => ?_))
  obtain ⟨q3, h⟩ := h
  refine g_if_ne (tgt := 14) dX9_isGift_5 (by decide) q3 (fun c_ => ?_) (fun c_ => ?_)
  · have h := h.1 c_
    refine g_iconst dX9_isGift_14 ?_
    refine g_goto (tgt := 19) dX9_isGift_15 (by decide) ?_
    exact g_zreturn dX9_isGift_19 rfl (by decide) h
  · have h := h.2 c_
    refine g_iload_n dX9_isGift_8 rfl ?_
    refine g_bipush dX9_isGift_9 rfl ?_
    obtain ⟨q4, h⟩ := h
    refine g_icmp_ne (tgt := 18) dX9_isGift_11 (by decide) q4 (zin_d rfl) (fun c_ => ?_) (fun c_ => ?_)
    · have h := h.1 c_
      refine g_iconst dX9_isGift_18 ?_
      exact g_zreturn dX9_isGift_19 rfl (by decide) h
    · have h := h.2 c_
      refine g_iconst dX9_isGift_14 ?_
      refine g_goto (tgt := 19) dX9_isGift_15 (by decide) ?_
      exact g_zreturn dX9_isGift_19 rfl (by decide) h
theorem sg_X9_isPost_0 {K d : Nat} {mu : Mem} {Q : AV → Mem → Prop} {a1 : Int} (hd : 1 ≤ d) (hK : 93 ≤ K) (h : (zin a1 ∧ zin ((mu 74 0) - 1) ∧ zC K 0 mX9_in [zJ a1, zJ 0, zJ ((mu 74 0) - 1)] mu (fun v_ nu4 => ∃ r3, v_ = zI r3 ∧ ((r3 = 0 ∨ r3 = 1) ∧ Q (zI r3) nu4)))) : zG K d mX9_isPost 0 [zR 64, zI a1] [] mu Q := by
  refine g_iload_n dX9_isPost_0 rfl ?_
  obtain ⟨q1, h⟩ := h
  refine g_i2l dX9_isPost_1 q1 ?_
  refine g_lconst (x := 0) dX9_isPost_2 rfl ?_
  refine g_aload_n dX9_isPost_3 rfl ?_
  refine g_getR (k' := 74) dX9_isPost_4 (o64 hK) fX9_37 (by decide) (by decide) ?_
  refine g_iconst dX9_isPost_7 ?_
  refine g_iald' (nn := 2) dX9_isPost_8 (r74 hK) rfl (by decide) (by decide) ?_
  refine g_iconst dX9_isPost_9 ?_
  refine g_isub dX9_isPost_10 ?_
  obtain ⟨q2, h⟩ := h
  refine g_i2l dX9_isPost_11 q2 ?_
  refine g_callS (Y' := mX9_in) (d' := 0) (As := [zJ a1, zJ 0, zJ ((mu 74 0) - 1)]) (rest := []) dX9_isPost_12 lX9_102 vX9_in (by omega) rfl (Nat.le_of_ble_eq_true rfl) rfl (zC_i h (fun r3 nu4 h => ?_))
  obtain ⟨q5, h⟩ := h
  exact g_zreturn dX9_isPost_15 rfl q5 h
theorem sg_X9_isQueue_0 {K d : Nat} {mu : Mem} {Q : AV → Mem → Prop} {a1 : Int} (hd : 1 ≤ d) (hK : 93 ≤ K) (h : (zin a1 ∧ zin ((zshl 1 (mu 70 0)) - 1) ∧ zC K 0 mX9_in [zJ a1, zJ 0, zJ ((zshl 1 (mu 70 0)) - 1)] mu (fun v_ nu4 => ∃ r3, v_ = zI r3 ∧ ((r3 = 0 ∨ r3 = 1) ∧ Q (zI r3) nu4)))) : zG K d mX9_isQueue 0 [zR 64, zI a1] [] mu Q := by
  refine g_iload_n dX9_isQueue_0 rfl ?_
  obtain ⟨q1, h⟩ := h
  refine g_i2l dX9_isQueue_1 q1 ?_
  refine g_lconst (x := 0) dX9_isQueue_2 rfl ?_
  refine g_iconst dX9_isQueue_3 ?_
  refine g_aload_n dX9_isQueue_4 rfl ?_
  refine g_getR (k' := 70) dX9_isQueue_5 (o64 hK) fX9_25 (by decide) (by decide) ?_
  refine g_iconst dX9_isQueue_8 ?_
  refine g_iald' (nn := 2) dX9_isQueue_9 (r70 hK) rfl (by decide) (by decide) ?_
  refine g_ishl dX9_isQueue_10 (zshl_ok _ _) ?_
  refine g_iconst dX9_isQueue_11 ?_
  refine g_isub dX9_isQueue_12 ?_
  obtain ⟨q2, h⟩ := h
  refine g_i2l dX9_isQueue_13 q2 ?_
  refine g_callS (Y' := mX9_in) (d' := 0) (As := [zJ a1, zJ 0, zJ ((zshl 1 (mu 70 0)) - 1)]) (rest := []) dX9_isQueue_14 lX9_102 vX9_in (by omega) rfl (Nat.le_of_ble_eq_true rfl) rfl (zC_i h (fun r3 nu4 h => ?_))
  obtain ⟨q5, h⟩ := h
  exact g_zreturn dX9_isQueue_17 rfl q5 h
theorem sg_X9_isShort_0 {K d : Nat} {mu : Mem} {Q : AV → Mem → Prop} (hd : 0 ≤ d) (hK : 93 ≤ K) (h : (zin (mu 67 0) ∧ (((mu 67 0) = 0 → Q (zI 1) mu) ∧ (¬ (mu 67 0) = 0 → ((¬ (mu 67 0) = 3 → Q (zI 0) mu) ∧ ((mu 67 0) = 3 → Q (zI 1) mu)))))) : zG K d mX9_isShort 0 [zR 64] [] mu Q := by
  refine g_aload_n dX9_isShort_0 rfl ?_
  refine g_getR (k' := 67) dX9_isShort_1 (o64 hK) fX9_16 (by decide) (by decide) ?_
  refine g_iconst dX9_isShort_4 ?_
  refine g_iald' (nn := 2) dX9_isShort_5 (r67 hK) rfl (by decide) (by decide) ?_
  obtain ⟨q1, h⟩ := h
  refine g_if_eq (tgt := 19) dX9_isShort_6 (by decide) q1 (fun c_ => ?_) (fun c_ => ?_)
  · have h := h.1 c_
    refine g_iconst dX9_isShort_19 ?_
    refine g_goto (tgt := 24) dX9_isShort_20 (by decide) ?_
    exact g_zreturn dX9_isShort_24 rfl (by decide) h
  · have h := h.2 c_
    refine g_aload_n dX9_isShort_9 rfl ?_
    refine g_getR (k' := 67) dX9_isShort_10 (o64 hK) fX9_16 (by decide) (by decide) ?_
    refine g_iconst dX9_isShort_13 ?_
    refine g_iald' (nn := 2) dX9_isShort_14 (r67 hK) rfl (by decide) (by decide) ?_
    refine g_iconst dX9_isShort_15 ?_
    refine g_icmp_ne (tgt := 23) dX9_isShort_16 (by decide) q1 (zin_d rfl) (fun c_ => ?_) (fun c_ => ?_)
    · have h := h.1 c_
      refine g_iconst dX9_isShort_23 ?_
      exact g_zreturn dX9_isShort_24 rfl (by decide) h
    · have h := h.2 c_
      refine g_iconst dX9_isShort_19 ?_
      refine g_goto (tgt := 24) dX9_isShort_20 (by decide) ?_
      exact g_zreturn dX9_isShort_24 rfl (by decide) h
theorem sg_X9_isThing_0 {K d : Nat} {mu : Mem} {Q : AV → Mem → Prop} {a1 : Int} (hd : 1 ≤ d) (hK : 93 ≤ K) (h : (zin a1 ∧ zin ((mu 66 0) - 1) ∧ zC K 0 mX9_in [zJ a1, zJ 0, zJ ((mu 66 0) - 1)] mu (fun v_ nu4 => ∃ r3, v_ = zI r3 ∧ ((r3 = 0 ∨ r3 = 1) ∧ Q (zI r3) nu4)))) : zG K d mX9_isThing 0 [zR 64, zI a1] [] mu Q := by
  refine g_iload_n dX9_isThing_0 rfl ?_
  obtain ⟨q1, h⟩ := h
  refine g_i2l dX9_isThing_1 q1 ?_
  refine g_lconst (x := 0) dX9_isThing_2 rfl ?_
  refine g_aload_n dX9_isThing_3 rfl ?_
  refine g_getR (k' := 66) dX9_isThing_4 (o64 hK) fX9_13 (by decide) (by decide) ?_
  refine g_iconst dX9_isThing_7 ?_
  refine g_iald' (nn := 2) dX9_isThing_8 (r66 hK) rfl (by decide) (by decide) ?_
  refine g_iconst dX9_isThing_9 ?_
  refine g_isub dX9_isThing_10 ?_
  obtain ⟨q2, h⟩ := h
  refine g_i2l dX9_isThing_11 q2 ?_
  refine g_callS (Y' := mX9_in) (d' := 0) (As := [zJ a1, zJ 0, zJ ((mu 66 0) - 1)]) (rest := []) dX9_isThing_12 lX9_102 vX9_in (by omega) rfl (Nat.le_of_ble_eq_true rfl) rfl (zC_i h (fun r3 nu4 h => ?_))
  obtain ⟨q5, h⟩ := h
  exact g_zreturn dX9_isThing_15 rfl q5 h
theorem sg_X9_isWish_0 {K d : Nat} {mu : Mem} {Q : AV → Mem → Prop} {a1 : Int} (hd : 1 ≤ d) (hK : 93 ≤ K) (h : (zin a1 ∧ zin ((mu 70 0) - 1) ∧ zC K 0 mX9_in [zJ a1, zJ 0, zJ ((mu 70 0) - 1)] mu (fun v_ nu4 => ∃ r3, v_ = zI r3 ∧ ((r3 = 0 ∨ r3 = 1) ∧ Q (zI r3) nu4)))) : zG K d mX9_isWish 0 [zR 64, zI a1] [] mu Q := by
  refine g_iload_n dX9_isWish_0 rfl ?_
  obtain ⟨q1, h⟩ := h
  refine g_i2l dX9_isWish_1 q1 ?_
  refine g_lconst (x := 0) dX9_isWish_2 rfl ?_
  refine g_aload_n dX9_isWish_3 rfl ?_
  refine g_getR (k' := 70) dX9_isWish_4 (o64 hK) fX9_25 (by decide) (by decide) ?_
  refine g_iconst dX9_isWish_7 ?_
  refine g_iald' (nn := 2) dX9_isWish_8 (r70 hK) rfl (by decide) (by decide) ?_
  refine g_iconst dX9_isWish_9 ?_
  refine g_isub dX9_isWish_10 ?_
  obtain ⟨q2, h⟩ := h
  refine g_i2l dX9_isWish_11 q2 ?_
  refine g_callS (Y' := mX9_in) (d' := 0) (As := [zJ a1, zJ 0, zJ ((mu 70 0) - 1)]) (rest := []) dX9_isWish_12 lX9_102 vX9_in (by omega) rfl (Nat.le_of_ble_eq_true rfl) rfl (zC_i h (fun r3 nu4 h => ?_))
  obtain ⟨q5, h⟩ := h
  exact g_zreturn dX9_isWish_15 rfl q5 h
theorem sg_X9_item_0 {K d : Nat} {mu : Mem} {Q : AV → Mem → Prop} (hd : 3 ≤ d) (hK : 93 ≤ K) (h : zC K 0 mX9_byteAt [zR 64, zI (mu 64 17)] mu (fun v_ nu2 => ∃ r1, v_ = zI r1 ∧ (zin r1 ∧ (((r1 < 98 ∨ 118 < r1) → Q (zI 0) (zup nu2 64 17 ((nu2 64 17) + 1))) ∧ (r1 = 98 → zC K 2 mX9_aheadItem [zR 64] (zup nu2 64 17 ((nu2 64 17) + 1)) (fun v_ nu5 => ∃ r4, v_ = zI r4 ∧ ((r4 = 0 ∨ r4 = 1) ∧ Q (zI r4) nu5))) ∧ (r1 = 99 → zC K 1 mX9_figures [zR 64, zI 2] (zup nu2 64 17 ((nu2 64 17) + 1)) (fun v_ nu8 => ∃ r7, v_ = zI r7 ∧ (zin r7 ∧ ((r7 = 0 → Q (zI 0) nu8) ∧ (¬ r7 = 0 → (zin (nu8 80 0) ∧ ((5 < (nu8 80 0) → Q (zI 0) nu8) ∧ (¬ 5 < (nu8 80 0) → (zin (nu8 80 1) ∧ (((nu8 80 1) ≤ 9 → (0 ≤ (6 + (nu8 80 0)) ∧ (6 + (nu8 80 0)) < 12 ∧ zC K 0 mX9_meet [zR 64, zI ((zup nu8 73 (6 + (nu8 80 0)) (nu8 80 1)) 80 0)] (zup nu8 73 (6 + (nu8 80 0)) (nu8 80 1)) (fun v_ nu15 => v_ = zV ∧ Q (zI 1) nu15))) ∧ (¬ (nu8 80 1) ≤ 9 → Q (zI 0) nu8))))))))))) ∧ (r1 = 100 → Q (zI 0) (zup nu2 64 17 ((nu2 64 17) + 1))) ∧ (r1 = 101 → Q (zI 0) (zup nu2 64 17 ((nu2 64 17) + 1))) ∧ (r1 = 102 → Q (zI 0) (zup nu2 64 17 ((nu2 64 17) + 1))) ∧ (r1 = 103 → Q (zI 0) (zup nu2 64 17 ((nu2 64 17) + 1))) ∧ (r1 = 104 → Q (zI 0) (zup nu2 64 17 ((nu2 64 17) + 1))) ∧ (r1 = 105 → Q (zI 0) (zup nu2 64 17 ((nu2 64 17) + 1))) ∧ (r1 = 106 → Q (zI 0) (zup nu2 64 17 ((nu2 64 17) + 1))) ∧ (r1 = 107 → Q (zI 0) (zup nu2 64 17 ((nu2 64 17) + 1))) ∧ (r1 = 108 → Q (zI 0) (zup nu2 64 17 ((nu2 64 17) + 1))) ∧ (r1 = 109 → zC K 1 mX9_figures [zR 64, zI 1] (zup nu2 64 17 ((nu2 64 17) + 1)) (fun v_ nu17 => ∃ r16, v_ = zI r16 ∧ (zin r16 ∧ ((r16 = 0 → Q (zI 0) nu17) ∧ (¬ r16 = 0 → (zin (nu17 80 0) ∧ (((nu17 80 0) ≤ 3 → Q (zI 1) (zup nu17 67 1 (nu17 80 0))) ∧ (¬ (nu17 80 0) ≤ 3 → Q (zI 0) nu17)))))))) ∧ (r1 = 110 → Q (zI 0) (zup nu2 64 17 ((nu2 64 17) + 1))) ∧ (r1 = 111 → Q (zI 0) (zup nu2 64 17 ((nu2 64 17) + 1))) ∧ (r1 = 112 → zC K 2 mX9_postItem [zR 64] (zup nu2 64 17 ((nu2 64 17) + 1)) (fun v_ nu21 => ∃ r20, v_ = zI r20 ∧ ((r20 = 0 ∨ r20 = 1) ∧ Q (zI r20) nu21))) ∧ (r1 = 113 → zC K 2 mX9_wishItem [zR 64] (zup nu2 64 17 ((nu2 64 17) + 1)) (fun v_ nu24 => ∃ r23, v_ = zI r23 ∧ ((r23 = 0 ∨ r23 = 1) ∧ Q (zI r23) nu24))) ∧ (r1 = 114 → Q (zI 0) (zup nu2 64 17 ((nu2 64 17) + 1))) ∧ (r1 = 115 → Q (zI 0) (zup nu2 64 17 ((nu2 64 17) + 1))) ∧ (r1 = 116 → zC K 1 mX9_figures [zR 64, zI 1] (zup nu2 64 17 ((nu2 64 17) + 1)) (fun v_ nu27 => ∃ r26, v_ = zI r26 ∧ (zin r26 ∧ ((r26 = 0 → Q (zI 0) nu27) ∧ (¬ r26 = 0 → (zin (nu27 80 0) ∧ zC K 0 mX9_in [zJ (nu27 80 0), zJ 2, zJ 6] nu27 (fun v_ nu31 => ∃ r30, v_ = zI r30 ∧ (zin r30 ∧ ((¬ r30 = 0 → Q (zI 1) (zup nu31 66 1 (nu31 80 0))) ∧ (r30 = 0 → Q (zI 0) nu31)))))))))) ∧ (r1 = 117 → Q (zI 0) (zup nu2 64 17 ((nu2 64 17) + 1))) ∧ (r1 = 118 → zC K 2 mX9_worthItem [zR 64] (zup nu2 64 17 ((nu2 64 17) + 1)) (fun v_ nu34 => ∃ r33, v_ = zI r33 ∧ ((r33 = 0 ∨ r33 = 1) ∧ Q (zI r33) nu34))))))) : zG K d mX9_item 0 [zR 64, zU] [] mu Q := by
  refine g_aload_n dX9_item_0 rfl ?_
  refine g_aload_n dX9_item_1 rfl ?_
  refine g_getI' (jj := 17) dX9_item_2 (o64 hK) fX9_112 rfl rfl ?_
  refine g_callV (Y' := mX9_byteAt) (d' := 0) (As := [zI (mu 64 17)]) (rest := []) dX9_item_5 lX9_115 vX9_byteAt (by omega) (o64 hK) rfl rfl (Nat.le_of_ble_eq_true rfl) rfl (zC_i h (fun r1 nu2 h => ?_))
  refine g_istore_n dX9_item_8 (by decide) rfl ?_
  refine g_aload_n dX9_item_9 rfl ?_
  refine g_dup dX9_item_10 (by simp) ?_
  refine g_getI' (jj := 17) dX9_item_11 (o64 hK) fX9_112 rfl rfl ?_
  refine g_iconst dX9_item_14 ?_
  refine g_iadd dX9_item_15 ?_
  refine g_putI' (jj := 17) dX9_item_16 (o64 hK) pX9_112 rfl rfl ?_
  refine g_iload_n dX9_item_19 rfl ?_
  obtain ⟨q3, h⟩ := h
  by_cases hsw : r1 < 98 ∨ 118 < r1
  · have h := h.1 hsw
    refine g_swOut (tgt := 280) dX9_item_20 q3 hsw (by decide) ?_
    refine g_iconst dX9_item_280 ?_
    exact g_zreturn dX9_item_281 rfl (by decide) h
  · have h := h.2
    have hsw1 : 98 ≤ r1 := by omega
    have hsw2 : r1 ≤ 118 := by omega
    by_cases hc98 : r1 = 98
    · have h := h.1 hc98
      refine g_swIn (tgt := 197) dX9_item_20 q3 hsw1 hsw2 (by rw [hc98]; rfl) (by decide) ?_
      refine g_aload_n dX9_item_197 rfl ?_
      refine g_callV (Y' := mX9_aheadItem) (d' := 2) (As := []) (rest := []) dX9_item_198 lX9_142 vX9_aheadItem (by omega) (o64 hK) rfl rfl (Nat.le_of_ble_eq_true rfl) rfl (zC_i h (fun r4 nu5 h => ?_))
      obtain ⟨q6, h⟩ := h
      exact g_zreturn dX9_item_201 rfl q6 h
    by_cases hc99 : r1 = 99
    · have h := h.2.1 hc99
      refine g_swIn (tgt := 212) dX9_item_20 q3 hsw1 hsw2 (by rw [hc99]; rfl) (by decide) ?_
      refine g_aload_n dX9_item_212 rfl ?_
      refine g_iconst dX9_item_213 ?_
      refine g_callV (Y' := mX9_figures) (d' := 1) (As := [zI 2]) (rest := []) dX9_item_214 lX9_128 vX9_figures (by omega) (o64 hK) rfl rfl (Nat.le_of_ble_eq_true rfl) rfl (zC_i h (fun r7 nu8 h => ?_))
      obtain ⟨q9, h⟩ := h
      refine g_if_eq (tgt := 241) dX9_item_217 (by decide) q9 (fun c_ => ?_) (fun c_ => ?_)
      · have h := h.1 c_
        refine g_iconst dX9_item_241 ?_
        exact g_zreturn dX9_item_242 rfl (by decide) h
      · have h := h.2 c_
        refine g_aload_n dX9_item_220 rfl ?_
        refine g_getR (k' := 80) dX9_item_221 (o64 hK) fX9_55 (by decide) (by decide) ?_
        refine g_iconst dX9_item_224 ?_
        refine g_iald' (nn := 4) dX9_item_225 (r80 hK) rfl (by decide) (by decide) ?_
        refine g_iconst dX9_item_226 ?_
        obtain ⟨q10, h⟩ := h
        refine g_icmp_gt (tgt := 241) dX9_item_227 (by decide) q10 (zin_d rfl) (fun c_ => ?_) (fun c_ => ?_)
        · have h := h.1 c_
          refine g_iconst dX9_item_241 ?_
          exact g_zreturn dX9_item_242 rfl (by decide) h
        · have h := h.2 c_
          refine g_aload_n dX9_item_230 rfl ?_
          refine g_getR (k' := 80) dX9_item_231 (o64 hK) fX9_55 (by decide) (by decide) ?_
          refine g_iconst dX9_item_234 ?_
          refine g_iald' (nn := 4) dX9_item_235 (r80 hK) rfl (by decide) (by decide) ?_
          refine g_bipush dX9_item_236 rfl ?_
          obtain ⟨q11, h⟩ := h
          refine g_icmp_le (tgt := 243) dX9_item_238 (by decide) q11 (zin_d rfl) (fun c_ => ?_) (fun c_ => ?_)
          · have h := h.1 c_
            refine g_aload_n dX9_item_243 rfl ?_
            refine g_getR (k' := 73) dX9_item_244 (o64 hK) fX9_34 (by decide) (by decide) ?_
            refine g_bipush dX9_item_247 rfl ?_
            refine g_aload_n dX9_item_249 rfl ?_
            refine g_getR (k' := 80) dX9_item_250 (o64 hK) fX9_55 (by decide) (by decide) ?_
            refine g_iconst dX9_item_253 ?_
            refine g_iald' (nn := 4) dX9_item_254 (r80 hK) rfl (by decide) (by decide) ?_
            refine g_iadd dX9_item_255 ?_
            refine g_aload_n dX9_item_256 rfl ?_
            refine g_getR (k' := 80) dX9_item_257 (o64 hK) fX9_55 (by decide) (by decide) ?_
            refine g_iconst dX9_item_260 ?_
            refine g_iald' (nn := 4) dX9_item_261 (r80 hK) rfl (by decide) (by decide) ?_
            obtain ⟨q12, h⟩ := h
            obtain ⟨q13, h⟩ := h
            refine g_iast' (nn := 12) dX9_item_262 (r73 hK) rfl q12 q13 ?_
            refine g_aload_n dX9_item_263 rfl ?_
            refine g_aload_n dX9_item_264 rfl ?_
            refine g_getR (k' := 80) dX9_item_265 (o64 hK) fX9_55 (by decide) (by decide) ?_
            refine g_iconst dX9_item_268 ?_
            refine g_iald' (nn := 4) dX9_item_269 (r80 hK) rfl (by decide) (by decide) ?_
            refine g_callV (Y' := mX9_meet) (d' := 0) (As := [zI ((zup nu8 73 (6 + (nu8 80 0)) (nu8 80 1)) 80 0)]) (rest := []) dX9_item_270 lX9_132 vX9_meet (by omega) (o64 hK) rfl rfl (Nat.le_of_ble_eq_true rfl) rfl (zC_v h (fun nu15 h => ?_))
            refine g_iconst dX9_item_273 ?_
            exact g_zreturn dX9_item_274 rfl (by decide) h
          · have h := h.2 c_
            refine g_iconst dX9_item_241 ?_
            exact g_zreturn dX9_item_242 rfl (by decide) h
    by_cases hc100 : r1 = 100
    · have h := h.2.2.1 hc100
      refine g_swIn (tgt := 280) dX9_item_20 q3 hsw1 hsw2 (by rw [hc100]; rfl) (by decide) ?_
      refine g_iconst dX9_item_280 ?_
      exact g_zreturn dX9_item_281 rfl (by decide) h
    by_cases hc101 : r1 = 101
    · have h := h.2.2.2.1 hc101
      refine g_swIn (tgt := 280) dX9_item_20 q3 hsw1 hsw2 (by rw [hc101]; rfl) (by decide) ?_
      refine g_iconst dX9_item_280 ?_
      exact g_zreturn dX9_item_281 rfl (by decide) h
    by_cases hc102 : r1 = 102
    · have h := h.2.2.2.2.1 hc102
      refine g_swIn (tgt := 280) dX9_item_20 q3 hsw1 hsw2 (by rw [hc102]; rfl) (by decide) ?_
      refine g_iconst dX9_item_280 ?_
      exact g_zreturn dX9_item_281 rfl (by decide) h
    by_cases hc103 : r1 = 103
    · have h := h.2.2.2.2.2.1 hc103
      refine g_swIn (tgt := 280) dX9_item_20 q3 hsw1 hsw2 (by rw [hc103]; rfl) (by decide) ?_
      refine g_iconst dX9_item_280 ?_
      exact g_zreturn dX9_item_281 rfl (by decide) h
    by_cases hc104 : r1 = 104
    · have h := h.2.2.2.2.2.2.1 hc104
      refine g_swIn (tgt := 280) dX9_item_20 q3 hsw1 hsw2 (by rw [hc104]; rfl) (by decide) ?_
      refine g_iconst dX9_item_280 ?_
      exact g_zreturn dX9_item_281 rfl (by decide) h
    by_cases hc105 : r1 = 105
    · have h := h.2.2.2.2.2.2.2.1 hc105
      refine g_swIn (tgt := 280) dX9_item_20 q3 hsw1 hsw2 (by rw [hc105]; rfl) (by decide) ?_
      refine g_iconst dX9_item_280 ?_
      exact g_zreturn dX9_item_281 rfl (by decide) h
    by_cases hc106 : r1 = 106
    · have h := h.2.2.2.2.2.2.2.2.1 hc106
      refine g_swIn (tgt := 280) dX9_item_20 q3 hsw1 hsw2 (by rw [hc106]; rfl) (by decide) ?_
      refine g_iconst dX9_item_280 ?_
      exact g_zreturn dX9_item_281 rfl (by decide) h
    by_cases hc107 : r1 = 107
    · have h := h.2.2.2.2.2.2.2.2.2.1 hc107
      refine g_swIn (tgt := 280) dX9_item_20 q3 hsw1 hsw2 (by rw [hc107]; rfl) (by decide) ?_
      refine g_iconst dX9_item_280 ?_
      exact g_zreturn dX9_item_281 rfl (by decide) h
    by_cases hc108 : r1 = 108
    · have h := h.2.2.2.2.2.2.2.2.2.2.1 hc108
      refine g_swIn (tgt := 280) dX9_item_20 q3 hsw1 hsw2 (by rw [hc108]; rfl) (by decide) ?_
      refine g_iconst dX9_item_280 ?_
      exact g_zreturn dX9_item_281 rfl (by decide) h
    by_cases hc109 : r1 = 109
    · have h := h.2.2.2.2.2.2.2.2.2.2.2.1 hc109
      refine g_swIn (tgt := 163) dX9_item_20 q3 hsw1 hsw2 (by rw [hc109]; rfl) (by decide) ?_
      refine g_aload_n dX9_item_163 rfl ?_
      refine g_iconst dX9_item_164 ?_
      refine g_callV (Y' := mX9_figures) (d' := 1) (As := [zI 1]) (rest := []) dX9_item_165 lX9_128 vX9_figures (by omega) (o64 hK) rfl rfl (Nat.le_of_ble_eq_true rfl) rfl (zC_i h (fun r16 nu17 h => ?_))
      obtain ⟨q18, h⟩ := h
      refine g_if_eq (tgt := 181) dX9_item_168 (by decide) q18 (fun c_ => ?_) (fun c_ => ?_)
      · have h := h.1 c_
        refine g_iconst dX9_item_181 ?_
        exact g_zreturn dX9_item_182 rfl (by decide) h
      · have h := h.2 c_
        refine g_aload_n dX9_item_171 rfl ?_
        refine g_getR (k' := 80) dX9_item_172 (o64 hK) fX9_55 (by decide) (by decide) ?_
        refine g_iconst dX9_item_175 ?_
        refine g_iald' (nn := 4) dX9_item_176 (r80 hK) rfl (by decide) (by decide) ?_
        refine g_iconst dX9_item_177 ?_
        obtain ⟨q19, h⟩ := h
        refine g_icmp_le (tgt := 183) dX9_item_178 (by decide) q19 (zin_d rfl) (fun c_ => ?_) (fun c_ => ?_)
        · have h := h.1 c_
          refine g_aload_n dX9_item_183 rfl ?_
          refine g_getR (k' := 67) dX9_item_184 (o64 hK) fX9_16 (by decide) (by decide) ?_
          refine g_iconst dX9_item_187 ?_
          refine g_aload_n dX9_item_188 rfl ?_
          refine g_getR (k' := 80) dX9_item_189 (o64 hK) fX9_55 (by decide) (by decide) ?_
          refine g_iconst dX9_item_192 ?_
          refine g_iald' (nn := 4) dX9_item_193 (r80 hK) rfl (by decide) (by decide) ?_
          refine g_iast' (nn := 2) dX9_item_194 (r67 hK) rfl (by decide) (by decide) ?_
          refine g_iconst dX9_item_195 ?_
          exact g_zreturn dX9_item_196 rfl (by decide) h
        · have h := h.2 c_
          refine g_iconst dX9_item_181 ?_
          exact g_zreturn dX9_item_182 rfl (by decide) h
    by_cases hc110 : r1 = 110
    · have h := h.2.2.2.2.2.2.2.2.2.2.2.2.1 hc110
      refine g_swIn (tgt := 280) dX9_item_20 q3 hsw1 hsw2 (by rw [hc110]; rfl) (by decide) ?_
      refine g_iconst dX9_item_280 ?_
      exact g_zreturn dX9_item_281 rfl (by decide) h
    by_cases hc111 : r1 = 111
    · have h := h.2.2.2.2.2.2.2.2.2.2.2.2.2.1 hc111
      refine g_swIn (tgt := 280) dX9_item_20 q3 hsw1 hsw2 (by rw [hc111]; rfl) (by decide) ?_
      refine g_iconst dX9_item_280 ?_
      exact g_zreturn dX9_item_281 rfl (by decide) h
    by_cases hc112 : r1 = 112
    · have h := h.2.2.2.2.2.2.2.2.2.2.2.2.2.2.1 hc112
      refine g_swIn (tgt := 275) dX9_item_20 q3 hsw1 hsw2 (by rw [hc112]; rfl) (by decide) ?_
      refine g_aload_n dX9_item_275 rfl ?_
      refine g_callV (Y' := mX9_postItem) (d' := 2) (As := []) (rest := []) dX9_item_276 lX9_152 vX9_postItem (by omega) (o64 hK) rfl rfl (Nat.le_of_ble_eq_true rfl) rfl (zC_i h (fun r20 nu21 h => ?_))
      obtain ⟨q22, h⟩ := h
      exact g_zreturn dX9_item_279 rfl q22 h
    by_cases hc113 : r1 = 113
    · have h := h.2.2.2.2.2.2.2.2.2.2.2.2.2.2.2.1 hc113
      refine g_swIn (tgt := 202) dX9_item_20 q3 hsw1 hsw2 (by rw [hc113]; rfl) (by decide) ?_
      refine g_aload_n dX9_item_202 rfl ?_
      refine g_callV (Y' := mX9_wishItem) (d' := 2) (As := []) (rest := []) dX9_item_203 lX9_146 vX9_wishItem (by omega) (o64 hK) rfl rfl (Nat.le_of_ble_eq_true rfl) rfl (zC_i h (fun r23 nu24 h => ?_))
      obtain ⟨q25, h⟩ := h
      exact g_zreturn dX9_item_206 rfl q25 h
    by_cases hc114 : r1 = 114
    · have h := h.2.2.2.2.2.2.2.2.2.2.2.2.2.2.2.2.1 hc114
      refine g_swIn (tgt := 280) dX9_item_20 q3 hsw1 hsw2 (by rw [hc114]; rfl) (by decide) ?_
      refine g_iconst dX9_item_280 ?_
      exact g_zreturn dX9_item_281 rfl (by decide) h
    by_cases hc115 : r1 = 115
    · have h := h.2.2.2.2.2.2.2.2.2.2.2.2.2.2.2.2.2.1 hc115
      refine g_swIn (tgt := 280) dX9_item_20 q3 hsw1 hsw2 (by rw [hc115]; rfl) (by decide) ?_
      refine g_iconst dX9_item_280 ?_
      exact g_zreturn dX9_item_281 rfl (by decide) h
    by_cases hc116 : r1 = 116
    · have h := h.2.2.2.2.2.2.2.2.2.2.2.2.2.2.2.2.2.2.1 hc116
      refine g_swIn (tgt := 120) dX9_item_20 q3 hsw1 hsw2 (by rw [hc116]; rfl) (by decide) ?_
      refine g_aload_n dX9_item_120 rfl ?_
      refine g_iconst dX9_item_121 ?_
      refine g_callV (Y' := mX9_figures) (d' := 1) (As := [zI 1]) (rest := []) dX9_item_122 lX9_128 vX9_figures (by omega) (o64 hK) rfl rfl (Nat.le_of_ble_eq_true rfl) rfl (zC_i h (fun r26 nu27 h => ?_))
      obtain ⟨q28, h⟩ := h
      refine g_if_eq (tgt := 147) dX9_item_125 (by decide) q28 (fun c_ => ?_) (fun c_ => ?_)
      · have h := h.1 c_
        refine g_iconst dX9_item_147 ?_
        exact g_zreturn dX9_item_148 rfl (by decide) h
      · have h := h.2 c_
        refine g_aload_n dX9_item_128 rfl ?_
        refine g_getR (k' := 80) dX9_item_129 (o64 hK) fX9_55 (by decide) (by decide) ?_
        refine g_iconst dX9_item_132 ?_
        refine g_iald' (nn := 4) dX9_item_133 (r80 hK) rfl (by decide) (by decide) ?_
        obtain ⟨q29, h⟩ := h
        refine g_i2l dX9_item_134 q29 ?_
        refine g_ldc2 (x := 2) (zc64 (x := 2) (v := 2) (by decide +kernel) kX9_138) dX9_item_135 ?_
        refine g_ldc2 (x := 6) (zc64 (x := 6) (v := 6) (by decide +kernel) kX9_140) dX9_item_138 ?_
        refine g_callS (Y' := mX9_in) (d' := 0) (As := [zJ (nu27 80 0), zJ 2, zJ 6]) (rest := []) dX9_item_141 lX9_102 vX9_in (by omega) rfl (Nat.le_of_ble_eq_true rfl) rfl (zC_i h (fun r30 nu31 h => ?_))
        obtain ⟨q32, h⟩ := h
        refine g_if_ne (tgt := 149) dX9_item_144 (by decide) q32 (fun c_ => ?_) (fun c_ => ?_)
        · have h := h.1 c_
          refine g_aload_n dX9_item_149 rfl ?_
          refine g_getR (k' := 66) dX9_item_150 (o64 hK) fX9_13 (by decide) (by decide) ?_
          refine g_iconst dX9_item_153 ?_
          refine g_aload_n dX9_item_154 rfl ?_
          refine g_getR (k' := 80) dX9_item_155 (o64 hK) fX9_55 (by decide) (by decide) ?_
          refine g_iconst dX9_item_158 ?_
          refine g_iald' (nn := 4) dX9_item_159 (r80 hK) rfl (by decide) (by decide) ?_
          refine g_iast' (nn := 2) dX9_item_160 (r66 hK) rfl (by decide) (by decide) ?_
          refine g_iconst dX9_item_161 ?_
          exact g_zreturn dX9_item_162 rfl (by decide) h
        · have h := h.2 c_
          refine g_iconst dX9_item_147 ?_
          exact g_zreturn dX9_item_148 rfl (by decide) h
    by_cases hc117 : r1 = 117
    · have h := h.2.2.2.2.2.2.2.2.2.2.2.2.2.2.2.2.2.2.2.1 hc117
      refine g_swIn (tgt := 280) dX9_item_20 q3 hsw1 hsw2 (by rw [hc117]; rfl) (by decide) ?_
      refine g_iconst dX9_item_280 ?_
      exact g_zreturn dX9_item_281 rfl (by decide) h
    by_cases hc118 : r1 = 118
    · have h := h.2.2.2.2.2.2.2.2.2.2.2.2.2.2.2.2.2.2.2.2 hc118
      refine g_swIn (tgt := 207) dX9_item_20 q3 hsw1 hsw2 (by rw [hc118]; rfl) (by decide) ?_
      refine g_aload_n dX9_item_207 rfl ?_
      refine g_callV (Y' := mX9_worthItem) (d' := 2) (As := []) (rest := []) dX9_item_208 lX9_149 vX9_worthItem (by omega) (o64 hK) rfl rfl (Nat.le_of_ble_eq_true rfl) rfl (zC_i h (fun r33 nu34 h => ?_))
      obtain ⟨q35, h⟩ := h
      exact g_zreturn dX9_item_211 rfl q35 h
    · exact absurd hsw2 (by omega)
theorem sg_X9_keep_0 {K d : Nat} {mu : Mem} {Q : AV → Mem → Prop} (hd : 1 ≤ d) (hK : 93 ≤ K) (h : (zin (mu 64 16) ∧ ((¬ (mu 64 16) = 2 → zC K 0 mX9_copy [zR 64, zI 0, zI ((zup mu 64 16 ((mu 64 16) + 1)) 64 16)] (zup mu 64 16 ((mu 64 16) + 1)) (fun v_ nu3 => v_ = zV ∧ Q (zI (nu3 64 16)) nu3)) ∧ ((mu 64 16) = 2 → Q (zI (-3)) mu)))) : zG K d mX9_keep 0 [zR 64] [] mu Q := by
  refine g_aload_n dX9_keep_0 rfl ?_
  refine g_getI' (jj := 16) dX9_keep_1 (o64 hK) fX9_162 rfl rfl ?_
  refine g_iconst dX9_keep_4 ?_
  obtain ⟨q1, h⟩ := h
  refine g_icmp_ne (tgt := 11) dX9_keep_5 (by decide) q1 (zin_d rfl) (fun c_ => ?_) (fun c_ => ?_)
  · have h := h.1 c_
    refine g_aload_n dX9_keep_11 rfl ?_
    refine g_dup dX9_keep_12 (by simp) ?_
    refine g_getI' (jj := 16) dX9_keep_13 (o64 hK) fX9_162 rfl rfl ?_
    refine g_iconst dX9_keep_16 ?_
    refine g_iadd dX9_keep_17 ?_
    refine g_putI' (jj := 16) dX9_keep_18 (o64 hK) pX9_162 rfl rfl ?_
    refine g_aload_n dX9_keep_21 rfl ?_
    refine g_iconst dX9_keep_22 ?_
    refine g_aload_n dX9_keep_23 rfl ?_
    refine g_getI' (jj := 16) dX9_keep_24 (o64 hK) fX9_162 rfl rfl ?_
    refine g_callV (Y' := mX9_copy) (d' := 0) (As := [zI 0, zI ((zup mu 64 16 ((mu 64 16) + 1)) 64 16)]) (rest := []) dX9_keep_27 lX9_279 vX9_copy (by omega) (o64 hK) rfl rfl (Nat.le_of_ble_eq_true rfl) rfl (zC_v h (fun nu3 h => ?_))
    refine g_aload_n dX9_keep_30 rfl ?_
    refine g_getI' (jj := 16) dX9_keep_31 (o64 hK) fX9_162 rfl rfl ?_
    exact g_ireturn dX9_keep_34 rfl h
  · have h := h.2 c_
    refine g_bipush dX9_keep_8 rfl ?_
    exact g_ireturn dX9_keep_10 rfl h
theorem sg_X9_lastBut_0 {K d : Nat} {mu : Mem} {Q : AV → Mem → Prop} {a1 : Int} (hd : 0 ≤ d) (hK : 93 ≤ K) (h : (zin (mu 68 0) ∧ zin a1 ∧ (((mu 68 0) ≤ a1 → Q (zI 7) mu) ∧ (¬ (mu 68 0) ≤ a1 → (0 ≤ (((mu 68 0) - 1) - a1) ∧ (((mu 68 0) - 1) - a1) < 12 ∧ Q (zI (mu 69 (((mu 68 0) - 1) - a1))) mu))))) : zG K d mX9_lastBut 0 [zR 64, zI a1] [] mu Q := by
  refine g_aload_n dX9_lastBut_0 rfl ?_
  refine g_getR (k' := 68) dX9_lastBut_1 (o64 hK) fX9_19 (by decide) (by decide) ?_
  refine g_iconst dX9_lastBut_4 ?_
  refine g_iald' (nn := 2) dX9_lastBut_5 (r68 hK) rfl (by decide) (by decide) ?_
  refine g_iload_n dX9_lastBut_6 rfl ?_
  obtain ⟨q1, h⟩ := h
  obtain ⟨q2, h⟩ := h
  refine g_icmp_le (tgt := 28) dX9_lastBut_7 (by decide) q1 q2 (fun c_ => ?_) (fun c_ => ?_)
  · have h := h.1 c_
    refine g_bipush dX9_lastBut_28 rfl ?_
    exact g_ireturn dX9_lastBut_30 rfl h
  · have h := h.2 c_
    refine g_aload_n dX9_lastBut_10 rfl ?_
    refine g_getR (k' := 69) dX9_lastBut_11 (o64 hK) fX9_22 (by decide) (by decide) ?_
    refine g_aload_n dX9_lastBut_14 rfl ?_
    refine g_getR (k' := 68) dX9_lastBut_15 (o64 hK) fX9_19 (by decide) (by decide) ?_
    refine g_iconst dX9_lastBut_18 ?_
    refine g_iald' (nn := 2) dX9_lastBut_19 (r68 hK) rfl (by decide) (by decide) ?_
    refine g_iconst dX9_lastBut_20 ?_
    refine g_isub dX9_lastBut_21 ?_
    refine g_iload_n dX9_lastBut_22 rfl ?_
    refine g_isub dX9_lastBut_23 ?_
    obtain ⟨q3, h⟩ := h
    obtain ⟨q4, h⟩ := h
    refine g_iald' (nn := 12) dX9_lastBut_24 (r69 hK) rfl q3 q4 ?_
    refine g_goto (tgt := 30) dX9_lastBut_25 (by decide) ?_
    exact g_ireturn dX9_lastBut_30 rfl h
theorem sg_X9_lay_0 {K d : Nat} {mu : Mem} {Q : AV → Mem → Prop} (hd : 5 ≤ d) (hK : 93 ≤ K) (h : zC K 4 mX9_readAll [zR 64] mu (fun v_ nu2 => ∃ r1, v_ = zI r1 ∧ (zin r1 ∧ ((¬ r1 = (-4) → Q (zI (-2)) nu2) ∧ (r1 = (-4) → (zin (nu2 70 1) ∧ (((nu2 70 1) = 0 → Q (zI (-2)) nu2) ∧ (¬ (nu2 70 1) = 0 → (zin (nu2 64 19) ∧ zin (nu2 66 1) ∧ (((nu2 66 1) ≤ (nu2 64 19) → Q (zI (-2)) nu2) ∧ (¬ (nu2 66 1) ≤ (nu2 64 19) → (zin (nu2 64 20) ∧ zin (nu2 74 1) ∧ (((nu2 64 20) < (nu2 74 1) → zG K d mX9_lay 109 [zR 64, zI 0] [] (zup (zup (zup (zup (zup nu2 66 0 (nu2 66 1)) 67 0 ((zup nu2 66 0 (nu2 66 1)) 67 1)) 68 0 ((zup (zup nu2 66 0 (nu2 66 1)) 67 0 ((zup nu2 66 0 (nu2 66 1)) 67 1)) 68 1)) 70 0 ((zup (zup (zup nu2 66 0 (nu2 66 1)) 67 0 ((zup nu2 66 0 (nu2 66 1)) 67 1)) 68 0 ((zup (zup nu2 66 0 (nu2 66 1)) 67 0 ((zup nu2 66 0 (nu2 66 1)) 67 1)) 68 1)) 70 1)) 74 0 ((zup (zup (zup (zup nu2 66 0 (nu2 66 1)) 67 0 ((zup nu2 66 0 (nu2 66 1)) 67 1)) 68 0 ((zup (zup nu2 66 0 (nu2 66 1)) 67 0 ((zup nu2 66 0 (nu2 66 1)) 67 1)) 68 1)) 70 0 ((zup (zup (zup nu2 66 0 (nu2 66 1)) 67 0 ((zup nu2 66 0 (nu2 66 1)) 67 1)) 68 0 ((zup (zup nu2 66 0 (nu2 66 1)) 67 0 ((zup nu2 66 0 (nu2 66 1)) 67 1)) 68 1)) 70 1)) 74 1)) Q) ∧ (¬ (nu2 64 20) < (nu2 74 1) → Q (zI (-2)) nu2)))))))))))))) : zG K d mX9_lay 0 [zR 64, zU] [] mu Q := by
  refine g_aload_n dX9_lay_0 rfl ?_
  refine g_callV (Y' := mX9_readAll) (d' := 4) (As := []) (rest := []) dX9_lay_1 lX9_158 vX9_readAll (by omega) (o64 hK) rfl rfl (Nat.le_of_ble_eq_true rfl) rfl (zC_i h (fun r1 nu2 h => ?_))
  refine g_bipush dX9_lay_4 rfl ?_
  obtain ⟨q3, h⟩ := h
  refine g_icmp_ne (tgt := 44) dX9_lay_6 (by decide) q3 (zin_d rfl) (fun c_ => ?_) (fun c_ => ?_)
  · have h := h.1 c_
    refine g_bipush dX9_lay_44 rfl ?_
    exact g_ireturn dX9_lay_46 rfl h
  · have h := h.2 c_
    refine g_aload_n dX9_lay_9 rfl ?_
    refine g_getR (k' := 70) dX9_lay_10 (o64 hK) fX9_25 (by decide) (by decide) ?_
    refine g_iconst dX9_lay_13 ?_
    refine g_iald' (nn := 2) dX9_lay_14 (r70 hK) rfl (by decide) (by decide) ?_
    obtain ⟨q4, h⟩ := h
    refine g_if_eq (tgt := 44) dX9_lay_15 (by decide) q4 (fun c_ => ?_) (fun c_ => ?_)
    · have h := h.1 c_
      refine g_bipush dX9_lay_44 rfl ?_
      exact g_ireturn dX9_lay_46 rfl h
    · have h := h.2 c_
      refine g_aload_n dX9_lay_18 rfl ?_
      refine g_getI' (jj := 19) dX9_lay_19 (o64 hK) fX9_125 rfl rfl ?_
      refine g_aload_n dX9_lay_22 rfl ?_
      refine g_getR (k' := 66) dX9_lay_23 (o64 hK) fX9_13 (by decide) (by decide) ?_
      refine g_iconst dX9_lay_26 ?_
      refine g_iald' (nn := 2) dX9_lay_27 (r66 hK) rfl (by decide) (by decide) ?_
      obtain ⟨q5, h⟩ := h
      obtain ⟨q6, h⟩ := h
      refine g_icmp_ge (tgt := 44) dX9_lay_28 (by decide) q5 q6 (fun c_ => ?_) (fun c_ => ?_)
      · have h := h.1 c_
        refine g_bipush dX9_lay_44 rfl ?_
        exact g_ireturn dX9_lay_46 rfl h
      · have h := h.2 c_
        refine g_aload_n dX9_lay_31 rfl ?_
        refine g_getI' (jj := 20) dX9_lay_32 (o64 hK) fX9_135 rfl rfl ?_
        refine g_aload_n dX9_lay_35 rfl ?_
        refine g_getR (k' := 74) dX9_lay_36 (o64 hK) fX9_37 (by decide) (by decide) ?_
        refine g_iconst dX9_lay_39 ?_
        refine g_iald' (nn := 2) dX9_lay_40 (r74 hK) rfl (by decide) (by decide) ?_
        obtain ⟨q7, h⟩ := h
        obtain ⟨q8, h⟩ := h
        refine g_icmp_lt (tgt := 47) dX9_lay_41 (by decide) q7 q8 (fun c_ => ?_) (fun c_ => ?_)
        · have h := h.1 c_
          refine g_aload_n dX9_lay_47 rfl ?_
          refine g_getR (k' := 66) dX9_lay_48 (o64 hK) fX9_13 (by decide) (by decide) ?_
          refine g_iconst dX9_lay_51 ?_
          refine g_aload_n dX9_lay_52 rfl ?_
          refine g_getR (k' := 66) dX9_lay_53 (o64 hK) fX9_13 (by decide) (by decide) ?_
          refine g_iconst dX9_lay_56 ?_
          refine g_iald' (nn := 2) dX9_lay_57 (r66 hK) rfl (by decide) (by decide) ?_
          refine g_iast' (nn := 2) dX9_lay_58 (r66 hK) rfl (by decide) (by decide) ?_
          refine g_aload_n dX9_lay_59 rfl ?_
          refine g_getR (k' := 67) dX9_lay_60 (o64 hK) fX9_16 (by decide) (by decide) ?_
          refine g_iconst dX9_lay_63 ?_
          refine g_aload_n dX9_lay_64 rfl ?_
          refine g_getR (k' := 67) dX9_lay_65 (o64 hK) fX9_16 (by decide) (by decide) ?_
          refine g_iconst dX9_lay_68 ?_
          refine g_iald' (nn := 2) dX9_lay_69 (r67 hK) rfl (by decide) (by decide) ?_
          refine g_iast' (nn := 2) dX9_lay_70 (r67 hK) rfl (by decide) (by decide) ?_
          refine g_aload_n dX9_lay_71 rfl ?_
          refine g_getR (k' := 68) dX9_lay_72 (o64 hK) fX9_19 (by decide) (by decide) ?_
          refine g_iconst dX9_lay_75 ?_
          refine g_aload_n dX9_lay_76 rfl ?_
          refine g_getR (k' := 68) dX9_lay_77 (o64 hK) fX9_19 (by decide) (by decide) ?_
          refine g_iconst dX9_lay_80 ?_
          refine g_iald' (nn := 2) dX9_lay_81 (r68 hK) rfl (by decide) (by decide) ?_
          refine g_iast' (nn := 2) dX9_lay_82 (r68 hK) rfl (by decide) (by decide) ?_
          refine g_aload_n dX9_lay_83 rfl ?_
          refine g_getR (k' := 70) dX9_lay_84 (o64 hK) fX9_25 (by decide) (by decide) ?_
          refine g_iconst dX9_lay_87 ?_
          refine g_aload_n dX9_lay_88 rfl ?_
          refine g_getR (k' := 70) dX9_lay_89 (o64 hK) fX9_25 (by decide) (by decide) ?_
          refine g_iconst dX9_lay_92 ?_
          refine g_iald' (nn := 2) dX9_lay_93 (r70 hK) rfl (by decide) (by decide) ?_
          refine g_iast' (nn := 2) dX9_lay_94 (r70 hK) rfl (by decide) (by decide) ?_
          refine g_aload_n dX9_lay_95 rfl ?_
          refine g_getR (k' := 74) dX9_lay_96 (o64 hK) fX9_37 (by decide) (by decide) ?_
          refine g_iconst dX9_lay_99 ?_
          refine g_aload_n dX9_lay_100 rfl ?_
          refine g_getR (k' := 74) dX9_lay_101 (o64 hK) fX9_37 (by decide) (by decide) ?_
          refine g_iconst dX9_lay_104 ?_
          refine g_iald' (nn := 2) dX9_lay_105 (r74 hK) rfl (by decide) (by decide) ?_
          refine g_iast' (nn := 2) dX9_lay_106 (r74 hK) rfl (by decide) (by decide) ?_
          refine g_iconst dX9_lay_107 ?_
          refine g_istore_n dX9_lay_108 (by decide) rfl ?_
          exact g_wk (zwk_s (zwk_s zwk_n)) h
        · have h := h.2 c_
          refine g_bipush dX9_lay_44 rfl ?_
          exact g_ireturn dX9_lay_46 rfl h
theorem sg_X9_lay_109 {K d : Nat} {mu : Mem} {Q : AV → Mem → Prop} {a1 : Int} (hd : 5 ≤ d) (hK : 93 ≤ K) (h : (zin a1 ∧ ((6 ≤ a1 → zG K d mX9_lay 168 [zR 64, zI 0] [] mu Q) ∧ (¬ 6 ≤ a1 → (0 ≤ (6 + a1) ∧ (6 + a1) < 12 ∧ 0 ≤ a1 ∧ a1 < 12 ∧ zG K d mX9_lay 109 [zR 64, zI (a1 + 1)] [] (zup (zup (zup mu 69 a1 (mu 69 (6 + a1))) 73 a1 ((zup mu 69 a1 (mu 69 (6 + a1))) 73 (6 + a1))) 75 a1 ((zup (zup mu 69 a1 (mu 69 (6 + a1))) 73 a1 ((zup mu 69 a1 (mu 69 (6 + a1))) 73 (6 + a1))) 75 (6 + a1))) Q))))) : zG K d mX9_lay 109 [zR 64, zI a1] [] mu Q := by
  refine g_iload_n dX9_lay_109 rfl ?_
  refine g_bipush dX9_lay_110 rfl ?_
  obtain ⟨q1, h⟩ := h
  refine g_icmp_ge (tgt := 166) dX9_lay_112 (by decide) q1 (zin_d rfl) (fun c_ => ?_) (fun c_ => ?_)
  · have h := h.1 c_
    refine g_iconst dX9_lay_166 ?_
    refine g_istore_n dX9_lay_167 (by decide) rfl ?_
    exact g_wk (zwk_s (zwk_s zwk_n)) h
  · have h := h.2 c_
    refine g_aload_n dX9_lay_115 rfl ?_
    refine g_getR (k' := 69) dX9_lay_116 (o64 hK) fX9_22 (by decide) (by decide) ?_
    refine g_iload_n dX9_lay_119 rfl ?_
    refine g_aload_n dX9_lay_120 rfl ?_
    refine g_getR (k' := 69) dX9_lay_121 (o64 hK) fX9_22 (by decide) (by decide) ?_
    refine g_bipush dX9_lay_124 rfl ?_
    refine g_iload_n dX9_lay_126 rfl ?_
    refine g_iadd dX9_lay_127 ?_
    obtain ⟨q2, h⟩ := h
    obtain ⟨q3, h⟩ := h
    refine g_iald' (nn := 12) dX9_lay_128 (r69 hK) rfl q2 q3 ?_
    obtain ⟨q4, h⟩ := h
    obtain ⟨q5, h⟩ := h
    refine g_iast' (nn := 12) dX9_lay_129 (r69 hK) rfl q4 q5 ?_
    refine g_aload_n dX9_lay_130 rfl ?_
    refine g_getR (k' := 73) dX9_lay_131 (o64 hK) fX9_34 (by decide) (by decide) ?_
    refine g_iload_n dX9_lay_134 rfl ?_
    refine g_aload_n dX9_lay_135 rfl ?_
    refine g_getR (k' := 73) dX9_lay_136 (o64 hK) fX9_34 (by decide) (by decide) ?_
    refine g_bipush dX9_lay_139 rfl ?_
    refine g_iload_n dX9_lay_141 rfl ?_
    refine g_iadd dX9_lay_142 ?_
    refine g_iald' (nn := 12) dX9_lay_143 (r73 hK) rfl q2 q3 ?_
    refine g_iast' (nn := 12) dX9_lay_144 (r73 hK) rfl q4 q5 ?_
    refine g_aload_n dX9_lay_145 rfl ?_
    refine g_getR (k' := 75) dX9_lay_146 (o64 hK) fX9_40 (by decide) (by decide) ?_
    refine g_iload_n dX9_lay_149 rfl ?_
    refine g_aload_n dX9_lay_150 rfl ?_
    refine g_getR (k' := 75) dX9_lay_151 (o64 hK) fX9_40 (by decide) (by decide) ?_
    refine g_bipush dX9_lay_154 rfl ?_
    refine g_iload_n dX9_lay_156 rfl ?_
    refine g_iadd dX9_lay_157 ?_
    refine g_iald' (nn := 12) dX9_lay_158 (r75 hK) rfl q2 q3 ?_
    refine g_iast' (nn := 12) dX9_lay_159 (r75 hK) rfl q4 q5 ?_
    refine g_iinc dX9_lay_160 rfl (by decide) rfl ?_
    refine g_goto (tgt := 109) dX9_lay_163 (by decide) ?_
    exact g_wk (zwk_s (zwk_s zwk_n)) h
theorem sg_X9_lay_168 {K d : Nat} {mu : Mem} {Q : AV → Mem → Prop} {a1 : Int} (hd : 5 ≤ d) (hK : 93 ≤ K) (h : (zin a1 ∧ ((10 ≤ a1 → zG K d mX9_lay 197 [zR 64, zI 0] [] mu Q) ∧ (¬ 10 ≤ a1 → (0 ≤ (10 + a1) ∧ (10 + a1) < 20 ∧ 0 ≤ a1 ∧ a1 < 20 ∧ zG K d mX9_lay 168 [zR 64, zI (a1 + 1)] [] (zup mu 71 a1 (mu 71 (10 + a1))) Q))))) : zG K d mX9_lay 168 [zR 64, zI a1] [] mu Q := by
  refine g_iload_n dX9_lay_168 rfl ?_
  refine g_bipush dX9_lay_169 rfl ?_
  obtain ⟨q1, h⟩ := h
  refine g_icmp_ge (tgt := 195) dX9_lay_171 (by decide) q1 (zin_d rfl) (fun c_ => ?_) (fun c_ => ?_)
  · have h := h.1 c_
    refine g_iconst dX9_lay_195 ?_
    refine g_istore_n dX9_lay_196 (by decide) rfl ?_
    exact g_wk (zwk_s (zwk_s zwk_n)) h
  · have h := h.2 c_
    refine g_aload_n dX9_lay_174 rfl ?_
    refine g_getR (k' := 71) dX9_lay_175 (o64 hK) fX9_28 (by decide) (by decide) ?_
    refine g_iload_n dX9_lay_178 rfl ?_
    refine g_aload_n dX9_lay_179 rfl ?_
    refine g_getR (k' := 71) dX9_lay_180 (o64 hK) fX9_28 (by decide) (by decide) ?_
    refine g_bipush dX9_lay_183 rfl ?_
    refine g_iload_n dX9_lay_185 rfl ?_
    refine g_iadd dX9_lay_186 ?_
    obtain ⟨q2, h⟩ := h
    obtain ⟨q3, h⟩ := h
    refine g_iald' (nn := 20) dX9_lay_187 (r71 hK) rfl q2 q3 ?_
    obtain ⟨q4, h⟩ := h
    obtain ⟨q5, h⟩ := h
    refine g_iast' (nn := 20) dX9_lay_188 (r71 hK) rfl q4 q5 ?_
    refine g_iinc dX9_lay_189 rfl (by decide) rfl ?_
    refine g_goto (tgt := 168) dX9_lay_192 (by decide) ?_
    exact g_wk (zwk_s (zwk_s zwk_n)) h
theorem sg_X9_lay_197 {K d : Nat} {mu : Mem} {Q : AV → Mem → Prop} {a1 : Int} (hd : 5 ≤ d) (hK : 93 ≤ K) (h : (zin a1 ∧ ((42 ≤ a1 → zG K d mX9_lay 226 [zR 64, zI 0] [] mu Q) ∧ (¬ 42 ≤ a1 → (0 ≤ (42 + a1) ∧ (42 + a1) < 84 ∧ 0 ≤ a1 ∧ a1 < 84 ∧ zG K d mX9_lay 197 [zR 64, zI (a1 + 1)] [] (zup mu 72 a1 (mu 72 (42 + a1))) Q))))) : zG K d mX9_lay 197 [zR 64, zI a1] [] mu Q := by
  refine g_iload_n dX9_lay_197 rfl ?_
  refine g_bipush dX9_lay_198 rfl ?_
  obtain ⟨q1, h⟩ := h
  refine g_icmp_ge (tgt := 224) dX9_lay_200 (by decide) q1 (zin_d rfl) (fun c_ => ?_) (fun c_ => ?_)
  · have h := h.1 c_
    refine g_iconst dX9_lay_224 ?_
    refine g_istore_n dX9_lay_225 (by decide) rfl ?_
    exact g_wk (zwk_s (zwk_s zwk_n)) h
  · have h := h.2 c_
    refine g_aload_n dX9_lay_203 rfl ?_
    refine g_getR (k' := 72) dX9_lay_204 (o64 hK) fX9_31 (by decide) (by decide) ?_
    refine g_iload_n dX9_lay_207 rfl ?_
    refine g_aload_n dX9_lay_208 rfl ?_
    refine g_getR (k' := 72) dX9_lay_209 (o64 hK) fX9_31 (by decide) (by decide) ?_
    refine g_bipush dX9_lay_212 rfl ?_
    refine g_iload_n dX9_lay_214 rfl ?_
    refine g_iadd dX9_lay_215 ?_
    obtain ⟨q2, h⟩ := h
    obtain ⟨q3, h⟩ := h
    refine g_iald' (nn := 84) dX9_lay_216 (r72 hK) rfl q2 q3 ?_
    obtain ⟨q4, h⟩ := h
    obtain ⟨q5, h⟩ := h
    refine g_iast' (nn := 84) dX9_lay_217 (r72 hK) rfl q4 q5 ?_
    refine g_iinc dX9_lay_218 rfl (by decide) rfl ?_
    refine g_goto (tgt := 197) dX9_lay_221 (by decide) ?_
    exact g_wk (zwk_s (zwk_s zwk_n)) h
theorem sg_X9_lay_226 {K d : Nat} {mu : Mem} {Q : AV → Mem → Prop} {a1 : Int} (hd : 5 ≤ d) (hK : 93 ≤ K) (h : (zin a1 ∧ ((18 ≤ a1 → Q (zI ((zup (zup mu 78 0 0) 64 16 0) 70 0)) (zup (zup mu 78 0 0) 64 16 0)) ∧ (¬ 18 ≤ a1 → (0 ≤ (18 + a1) ∧ (18 + a1) < 36 ∧ 0 ≤ a1 ∧ a1 < 54 ∧ zG K d mX9_lay 226 [zR 64, zI (a1 + 1)] [] (zup mu 77 a1 (mu 76 (18 + a1))) Q))))) : zG K d mX9_lay 226 [zR 64, zI a1] [] mu Q := by
  refine g_iload_n dX9_lay_226 rfl ?_
  refine g_bipush dX9_lay_227 rfl ?_
  obtain ⟨q1, h⟩ := h
  refine g_icmp_ge (tgt := 253) dX9_lay_229 (by decide) q1 (zin_d rfl) (fun c_ => ?_) (fun c_ => ?_)
  · have h := h.1 c_
    refine g_aload_n dX9_lay_253 rfl ?_
    refine g_getR (k' := 78) dX9_lay_254 (o64 hK) fX9_49 (by decide) (by decide) ?_
    refine g_iconst dX9_lay_257 ?_
    refine g_iconst dX9_lay_258 ?_
    refine g_iast' (nn := 3) dX9_lay_259 (r78 hK) rfl (by decide) (by decide) ?_
    refine g_aload_n dX9_lay_260 rfl ?_
    refine g_iconst dX9_lay_261 ?_
    refine g_putI' (jj := 16) dX9_lay_262 (o64 hK) pX9_162 rfl rfl ?_
    refine g_aload_n dX9_lay_265 rfl ?_
    refine g_getR (k' := 70) dX9_lay_266 (o64 hK) fX9_25 (by decide) (by decide) ?_
    refine g_iconst dX9_lay_269 ?_
    refine g_iald' (nn := 2) dX9_lay_270 (r70 hK) rfl (by decide) (by decide) ?_
    exact g_ireturn dX9_lay_271 rfl h
  · have h := h.2 c_
    refine g_aload_n dX9_lay_232 rfl ?_
    refine g_getR (k' := 77) dX9_lay_233 (o64 hK) fX9_46 (by decide) (by decide) ?_
    refine g_iload_n dX9_lay_236 rfl ?_
    refine g_aload_n dX9_lay_237 rfl ?_
    refine g_getR (k' := 76) dX9_lay_238 (o64 hK) fX9_43 (by decide) (by decide) ?_
    refine g_bipush dX9_lay_241 rfl ?_
    refine g_iload_n dX9_lay_243 rfl ?_
    refine g_iadd dX9_lay_244 ?_
    obtain ⟨q2, h⟩ := h
    obtain ⟨q3, h⟩ := h
    refine g_iald' (nn := 36) dX9_lay_245 (r76 hK) rfl q2 q3 ?_
    obtain ⟨q4, h⟩ := h
    obtain ⟨q5, h⟩ := h
    refine g_iast' (nn := 54) dX9_lay_246 (r77 hK) rfl q4 q5 ?_
    refine g_iinc dX9_lay_247 rfl (by decide) rfl ?_
    refine g_goto (tgt := 226) dX9_lay_250 (by decide) ?_
    exact g_wk (zwk_s (zwk_s zwk_n)) h
