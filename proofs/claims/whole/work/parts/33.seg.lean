theorem sg_X1_find_0 {K d : Nat} {mu : Mem} {Q : AV → Mem → Prop} {P a2 : Int} (hd : 33 ≤ d) (hK : 64 ≤ K) (hP : isP K P) (h : (zin (mu 42 2) ∧ zin a2 ∧ ((¬ (mu 42 2) = a2 → zC K 0 mJ7_fill_53178 [zR 45, zI 0] (zup mu 42 2 a2) (fun v_ nu4 => v_ = zV ∧ zC K 1 mX1_findAlike [zR 42, zR P] nu4 (fun v_ nu6 => v_ = zV ∧ zC K 1 mX2_pairAhead [zR P] nu6 (fun v_ nu8 => ∃ r7, v_ = zI r7 ∧ zC K 30 mX1_mostLeft [zR 42, zR P, zI 0, zI r7, zI 0] nu8 (fun v_ nu10 => ∃ r9, v_ = zI r9 ∧ (zin ((zup nu10 42 1 r9) 42 1) ∧ ((((zup nu10 42 1 r9) 42 1) < 0 → Q zV (zup nu10 42 1 r9)) ∧ (¬ ((zup nu10 42 1 r9) 42 1) < 0 → zC K 32 mX1_followMost [zR 42, zR P] (zup nu10 42 1 r9) (fun v_ nu13 => v_ = zV ∧ Q zV nu13))))))))) ∧ ((mu 42 2) = a2 → Q zV mu)))) : zG K d mX1_find 0 [zR 42, zR P, zI a2] [] mu Q := by
  refine g_aload_n dX1_find_0 rfl ?_
  refine g_getI' (jj := 2) dX1_find_1 (o42 hK) fX1_15 rfl rfl ?_
  refine g_iload_n dX1_find_4 rfl ?_
  obtain ⟨q1, h⟩ := h
  obtain ⟨q2, h⟩ := h
  refine g_icmp_ne (tgt := 9) dX1_find_5 (by decide) q1 q2 (fun c_ => ?_) (fun c_ => ?_)
  · have h := h.1 c_
    refine g_aload_n dX1_find_9 rfl ?_
    refine g_iload_n dX1_find_10 rfl ?_
    refine g_putI' (jj := 2) dX1_find_11 (o42 hK) pX1_15 rfl rfl ?_
    refine g_aload_n dX1_find_14 rfl ?_
    refine g_getR (k' := 45) dX1_find_15 (o42 hK) fX1_22 (by decide) (by decide) ?_
    refine g_iconst dX1_find_18 ?_
    refine g_callS (Y' := mJ7_fill_53178) (d' := 0) (As := [zR 45, zI 0]) (rest := []) dX1_find_19 lX1_25 vJ7_fill_53178 (by omega) rfl (Nat.le_of_ble_eq_true rfl) rfl (zC_v h (fun nu4 h => ?_))
    refine g_aload_n dX1_find_22 rfl ?_
    refine g_aload_n dX1_find_23 rfl ?_
    refine g_callV (Y' := mX1_findAlike) (d' := 1) (As := [zR P]) (rest := []) dX1_find_24 lX1_31 vX1_findAlike (by omega) (o42 hK) rfl rfl (Nat.le_of_ble_eq_true rfl) rfl (zC_v h (fun nu6 h => ?_))
    refine g_aload_n dX1_find_27 rfl ?_
    refine g_aload_n dX1_find_28 rfl ?_
    refine g_aload_n dX1_find_29 rfl ?_
    refine g_iconst dX1_find_30 ?_
    refine g_aload_n dX1_find_31 rfl ?_
    refine g_callV (Y' := mX2_pairAhead) (d' := 1) (As := []) (rest := [zI 0, zR P, zR 42, zR 42]) dX1_find_32 lX1_35 vX2_pairAhead (by omega) (hP).ob rfl rfl (Nat.le_of_ble_eq_true rfl) rfl (zC_i h (fun r7 nu8 h => ?_))
    refine g_iconst dX1_find_35 ?_
    refine g_callV (Y' := mX1_mostLeft) (d' := 30) (As := [zR P, zI 0, zI r7, zI 0]) (rest := [zR 42]) dX1_find_36 lX1_41 vX1_mostLeft (by omega) (o42 hK) rfl rfl (Nat.le_of_ble_eq_true rfl) rfl (zC_i h (fun r9 nu10 h => ?_))
    refine g_putI' (jj := 1) dX1_find_39 (o42 hK) pX1_45 rfl rfl ?_
    refine g_aload_n dX1_find_42 rfl ?_
    refine g_getI' (jj := 1) dX1_find_43 (o42 hK) fX1_45 rfl rfl ?_
    obtain ⟨q11, h⟩ := h
    refine g_if_lt (tgt := 54) dX1_find_46 (by decide) q11 (fun c_ => ?_) (fun c_ => ?_)
    · have h := h.1 c_
      exact g_return dX1_find_54 rfl h
    · have h := h.2 c_
      refine g_aload_n dX1_find_49 rfl ?_
      refine g_aload_n dX1_find_50 rfl ?_
      refine g_callV (Y' := mX1_followMost) (d' := 32) (As := [zR P]) (rest := []) dX1_find_51 lX1_48 vX1_followMost (by omega) (o42 hK) rfl rfl (Nat.le_of_ble_eq_true rfl) rfl (zC_v h (fun nu13 h => ?_))
      exact g_return dX1_find_54 rfl h
  · have h := h.2 c_
    exact g_return dX1_find_8 rfl h
theorem sg_X1_findAlike_0 {K d : Nat} {mu : Mem} {Q : AV → Mem → Prop} {P : Int} (hd : 1 ≤ d) (hK : 64 ≤ K) (hP : isP K P) (h : zG K d mX1_findAlike 2 [zR 42, zR P, zI 0, zU] [] mu Q) : zG K d mX1_findAlike 0 [zR 42, zR P, zU, zU] [] mu Q := by
  refine g_iconst dX1_findAlike_0 ?_
  refine g_istore_n dX1_findAlike_1 (by decide) rfl ?_
  exact g_wk (zwk_s (zwk_s (zwk_s (zwk_s zwk_n)))) h
theorem sg_X1_findAlike_2 {K d : Nat} {mu : Mem} {Q : AV → Mem → Prop} {P a2 : Int} (hd : 1 ≤ d) (hK : 64 ≤ K) (hP : isP K P) (h : (zin a2 ∧ zin (mu P 3) ∧ (((mu P 3) ≤ a2 → Q zV mu) ∧ (¬ (mu P 3) ≤ a2 → (0 ≤ a2 ∧ a2 < 10 ∧ zG K d mX1_findAlike 19 [zR 42, zR P, zI a2, zI 0] [] (zup mu 44 a2 0) Q))))) : zG K d mX1_findAlike 2 [zR 42, zR P, zI a2, zU] [] mu Q := by
  refine g_iload_n dX1_findAlike_2 rfl ?_
  refine g_aload_n dX1_findAlike_3 rfl ?_
  refine g_getI' (jj := 3) dX1_findAlike_4 (hP).ob fX1_51 rfl rfl ?_
  obtain ⟨q1, h⟩ := h
  obtain ⟨q2, h⟩ := h
  refine g_icmp_ge (tgt := 84) dX1_findAlike_7 (by decide) q1 q2 (fun c_ => ?_) (fun c_ => ?_)
  · have h := h.1 c_
    exact g_return dX1_findAlike_84 rfl h
  · have h := h.2 c_
    refine g_aload_n dX1_findAlike_10 rfl ?_
    refine g_getR (k' := 44) dX1_findAlike_11 (o42 hK) fX1_19 (by decide) (by decide) ?_
    refine g_iload_n dX1_findAlike_14 rfl ?_
    refine g_iconst dX1_findAlike_15 ?_
    obtain ⟨q3, h⟩ := h
    obtain ⟨q4, h⟩ := h
    refine g_iast' (nn := 10) dX1_findAlike_16 (r44 hK) rfl q3 q4 ?_
    refine g_iconst dX1_findAlike_17 ?_
    refine g_istore_n dX1_findAlike_18 (by decide) rfl ?_
    exact g_wk (zwk_s (zwk_s (zwk_s (zwk_s zwk_n)))) h
theorem sg_X1_findAlike_19 {K d : Nat} {mu : Mem} {Q : AV → Mem → Prop} {P a2 a3 : Int} (hd : 1 ≤ d) (hK : 64 ≤ K) (hP : isP K P) (h : (zin a3 ∧ zin a2 ∧ ((a2 ≤ a3 → zG K d mX1_findAlike 2 [zR 42, zR P, zI (a2 + 1), zU] [] mu Q) ∧ (¬ a2 ≤ a3 → (0 ≤ a3 ∧ a3 < 10 ∧ 0 ≤ a2 ∧ a2 < 10 ∧ zin (mu (P + 2) a3) ∧ zin (mu (P + 2) a2) ∧ ((¬ (mu (P + 2) a3) = (mu (P + 2) a2) → zG K d mX1_findAlike 19 [zR 42, zR P, zI a2, zI (a3 + 1)] [] mu Q) ∧ ((mu (P + 2) a3) = (mu (P + 2) a2) → zC K 0 mX2_isIn [zR P, zI (mu 42 2), zI a3] mu (fun v_ nu10 => ∃ r9, v_ = zI r9 ∧ zC K 0 mX2_isIn [zR P, zI (nu10 42 2), zI a2] nu10 (fun v_ nu12 => ∃ r11, v_ = zI r11 ∧ (zin r9 ∧ zin r11 ∧ ((¬ r9 = r11 → zG K d mX1_findAlike 19 [zR 42, zR P, zI a2, zI (a3 + 1)] [] nu12 Q) ∧ (r9 = r11 → zG K d mX1_findAlike 19 [zR 42, zR P, zI a2, zI (a3 + 1)] [] (zup nu12 44 a2 (zor (nu12 44 a2) (zshl 1 a3))) Q)))))))))))) : zG K d mX1_findAlike 19 [zR 42, zR P, zI a2, zI a3] [] mu Q := by
  refine g_iload_n dX1_findAlike_19 rfl ?_
  refine g_iload_n dX1_findAlike_20 rfl ?_
  obtain ⟨q1, h⟩ := h
  obtain ⟨q2, h⟩ := h
  refine g_icmp_ge (tgt := 78) dX1_findAlike_21 (by decide) q1 q2 (fun c_ => ?_) (fun c_ => ?_)
  · have h := h.1 c_
    refine g_iinc dX1_findAlike_78 rfl (by decide) rfl ?_
    refine g_goto (tgt := 2) dX1_findAlike_81 (by decide) ?_
    exact g_wk (zwk_s (zwk_s (zwk_s (zwk_u zwk_n)))) h
  · have h := h.2 c_
    refine g_aload_n dX1_findAlike_24 rfl ?_
    refine g_getR (k' := (P + 2)) dX1_findAlike_25 (hP).ob fX1_54 (by decide) rfl ?_
    refine g_iload_n dX1_findAlike_28 rfl ?_
    obtain ⟨q3, h⟩ := h
    obtain ⟨q4, h⟩ := h
    refine g_iald' (nn := 10) dX1_findAlike_29 (hP).a2 rfl q3 q4 ?_
    refine g_aload_n dX1_findAlike_30 rfl ?_
    refine g_getR (k' := (P + 2)) dX1_findAlike_31 (hP).ob fX1_54 (by decide) rfl ?_
    refine g_iload_n dX1_findAlike_34 rfl ?_
    obtain ⟨q5, h⟩ := h
    obtain ⟨q6, h⟩ := h
    refine g_iald' (nn := 10) dX1_findAlike_35 (hP).a2 rfl q5 q6 ?_
    obtain ⟨q7, h⟩ := h
    obtain ⟨q8, h⟩ := h
    refine g_icmp_ne (tgt := 72) dX1_findAlike_36 (by decide) q7 q8 (fun c_ => ?_) (fun c_ => ?_)
    · have h := h.1 c_
      refine g_iinc dX1_findAlike_72 rfl (by decide) rfl ?_
      refine g_goto (tgt := 19) dX1_findAlike_75 (by decide) ?_
      exact g_wk (zwk_s (zwk_s (zwk_s (zwk_s zwk_n)))) h
    · have h := h.2 c_
      refine g_aload_n dX1_findAlike_39 rfl ?_
      refine g_aload_n dX1_findAlike_40 rfl ?_
      refine g_getI' (jj := 2) dX1_findAlike_41 (o42 hK) fX1_15 rfl rfl ?_
      refine g_iload_n dX1_findAlike_44 rfl ?_
      refine g_callV (Y' := mX2_isIn) (d' := 0) (As := [zI (mu 42 2), zI a3]) (rest := []) dX1_findAlike_45 lX1_57 vX2_isIn (by omega) (hP).ob rfl rfl (Nat.le_of_ble_eq_true rfl) rfl (zC_i h (fun r9 nu10 h => ?_))
      refine g_aload_n dX1_findAlike_48 rfl ?_
      refine g_aload_n dX1_findAlike_49 rfl ?_
      refine g_getI' (jj := 2) dX1_findAlike_50 (o42 hK) fX1_15 rfl rfl ?_
      refine g_iload_n dX1_findAlike_53 rfl ?_
      refine g_callV (Y' := mX2_isIn) (d' := 0) (As := [zI (nu10 42 2), zI a2]) (rest := [zI r9]) dX1_findAlike_54 lX1_57 vX2_isIn (by omega) (hP).ob rfl rfl (Nat.le_of_ble_eq_true rfl) rfl (zC_i h (fun r11 nu12 h => ?_))
      obtain ⟨q13, h⟩ := h
      obtain ⟨q14, h⟩ := h
      refine g_icmp_ne (tgt := 72) dX1_findAlike_57 (by decide) q13 q14 (fun c_ => ?_) (fun c_ => ?_)
      · have h := h.1 c_
        refine g_iinc dX1_findAlike_72 rfl (by decide) rfl ?_
        refine g_goto (tgt := 19) dX1_findAlike_75 (by decide) ?_
        exact g_wk (zwk_s (zwk_s (zwk_s (zwk_s zwk_n)))) h
      · have h := h.2 c_
        refine g_aload_n dX1_findAlike_60 rfl ?_
        refine g_getR (k' := 44) dX1_findAlike_61 (o42 hK) fX1_19 (by decide) (by decide) ?_
        refine g_iload_n dX1_findAlike_64 rfl ?_
        refine g_dup2 dX1_findAlike_65 (by simp) (by simp) ?_
        refine g_iald' (nn := 10) dX1_findAlike_66 (r44 hK) rfl q5 q6 ?_
        refine g_iconst dX1_findAlike_67 ?_
        refine g_iload_n dX1_findAlike_68 rfl ?_
        refine g_ishl dX1_findAlike_69 (zshl_ok _ _) ?_
        refine g_ior dX1_findAlike_70 (zor_ok _ _) ?_
        refine g_iast' (nn := 10) dX1_findAlike_71 (r44 hK) rfl q5 q6 ?_
        refine g_iinc dX1_findAlike_72 rfl (by decide) rfl ?_
        refine g_goto (tgt := 19) dX1_findAlike_75 (by decide) ?_
        exact g_wk (zwk_s (zwk_s (zwk_s (zwk_s zwk_n)))) h
theorem sg_X1_firstOfMost_0 {K d : Nat} {mu : Mem} {Q : AV → Mem → Prop} {P a2 a3 a4 : Int} (hd : 31 ≤ d) (hK : 64 ≤ K) (hP : isP K P) (h : zC K 30 mX1_mostLeft [zR 42, zR P, zI a2, zI a3, zI a4] mu (fun v_ nu2 => ∃ r1, v_ = zI r1 ∧ zG K d mX1_firstOfMost 14 [zR 42, zR P, zI a2, zI a3, zI a4, zI r1, zI 0] [] nu2 Q)) : zG K d mX1_firstOfMost 0 [zR 42, zR P, zI a2, zI a3, zI a4, zU, zU] [] mu Q := by
  refine g_aload_n dX1_firstOfMost_0 rfl ?_
  refine g_aload_n dX1_firstOfMost_1 rfl ?_
  refine g_iload_n dX1_firstOfMost_2 rfl ?_
  refine g_iload_n dX1_firstOfMost_3 rfl ?_
  refine g_iload dX1_firstOfMost_4 rfl ?_
  refine g_callV (Y' := mX1_mostLeft) (d' := 30) (As := [zR P, zI a2, zI a3, zI a4]) (rest := []) dX1_firstOfMost_6 lX1_41 vX1_mostLeft (by omega) (o42 hK) rfl rfl (Nat.le_of_ble_eq_true rfl) rfl (zC_i h (fun r1 nu2 h => ?_))
  refine g_istore dX1_firstOfMost_9 (by decide) rfl ?_
  refine g_iconst dX1_firstOfMost_11 ?_
  refine g_istore dX1_firstOfMost_12 (by decide) rfl ?_
  exact g_wk (zwk_s (zwk_s (zwk_s (zwk_s (zwk_s (zwk_s (zwk_s zwk_n))))))) h
theorem sg_X1_firstOfMost_14 {K d : Nat} {mu : Mem} {Q : AV → Mem → Prop} {P a2 a3 a4 a5 a6 : Int} (hd : 31 ≤ d) (hK : 64 ≤ K) (hP : isP K P) (h : (zin a6 ∧ zin (mu P 3) ∧ (((mu P 3) ≤ a6 → Q (zI 0) mu) ∧ (¬ (mu P 3) ≤ a6 → zC K 1 mX1_mayCome [zR 42, zR P, zI a6, zI a2] mu (fun v_ nu4 => ∃ r3, v_ = zI r3 ∧ (zin r3 ∧ ((r3 = 0 → zG K d mX1_firstOfMost 14 [zR 42, zR P, zI a2, zI a3, zI a4, zI a5, zI (a6 + 1)] [] nu4 Q) ∧ (¬ r3 = 0 → zC K 30 mX1_mostIfComes [zR 42, zR P, zI a6, zI a2, zI a3, zI a4] nu4 (fun v_ nu7 => ∃ r6, v_ = zI r6 ∧ (zin r6 ∧ zin a5 ∧ ((¬ r6 = a5 → zG K d mX1_firstOfMost 14 [zR 42, zR P, zI a2, zI a3, zI a4, zI a5, zI (a6 + 1)] [] nu7 Q) ∧ (r6 = a5 → Q (zI a6) nu7)))))))))))) : zG K d mX1_firstOfMost 14 [zR 42, zR P, zI a2, zI a3, zI a4, zI a5, zI a6] [] mu Q := by
  refine g_iload dX1_firstOfMost_14 rfl ?_
  refine g_aload_n dX1_firstOfMost_16 rfl ?_
  refine g_getI' (jj := 3) dX1_firstOfMost_17 (hP).ob fX1_51 rfl rfl ?_
  obtain ⟨q1, h⟩ := h
  obtain ⟨q2, h⟩ := h
  refine g_icmp_ge (tgt := 59) dX1_firstOfMost_20 (by decide) q1 q2 (fun c_ => ?_) (fun c_ => ?_)
  · have h := h.1 c_
    refine g_iconst dX1_firstOfMost_59 ?_
    exact g_ireturn dX1_firstOfMost_60 rfl h
  · have h := h.2 c_
    refine g_aload_n dX1_firstOfMost_23 rfl ?_
    refine g_aload_n dX1_firstOfMost_24 rfl ?_
    refine g_iload dX1_firstOfMost_25 rfl ?_
    refine g_iload_n dX1_firstOfMost_27 rfl ?_
    refine g_callV (Y' := mX1_mayCome) (d' := 1) (As := [zR P, zI a6, zI a2]) (rest := []) dX1_firstOfMost_28 lX1_61 vX1_mayCome (by omega) (o42 hK) rfl rfl (Nat.le_of_ble_eq_true rfl) rfl (zC_i h (fun r3 nu4 h => ?_))
    obtain ⟨q5, h⟩ := h
    refine g_if_eq (tgt := 53) dX1_firstOfMost_31 (by decide) q5 (fun c_ => ?_) (fun c_ => ?_)
    · have h := h.1 c_
      refine g_iinc dX1_firstOfMost_53 rfl (by decide) rfl ?_
      refine g_goto (tgt := 14) dX1_firstOfMost_56 (by decide) ?_
      exact g_wk (zwk_s (zwk_s (zwk_s (zwk_s (zwk_s (zwk_s (zwk_s zwk_n))))))) h
    · have h := h.2 c_
      refine g_aload_n dX1_firstOfMost_34 rfl ?_
      refine g_aload_n dX1_firstOfMost_35 rfl ?_
      refine g_iload dX1_firstOfMost_36 rfl ?_
      refine g_iload_n dX1_firstOfMost_38 rfl ?_
      refine g_iload_n dX1_firstOfMost_39 rfl ?_
      refine g_iload dX1_firstOfMost_40 rfl ?_
      refine g_callV (Y' := mX1_mostIfComes) (d' := 30) (As := [zR P, zI a6, zI a2, zI a3, zI a4]) (rest := []) dX1_firstOfMost_42 lX1_65 vX1_mostIfComes (by omega) (o42 hK) rfl rfl (Nat.le_of_ble_eq_true rfl) rfl (zC_i h (fun r6 nu7 h => ?_))
      refine g_iload dX1_firstOfMost_45 rfl ?_
      obtain ⟨q8, h⟩ := h
      obtain ⟨q9, h⟩ := h
      refine g_icmp_ne (tgt := 53) dX1_firstOfMost_47 (by decide) q8 q9 (fun c_ => ?_) (fun c_ => ?_)
      · have h := h.1 c_
        refine g_iinc dX1_firstOfMost_53 rfl (by decide) rfl ?_
        refine g_goto (tgt := 14) dX1_firstOfMost_56 (by decide) ?_
        exact g_wk (zwk_s (zwk_s (zwk_s (zwk_s (zwk_s (zwk_s (zwk_s zwk_n))))))) h
      · have h := h.2 c_
        refine g_iload dX1_firstOfMost_50 rfl ?_
        exact g_ireturn dX1_firstOfMost_52 rfl h
theorem sg_X1_followMost_0 {K d : Nat} {mu : Mem} {Q : AV → Mem → Prop} {P : Int} (hd : 32 ≤ d) (hK : 64 ≤ K) (hP : isP K P) (h : zC K 1 mX2_pairAhead [zR P] mu (fun v_ nu2 => ∃ r1, v_ = zI r1 ∧ zG K d mX1_followMost 10 [zR 42, zR P, zI 0, zI r1, zI 0, zU] [] nu2 Q)) : zG K d mX1_followMost 0 [zR 42, zR P, zU, zU, zU, zU] [] mu Q := by
  refine g_iconst dX1_followMost_0 ?_
  refine g_istore_n dX1_followMost_1 (by decide) rfl ?_
  refine g_aload_n dX1_followMost_2 rfl ?_
  refine g_callV (Y' := mX2_pairAhead) (d' := 1) (As := []) (rest := []) dX1_followMost_3 lX1_35 vX2_pairAhead (by omega) (hP).ob rfl rfl (Nat.le_of_ble_eq_true rfl) rfl (zC_i h (fun r1 nu2 h => ?_))
  refine g_istore_n dX1_followMost_6 (by decide) rfl ?_
  refine g_iconst dX1_followMost_7 ?_
  refine g_istore dX1_followMost_8 (by decide) rfl ?_
  exact g_wk (zwk_s (zwk_s (zwk_s (zwk_s (zwk_s (zwk_s zwk_n)))))) h
theorem sg_X1_followMost_10 {K d : Nat} {mu : Mem} {Q : AV → Mem → Prop} {P a2 a3 a4 : Int} (hd : 32 ≤ d) (hK : 64 ≤ K) (hP : isP K P) (h : (zin a4 ∧ zin (mu P 3) ∧ (((mu P 3) ≤ a4 → Q zV mu) ∧ (¬ (mu P 3) ≤ a4 → zC K 31 mX1_firstOfMost [zR 42, zR P, zI a2, zI a3, zI a4] mu (fun v_ nu4 => ∃ r3, v_ = zI r3 ∧ (0 ≤ a4 ∧ a4 < 10 ∧ zC K 0 mX1_pairBehind [zR 42, zR P, zI a3, zI r3] (zup nu4 43 a4 r3) (fun v_ nu8 => ∃ r7, v_ = zI r7 ∧ zG K d mX1_followMost 10 [zR 42, zR P, zI (zor a2 (zshl 1 r3)), zI r7, zI (a4 + 1), zU] [] nu8 Q))))))) : zG K d mX1_followMost 10 [zR 42, zR P, zI a2, zI a3, zI a4, zU] [] mu Q := by
  refine g_iload dX1_followMost_10 rfl ?_
  refine g_aload_n dX1_followMost_12 rfl ?_
  refine g_getI' (jj := 3) dX1_followMost_13 (hP).ob fX1_51 rfl rfl ?_
  obtain ⟨q1, h⟩ := h
  obtain ⟨q2, h⟩ := h
  refine g_icmp_ge (tgt := 61) dX1_followMost_16 (by decide) q1 q2 (fun c_ => ?_) (fun c_ => ?_)
  · have h := h.1 c_
    exact g_return dX1_followMost_61 rfl h
  · have h := h.2 c_
    refine g_aload_n dX1_followMost_19 rfl ?_
    refine g_aload_n dX1_followMost_20 rfl ?_
    refine g_iload_n dX1_followMost_21 rfl ?_
    refine g_iload_n dX1_followMost_22 rfl ?_
    refine g_iload dX1_followMost_23 rfl ?_
    refine g_callV (Y' := mX1_firstOfMost) (d' := 31) (As := [zR P, zI a2, zI a3, zI a4]) (rest := []) dX1_followMost_25 lX1_82 vX1_firstOfMost (by omega) (o42 hK) rfl rfl (Nat.le_of_ble_eq_true rfl) rfl (zC_i h (fun r3 nu4 h => ?_))
    refine g_istore dX1_followMost_28 (by decide) rfl ?_
    refine g_aload_n dX1_followMost_30 rfl ?_
    refine g_getR (k' := 43) dX1_followMost_31 (o42 hK) fX1_9 (by decide) (by decide) ?_
    refine g_iload dX1_followMost_34 rfl ?_
    refine g_iload dX1_followMost_36 rfl ?_
    obtain ⟨q5, h⟩ := h
    obtain ⟨q6, h⟩ := h
    refine g_iast' (nn := 10) dX1_followMost_38 (r43 hK) rfl q5 q6 ?_
    refine g_iload_n dX1_followMost_39 rfl ?_
    refine g_iconst dX1_followMost_40 ?_
    refine g_iload dX1_followMost_41 rfl ?_
    refine g_ishl dX1_followMost_43 (zshl_ok _ _) ?_
    refine g_ior dX1_followMost_44 (zor_ok _ _) ?_
    refine g_istore_n dX1_followMost_45 (by decide) rfl ?_
    refine g_aload_n dX1_followMost_46 rfl ?_
    refine g_aload_n dX1_followMost_47 rfl ?_
    refine g_iload_n dX1_followMost_48 rfl ?_
    refine g_iload dX1_followMost_49 rfl ?_
    refine g_callV (Y' := mX1_pairBehind) (d' := 0) (As := [zR P, zI a3, zI r3]) (rest := []) dX1_followMost_51 lX1_78 vX1_pairBehind (by omega) (o42 hK) rfl rfl (Nat.le_of_ble_eq_true rfl) rfl (zC_i h (fun r7 nu8 h => ?_))
    refine g_istore_n dX1_followMost_54 (by decide) rfl ?_
    refine g_iinc dX1_followMost_55 rfl (by decide) rfl ?_
    refine g_goto (tgt := 10) dX1_followMost_58 (by decide) ?_
    exact g_wk (zwk_s (zwk_s (zwk_s (zwk_s (zwk_s (zwk_u zwk_n)))))) h
theorem sg_X1_forget_0 {K d : Nat} {mu : Mem} {Q : AV → Mem → Prop} (hd : 0 ≤ d) (hK : 64 ≤ K) (h : Q zV (zup mu 42 2 (-1))) : zG K d mX1_forget 0 [zR 42] [] mu Q := by
  refine g_aload_n dX1_forget_0 rfl ?_
  refine g_iconst dX1_forget_1 ?_
  refine g_putI' (jj := 2) dX1_forget_2 (o42 hK) pX1_15 rfl rfl ?_
  exact g_return dX1_forget_5 rfl h
theorem sg_X1_mayCome_0 {K d : Nat} {mu : Mem} {Q : AV → Mem → Prop} {P a2 a3 : Int} (hd : 1 ≤ d) (hK : 64 ≤ K) (hP : isP K P) (h : zC K 0 mX2_isIn [zR P, zI a3, zI a2] mu (fun v_ nu2 => ∃ r1, v_ = zI r1 ∧ (zin r1 ∧ ((¬ r1 = 0 → Q (zI 0) nu2) ∧ (r1 = 0 → (0 ≤ a2 ∧ a2 < 10 ∧ zin (zand (nu2 44 a2) (zxor a3 (-1))) ∧ ((¬ (zand (nu2 44 a2) (zxor a3 (-1))) = 0 → Q (zI 0) nu2) ∧ ((zand (nu2 44 a2) (zxor a3 (-1))) = 0 → Q (zI 1) nu2)))))))) : zG K d mX1_mayCome 0 [zR 42, zR P, zI a2, zI a3] [] mu Q := by
  refine g_aload_n dX1_mayCome_0 rfl ?_
  refine g_iload_n dX1_mayCome_1 rfl ?_
  refine g_iload_n dX1_mayCome_2 rfl ?_
  refine g_callV (Y' := mX2_isIn) (d' := 0) (As := [zI a3, zI a2]) (rest := []) dX1_mayCome_3 lX1_57 vX2_isIn (by omega) (hP).ob rfl rfl (Nat.le_of_ble_eq_true rfl) rfl (zC_i h (fun r1 nu2 h => ?_))
  obtain ⟨q3, h⟩ := h
  refine g_if_ne (tgt := 26) dX1_mayCome_6 (by decide) q3 (fun c_ => ?_) (fun c_ => ?_)
  · have h := h.1 c_
    refine g_iconst dX1_mayCome_26 ?_
    exact g_zreturn dX1_mayCome_27 rfl (by decide) h
  · have h := h.2 c_
    refine g_aload_n dX1_mayCome_9 rfl ?_
    refine g_getR (k' := 44) dX1_mayCome_10 (o42 hK) fX1_19 (by decide) (by decide) ?_
    refine g_iload_n dX1_mayCome_13 rfl ?_
    obtain ⟨q4, h⟩ := h
    obtain ⟨q5, h⟩ := h
    refine g_iald' (nn := 10) dX1_mayCome_14 (r44 hK) rfl q4 q5 ?_
    refine g_iload_n dX1_mayCome_15 rfl ?_
    refine g_iconst dX1_mayCome_16 ?_
    refine g_ixor dX1_mayCome_17 (zxor_ok _ _) ?_
    refine g_iand dX1_mayCome_18 (zand_ok _ _) ?_
    obtain ⟨q6, h⟩ := h
    refine g_if_ne (tgt := 26) dX1_mayCome_19 (by decide) q6 (fun c_ => ?_) (fun c_ => ?_)
    · have h := h.1 c_
      refine g_iconst dX1_mayCome_26 ?_
      exact g_zreturn dX1_mayCome_27 rfl (by decide) h
    · have h := h.2 c_
      refine g_iconst dX1_mayCome_22 ?_
      refine g_goto (tgt := 27) dX1_mayCome_23 (by decide) ?_
      exact g_zreturn dX1_mayCome_27 rfl (by decide) h
theorem sg_X1_mostIfComes_0 {K d : Nat} {mu : Mem} {Q : AV → Mem → Prop} {P a2 a3 a4 a5 : Int} {d1 : Nat} (hd1 : d1 + 1 ≤ d) (hd : 3 ≤ d) (hK : 64 ≤ K) (hP : isP K P) (h : zC K 2 mX2_hasBehind [zR P, zI a4, zI a2] mu (fun v_ nu2 => ∃ r1, v_ = zI r1 ∧ (zin r1 ∧ ((¬ r1 = 0 → zC K 0 mX1_pairBehind [zR 42, zR P, zI a4, zI a2] nu2 (fun v_ nu5 => ∃ r4, v_ = zI r4 ∧ zC K d1 mX1_mostLeft [zR 42, zR P, zI (zor a3 (zshl 1 a2)), zI r4, zI (a5 + 1)] nu5 (fun v_ nu7 => ∃ r6, v_ = zI r6 ∧ ((r1 = 0 → Q (zI r6) nu7) ∧ (¬ r1 = 0 → (zin r6 ∧ ((r6 < 0 → Q (zI r6) nu7) ∧ (¬ r6 < 0 → Q (zI (r6 + 1)) nu7)))))))) ∧ (r1 = 0 → zC K 0 mX2_isIn [zR P, zI (nu2 42 2), zI a2] nu2 (fun v_ nu10 => ∃ r9, v_ = zI r9 ∧ (zin r9 ∧ ((r9 = 0 → zC K 0 mX1_pairBehind [zR 42, zR P, zI a4, zI a2] nu10 (fun v_ nu13 => ∃ r12, v_ = zI r12 ∧ zC K d1 mX1_mostLeft [zR 42, zR P, zI (zor a3 (zshl 1 a2)), zI r12, zI (a5 + 1)] nu13 (fun v_ nu15 => ∃ r14, v_ = zI r14 ∧ ((r1 = 0 → Q (zI r14) nu15) ∧ (¬ r1 = 0 → (zin r14 ∧ ((r14 < 0 → Q (zI r14) nu15) ∧ (¬ r14 < 0 → Q (zI (r14 + 1)) nu15)))))))) ∧ (¬ r9 = 0 → Q (zI (-1)) nu10))))))))) : zG K d mX1_mostIfComes 0 [zR 42, zR P, zI a2, zI a3, zI a4, zI a5, zU, zU] [] mu Q := by
  refine g_aload_n dX1_mostIfComes_0 rfl ?_
  refine g_iload dX1_mostIfComes_1 rfl ?_
  refine g_iload_n dX1_mostIfComes_3 rfl ?_
  refine g_callV (Y' := mX2_hasBehind) (d' := 2) (As := [zI a4, zI a2]) (rest := []) dX1_mostIfComes_4 lX1_75 vX2_hasBehind (by omega) (hP).ob rfl rfl (Nat.le_of_ble_eq_true rfl) rfl (zC_i h (fun r1 nu2 h => ?_))
  refine g_istore dX1_mostIfComes_7 (by decide) rfl ?_
  refine g_iload dX1_mostIfComes_9 rfl ?_
  obtain ⟨q3, h⟩ := h
  refine g_if_ne (tgt := 28) dX1_mostIfComes_11 (by decide) q3 (fun c_ => ?_) (fun c_ => ?_)
  · have h := h.1 c_
    refine g_aload_n dX1_mostIfComes_28 rfl ?_
    refine g_aload_n dX1_mostIfComes_29 rfl ?_
    refine g_iload_n dX1_mostIfComes_30 rfl ?_
    refine g_iconst dX1_mostIfComes_31 ?_
    refine g_iload_n dX1_mostIfComes_32 rfl ?_
    refine g_ishl dX1_mostIfComes_33 (zshl_ok _ _) ?_
    refine g_ior dX1_mostIfComes_34 (zor_ok _ _) ?_
    refine g_aload_n dX1_mostIfComes_35 rfl ?_
    refine g_aload_n dX1_mostIfComes_36 rfl ?_
    refine g_iload dX1_mostIfComes_37 rfl ?_
    refine g_iload_n dX1_mostIfComes_39 rfl ?_
    refine g_callV (Y' := mX1_pairBehind) (d' := 0) (As := [zR P, zI a4, zI a2]) (rest := [zI (zor a3 (zshl 1 a2)), zR P, zR 42]) dX1_mostIfComes_40 lX1_78 vX1_pairBehind (by omega) (o42 hK) rfl rfl (Nat.le_of_ble_eq_true rfl) rfl (zC_i h (fun r4 nu5 h => ?_))
    refine g_iload dX1_mostIfComes_43 rfl ?_
    refine g_iconst dX1_mostIfComes_45 ?_
    refine g_iadd dX1_mostIfComes_46 ?_
    refine g_callV (Y' := mX1_mostLeft) (d' := d1) (As := [zR P, zI (zor a3 (zshl 1 a2)), zI r4, zI (a5 + 1)]) (rest := []) dX1_mostIfComes_47 lX1_41 vX1_mostLeft hd1 (o42 hK) rfl rfl (Nat.le_of_ble_eq_true rfl) rfl (zC_i h (fun r6 nu7 h => ?_))
    refine g_istore dX1_mostIfComes_50 (by decide) rfl ?_
    refine g_iload dX1_mostIfComes_52 rfl ?_
    refine g_if_eq (tgt := 69) dX1_mostIfComes_54 (by decide) q3 (fun c_ => ?_) (fun c_ => ?_)
    · have h := h.1 c_
      refine g_iload dX1_mostIfComes_69 rfl ?_
      exact g_ireturn dX1_mostIfComes_71 rfl h
    · have h := h.2 c_
      refine g_iload dX1_mostIfComes_57 rfl ?_
      obtain ⟨q8, h⟩ := h
      refine g_if_lt (tgt := 69) dX1_mostIfComes_59 (by decide) q8 (fun c_ => ?_) (fun c_ => ?_)
      · have h := h.1 c_
        refine g_iload dX1_mostIfComes_69 rfl ?_
        exact g_ireturn dX1_mostIfComes_71 rfl h
      · have h := h.2 c_
        refine g_iload dX1_mostIfComes_62 rfl ?_
        refine g_iconst dX1_mostIfComes_64 ?_
        refine g_iadd dX1_mostIfComes_65 ?_
        refine g_goto (tgt := 71) dX1_mostIfComes_66 (by decide) ?_
        exact g_ireturn dX1_mostIfComes_71 rfl h
  · have h := h.2 c_
    refine g_aload_n dX1_mostIfComes_14 rfl ?_
    refine g_aload_n dX1_mostIfComes_15 rfl ?_
    refine g_getI' (jj := 2) dX1_mostIfComes_16 (o42 hK) fX1_15 rfl rfl ?_
    refine g_iload_n dX1_mostIfComes_19 rfl ?_
    refine g_callV (Y' := mX2_isIn) (d' := 0) (As := [zI (nu2 42 2), zI a2]) (rest := []) dX1_mostIfComes_20 lX1_57 vX2_isIn (by omega) (hP).ob rfl rfl (Nat.le_of_ble_eq_true rfl) rfl (zC_i h (fun r9 nu10 h => ?_))
    obtain ⟨q11, h⟩ := h
    refine g_if_eq (tgt := 28) dX1_mostIfComes_23 (by decide) q11 (fun c_ => ?_) (fun c_ => ?_)
    · have h := h.1 c_
      refine g_aload_n dX1_mostIfComes_28 rfl ?_
      refine g_aload_n dX1_mostIfComes_29 rfl ?_
      refine g_iload_n dX1_mostIfComes_30 rfl ?_
      refine g_iconst dX1_mostIfComes_31 ?_
      refine g_iload_n dX1_mostIfComes_32 rfl ?_
      refine g_ishl dX1_mostIfComes_33 (zshl_ok _ _) ?_
      refine g_ior dX1_mostIfComes_34 (zor_ok _ _) ?_
      refine g_aload_n dX1_mostIfComes_35 rfl ?_
      refine g_aload_n dX1_mostIfComes_36 rfl ?_
      refine g_iload dX1_mostIfComes_37 rfl ?_
      refine g_iload_n dX1_mostIfComes_39 rfl ?_
      refine g_callV (Y' := mX1_pairBehind) (d' := 0) (As := [zR P, zI a4, zI a2]) (rest := [zI (zor a3 (zshl 1 a2)), zR P, zR 42]) dX1_mostIfComes_40 lX1_78 vX1_pairBehind (by omega) (o42 hK) rfl rfl (Nat.le_of_ble_eq_true rfl) rfl (zC_i h (fun r12 nu13 h => ?_))
      refine g_iload dX1_mostIfComes_43 rfl ?_
      refine g_iconst dX1_mostIfComes_45 ?_
      refine g_iadd dX1_mostIfComes_46 ?_
      refine g_callV (Y' := mX1_mostLeft) (d' := d1) (As := [zR P, zI (zor a3 (zshl 1 a2)), zI r12, zI (a5 + 1)]) (rest := []) dX1_mostIfComes_47 lX1_41 vX1_mostLeft hd1 (o42 hK) rfl rfl (Nat.le_of_ble_eq_true rfl) rfl (zC_i h (fun r14 nu15 h => ?_))
      refine g_istore dX1_mostIfComes_50 (by decide) rfl ?_
      refine g_iload dX1_mostIfComes_52 rfl ?_
      refine g_if_eq (tgt := 69) dX1_mostIfComes_54 (by decide) q3 (fun c_ => ?_) (fun c_ => ?_)
      · have h := h.1 c_
        refine g_iload dX1_mostIfComes_69 rfl ?_
        exact g_ireturn dX1_mostIfComes_71 rfl h
      · have h := h.2 c_
        refine g_iload dX1_mostIfComes_57 rfl ?_
        obtain ⟨q16, h⟩ := h
        refine g_if_lt (tgt := 69) dX1_mostIfComes_59 (by decide) q16 (fun c_ => ?_) (fun c_ => ?_)
        · have h := h.1 c_
          refine g_iload dX1_mostIfComes_69 rfl ?_
          exact g_ireturn dX1_mostIfComes_71 rfl h
        · have h := h.2 c_
          refine g_iload dX1_mostIfComes_62 rfl ?_
          refine g_iconst dX1_mostIfComes_64 ?_
          refine g_iadd dX1_mostIfComes_65 ?_
          refine g_goto (tgt := 71) dX1_mostIfComes_66 (by decide) ?_
          exact g_ireturn dX1_mostIfComes_71 rfl h
    · have h := h.2 c_
      refine g_iconst dX1_mostIfComes_26 ?_
      exact g_ireturn dX1_mostIfComes_27 rfl h
theorem sg_X1_mostLeft_0 {K d : Nat} {mu : Mem} {Q : AV → Mem → Prop} {P a2 a3 a4 : Int} {d1 : Nat} (hd1 : d1 + 1 ≤ d) (hd : 2 ≤ d) (hK : 64 ≤ K) (hP : isP K P) (h : (zin a4 ∧ zin (mu P 3) ∧ ((a4 < (mu P 3) → (zin a3 ∧ 0 ≤ ((a2 * 7) + (a3.tdiv 7)) ∧ ((a2 * 7) + (a3.tdiv 7)) < 7168 ∧ zin (zand (zshr (mu 45 ((a2 * 7) + (a3.tdiv 7))) (4 * (a3.tmod 7))) 15) ∧ (((zand (zshr (mu 45 ((a2 * 7) + (a3.tdiv 7))) (4 * (a3.tmod 7))) 15) = 0 → zG K d mX1_mostLeft 61 [zR 42, zR P, zI a2, zI a3, zI a4, zI ((a2 * 7) + (a3.tdiv 7)), zI (4 * (a3.tmod 7)), zU, zI (-1), zI 0] [] mu Q) ∧ (¬ (zand (zshr (mu 45 ((a2 * 7) + (a3.tdiv 7))) (4 * (a3.tmod 7))) 15) = 0 → Q (zI ((zand (zshr (mu 45 ((a2 * 7) + (a3.tdiv 7))) (4 * (a3.tmod 7))) 15) - 2)) mu)))) ∧ (¬ a4 < (mu P 3) → Q (zI 0) mu)))) : zG K d mX1_mostLeft 0 [zR 42, zR P, zI a2, zI a3, zI a4, zU, zU, zU, zU, zU] [] mu Q := by
  refine g_iload dX1_mostLeft_0 rfl ?_
  refine g_aload_n dX1_mostLeft_2 rfl ?_
  refine g_getI' (jj := 3) dX1_mostLeft_3 (hP).ob fX1_51 rfl rfl ?_
  obtain ⟨q1, h⟩ := h
  obtain ⟨q2, h⟩ := h
  refine g_icmp_lt (tgt := 11) dX1_mostLeft_6 (by decide) q1 q2 (fun c_ => ?_) (fun c_ => ?_)
  · have h := h.1 c_
    refine g_iload_n dX1_mostLeft_11 rfl ?_
    refine g_bipush dX1_mostLeft_12 rfl ?_
    refine g_imul dX1_mostLeft_14 ?_
    refine g_iload_n dX1_mostLeft_15 rfl ?_
    refine g_bipush dX1_mostLeft_16 rfl ?_
    obtain ⟨q3, h⟩ := h
    refine g_idiv dX1_mostLeft_18 q3 (zin_d rfl) (by decide) ?_
    refine g_iadd dX1_mostLeft_19 ?_
    refine g_istore dX1_mostLeft_20 (by decide) rfl ?_
    refine g_iconst dX1_mostLeft_22 ?_
    refine g_iload_n dX1_mostLeft_23 rfl ?_
    refine g_bipush dX1_mostLeft_24 rfl ?_
    refine g_irem dX1_mostLeft_26 q3 (zin_d rfl) (by decide) ?_
    refine g_imul dX1_mostLeft_27 ?_
    refine g_istore dX1_mostLeft_28 (by decide) rfl ?_
    refine g_aload_n dX1_mostLeft_30 rfl ?_
    refine g_getR (k' := 45) dX1_mostLeft_31 (o42 hK) fX1_22 (by decide) (by decide) ?_
    refine g_iload dX1_mostLeft_34 rfl ?_
    obtain ⟨q4, h⟩ := h
    obtain ⟨q5, h⟩ := h
    refine g_iald' (nn := 7168) dX1_mostLeft_36 (r45 hK) rfl q4 q5 ?_
    refine g_iload dX1_mostLeft_37 rfl ?_
    refine g_ishr dX1_mostLeft_39 (zshr_ok _ _) ?_
    refine g_bipush dX1_mostLeft_40 rfl ?_
    refine g_iand dX1_mostLeft_42 (zand_ok _ _) ?_
    refine g_istore dX1_mostLeft_43 (by decide) rfl ?_
    refine g_iload dX1_mostLeft_45 rfl ?_
    obtain ⟨q6, h⟩ := h
    refine g_if_eq (tgt := 55) dX1_mostLeft_47 (by decide) q6 (fun c_ => ?_) (fun c_ => ?_)
    · have h := h.1 c_
      refine g_iconst dX1_mostLeft_55 ?_
      refine g_istore dX1_mostLeft_56 (by decide) rfl ?_
      refine g_iconst dX1_mostLeft_58 ?_
      refine g_istore dX1_mostLeft_59 (by decide) rfl ?_
      exact g_wk (zwk_s (zwk_s (zwk_s (zwk_s (zwk_s (zwk_s (zwk_s (zwk_u (zwk_s (zwk_s zwk_n)))))))))) h
    · have h := h.2 c_
      refine g_iload dX1_mostLeft_50 rfl ?_
      refine g_iconst dX1_mostLeft_52 ?_
      refine g_isub dX1_mostLeft_53 ?_
      exact g_ireturn dX1_mostLeft_54 rfl h
  · have h := h.2 c_
    refine g_iconst dX1_mostLeft_9 ?_
    exact g_ireturn dX1_mostLeft_10 rfl h
theorem sg_X1_mostLeft_61 {K d : Nat} {mu : Mem} {Q : AV → Mem → Prop} {P a2 a3 a4 a5 a6 a8 a9 : Int} {d1 : Nat} (hd1 : d1 + 1 ≤ d) (hd : 2 ≤ d) (hK : 64 ≤ K) (hP : isP K P) (h : (zin a9 ∧ zin (mu P 3) ∧ (((mu P 3) ≤ a9 → (0 ≤ a5 ∧ a5 < 7168 ∧ Q (zI a8) (zup mu 45 a5 (zor (mu 45 a5) (zshl (a8 + 2) a6))))) ∧ (¬ (mu P 3) ≤ a9 → zC K 1 mX1_mayCome [zR 42, zR P, zI a9, zI a2] mu (fun v_ nu6 => ∃ r5, v_ = zI r5 ∧ (zin r5 ∧ ((r5 = 0 → zG K d mX1_mostLeft 61 [zR 42, zR P, zI a2, zI a3, zI a4, zI a5, zI a6, zU, zI a8, zI (a9 + 1)] [] nu6 Q) ∧ (¬ r5 = 0 → zC K d1 mX1_mostIfComes [zR 42, zR P, zI a9, zI a2, zI a3, zI a4] nu6 (fun v_ nu9 => ∃ r8, v_ = zI r8 ∧ (zin a8 ∧ zin r8 ∧ zG K d mX1_mostLeft 61 [zR 42, zR P, zI a2, zI a3, zI a4, zI a5, zI a6, zU, zI (max a8 r8), zI (a9 + 1)] [] nu9 Q)))))))))) : zG K d mX1_mostLeft 61 [zR 42, zR P, zI a2, zI a3, zI a4, zI a5, zI a6, zU, zI a8, zI a9] [] mu Q := by
  refine g_iload dX1_mostLeft_61 rfl ?_
  refine g_aload_n dX1_mostLeft_63 rfl ?_
  refine g_getI' (jj := 3) dX1_mostLeft_64 (hP).ob fX1_51 rfl rfl ?_
  obtain ⟨q1, h⟩ := h
  obtain ⟨q2, h⟩ := h
  refine g_icmp_ge (tgt := 105) dX1_mostLeft_67 (by decide) q1 q2 (fun c_ => ?_) (fun c_ => ?_)
  · have h := h.1 c_
    refine g_aload_n dX1_mostLeft_105 rfl ?_
    refine g_getR (k' := 45) dX1_mostLeft_106 (o42 hK) fX1_22 (by decide) (by decide) ?_
    refine g_iload dX1_mostLeft_109 rfl ?_
    refine g_dup2 dX1_mostLeft_111 (by simp) (by simp) ?_
    obtain ⟨q3, h⟩ := h
    obtain ⟨q4, h⟩ := h
    refine g_iald' (nn := 7168) dX1_mostLeft_112 (r45 hK) rfl q3 q4 ?_
    refine g_iload dX1_mostLeft_113 rfl ?_
    refine g_iconst dX1_mostLeft_115 ?_
    refine g_iadd dX1_mostLeft_116 ?_
    refine g_iload dX1_mostLeft_117 rfl ?_
    refine g_ishl dX1_mostLeft_119 (zshl_ok _ _) ?_
    refine g_ior dX1_mostLeft_120 (zor_ok _ _) ?_
    refine g_iast' (nn := 7168) dX1_mostLeft_121 (r45 hK) rfl q3 q4 ?_
    refine g_iload dX1_mostLeft_122 rfl ?_
    exact g_ireturn dX1_mostLeft_124 rfl h
  · have h := h.2 c_
    refine g_aload_n dX1_mostLeft_70 rfl ?_
    refine g_aload_n dX1_mostLeft_71 rfl ?_
    refine g_iload dX1_mostLeft_72 rfl ?_
    refine g_iload_n dX1_mostLeft_74 rfl ?_
    refine g_callV (Y' := mX1_mayCome) (d' := 1) (As := [zR P, zI a9, zI a2]) (rest := []) dX1_mostLeft_75 lX1_61 vX1_mayCome (by omega) (o42 hK) rfl rfl (Nat.le_of_ble_eq_true rfl) rfl (zC_i h (fun r5 nu6 h => ?_))
    obtain ⟨q7, h⟩ := h
    refine g_if_eq (tgt := 99) dX1_mostLeft_78 (by decide) q7 (fun c_ => ?_) (fun c_ => ?_)
    · have h := h.1 c_
      refine g_iinc dX1_mostLeft_99 rfl (by decide) rfl ?_
      refine g_goto (tgt := 61) dX1_mostLeft_102 (by decide) ?_
      exact g_wk (zwk_s (zwk_s (zwk_s (zwk_s (zwk_s (zwk_s (zwk_s (zwk_s (zwk_s (zwk_s zwk_n)))))))))) h
    · have h := h.2 c_
      refine g_iload dX1_mostLeft_81 rfl ?_
      refine g_aload_n dX1_mostLeft_83 rfl ?_
      refine g_aload_n dX1_mostLeft_84 rfl ?_
      refine g_iload dX1_mostLeft_85 rfl ?_
      refine g_iload_n dX1_mostLeft_87 rfl ?_
      refine g_iload_n dX1_mostLeft_88 rfl ?_
      refine g_iload dX1_mostLeft_89 rfl ?_
      refine g_callV (Y' := mX1_mostIfComes) (d' := d1) (As := [zR P, zI a9, zI a2, zI a3, zI a4]) (rest := [zI a8]) dX1_mostLeft_91 lX1_65 vX1_mostIfComes hd1 (o42 hK) rfl rfl (Nat.le_of_ble_eq_true rfl) rfl (zC_i h (fun r8 nu9 h => ?_))
      obtain ⟨q10, h⟩ := h
      obtain ⟨q11, h⟩ := h
      refine g_max dX1_mostLeft_94 lX1_69 (by omega) (Nat.le_of_ble_eq_true rfl) q10 q11 ?_
      refine g_istore dX1_mostLeft_97 (by decide) rfl ?_
      refine g_iinc dX1_mostLeft_99 rfl (by decide) rfl ?_
      refine g_goto (tgt := 61) dX1_mostLeft_102 (by decide) ?_
      exact g_wk (zwk_s (zwk_s (zwk_s (zwk_s (zwk_s (zwk_s (zwk_s (zwk_s (zwk_s (zwk_s zwk_n)))))))))) h
theorem sg_X1_pairBehind_0 {K d : Nat} {mu : Mem} {Q : AV → Mem → Prop} {P a2 a3 : Int} (hd : 0 ≤ d) (hK : 64 ≤ K) (hP : isP K P) (h : (zin a2 ∧ 0 ≤ a3 ∧ a3 < 10 ∧ Q (zI (((a2.tmod 7) * 7) + (mu (P + 2) a3))) mu)) : zG K d mX1_pairBehind 0 [zR 42, zR P, zI a2, zI a3] [] mu Q := by
  refine g_iload_n dX1_pairBehind_0 rfl ?_
  refine g_bipush dX1_pairBehind_1 rfl ?_
  obtain ⟨q1, h⟩ := h
  refine g_irem dX1_pairBehind_3 q1 (zin_d rfl) (by decide) ?_
  refine g_bipush dX1_pairBehind_4 rfl ?_
  refine g_imul dX1_pairBehind_6 ?_
  refine g_aload_n dX1_pairBehind_7 rfl ?_
  refine g_getR (k' := (P + 2)) dX1_pairBehind_8 (hP).ob fX1_54 (by decide) rfl ?_
  refine g_iload_n dX1_pairBehind_11 rfl ?_
  obtain ⟨q2, h⟩ := h
  obtain ⟨q3, h⟩ := h
  refine g_iald' (nn := 10) dX1_pairBehind_12 (hP).a2 rfl q2 q3 ?_
  refine g_iadd dX1_pairBehind_13 ?_
  exact g_ireturn dX1_pairBehind_14 rfl h
theorem sg_X3_bestAsk_0 {K d : Nat} {mu : Mem} {Q : AV → Mem → Prop} {P a2 a3 : Int} (hd : 3 ≤ d) (hK : 64 ≤ K) (hP : isP K P) (h : zC K 2 mX3_worthOfAsk [zR 38, zR P, zI a2, zI a3, zI a3] mu (fun v_ nu2 => ∃ r1, v_ = zI r1 ∧ zG K d mX3_bestAsk 16 [zR 38, zR P, zI a2, zI a3, zI a3, zI r1, zI 0, zU] [] nu2 Q)) : zG K d mX3_bestAsk 0 [zR 38, zR P, zI a2, zI a3, zU, zU, zU, zU] [] mu Q := by
  refine g_iload_n dX3_bestAsk_0 rfl ?_
  refine g_istore dX3_bestAsk_1 (by decide) rfl ?_
  refine g_aload_n dX3_bestAsk_3 rfl ?_
  refine g_aload_n dX3_bestAsk_4 rfl ?_
  refine g_iload_n dX3_bestAsk_5 rfl ?_
  refine g_iload_n dX3_bestAsk_6 rfl ?_
  refine g_iload_n dX3_bestAsk_7 rfl ?_
  refine g_callV (Y' := mX3_worthOfAsk) (d' := 2) (As := [zR P, zI a2, zI a3, zI a3]) (rest := []) dX3_bestAsk_8 lX3_63 vX3_worthOfAsk (by omega) (o38 hK) rfl rfl (Nat.le_of_ble_eq_true rfl) rfl (zC_i h (fun r1 nu2 h => ?_))
  refine g_istore dX3_bestAsk_11 (by decide) rfl ?_
  refine g_iconst dX3_bestAsk_13 ?_
  refine g_istore dX3_bestAsk_14 (by decide) rfl ?_
  exact g_wk (zwk_s (zwk_s (zwk_s (zwk_s (zwk_s (zwk_s (zwk_s (zwk_s zwk_n)))))))) h
theorem sg_X3_bestAsk_16 {K d : Nat} {mu : Mem} {Q : AV → Mem → Prop} {P a2 a3 a4 a5 a6 : Int} (hd : 3 ≤ d) (hK : 64 ≤ K) (hP : isP K P) (h : (zin a6 ∧ zin (mu P 0) ∧ (((mu P 0) ≤ a6 → Q (zI a4) mu) ∧ (¬ (mu P 0) ≤ a6 → zC K 2 mX3_worthOfAsk [zR 38, zR P, zI a2, zI a3, zI a6] mu (fun v_ nu4 => ∃ r3, v_ = zI r3 ∧ (zin r3 ∧ zin a5 ∧ ((r3 ≤ a5 → zG K d mX3_bestAsk 16 [zR 38, zR P, zI a2, zI a3, zI a4, zI a5, zI (a6 + 1), zU] [] nu4 Q) ∧ (¬ r3 ≤ a5 → zG K d mX3_bestAsk 16 [zR 38, zR P, zI a2, zI a3, zI a6, zI r3, zI (a6 + 1), zU] [] nu4 Q)))))))) : zG K d mX3_bestAsk 16 [zR 38, zR P, zI a2, zI a3, zI a4, zI a5, zI a6, zU] [] mu Q := by
  refine g_iload dX3_bestAsk_16 rfl ?_
  refine g_aload_n dX3_bestAsk_18 rfl ?_
  refine g_getI' (jj := 0) dX3_bestAsk_19 (hP).ob fX3_67 rfl rfl ?_
  obtain ⟨q1, h⟩ := h
  obtain ⟨q2, h⟩ := h
  refine g_icmp_ge (tgt := 57) dX3_bestAsk_22 (by decide) q1 q2 (fun c_ => ?_) (fun c_ => ?_)
  · have h := h.1 c_
    refine g_iload dX3_bestAsk_57 rfl ?_
    exact g_ireturn dX3_bestAsk_59 rfl h
  · have h := h.2 c_
    refine g_aload_n dX3_bestAsk_25 rfl ?_
    refine g_aload_n dX3_bestAsk_26 rfl ?_
    refine g_iload_n dX3_bestAsk_27 rfl ?_
    refine g_iload_n dX3_bestAsk_28 rfl ?_
    refine g_iload dX3_bestAsk_29 rfl ?_
    refine g_callV (Y' := mX3_worthOfAsk) (d' := 2) (As := [zR P, zI a2, zI a3, zI a6]) (rest := []) dX3_bestAsk_31 lX3_63 vX3_worthOfAsk (by omega) (o38 hK) rfl rfl (Nat.le_of_ble_eq_true rfl) rfl (zC_i h (fun r3 nu4 h => ?_))
    refine g_istore dX3_bestAsk_34 (by decide) rfl ?_
    refine g_iload dX3_bestAsk_36 rfl ?_
    refine g_iload dX3_bestAsk_38 rfl ?_
    obtain ⟨q5, h⟩ := h
    obtain ⟨q6, h⟩ := h
    refine g_icmp_le (tgt := 51) dX3_bestAsk_40 (by decide) q5 q6 (fun c_ => ?_) (fun c_ => ?_)
    · have h := h.1 c_
      refine g_iinc dX3_bestAsk_51 rfl (by decide) rfl ?_
      refine g_goto (tgt := 16) dX3_bestAsk_54 (by decide) ?_
      exact g_wk (zwk_s (zwk_s (zwk_s (zwk_s (zwk_s (zwk_s (zwk_s (zwk_u zwk_n)))))))) h
    · have h := h.2 c_
      refine g_iload dX3_bestAsk_43 rfl ?_
      refine g_istore dX3_bestAsk_45 (by decide) rfl ?_
      refine g_iload dX3_bestAsk_47 rfl ?_
      refine g_istore dX3_bestAsk_49 (by decide) rfl ?_
      refine g_iinc dX3_bestAsk_51 rfl (by decide) rfl ?_
      refine g_goto (tgt := 16) dX3_bestAsk_54 (by decide) ?_
      exact g_wk (zwk_s (zwk_s (zwk_s (zwk_s (zwk_s (zwk_s (zwk_s (zwk_u zwk_n)))))))) h
theorem sg_X3_comeAsWished_0 {K d : Nat} {mu : Mem} {Q : AV → Mem → Prop} {P a2 : Int} (hd : 2 ≤ d) (hK : 64 ≤ K) (hP : isP K P) (h : zC K 1 mX3_startRow [zR 38, zR P] mu (fun v_ nu2 => v_ = zV ∧ zG K d mX3_comeAsWished 7 [zR 38, zR P, zI a2, zI 0, zU] [] nu2 Q)) : zG K d mX3_comeAsWished 0 [zR 38, zR P, zI a2, zU, zU] [] mu Q := by
  refine g_aload_n dX3_comeAsWished_0 rfl ?_
  refine g_aload_n dX3_comeAsWished_1 rfl ?_
  refine g_callV (Y' := mX3_startRow) (d' := 1) (As := [zR P]) (rest := []) dX3_comeAsWished_2 lX3_21 vX3_startRow (by omega) (o38 hK) rfl rfl (Nat.le_of_ble_eq_true rfl) rfl (zC_v h (fun nu2 h => ?_))
  refine g_iconst dX3_comeAsWished_5 ?_
  refine g_istore_n dX3_comeAsWished_6 (by decide) rfl ?_
  exact g_wk (zwk_s (zwk_s (zwk_s (zwk_s (zwk_s zwk_n))))) h
theorem sg_X3_comeAsWished_7 {K d : Nat} {mu : Mem} {Q : AV → Mem → Prop} {P a2 a3 : Int} (hd : 2 ≤ d) (hK : 64 ≤ K) (hP : isP K P) (h : (zin a3 ∧ zin (mu P 3) ∧ (((mu P 3) ≤ a3 → Q zV mu) ∧ (¬ (mu P 3) ≤ a3 → (0 ≤ a3 ∧ a3 < 10 ∧ 0 ≤ ((mu P 2) + a3) ∧ ((mu P 2) + a3) < 16 ∧ zC K 1 mX8_givesFor [zI a2, zR 41, zI (((mu P 2) + a3) + 1)] (zup (zup mu 39 a3 (mu (P + 2) a3)) 41 ((mu P 2) + a3) ((zup mu 39 a3 (mu (P + 2) a3)) 39 a3)) (fun v_ nu8 => ∃ r7, v_ = zI r7 ∧ zG K d mX3_comeAsWished 7 [zR 38, zR P, zI a2, zI (a3 + 1), zU] [] (zup nu8 40 a3 r7) Q)))))) : zG K d mX3_comeAsWished 7 [zR 38, zR P, zI a2, zI a3, zU] [] mu Q := by
  refine g_iload_n dX3_comeAsWished_7 rfl ?_
  refine g_aload_n dX3_comeAsWished_8 rfl ?_
  refine g_getI' (jj := 3) dX3_comeAsWished_9 (hP).ob fX3_25 rfl rfl ?_
  obtain ⟨q1, h⟩ := h
  obtain ⟨q2, h⟩ := h
  refine g_icmp_ge (tgt := 72) dX3_comeAsWished_12 (by decide) q1 q2 (fun c_ => ?_) (fun c_ => ?_)
  · have h := h.1 c_
    exact g_return dX3_comeAsWished_72 rfl h
  · have h := h.2 c_
    refine g_aload_n dX3_comeAsWished_15 rfl ?_
    refine g_getI' (jj := 2) dX3_comeAsWished_16 (hP).ob fX3_31 rfl rfl ?_
    refine g_iload_n dX3_comeAsWished_19 rfl ?_
    refine g_iadd dX3_comeAsWished_20 ?_
    refine g_istore dX3_comeAsWished_21 (by decide) rfl ?_
    refine g_aload_n dX3_comeAsWished_23 rfl ?_
    refine g_getR (k' := 39) dX3_comeAsWished_24 (o38 hK) fX3_9 (by decide) (by decide) ?_
    refine g_iload_n dX3_comeAsWished_27 rfl ?_
    refine g_aload_n dX3_comeAsWished_28 rfl ?_
    refine g_getR (k' := (P + 2)) dX3_comeAsWished_29 (hP).ob fX3_34 (by decide) rfl ?_
    refine g_iload_n dX3_comeAsWished_32 rfl ?_
    obtain ⟨q3, h⟩ := h
    obtain ⟨q4, h⟩ := h
    refine g_iald' (nn := 10) dX3_comeAsWished_33 (hP).a2 rfl q3 q4 ?_
    refine g_iast' (nn := 10) dX3_comeAsWished_34 (r39 hK) rfl q3 q4 ?_
    refine g_aload_n dX3_comeAsWished_35 rfl ?_
    refine g_getR (k' := 41) dX3_comeAsWished_36 (o38 hK) fX3_18 (by decide) (by decide) ?_
    refine g_iload dX3_comeAsWished_39 rfl ?_
    refine g_aload_n dX3_comeAsWished_41 rfl ?_
    refine g_getR (k' := 39) dX3_comeAsWished_42 (o38 hK) fX3_9 (by decide) (by decide) ?_
    refine g_iload_n dX3_comeAsWished_45 rfl ?_
    refine g_iald' (nn := 10) dX3_comeAsWished_46 (r39 hK) rfl q3 q4 ?_
    obtain ⟨q5, h⟩ := h
    obtain ⟨q6, h⟩ := h
    refine g_iast' (nn := 16) dX3_comeAsWished_47 (r41 hK) rfl q5 q6 ?_
    refine g_aload_n dX3_comeAsWished_48 rfl ?_
    refine g_getR (k' := 40) dX3_comeAsWished_49 (o38 hK) fX3_15 (by decide) (by decide) ?_
    refine g_iload_n dX3_comeAsWished_52 rfl ?_
    refine g_iload_n dX3_comeAsWished_53 rfl ?_
    refine g_aload_n dX3_comeAsWished_54 rfl ?_
    refine g_getR (k' := 41) dX3_comeAsWished_55 (o38 hK) fX3_18 (by decide) (by decide) ?_
    refine g_iload dX3_comeAsWished_58 rfl ?_
    refine g_iconst dX3_comeAsWished_60 ?_
    refine g_iadd dX3_comeAsWished_61 ?_
    refine g_callN (Y' := mX8_givesFor) (d' := 1) (As := [zI a2, zR 41, zI (((mu P 2) + a3) + 1)]) (rest := [zI a3, zR 40]) (host := RX8) dX3_comeAsWished_62 (by decide) vX8_givesFor (by omega) rfl (Nat.le_of_ble_eq_true rfl) rfl (zC_i h (fun r7 nu8 h => ?_))
    refine g_iast' (nn := 10) dX3_comeAsWished_65 (r40 hK) rfl q3 q4 ?_
    refine g_iinc dX3_comeAsWished_66 rfl (by decide) rfl ?_
    refine g_goto (tgt := 7) dX3_comeAsWished_69 (by decide) ?_
    exact g_wk (zwk_s (zwk_s (zwk_s (zwk_s (zwk_u zwk_n))))) h
theorem sg_X3_comeForThemselves_0 {K d : Nat} {mu : Mem} {Q : AV → Mem → Prop} {P : Int} (hd : 4 ≤ d) (hK : 64 ≤ K) (hP : isP K P) (h : zC K 1 mX3_startRow [zR 38, zR P] mu (fun v_ nu2 => v_ = zV ∧ zG K d mX3_comeForThemselves 7 [zR 38, zR P, zI 0, zU] [] nu2 Q)) : zG K d mX3_comeForThemselves 0 [zR 38, zR P, zU, zU] [] mu Q := by
  refine g_aload_n dX3_comeForThemselves_0 rfl ?_
  refine g_aload_n dX3_comeForThemselves_1 rfl ?_
  refine g_callV (Y' := mX3_startRow) (d' := 1) (As := [zR P]) (rest := []) dX3_comeForThemselves_2 lX3_21 vX3_startRow (by omega) (o38 hK) rfl rfl (Nat.le_of_ble_eq_true rfl) rfl (zC_v h (fun nu2 h => ?_))
  refine g_iconst dX3_comeForThemselves_5 ?_
  refine g_istore_n dX3_comeForThemselves_6 (by decide) rfl ?_
  exact g_wk (zwk_s (zwk_s (zwk_s (zwk_s zwk_n)))) h
theorem sg_X3_comeForThemselves_7 {K d : Nat} {mu : Mem} {Q : AV → Mem → Prop} {P a2 : Int} (hd : 4 ≤ d) (hK : 64 ≤ K) (hP : isP K P) (h : (zin a2 ∧ zin (mu P 3) ∧ (((mu P 3) ≤ a2 → Q zV mu) ∧ (¬ (mu P 3) ≤ a2 → (0 ≤ a2 ∧ a2 < 10 ∧ zC K 3 mX3_bestAsk [zR 38, zR P, zI ((mu P 2) + a2), zI (mu (P + 2) a2)] mu (fun v_ nu6 => ∃ r5, v_ = zI r5 ∧ (0 ≤ ((mu P 2) + a2) ∧ ((mu P 2) + a2) < 16 ∧ zC K 1 mX8_givesFor [zI ((zup (zup nu6 39 a2 r5) 41 ((mu P 2) + a2) ((zup nu6 39 a2 r5) 39 a2)) P 1), zR 41, zI (((mu P 2) + a2) + 1)] (zup (zup nu6 39 a2 r5) 41 ((mu P 2) + a2) ((zup nu6 39 a2 r5) 39 a2)) (fun v_ nu10 => ∃ r9, v_ = zI r9 ∧ zG K d mX3_comeForThemselves 7 [zR 38, zR P, zI (a2 + 1), zU] [] (zup nu10 40 a2 r9) Q)))))))) : zG K d mX3_comeForThemselves 7 [zR 38, zR P, zI a2, zU] [] mu Q := by
  refine g_iload_n dX3_comeForThemselves_7 rfl ?_
  refine g_aload_n dX3_comeForThemselves_8 rfl ?_
  refine g_getI' (jj := 3) dX3_comeForThemselves_9 (hP).ob fX3_25 rfl rfl ?_
  obtain ⟨q1, h⟩ := h
  obtain ⟨q2, h⟩ := h
  refine g_icmp_ge (tgt := 78) dX3_comeForThemselves_12 (by decide) q1 q2 (fun c_ => ?_) (fun c_ => ?_)
  · have h := h.1 c_
    exact g_return dX3_comeForThemselves_78 rfl h
  · have h := h.2 c_
    refine g_aload_n dX3_comeForThemselves_15 rfl ?_
    refine g_getI' (jj := 2) dX3_comeForThemselves_16 (hP).ob fX3_31 rfl rfl ?_
    refine g_iload_n dX3_comeForThemselves_19 rfl ?_
    refine g_iadd dX3_comeForThemselves_20 ?_
    refine g_istore_n dX3_comeForThemselves_21 (by decide) rfl ?_
    refine g_aload_n dX3_comeForThemselves_22 rfl ?_
    refine g_getR (k' := 39) dX3_comeForThemselves_23 (o38 hK) fX3_9 (by decide) (by decide) ?_
    refine g_iload_n dX3_comeForThemselves_26 rfl ?_
    refine g_aload_n dX3_comeForThemselves_27 rfl ?_
    refine g_aload_n dX3_comeForThemselves_28 rfl ?_
    refine g_iload_n dX3_comeForThemselves_29 rfl ?_
    refine g_aload_n dX3_comeForThemselves_30 rfl ?_
    refine g_getR (k' := (P + 2)) dX3_comeForThemselves_31 (hP).ob fX3_34 (by decide) rfl ?_
    refine g_iload_n dX3_comeForThemselves_34 rfl ?_
    obtain ⟨q3, h⟩ := h
    obtain ⟨q4, h⟩ := h
    refine g_iald' (nn := 10) dX3_comeForThemselves_35 (hP).a2 rfl q3 q4 ?_
    refine g_callV (Y' := mX3_bestAsk) (d' := 3) (As := [zR P, zI ((mu P 2) + a2), zI (mu (P + 2) a2)]) (rest := [zI a2, zR 39]) dX3_comeForThemselves_36 lX3_41 vX3_bestAsk (by omega) (o38 hK) rfl rfl (Nat.le_of_ble_eq_true rfl) rfl (zC_i h (fun r5 nu6 h => ?_))
    refine g_iast' (nn := 10) dX3_comeForThemselves_39 (r39 hK) rfl q3 q4 ?_
    refine g_aload_n dX3_comeForThemselves_40 rfl ?_
    refine g_getR (k' := 41) dX3_comeForThemselves_41 (o38 hK) fX3_18 (by decide) (by decide) ?_
    refine g_iload_n dX3_comeForThemselves_44 rfl ?_
    refine g_aload_n dX3_comeForThemselves_45 rfl ?_
    refine g_getR (k' := 39) dX3_comeForThemselves_46 (o38 hK) fX3_9 (by decide) (by decide) ?_
    refine g_iload_n dX3_comeForThemselves_49 rfl ?_
    refine g_iald' (nn := 10) dX3_comeForThemselves_50 (r39 hK) rfl q3 q4 ?_
    obtain ⟨q7, h⟩ := h
    obtain ⟨q8, h⟩ := h
    refine g_iast' (nn := 16) dX3_comeForThemselves_51 (r41 hK) rfl q7 q8 ?_
    refine g_aload_n dX3_comeForThemselves_52 rfl ?_
    refine g_getR (k' := 40) dX3_comeForThemselves_53 (o38 hK) fX3_15 (by decide) (by decide) ?_
    refine g_iload_n dX3_comeForThemselves_56 rfl ?_
    refine g_aload_n dX3_comeForThemselves_57 rfl ?_
    refine g_getI' (jj := 1) dX3_comeForThemselves_58 (hP).ob fX3_45 rfl rfl ?_
    refine g_aload_n dX3_comeForThemselves_61 rfl ?_
    refine g_getR (k' := 41) dX3_comeForThemselves_62 (o38 hK) fX3_18 (by decide) (by decide) ?_
    refine g_iload_n dX3_comeForThemselves_65 rfl ?_
    refine g_iconst dX3_comeForThemselves_66 ?_
    refine g_iadd dX3_comeForThemselves_67 ?_
    refine g_callN (Y' := mX8_givesFor) (d' := 1) (As := [zI ((zup (zup nu6 39 a2 r5) 41 ((mu P 2) + a2) ((zup nu6 39 a2 r5) 39 a2)) P 1), zR 41, zI (((mu P 2) + a2) + 1)]) (rest := [zI a2, zR 40]) (host := RX8) dX3_comeForThemselves_68 (by decide) vX8_givesFor (by omega) rfl (Nat.le_of_ble_eq_true rfl) rfl (zC_i h (fun r9 nu10 h => ?_))
    refine g_iast' (nn := 10) dX3_comeForThemselves_71 (r40 hK) rfl q3 q4 ?_
    refine g_iinc dX3_comeForThemselves_72 rfl (by decide) rfl ?_
    refine g_goto (tgt := 7) dX3_comeForThemselves_75 (by decide) ?_
    exact g_wk (zwk_s (zwk_s (zwk_s (zwk_u zwk_n)))) h
theorem sg_X3_differing_0 {K d : Nat} {mu : Mem} {Q : AV → Mem → Prop} {P a2 : Int} (hd : 3 ≤ d) (hK : 64 ≤ K) (hP : isP K P) (h : zC K 2 mX3_comeAsWished [zR 38, zR P, zI (mu P 1)] mu (fun v_ nu2 => v_ = zV ∧ zG K d mX3_differing 14 [zR 38, zR P, zI a2, zI 0, zI 0] [] nu2 Q)) : zG K d mX3_differing 0 [zR 38, zR P, zI a2, zU, zU] [] mu Q := by
  refine g_aload_n dX3_differing_0 rfl ?_
  refine g_aload_n dX3_differing_1 rfl ?_
  refine g_aload_n dX3_differing_2 rfl ?_
  refine g_getI' (jj := 1) dX3_differing_3 (hP).ob fX3_45 rfl rfl ?_
  refine g_callV (Y' := mX3_comeAsWished) (d' := 2) (As := [zR P, zI (mu P 1)]) (rest := []) dX3_differing_6 lX3_48 vX3_comeAsWished (by omega) (o38 hK) rfl rfl (Nat.le_of_ble_eq_true rfl) rfl (zC_v h (fun nu2 h => ?_))
  refine g_iconst dX3_differing_9 ?_
  refine g_istore_n dX3_differing_10 (by decide) rfl ?_
  refine g_iconst dX3_differing_11 ?_
  refine g_istore dX3_differing_12 (by decide) rfl ?_
  exact g_wk (zwk_s (zwk_s (zwk_s (zwk_s (zwk_s zwk_n))))) h
theorem sg_X3_differing_14 {K d : Nat} {mu : Mem} {Q : AV → Mem → Prop} {P a2 a3 a4 : Int} (hd : 3 ≤ d) (hK : 64 ≤ K) (hP : isP K P) (h : (zin a4 ∧ zin (mu P 3) ∧ (((mu P 3) ≤ a4 → Q (zI a3) mu) ∧ (¬ (mu P 3) ≤ a4 → zC K 1 mX8_givesFor [zI a2, zR 41, zI (((mu P 2) + a4) + 1)] mu (fun v_ nu4 => ∃ r3, v_ = zI r3 ∧ (0 ≤ a4 ∧ a4 < 10 ∧ zin r3 ∧ zin (nu4 40 a4) ∧ ((r3 = (nu4 40 a4) → zG K d mX3_differing 14 [zR 38, zR P, zI a2, zI a3, zI (a4 + 1)] [] nu4 Q) ∧ (¬ r3 = (nu4 40 a4) → zG K d mX3_differing 14 [zR 38, zR P, zI a2, zI (a3 + 1), zI (a4 + 1)] [] nu4 Q)))))))) : zG K d mX3_differing 14 [zR 38, zR P, zI a2, zI a3, zI a4] [] mu Q := by
  refine g_iload dX3_differing_14 rfl ?_
  refine g_aload_n dX3_differing_16 rfl ?_
  refine g_getI' (jj := 3) dX3_differing_17 (hP).ob fX3_25 rfl rfl ?_
  obtain ⟨q1, h⟩ := h
  obtain ⟨q2, h⟩ := h
  refine g_icmp_ge (tgt := 59) dX3_differing_20 (by decide) q1 q2 (fun c_ => ?_) (fun c_ => ?_)
  · have h := h.1 c_
    refine g_iload_n dX3_differing_59 rfl ?_
    exact g_ireturn dX3_differing_60 rfl h
  · have h := h.2 c_
    refine g_iload_n dX3_differing_23 rfl ?_
    refine g_aload_n dX3_differing_24 rfl ?_
    refine g_getR (k' := 41) dX3_differing_25 (o38 hK) fX3_18 (by decide) (by decide) ?_
    refine g_aload_n dX3_differing_28 rfl ?_
    refine g_getI' (jj := 2) dX3_differing_29 (hP).ob fX3_31 rfl rfl ?_
    refine g_iload dX3_differing_32 rfl ?_
    refine g_iadd dX3_differing_34 ?_
    refine g_iconst dX3_differing_35 ?_
    refine g_iadd dX3_differing_36 ?_
    refine g_callN (Y' := mX8_givesFor) (d' := 1) (As := [zI a2, zR 41, zI (((mu P 2) + a4) + 1)]) (rest := []) (host := RX8) dX3_differing_37 (by decide) vX8_givesFor (by omega) rfl (Nat.le_of_ble_eq_true rfl) rfl (zC_i h (fun r3 nu4 h => ?_))
    refine g_aload_n dX3_differing_40 rfl ?_
    refine g_getR (k' := 40) dX3_differing_41 (o38 hK) fX3_15 (by decide) (by decide) ?_
    refine g_iload dX3_differing_44 rfl ?_
    obtain ⟨q5, h⟩ := h
    obtain ⟨q6, h⟩ := h
    refine g_iald' (nn := 10) dX3_differing_46 (r40 hK) rfl q5 q6 ?_
    obtain ⟨q7, h⟩ := h
    obtain ⟨q8, h⟩ := h
    refine g_icmp_eq (tgt := 53) dX3_differing_47 (by decide) q7 q8 (fun c_ => ?_) (fun c_ => ?_)
    · have h := h.1 c_
      refine g_iinc dX3_differing_53 rfl (by decide) rfl ?_
      refine g_goto (tgt := 14) dX3_differing_56 (by decide) ?_
      exact g_wk (zwk_s (zwk_s (zwk_s (zwk_s (zwk_s zwk_n))))) h
    · have h := h.2 c_
      refine g_iinc dX3_differing_50 rfl (by decide) rfl ?_
      refine g_iinc dX3_differing_53 rfl (by decide) rfl ?_
      refine g_goto (tgt := 14) dX3_differing_56 (by decide) ?_
      exact g_wk (zwk_s (zwk_s (zwk_s (zwk_s (zwk_s zwk_n))))) h
theorem sg_X3_gains_0 {K d : Nat} {mu : Mem} {Q : AV → Mem → Prop} {P a2 a3 : Int} (hd : 1 ≤ d) (hK : 64 ≤ K) (hP : isP K P) (h : (0 ≤ a2 ∧ a2 < 10 ∧ 0 ≤ a3 ∧ a3 < 10 ∧ zC K 0 mX2_worthOf [zR P, zI (mu (P + 2) a2), zI (mu 40 a3)] mu (fun v_ nu6 => ∃ r5, v_ = zI r5 ∧ zC K 0 mX2_worthOf [zR P, zI (mu (P + 2) a2), zI (nu6 40 a2)] nu6 (fun v_ nu8 => ∃ r7, v_ = zI r7 ∧ (zin r5 ∧ zin r7 ∧ ((r5 ≤ r7 → Q (zI 0) nu8) ∧ (¬ r5 ≤ r7 → Q (zI 1) nu8))))))) : zG K d mX3_gains 0 [zR 38, zR P, zI a2, zI a3, zU] [] mu Q := by
  refine g_aload_n dX3_gains_0 rfl ?_
  refine g_getR (k' := (P + 2)) dX3_gains_1 (hP).ob fX3_34 (by decide) rfl ?_
  refine g_iload_n dX3_gains_4 rfl ?_
  obtain ⟨q1, h⟩ := h
  obtain ⟨q2, h⟩ := h
  refine g_iald' (nn := 10) dX3_gains_5 (hP).a2 rfl q1 q2 ?_
  refine g_istore dX3_gains_6 (by decide) rfl ?_
  refine g_aload_n dX3_gains_8 rfl ?_
  refine g_iload dX3_gains_9 rfl ?_
  refine g_aload_n dX3_gains_11 rfl ?_
  refine g_getR (k' := 40) dX3_gains_12 (o38 hK) fX3_15 (by decide) (by decide) ?_
  refine g_iload_n dX3_gains_15 rfl ?_
  obtain ⟨q3, h⟩ := h
  obtain ⟨q4, h⟩ := h
  refine g_iald' (nn := 10) dX3_gains_16 (r40 hK) rfl q3 q4 ?_
  refine g_callV (Y' := mX2_worthOf) (d' := 0) (As := [zI (mu (P + 2) a2), zI (mu 40 a3)]) (rest := []) dX3_gains_17 lX3_70 vX2_worthOf (by omega) (hP).ob rfl rfl (Nat.le_of_ble_eq_true rfl) rfl (zC_i h (fun r5 nu6 h => ?_))
  refine g_aload_n dX3_gains_20 rfl ?_
  refine g_iload dX3_gains_21 rfl ?_
  refine g_aload_n dX3_gains_23 rfl ?_
  refine g_getR (k' := 40) dX3_gains_24 (o38 hK) fX3_15 (by decide) (by decide) ?_
  refine g_iload_n dX3_gains_27 rfl ?_
  refine g_iald' (nn := 10) dX3_gains_28 (r40 hK) rfl q1 q2 ?_
  refine g_callV (Y' := mX2_worthOf) (d' := 0) (As := [zI (mu (P + 2) a2), zI (nu6 40 a2)]) (rest := [zI r5]) dX3_gains_29 lX3_70 vX2_worthOf (by omega) (hP).ob rfl rfl (Nat.le_of_ble_eq_true rfl) rfl (zC_i h (fun r7 nu8 h => ?_))
  obtain ⟨q9, h⟩ := h
  obtain ⟨q10, h⟩ := h
  refine g_icmp_le (tgt := 39) dX3_gains_32 (by decide) q9 q10 (fun c_ => ?_) (fun c_ => ?_)
  · have h := h.1 c_
    refine g_iconst dX3_gains_39 ?_
    exact g_zreturn dX3_gains_40 rfl (by decide) h
  · have h := h.2 c_
    refine g_iconst dX3_gains_35 ?_
    refine g_goto (tgt := 40) dX3_gains_36 (by decide) ?_
    exact g_zreturn dX3_gains_40 rfl (by decide) h
theorem sg_X3_startRow_0 {K d : Nat} {mu : Mem} {Q : AV → Mem → Prop} {P : Int} (hd : 1 ≤ d) (hK : 64 ≤ K) (hP : isP K P) (h : Q zV (zcp mu (P + 1) 41 0 0 6)) : zG K d mX3_startRow 0 [zR 38, zR P] [] mu Q := by
  refine g_aload_n dX3_startRow_0 rfl ?_
  refine g_getR (k' := (P + 1)) dX3_startRow_1 (hP).ob fX3_56 (by decide) rfl ?_
  refine g_iconst dX3_startRow_4 ?_
  refine g_aload_n dX3_startRow_5 rfl ?_
  refine g_getR (k' := 41) dX3_startRow_6 (o38 hK) fX3_18 (by decide) (by decide) ?_
  refine g_iconst dX3_startRow_9 ?_
  refine g_bipush dX3_startRow_10 rfl ?_
  refine g_copy dX3_startRow_12 lX3_57 (by omega) rfl (hP).a1 (r41 hK) (by decide) (by decide) (by decide) (by decide) (by decide) ?_
  exact g_return dX3_startRow_15 rfl h
theorem sg_X3_swapFirstTwo_0 {K d : Nat} {mu : Mem} {Q : AV → Mem → Prop} {P : Int} (hd : 2 ≤ d) (hK : 64 ≤ K) (hP : isP K P) (h : zG K d mX3_swapFirstTwo 2 [zR 38, zR P, zI 0, zU, zU] [] mu Q) : zG K d mX3_swapFirstTwo 0 [zR 38, zR P, zU, zU, zU] [] mu Q := by
  refine g_iconst dX3_swapFirstTwo_0 ?_
  refine g_istore_n dX3_swapFirstTwo_1 (by decide) rfl ?_
  exact g_wk (zwk_s (zwk_s (zwk_s (zwk_s (zwk_s zwk_n))))) h
theorem sg_X3_swapFirstTwo_2 {K d : Nat} {mu : Mem} {Q : AV → Mem → Prop} {P a2 : Int} (hd : 2 ≤ d) (hK : 64 ≤ K) (hP : isP K P) (h : (zin a2 ∧ zin (mu P 3) ∧ (((mu P 3) ≤ a2 → Q (zI 0) mu) ∧ (¬ (mu P 3) ≤ a2 → zG K d mX3_swapFirstTwo 14 [zR 38, zR P, zI a2, zI (a2 + 1), zU] [] mu Q)))) : zG K d mX3_swapFirstTwo 2 [zR 38, zR P, zI a2, zU, zU] [] mu Q := by
  refine g_iload_n dX3_swapFirstTwo_2 rfl ?_
  refine g_aload_n dX3_swapFirstTwo_3 rfl ?_
  refine g_getI' (jj := 3) dX3_swapFirstTwo_4 (hP).ob fX3_25 rfl rfl ?_
  obtain ⟨q1, h⟩ := h
  obtain ⟨q2, h⟩ := h
  refine g_icmp_ge (tgt := 84) dX3_swapFirstTwo_7 (by decide) q1 q2 (fun c_ => ?_) (fun c_ => ?_)
  · have h := h.1 c_
    refine g_iconst dX3_swapFirstTwo_84 ?_
    exact g_zreturn dX3_swapFirstTwo_85 rfl (by decide) h
  · have h := h.2 c_
    refine g_iload_n dX3_swapFirstTwo_10 rfl ?_
    refine g_iconst dX3_swapFirstTwo_11 ?_
    refine g_iadd dX3_swapFirstTwo_12 ?_
    refine g_istore_n dX3_swapFirstTwo_13 (by decide) rfl ?_
    exact g_wk (zwk_s (zwk_s (zwk_s (zwk_s (zwk_s zwk_n))))) h
theorem sg_X3_swapFirstTwo_14 {K d : Nat} {mu : Mem} {Q : AV → Mem → Prop} {P a2 a3 : Int} (hd : 2 ≤ d) (hK : 64 ≤ K) (hP : isP K P) (h : (zin a3 ∧ zin (mu P 3) ∧ (((mu P 3) ≤ a3 → zG K d mX3_swapFirstTwo 2 [zR 38, zR P, zI (a2 + 1), zU, zU] [] mu Q) ∧ (¬ (mu P 3) ≤ a3 → zC K 1 mX3_gains [zR 38, zR P, zI a2, zI a3] mu (fun v_ nu4 => ∃ r3, v_ = zI r3 ∧ (zin r3 ∧ ((r3 = 0 → zG K d mX3_swapFirstTwo 14 [zR 38, zR P, zI a2, zI (a3 + 1), zU] [] nu4 Q) ∧ (¬ r3 = 0 → zC K 1 mX3_gains [zR 38, zR P, zI a3, zI a2] nu4 (fun v_ nu7 => ∃ r6, v_ = zI r6 ∧ (zin r6 ∧ ((r6 = 0 → zG K d mX3_swapFirstTwo 14 [zR 38, zR P, zI a2, zI (a3 + 1), zU] [] nu7 Q) ∧ (¬ r6 = 0 → (0 ≤ a2 ∧ a2 < 10 ∧ 0 ≤ a3 ∧ a3 < 10 ∧ Q (zI 1) (zup (zup nu7 40 a2 (nu7 40 a3)) 40 a3 (nu7 40 a2))))))))))))))) : zG K d mX3_swapFirstTwo 14 [zR 38, zR P, zI a2, zI a3, zU] [] mu Q := by
  refine g_iload_n dX3_swapFirstTwo_14 rfl ?_
  refine g_aload_n dX3_swapFirstTwo_15 rfl ?_
  refine g_getI' (jj := 3) dX3_swapFirstTwo_16 (hP).ob fX3_25 rfl rfl ?_
  obtain ⟨q1, h⟩ := h
  obtain ⟨q2, h⟩ := h
  refine g_icmp_ge (tgt := 78) dX3_swapFirstTwo_19 (by decide) q1 q2 (fun c_ => ?_) (fun c_ => ?_)
  · have h := h.1 c_
    refine g_iinc dX3_swapFirstTwo_78 rfl (by decide) rfl ?_
    refine g_goto (tgt := 2) dX3_swapFirstTwo_81 (by decide) ?_
    exact g_wk (zwk_s (zwk_s (zwk_s (zwk_u (zwk_s zwk_n))))) h
  · have h := h.2 c_
    refine g_aload_n dX3_swapFirstTwo_22 rfl ?_
    refine g_aload_n dX3_swapFirstTwo_23 rfl ?_
    refine g_iload_n dX3_swapFirstTwo_24 rfl ?_
    refine g_iload_n dX3_swapFirstTwo_25 rfl ?_
    refine g_callV (Y' := mX3_gains) (d' := 1) (As := [zR P, zI a2, zI a3]) (rest := []) dX3_swapFirstTwo_26 lX3_74 vX3_gains (by omega) (o38 hK) rfl rfl (Nat.le_of_ble_eq_true rfl) rfl (zC_i h (fun r3 nu4 h => ?_))
    obtain ⟨q5, h⟩ := h
    refine g_if_eq (tgt := 72) dX3_swapFirstTwo_29 (by decide) q5 (fun c_ => ?_) (fun c_ => ?_)
    · have h := h.1 c_
      refine g_iinc dX3_swapFirstTwo_72 rfl (by decide) rfl ?_
      refine g_goto (tgt := 14) dX3_swapFirstTwo_75 (by decide) ?_
      exact g_wk (zwk_s (zwk_s (zwk_s (zwk_s (zwk_s zwk_n))))) h
    · have h := h.2 c_
      refine g_aload_n dX3_swapFirstTwo_32 rfl ?_
      refine g_aload_n dX3_swapFirstTwo_33 rfl ?_
      refine g_iload_n dX3_swapFirstTwo_34 rfl ?_
      refine g_iload_n dX3_swapFirstTwo_35 rfl ?_
      refine g_callV (Y' := mX3_gains) (d' := 1) (As := [zR P, zI a3, zI a2]) (rest := []) dX3_swapFirstTwo_36 lX3_74 vX3_gains (by omega) (o38 hK) rfl rfl (Nat.le_of_ble_eq_true rfl) rfl (zC_i h (fun r6 nu7 h => ?_))
      obtain ⟨q8, h⟩ := h
      refine g_if_eq (tgt := 72) dX3_swapFirstTwo_39 (by decide) q8 (fun c_ => ?_) (fun c_ => ?_)
      · have h := h.1 c_
        refine g_iinc dX3_swapFirstTwo_72 rfl (by decide) rfl ?_
        refine g_goto (tgt := 14) dX3_swapFirstTwo_75 (by decide) ?_
        exact g_wk (zwk_s (zwk_s (zwk_s (zwk_s (zwk_s zwk_n))))) h
      · have h := h.2 c_
        refine g_aload_n dX3_swapFirstTwo_42 rfl ?_
        refine g_getR (k' := 40) dX3_swapFirstTwo_43 (o38 hK) fX3_15 (by decide) (by decide) ?_
        refine g_iload_n dX3_swapFirstTwo_46 rfl ?_
        obtain ⟨q9, h⟩ := h
        obtain ⟨q10, h⟩ := h
        refine g_iald' (nn := 10) dX3_swapFirstTwo_47 (r40 hK) rfl q9 q10 ?_
        refine g_istore dX3_swapFirstTwo_48 (by decide) rfl ?_
        refine g_aload_n dX3_swapFirstTwo_50 rfl ?_
        refine g_getR (k' := 40) dX3_swapFirstTwo_51 (o38 hK) fX3_15 (by decide) (by decide) ?_
        refine g_iload_n dX3_swapFirstTwo_54 rfl ?_
        refine g_aload_n dX3_swapFirstTwo_55 rfl ?_
        refine g_getR (k' := 40) dX3_swapFirstTwo_56 (o38 hK) fX3_15 (by decide) (by decide) ?_
        refine g_iload_n dX3_swapFirstTwo_59 rfl ?_
        obtain ⟨q11, h⟩ := h
        obtain ⟨q12, h⟩ := h
        refine g_iald' (nn := 10) dX3_swapFirstTwo_60 (r40 hK) rfl q11 q12 ?_
        refine g_iast' (nn := 10) dX3_swapFirstTwo_61 (r40 hK) rfl q9 q10 ?_
        refine g_aload_n dX3_swapFirstTwo_62 rfl ?_
        refine g_getR (k' := 40) dX3_swapFirstTwo_63 (o38 hK) fX3_15 (by decide) (by decide) ?_
        refine g_iload_n dX3_swapFirstTwo_66 rfl ?_
        refine g_iload dX3_swapFirstTwo_67 rfl ?_
        refine g_iast' (nn := 10) dX3_swapFirstTwo_69 (r40 hK) rfl q11 q12 ?_
        refine g_iconst dX3_swapFirstTwo_70 ?_
        exact g_zreturn dX3_swapFirstTwo_71 rfl (by decide) h
theorem sg_X3_swapTillNobodyGains_0 {K d : Nat} {mu : Mem} {Q : AV → Mem → Prop} {P : Int} (hd : 3 ≤ d) (hK : 64 ≤ K) (hP : isP K P) (h : zG K d mX3_swapTillNobodyGains 2 [zR 38, zR P, zI 0] [] mu Q) : zG K d mX3_swapTillNobodyGains 0 [zR 38, zR P, zU] [] mu Q := by
  refine g_iconst dX3_swapTillNobodyGains_0 ?_
  refine g_istore_n dX3_swapTillNobodyGains_1 (by decide) rfl ?_
  exact g_wk (zwk_s (zwk_s (zwk_s zwk_n))) h
theorem sg_X3_swapTillNobodyGains_2 {K d : Nat} {mu : Mem} {Q : AV → Mem → Prop} {P a2 : Int} (hd : 3 ≤ d) (hK : 64 ≤ K) (hP : isP K P) (h : (zin a2 ∧ ((1000 ≤ a2 → Q (zI a2) mu) ∧ (¬ 1000 ≤ a2 → zC K 2 mX3_swapFirstTwo [zR 38, zR P] mu (fun v_ nu3 => ∃ r2, v_ = zI r2 ∧ (zin r2 ∧ ((r2 = 0 → Q (zI a2) nu3) ∧ (¬ r2 = 0 → zG K d mX3_swapTillNobodyGains 2 [zR 38, zR P, zI (a2 + 1)] [] nu3 Q)))))))) : zG K d mX3_swapTillNobodyGains 2 [zR 38, zR P, zI a2] [] mu Q := by
  refine g_iload_n dX3_swapTillNobodyGains_2 rfl ?_
  refine g_sipush dX3_swapTillNobodyGains_3 rfl ?_
  obtain ⟨q1, h⟩ := h
  refine g_icmp_ge (tgt := 23) dX3_swapTillNobodyGains_6 (by decide) q1 (zin_d rfl) (fun c_ => ?_) (fun c_ => ?_)
  · have h := h.1 c_
    refine g_iload_n dX3_swapTillNobodyGains_23 rfl ?_
    exact g_ireturn dX3_swapTillNobodyGains_24 rfl h
  · have h := h.2 c_
    refine g_aload_n dX3_swapTillNobodyGains_9 rfl ?_
    refine g_aload_n dX3_swapTillNobodyGains_10 rfl ?_
    refine g_callV (Y' := mX3_swapFirstTwo) (d' := 2) (As := [zR P]) (rest := []) dX3_swapTillNobodyGains_11 lX3_52 vX3_swapFirstTwo (by omega) (o38 hK) rfl rfl (Nat.le_of_ble_eq_true rfl) rfl (zC_i h (fun r2 nu3 h => ?_))
    obtain ⟨q4, h⟩ := h
    refine g_if_eq (tgt := 23) dX3_swapTillNobodyGains_14 (by decide) q4 (fun c_ => ?_) (fun c_ => ?_)
    · have h := h.1 c_
      refine g_iload_n dX3_swapTillNobodyGains_23 rfl ?_
      exact g_ireturn dX3_swapTillNobodyGains_24 rfl h
    · have h := h.2 c_
      refine g_iinc dX3_swapTillNobodyGains_17 rfl (by decide) rfl ?_
      refine g_goto (tgt := 2) dX3_swapTillNobodyGains_20 (by decide) ?_
      exact g_wk (zwk_s (zwk_s (zwk_s zwk_n))) h
theorem sg_X3_worthOfAsk_0 {K d : Nat} {mu : Mem} {Q : AV → Mem → Prop} {P a2 a3 a4 : Int} (hd : 2 ≤ d) (hK : 64 ≤ K) (hP : isP K P) (h : (0 ≤ a2 ∧ a2 < 16 ∧ zC K 1 mX8_givesFor [zI ((zup mu 41 a2 a4) P 1), zR 41, zI (a2 + 1)] (zup mu 41 a2 a4) (fun v_ nu4 => ∃ r3, v_ = zI r3 ∧ zC K 0 mX2_worthOf [zR P, zI a3, zI r3] nu4 (fun v_ nu6 => ∃ r5, v_ = zI r5 ∧ Q (zI r5) nu6)))) : zG K d mX3_worthOfAsk 0 [zR 38, zR P, zI a2, zI a3, zI a4] [] mu Q := by
  refine g_aload_n dX3_worthOfAsk_0 rfl ?_
  refine g_getR (k' := 41) dX3_worthOfAsk_1 (o38 hK) fX3_18 (by decide) (by decide) ?_
  refine g_iload_n dX3_worthOfAsk_4 rfl ?_
  refine g_iload dX3_worthOfAsk_5 rfl ?_
  obtain ⟨q1, h⟩ := h
  obtain ⟨q2, h⟩ := h
  refine g_iast' (nn := 16) dX3_worthOfAsk_7 (r41 hK) rfl q1 q2 ?_
  refine g_aload_n dX3_worthOfAsk_8 rfl ?_
  refine g_iload_n dX3_worthOfAsk_9 rfl ?_
  refine g_aload_n dX3_worthOfAsk_10 rfl ?_
  refine g_getI' (jj := 1) dX3_worthOfAsk_11 (hP).ob fX3_45 rfl rfl ?_
  refine g_aload_n dX3_worthOfAsk_14 rfl ?_
  refine g_getR (k' := 41) dX3_worthOfAsk_15 (o38 hK) fX3_18 (by decide) (by decide) ?_
  refine g_iload_n dX3_worthOfAsk_18 rfl ?_
  refine g_iconst dX3_worthOfAsk_19 ?_
  refine g_iadd dX3_worthOfAsk_20 ?_
  refine g_callN (Y' := mX8_givesFor) (d' := 1) (As := [zI ((zup mu 41 a2 a4) P 1), zR 41, zI (a2 + 1)]) (rest := [zI a3, zR P]) (host := RX8) dX3_worthOfAsk_21 (by decide) vX8_givesFor (by omega) rfl (Nat.le_of_ble_eq_true rfl) rfl (zC_i h (fun r3 nu4 h => ?_))
  refine g_callV (Y' := mX2_worthOf) (d' := 0) (As := [zI a3, zI r3]) (rest := []) dX3_worthOfAsk_24 lX3_70 vX2_worthOf (by omega) (hP).ob rfl rfl (Nat.le_of_ble_eq_true rfl) rfl (zC_i h (fun r5 nu6 h => ?_))
  exact g_ireturn dX3_worthOfAsk_27 rfl h
