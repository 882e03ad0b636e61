theorem sg_X0_advance_0 {K d : Nat} {mu : Mem} {Q : AV → Mem → Prop} {P S : Int} (hd : 1 ≤ d) (hK : 64 ≤ K) (hP : isP K P) (hS : isS K S) (h : zG K d mX0_advance 2 [zR 56, zR P, zR S, zI 0, zU] [] mu Q) : zG K d mX0_advance 0 [zR 56, zR P, zR S, zU, zU] [] mu Q := by
  refine g_iconst dX0_advance_0 ?_
  refine g_istore_n dX0_advance_1 (by decide) rfl ?_
  exact g_wk (zwk_s (zwk_s (zwk_s (zwk_s (zwk_s zwk_n))))) h
theorem sg_X0_advance_2 {K d : Nat} {mu : Mem} {Q : AV → Mem → Prop} {P S a3 : Int} (hd : 1 ≤ d) (hK : 64 ≤ K) (hP : isP K P) (hS : isS K S) (h : (zin a3 ∧ zin (mu P 4) ∧ (((mu P 4) ≤ a3 → zG K d mX0_advance 38 [zR 56, zR P, zR S, zI 0, zI 0] [] mu Q) ∧ (¬ (mu P 4) ≤ a3 → (0 ≤ a3 ∧ a3 < 6 ∧ 0 ≤ (mu (P + 5) a3) ∧ (mu (P + 5) a3) < 6 ∧ zG K d mX0_advance 2 [zR 56, zR P, zR S, zI (a3 + 1), zU] [] (zup mu 57 a3 (mu (S + 3) (mu (P + 5) a3))) Q))))) : zG K d mX0_advance 2 [zR 56, zR P, zR S, zI a3, zU] [] mu Q := by
  refine g_iload_n dX0_advance_2 rfl ?_
  refine g_aload_n dX0_advance_3 rfl ?_
  refine g_getI' (jj := 4) dX0_advance_4 (hP).ob fX0_26 rfl rfl ?_
  obtain ⟨q1, h⟩ := h
  obtain ⟨q2, h⟩ := h
  refine g_icmp_ge (tgt := 33) dX0_advance_7 (by decide) q1 q2 (fun c_ => ?_) (fun c_ => ?_)
  · have h := h.1 c_
    refine g_iconst dX0_advance_33 ?_
    refine g_istore_n dX0_advance_34 (by decide) rfl ?_
    refine g_iconst dX0_advance_35 ?_
    refine g_istore dX0_advance_36 (by decide) rfl ?_
    exact g_wk (zwk_s (zwk_s (zwk_s (zwk_s (zwk_s zwk_n))))) h
  · have h := h.2 c_
    refine g_aload_n dX0_advance_10 rfl ?_
    refine g_getR (k' := 57) dX0_advance_11 (o56 hK) fX0_9 (by decide) (by decide) ?_
    refine g_iload_n dX0_advance_14 rfl ?_
    refine g_aload_n dX0_advance_15 rfl ?_
    refine g_getR (k' := (S + 3)) dX0_advance_16 (hS).ob fX0_32 (by decide) rfl ?_
    refine g_aload_n dX0_advance_19 rfl ?_
    refine g_getR (k' := (P + 5)) dX0_advance_20 (hP).ob fX0_35 (by decide) rfl ?_
    refine g_iload_n dX0_advance_23 rfl ?_
    obtain ⟨q3, h⟩ := h
    obtain ⟨q4, h⟩ := h
    refine g_iald' (nn := 6) dX0_advance_24 (hP).a5 rfl q3 q4 ?_
    obtain ⟨q5, h⟩ := h
    obtain ⟨q6, h⟩ := h
    refine g_iald' (nn := 6) dX0_advance_25 (hS).a3 rfl q5 q6 ?_
    refine g_iast' (nn := 6) dX0_advance_26 (r57 hK) rfl q3 q4 ?_
    refine g_iinc dX0_advance_27 rfl (by decide) rfl ?_
    refine g_goto (tgt := 2) dX0_advance_30 (by decide) ?_
    exact g_wk (zwk_s (zwk_s (zwk_s (zwk_s (zwk_s zwk_n))))) h
theorem sg_X0_advance_38 {K d : Nat} {mu : Mem} {Q : AV → Mem → Prop} {P S a3 a4 : Int} (hd : 1 ≤ d) (hK : 64 ≤ K) (hP : isP K P) (hS : isS K S) (h : (zin a4 ∧ zin (mu P 4) ∧ (((mu P 4) ≤ a4 → Q (zI a3) mu) ∧ (¬ (mu P 4) ≤ a4 → (0 ≤ a4 ∧ a4 < 6 ∧ zC K 0 mX8_majority [zI (mu (S + 1) a4), zI (mu (S + 2) a4), zI (mu 57 a4)] mu (fun v_ nu6 => ∃ r5, v_ = zI r5 ∧ (zin ((zup (zup (zup nu6 (S + 3) a4 r5) (S + 1) a4 ((zup nu6 (S + 3) a4 r5) (S + 2) a4)) (S + 2) a4 ((zup (zup nu6 (S + 3) a4 r5) (S + 1) a4 ((zup nu6 (S + 3) a4 r5) (S + 2) a4)) 57 a4)) (S + 3) a4) ∧ ((((zup (zup (zup nu6 (S + 3) a4 r5) (S + 1) a4 ((zup nu6 (S + 3) a4 r5) (S + 2) a4)) (S + 2) a4 ((zup (zup nu6 (S + 3) a4 r5) (S + 1) a4 ((zup nu6 (S + 3) a4 r5) (S + 2) a4)) 57 a4)) (S + 3) a4) = 6 → zG K d mX0_advance 38 [zR 56, zR P, zR S, zI a3, zI (a4 + 1)] [] (zup (zup (zup nu6 (S + 3) a4 r5) (S + 1) a4 ((zup nu6 (S + 3) a4 r5) (S + 2) a4)) (S + 2) a4 ((zup (zup nu6 (S + 3) a4 r5) (S + 1) a4 ((zup nu6 (S + 3) a4 r5) (S + 2) a4)) 57 a4)) Q) ∧ (¬ ((zup (zup (zup nu6 (S + 3) a4 r5) (S + 1) a4 ((zup nu6 (S + 3) a4 r5) (S + 2) a4)) (S + 2) a4 ((zup (zup nu6 (S + 3) a4 r5) (S + 1) a4 ((zup nu6 (S + 3) a4 r5) (S + 2) a4)) 57 a4)) (S + 3) a4) = 6 → zG K d mX0_advance 38 [zR 56, zR P, zR S, zI (a3 + 1), zI (a4 + 1)] [] (zup (zup (zup nu6 (S + 3) a4 r5) (S + 1) a4 ((zup nu6 (S + 3) a4 r5) (S + 2) a4)) (S + 2) a4 ((zup (zup nu6 (S + 3) a4 r5) (S + 1) a4 ((zup nu6 (S + 3) a4 r5) (S + 2) a4)) 57 a4)) Q))))))))) : zG K d mX0_advance 38 [zR 56, zR P, zR S, zI a3, zI a4] [] mu Q := by
  refine g_iload dX0_advance_38 rfl ?_
  refine g_aload_n dX0_advance_40 rfl ?_
  refine g_getI' (jj := 4) dX0_advance_41 (hP).ob fX0_26 rfl rfl ?_
  obtain ⟨q1, h⟩ := h
  obtain ⟨q2, h⟩ := h
  refine g_icmp_ge (tgt := 127) dX0_advance_44 (by decide) q1 q2 (fun c_ => ?_) (fun c_ => ?_)
  · have h := h.1 c_
    refine g_iload_n dX0_advance_127 rfl ?_
    exact g_ireturn dX0_advance_128 rfl h
  · have h := h.2 c_
    refine g_aload_n dX0_advance_47 rfl ?_
    refine g_getR (k' := (S + 3)) dX0_advance_48 (hS).ob fX0_32 (by decide) rfl ?_
    refine g_iload dX0_advance_51 rfl ?_
    refine g_aload_n dX0_advance_53 rfl ?_
    refine g_getR (k' := (S + 1)) dX0_advance_54 (hS).ob fX0_38 (by decide) rfl ?_
    refine g_iload dX0_advance_57 rfl ?_
    obtain ⟨q3, h⟩ := h
    obtain ⟨q4, h⟩ := h
    refine g_iald' (nn := 6) dX0_advance_59 (hS).a1 rfl q3 q4 ?_
    refine g_aload_n dX0_advance_60 rfl ?_
    refine g_getR (k' := (S + 2)) dX0_advance_61 (hS).ob fX0_41 (by decide) rfl ?_
    refine g_iload dX0_advance_64 rfl ?_
    refine g_iald' (nn := 6) dX0_advance_66 (hS).a2 rfl q3 q4 ?_
    refine g_aload_n dX0_advance_67 rfl ?_
    refine g_getR (k' := 57) dX0_advance_68 (o56 hK) fX0_9 (by decide) (by decide) ?_
    refine g_iload dX0_advance_71 rfl ?_
    refine g_iald' (nn := 6) dX0_advance_73 (r57 hK) rfl q3 q4 ?_
    refine g_callN (Y' := mX8_majority) (d' := 0) (As := [zI (mu (S + 1) a4), zI (mu (S + 2) a4), zI (mu 57 a4)]) (rest := [zI a4, zR (S + 3)]) (host := RX8) dX0_advance_74 (by decide) vX8_majority (by omega) rfl (Nat.le_of_ble_eq_true rfl) rfl (zC_i h (fun r5 nu6 h => ?_))
    refine g_iast' (nn := 6) dX0_advance_77 (hS).a3 rfl q3 q4 ?_
    refine g_aload_n dX0_advance_78 rfl ?_
    refine g_getR (k' := (S + 1)) dX0_advance_79 (hS).ob fX0_38 (by decide) rfl ?_
    refine g_iload dX0_advance_82 rfl ?_
    refine g_aload_n dX0_advance_84 rfl ?_
    refine g_getR (k' := (S + 2)) dX0_advance_85 (hS).ob fX0_41 (by decide) rfl ?_
    refine g_iload dX0_advance_88 rfl ?_
    refine g_iald' (nn := 6) dX0_advance_90 (hS).a2 rfl q3 q4 ?_
    refine g_iast' (nn := 6) dX0_advance_91 (hS).a1 rfl q3 q4 ?_
    refine g_aload_n dX0_advance_92 rfl ?_
    refine g_getR (k' := (S + 2)) dX0_advance_93 (hS).ob fX0_41 (by decide) rfl ?_
    refine g_iload dX0_advance_96 rfl ?_
    refine g_aload_n dX0_advance_98 rfl ?_
    refine g_getR (k' := 57) dX0_advance_99 (o56 hK) fX0_9 (by decide) (by decide) ?_
    refine g_iload dX0_advance_102 rfl ?_
    refine g_iald' (nn := 6) dX0_advance_104 (r57 hK) rfl q3 q4 ?_
    refine g_iast' (nn := 6) dX0_advance_105 (hS).a2 rfl q3 q4 ?_
    refine g_aload_n dX0_advance_106 rfl ?_
    refine g_getR (k' := (S + 3)) dX0_advance_107 (hS).ob fX0_32 (by decide) rfl ?_
    refine g_iload dX0_advance_110 rfl ?_
    refine g_iald' (nn := 6) dX0_advance_112 (hS).a3 rfl q3 q4 ?_
    refine g_bipush dX0_advance_113 rfl ?_
    obtain ⟨q7, h⟩ := h
    refine g_icmp_eq (tgt := 121) dX0_advance_115 (by decide) q7 (zin_d rfl) (fun c_ => ?_) (fun c_ => ?_)
    · have h := h.1 c_
      refine g_iinc dX0_advance_121 rfl (by decide) rfl ?_
      refine g_goto (tgt := 38) dX0_advance_124 (by decide) ?_
      exact g_wk (zwk_s (zwk_s (zwk_s (zwk_s (zwk_s zwk_n))))) h
    · have h := h.2 c_
      refine g_iinc dX0_advance_118 rfl (by decide) rfl ?_
      refine g_iinc dX0_advance_121 rfl (by decide) rfl ?_
      refine g_goto (tgt := 38) dX0_advance_124 (by decide) ?_
      exact g_wk (zwk_s (zwk_s (zwk_s (zwk_s (zwk_s zwk_n))))) h
theorem sg_X0_asksAhead_0 {K d : Nat} {mu : Mem} {Q : AV → Mem → Prop} {P S a3 : Int} (hd : 1 ≤ d) (hK : 64 ≤ K) (hP : isP K P) (hS : isS K S) (h : zG K d mX0_asksAhead 6 [zU, zR P, zR S, zI a3, zJ 0, zU, zI 0, zU] [] mu Q) : zG K d mX0_asksAhead 0 [zR 56, zR P, zR S, zI a3, zU, zU, zU, zU] [] mu Q := by
  refine g_lconst (x := 0) dX0_asksAhead_0 rfl ?_
  refine g_lstore dX0_asksAhead_1 (by decide) rfl ?_
  refine g_iconst dX0_asksAhead_3 ?_
  refine g_istore dX0_asksAhead_4 (by decide) rfl ?_
  exact g_wk (zwk_u (zwk_s (zwk_s (zwk_s (zwk_s (zwk_s (zwk_s (zwk_s zwk_n)))))))) h
theorem sg_X0_asksAhead_6 {K d : Nat} {mu : Mem} {Q : AV → Mem → Prop} {P S a3 a4 a6 : Int} (hd : 1 ≤ d) (hK : 64 ≤ K) (hP : isP K P) (hS : isS K S) (h : (zin a6 ∧ ((7 ≤ a6 → Q (zJ a4) mu) ∧ (¬ 7 ≤ a6 → (zin (mu P 0) ∧ ((a6 < (mu P 0) → (0 ≤ a3 ∧ a3 < 6 ∧ zC K 0 mX8_majority [zI a6, zI (mu (S + 1) a3), zI (mu (S + 2) a3)] mu (fun v_ nu6 => ∃ r5, v_ = zI r5 ∧ (zin r5 ∧ zin (nu6 (S + 3) a3) ∧ ((¬ r5 = (nu6 (S + 3) a3) → zG K d mX0_asksAhead 6 [zU, zR P, zR S, zI a3, zJ a4, zU, zI (a6 + 1), zU] [] nu6 Q) ∧ (r5 = (nu6 (S + 3) a3) → zG K d mX0_asksAhead 6 [zU, zR P, zR S, zI a3, zJ (a4 + 1), zU, zI (a6 + 1), zU] [] nu6 Q)))))) ∧ (¬ a6 < (mu P 0) → ((¬ a6 = 6 → zG K d mX0_asksAhead 6 [zU, zR P, zR S, zI a3, zJ a4, zU, zI (a6 + 1), zU] [] mu Q) ∧ (a6 = 6 → (0 ≤ a3 ∧ a3 < 6 ∧ zC K 0 mX8_majority [zI a6, zI (mu (S + 1) a3), zI (mu (S + 2) a3)] mu (fun v_ nu12 => ∃ r11, v_ = zI r11 ∧ (zin r11 ∧ zin (nu12 (S + 3) a3) ∧ ((¬ r11 = (nu12 (S + 3) a3) → zG K d mX0_asksAhead 6 [zU, zR P, zR S, zI a3, zJ a4, zU, zI (a6 + 1), zU] [] nu12 Q) ∧ (r11 = (nu12 (S + 3) a3) → zG K d mX0_asksAhead 6 [zU, zR P, zR S, zI a3, zJ (a4 + 1), zU, zI (a6 + 1), zU] [] nu12 Q)))))))))))))) : zG K d mX0_asksAhead 6 [zU, zR P, zR S, zI a3, zJ a4, zU, zI a6, zU] [] mu Q := by
  refine g_iload dX0_asksAhead_6 rfl ?_
  refine g_bipush dX0_asksAhead_8 rfl ?_
  obtain ⟨q1, h⟩ := h
  refine g_icmp_ge (tgt := 79) dX0_asksAhead_10 (by decide) q1 (zin_d rfl) (fun c_ => ?_) (fun c_ => ?_)
  · have h := h.1 c_
    refine g_lload dX0_asksAhead_79 rfl ?_
    exact g_lreturn dX0_asksAhead_81 rfl h
  · have h := h.2 c_
    refine g_iload dX0_asksAhead_13 rfl ?_
    refine g_aload_n dX0_asksAhead_15 rfl ?_
    refine g_getI' (jj := 0) dX0_asksAhead_16 (hP).ob fX0_75 rfl rfl ?_
    obtain ⟨q2, h⟩ := h
    refine g_icmp_lt (tgt := 29) dX0_asksAhead_19 (by decide) q1 q2 (fun c_ => ?_) (fun c_ => ?_)
    · have h := h.1 c_
      refine g_iconst dX0_asksAhead_29 ?_
      refine g_goto (tgt := 34) dX0_asksAhead_30 (by decide) ?_
      refine g_istore dX0_asksAhead_34 (by decide) rfl ?_
      refine g_iload dX0_asksAhead_36 rfl ?_
      refine g_if_eq (tgt := 73) dX0_asksAhead_38 (by decide) (zin_d rfl) (fun c => absurd c (by decide)) (fun _ => ?_)
      refine g_iload dX0_asksAhead_41 rfl ?_
      refine g_aload_n dX0_asksAhead_43 rfl ?_
      refine g_getR (k' := (S + 1)) dX0_asksAhead_44 (hS).ob fX0_38 (by decide) rfl ?_
      refine g_iload_n dX0_asksAhead_47 rfl ?_
      obtain ⟨q3, h⟩ := h
      obtain ⟨q4, h⟩ := h
      refine g_iald' (nn := 6) dX0_asksAhead_48 (hS).a1 rfl q3 q4 ?_
      refine g_aload_n dX0_asksAhead_49 rfl ?_
      refine g_getR (k' := (S + 2)) dX0_asksAhead_50 (hS).ob fX0_41 (by decide) rfl ?_
      refine g_iload_n dX0_asksAhead_53 rfl ?_
      refine g_iald' (nn := 6) dX0_asksAhead_54 (hS).a2 rfl q3 q4 ?_
      refine g_callN (Y' := mX8_majority) (d' := 0) (As := [zI a6, zI (mu (S + 1) a3), zI (mu (S + 2) a3)]) (rest := []) (host := RX8) dX0_asksAhead_55 (by decide) vX8_majority (by omega) rfl (Nat.le_of_ble_eq_true rfl) rfl (zC_i h (fun r5 nu6 h => ?_))
      refine g_aload_n dX0_asksAhead_58 rfl ?_
      refine g_getR (k' := (S + 3)) dX0_asksAhead_59 (hS).ob fX0_32 (by decide) rfl ?_
      refine g_iload_n dX0_asksAhead_62 rfl ?_
      refine g_iald' (nn := 6) dX0_asksAhead_63 (hS).a3 rfl q3 q4 ?_
      obtain ⟨q7, h⟩ := h
      obtain ⟨q8, h⟩ := h
      refine g_icmp_ne (tgt := 73) dX0_asksAhead_64 (by decide) q7 q8 (fun c_ => ?_) (fun c_ => ?_)
      · have h := h.1 c_
        refine g_iinc dX0_asksAhead_73 rfl (by decide) rfl ?_
        refine g_goto (tgt := 6) dX0_asksAhead_76 (by decide) ?_
        exact g_wk (zwk_s (zwk_s (zwk_s (zwk_s (zwk_s (zwk_s (zwk_s (zwk_u zwk_n)))))))) h
      · have h := h.2 c_
        refine g_lload dX0_asksAhead_67 rfl ?_
        refine g_lconst (x := 1) dX0_asksAhead_69 rfl ?_
        refine g_ladd dX0_asksAhead_70 ?_
        refine g_lstore dX0_asksAhead_71 (by decide) rfl ?_
        refine g_iinc dX0_asksAhead_73 rfl (by decide) rfl ?_
        refine g_goto (tgt := 6) dX0_asksAhead_76 (by decide) ?_
        exact g_wk (zwk_s (zwk_s (zwk_s (zwk_s (zwk_s (zwk_s (zwk_s (zwk_u zwk_n)))))))) h
    · have h := h.2 c_
      refine g_iload dX0_asksAhead_22 rfl ?_
      refine g_bipush dX0_asksAhead_24 rfl ?_
      refine g_icmp_ne (tgt := 33) dX0_asksAhead_26 (by decide) q1 (zin_d rfl) (fun c_ => ?_) (fun c_ => ?_)
      · have h := h.1 c_
        refine g_iconst dX0_asksAhead_33 ?_
        refine g_istore dX0_asksAhead_34 (by decide) rfl ?_
        refine g_iload dX0_asksAhead_36 rfl ?_
        refine g_if_eq (tgt := 73) dX0_asksAhead_38 (by decide) (zin_d rfl) (fun _ => ?_) (fun c => absurd (by decide) c)
        refine g_iinc dX0_asksAhead_73 rfl (by decide) rfl ?_
        refine g_goto (tgt := 6) dX0_asksAhead_76 (by decide) ?_
        exact g_wk (zwk_s (zwk_s (zwk_s (zwk_s (zwk_s (zwk_s (zwk_s (zwk_u zwk_n)))))))) h
      · have h := h.2 c_
        refine g_iconst dX0_asksAhead_29 ?_
        refine g_goto (tgt := 34) dX0_asksAhead_30 (by decide) ?_
        refine g_istore dX0_asksAhead_34 (by decide) rfl ?_
        refine g_iload dX0_asksAhead_36 rfl ?_
        refine g_if_eq (tgt := 73) dX0_asksAhead_38 (by decide) (zin_d rfl) (fun c => absurd c (by decide)) (fun _ => ?_)
        refine g_iload dX0_asksAhead_41 rfl ?_
        refine g_aload_n dX0_asksAhead_43 rfl ?_
        refine g_getR (k' := (S + 1)) dX0_asksAhead_44 (hS).ob fX0_38 (by decide) rfl ?_
        refine g_iload_n dX0_asksAhead_47 rfl ?_
        obtain ⟨q9, h⟩ := h
        obtain ⟨q10, h⟩ := h
        refine g_iald' (nn := 6) dX0_asksAhead_48 (hS).a1 rfl q9 q10 ?_
        refine g_aload_n dX0_asksAhead_49 rfl ?_
        refine g_getR (k' := (S + 2)) dX0_asksAhead_50 (hS).ob fX0_41 (by decide) rfl ?_
        refine g_iload_n dX0_asksAhead_53 rfl ?_
        refine g_iald' (nn := 6) dX0_asksAhead_54 (hS).a2 rfl q9 q10 ?_
        refine g_callN (Y' := mX8_majority) (d' := 0) (As := [zI a6, zI (mu (S + 1) a3), zI (mu (S + 2) a3)]) (rest := []) (host := RX8) dX0_asksAhead_55 (by decide) vX8_majority (by omega) rfl (Nat.le_of_ble_eq_true rfl) rfl (zC_i h (fun r11 nu12 h => ?_))
        refine g_aload_n dX0_asksAhead_58 rfl ?_
        refine g_getR (k' := (S + 3)) dX0_asksAhead_59 (hS).ob fX0_32 (by decide) rfl ?_
        refine g_iload_n dX0_asksAhead_62 rfl ?_
        refine g_iald' (nn := 6) dX0_asksAhead_63 (hS).a3 rfl q9 q10 ?_
        obtain ⟨q13, h⟩ := h
        obtain ⟨q14, h⟩ := h
        refine g_icmp_ne (tgt := 73) dX0_asksAhead_64 (by decide) q13 q14 (fun c_ => ?_) (fun c_ => ?_)
        · have h := h.1 c_
          refine g_iinc dX0_asksAhead_73 rfl (by decide) rfl ?_
          refine g_goto (tgt := 6) dX0_asksAhead_76 (by decide) ?_
          exact g_wk (zwk_s (zwk_s (zwk_s (zwk_s (zwk_s (zwk_s (zwk_s (zwk_u zwk_n)))))))) h
        · have h := h.2 c_
          refine g_lload dX0_asksAhead_67 rfl ?_
          refine g_lconst (x := 1) dX0_asksAhead_69 rfl ?_
          refine g_ladd dX0_asksAhead_70 ?_
          refine g_lstore dX0_asksAhead_71 (by decide) rfl ?_
          refine g_iinc dX0_asksAhead_73 rfl (by decide) rfl ?_
          refine g_goto (tgt := 6) dX0_asksAhead_76 (by decide) ?_
          exact g_wk (zwk_s (zwk_s (zwk_s (zwk_s (zwk_s (zwk_s (zwk_s (zwk_u zwk_n)))))))) h
theorem sg_X0_findRing_0 {K d : Nat} {mu : Mem} {Q : AV → Mem → Prop} {P S : Int} (hd : 2 ≤ d) (hK : 64 ≤ K) (hP : isP K P) (hS : isS K S) (h : zC K 1 mX6_copyFrom [zR 58, zR S] mu (fun v_ nu2 => v_ = zV ∧ zC K 0 mX0_numberOf [zR 56, zR P, zR 58] nu2 (fun v_ nu4 => ∃ r3, v_ = zJ r3 ∧ zG K d mX0_findRing 25 [zR 56, zR P, zU, zI 1, zU] [] (zup nu4 63 0 r3) Q))) : zG K d mX0_findRing 0 [zR 56, zR P, zR S, zU, zU] [] mu Q := by
  refine g_aload_n dX0_findRing_0 rfl ?_
  refine g_getR (k' := 58) dX0_findRing_1 (o56 hK) fX0_18 (by decide) (by decide) ?_
  refine g_aload_n dX0_findRing_4 rfl ?_
  refine g_callV (Y' := mX6_copyFrom) (d' := 1) (As := [zR S]) (rest := []) dX0_findRing_5 lX0_48 vX6_copyFrom (by omega) (o58 hK) rfl rfl (Nat.le_of_ble_eq_true rfl) rfl (zC_v h (fun nu2 h => ?_))
  refine g_aload_n dX0_findRing_8 rfl ?_
  refine g_getR (k' := 63) dX0_findRing_9 (o56 hK) fX0_22 (by decide) (by decide) ?_
  refine g_iconst dX0_findRing_12 ?_
  refine g_aload_n dX0_findRing_13 rfl ?_
  refine g_aload_n dX0_findRing_14 rfl ?_
  refine g_aload_n dX0_findRing_15 rfl ?_
  refine g_getR (k' := 58) dX0_findRing_16 (o56 hK) fX0_18 (by decide) (by decide) ?_
  refine g_callV (Y' := mX0_numberOf) (d' := 0) (As := [zR P, zR 58]) (rest := [zI 0, zR 63]) dX0_findRing_19 lX0_52 vX0_numberOf (by omega) (o56 hK) rfl rfl (Nat.le_of_ble_eq_true rfl) rfl (zC_j h (fun r3 nu4 h => ?_))
  refine g_last' (nn := 601) dX0_findRing_22 (r63 hK) rfl (by decide) (by decide) ?_
  refine g_iconst dX0_findRing_23 ?_
  refine g_istore_n dX0_findRing_24 (by decide) rfl ?_
  exact g_wk (zwk_s (zwk_s (zwk_u (zwk_s (zwk_s zwk_n))))) h
theorem sg_X0_findRing_25 {K d : Nat} {mu : Mem} {Q : AV → Mem → Prop} {P a3 S : Int} (hd : 2 ≤ d) (hK : 64 ≤ K) (hP : isP K P) (hS : isS K S) (h : (zin a3 ∧ ((600 < a3 → Q (zI 0) mu) ∧ (¬ 600 < a3 → zC K 1 mX0_advance [zR 56, zR P, zR 58] mu (fun v_ nu3 => ∃ r2, v_ = zI r2 ∧ zC K 0 mX0_numberOf [zR 56, zR P, zR 58] nu3 (fun v_ nu5 => ∃ r4, v_ = zJ r4 ∧ (0 ≤ a3 ∧ a3 < 601 ∧ zG K d mX0_findRing 60 [zR 56, zR P, zU, zI a3, zI 0] [] (zup nu5 63 a3 r4) Q))))))) : zG K d mX0_findRing 25 [zR 56, zR P, zU, zI a3, zU] [] mu Q := by
  refine g_iload_n dX0_findRing_25 rfl ?_
  refine g_sipush dX0_findRing_26 rfl ?_
  obtain ⟨q1, h⟩ := h
  refine g_icmp_gt (tgt := 111) dX0_findRing_29 (by decide) q1 (zin_d rfl) (fun c_ => ?_) (fun c_ => ?_)
  · have h := h.1 c_
    refine g_iconst dX0_findRing_111 ?_
    exact g_zreturn dX0_findRing_112 rfl (by decide) h
  · have h := h.2 c_
    refine g_aload_n dX0_findRing_32 rfl ?_
    refine g_aload_n dX0_findRing_33 rfl ?_
    refine g_aload_n dX0_findRing_34 rfl ?_
    refine g_getR (k' := 58) dX0_findRing_35 (o56 hK) fX0_18 (by decide) (by decide) ?_
    refine g_callV (Y' := mX0_advance) (d' := 1) (As := [zR P, zR 58]) (rest := []) dX0_findRing_38 lX0_56 vX0_advance (by omega) (o56 hK) rfl rfl (Nat.le_of_ble_eq_true rfl) rfl (zC_i h (fun r2 nu3 h => ?_))
    refine g_pop dX0_findRing_41 (by simp) ?_
    refine g_aload_n dX0_findRing_42 rfl ?_
    refine g_getR (k' := 63) dX0_findRing_43 (o56 hK) fX0_22 (by decide) (by decide) ?_
    refine g_iload_n dX0_findRing_46 rfl ?_
    refine g_aload_n dX0_findRing_47 rfl ?_
    refine g_aload_n dX0_findRing_48 rfl ?_
    refine g_aload_n dX0_findRing_49 rfl ?_
    refine g_getR (k' := 58) dX0_findRing_50 (o56 hK) fX0_18 (by decide) (by decide) ?_
    refine g_callV (Y' := mX0_numberOf) (d' := 0) (As := [zR P, zR 58]) (rest := [zI a3, zR 63]) dX0_findRing_53 lX0_52 vX0_numberOf (by omega) (o56 hK) rfl rfl (Nat.le_of_ble_eq_true rfl) rfl (zC_j h (fun r4 nu5 h => ?_))
    obtain ⟨q6, h⟩ := h
    obtain ⟨q7, h⟩ := h
    refine g_last' (nn := 601) dX0_findRing_56 (r63 hK) rfl q6 q7 ?_
    refine g_iconst dX0_findRing_57 ?_
    refine g_istore dX0_findRing_58 (by decide) rfl ?_
    exact g_wk (zwk_s (zwk_s (zwk_s (zwk_s (zwk_s zwk_n))))) h
theorem sg_X0_findRing_60 {K d : Nat} {mu : Mem} {Q : AV → Mem → Prop} {P a3 a4 S : Int} (hd : 2 ≤ d) (hK : 64 ≤ K) (hP : isP K P) (hS : isS K S) (h : (zin a4 ∧ zin a3 ∧ ((a3 ≤ a4 → zG K d mX0_findRing 25 [zR 56, zR P, zU, zI (a3 + 1), zU] [] mu Q) ∧ (¬ a3 ≤ a4 → (0 ≤ a4 ∧ a4 < 601 ∧ 0 ≤ a3 ∧ a3 < 601 ∧ zil (mu 63 a4) ∧ zil (mu 63 a3) ∧ ((¬ (mu 63 a4) = (mu 63 a3) → zG K d mX0_findRing 60 [zR 56, zR P, zU, zI a3, zI (a4 + 1)] [] mu Q) ∧ ((mu 63 a4) = (mu 63 a3) → Q (zI 1) (zup (zup mu 56 0 a4) 56 1 (a3 - a4))))))))) : zG K d mX0_findRing 60 [zR 56, zR P, zU, zI a3, zI a4] [] mu Q := by
  refine g_iload dX0_findRing_60 rfl ?_
  refine g_iload_n dX0_findRing_62 rfl ?_
  obtain ⟨q1, h⟩ := h
  obtain ⟨q2, h⟩ := h
  refine g_icmp_ge (tgt := 105) dX0_findRing_63 (by decide) q1 q2 (fun c_ => ?_) (fun c_ => ?_)
  · have h := h.1 c_
    refine g_iinc dX0_findRing_105 rfl (by decide) rfl ?_
    refine g_goto (tgt := 25) dX0_findRing_108 (by decide) ?_
    exact g_wk (zwk_s (zwk_s (zwk_s (zwk_s (zwk_u zwk_n))))) h
  · have h := h.2 c_
    refine g_aload_n dX0_findRing_66 rfl ?_
    refine g_getR (k' := 63) dX0_findRing_67 (o56 hK) fX0_22 (by decide) (by decide) ?_
    refine g_iload dX0_findRing_70 rfl ?_
    obtain ⟨q3, h⟩ := h
    obtain ⟨q4, h⟩ := h
    refine g_lald' (nn := 601) dX0_findRing_72 (r63 hK) rfl q3 q4 ?_
    refine g_aload_n dX0_findRing_73 rfl ?_
    refine g_getR (k' := 63) dX0_findRing_74 (o56 hK) fX0_22 (by decide) (by decide) ?_
    refine g_iload_n dX0_findRing_77 rfl ?_
    obtain ⟨q5, h⟩ := h
    obtain ⟨q6, h⟩ := h
    refine g_lald' (nn := 601) dX0_findRing_78 (r63 hK) rfl q5 q6 ?_
    obtain ⟨q7, h⟩ := h
    obtain ⟨q8, h⟩ := h
    refine g_lcmp_ne (tgt := 99) dX0_findRing_79 dX0_findRing_80 (by decide) q7 q8 (fun c_ => ?_) (fun c_ => ?_)
    · have h := h.1 c_
      refine g_iinc dX0_findRing_99 rfl (by decide) rfl ?_
      refine g_goto (tgt := 60) dX0_findRing_102 (by decide) ?_
      exact g_wk (zwk_s (zwk_s (zwk_s (zwk_s (zwk_s zwk_n))))) h
    · have h := h.2 c_
      refine g_aload_n dX0_findRing_83 rfl ?_
      refine g_iload dX0_findRing_84 rfl ?_
      refine g_putI' (jj := 0) dX0_findRing_86 (o56 hK) pX0_60 rfl rfl ?_
      refine g_aload_n dX0_findRing_89 rfl ?_
      refine g_iload_n dX0_findRing_90 rfl ?_
      refine g_iload dX0_findRing_91 rfl ?_
      refine g_isub dX0_findRing_93 ?_
      refine g_putI' (jj := 1) dX0_findRing_94 (o56 hK) pX0_63 rfl rfl ?_
      refine g_iconst dX0_findRing_97 ?_
      exact g_zreturn dX0_findRing_98 rfl (by decide) h
theorem sg_X0_giftsAhead_0 {K d : Nat} {mu : Mem} {Q : AV → Mem → Prop} {P S a3 : Int} (hd : 0 ≤ d) (hK : 64 ≤ K) (hP : isP K P) (hS : isS K S) (h : zG K d mX0_giftsAhead 6 [zU, zR P, zR S, zI a3, zJ 0, zU, zI 0, zU, zU] [] mu Q) : zG K d mX0_giftsAhead 0 [zR 56, zR P, zR S, zI a3, zU, zU, zU, zU, zU] [] mu Q := by
  refine g_lconst (x := 0) dX0_giftsAhead_0 rfl ?_
  refine g_lstore dX0_giftsAhead_1 (by decide) rfl ?_
  refine g_iconst dX0_giftsAhead_3 ?_
  refine g_istore dX0_giftsAhead_4 (by decide) rfl ?_
  exact g_wk (zwk_u (zwk_s (zwk_s (zwk_s (zwk_s (zwk_s (zwk_s (zwk_s (zwk_s zwk_n))))))))) h
theorem sg_X0_giftsAhead_6 {K d : Nat} {mu : Mem} {Q : AV → Mem → Prop} {P S a3 a4 a6 : Int} (hd : 0 ≤ d) (hK : 64 ≤ K) (hP : isP K P) (hS : isS K S) (h : (zin a6 ∧ ((7 ≤ a6 → Q (zJ a4) mu) ∧ (¬ 7 ≤ a6 → (zin (mu P 0) ∧ ((a6 < (mu P 0) → zG K d mX0_giftsAhead 39 [zU, zR P, zR S, zI a3, zJ a4, zU, zI a6, zI 1, zI 0] [] mu Q) ∧ (¬ a6 < (mu P 0) → ((¬ a6 = 6 → zG K d mX0_giftsAhead 39 [zU, zR P, zR S, zI a3, zJ a4, zU, zI a6, zI 0, zI 0] [] mu Q) ∧ (a6 = 6 → zG K d mX0_giftsAhead 39 [zU, zR P, zR S, zI a3, zJ a4, zU, zI a6, zI 1, zI 0] [] mu Q))))))))) : zG K d mX0_giftsAhead 6 [zU, zR P, zR S, zI a3, zJ a4, zU, zI a6, zU, zU] [] mu Q := by
  refine g_iload dX0_giftsAhead_6 rfl ?_
  refine g_bipush dX0_giftsAhead_8 rfl ?_
  obtain ⟨q1, h⟩ := h
  refine g_icmp_ge (tgt := 106) dX0_giftsAhead_10 (by decide) q1 (zin_d rfl) (fun c_ => ?_) (fun c_ => ?_)
  · have h := h.1 c_
    refine g_lload dX0_giftsAhead_106 rfl ?_
    exact g_lreturn dX0_giftsAhead_108 rfl h
  · have h := h.2 c_
    refine g_iload dX0_giftsAhead_13 rfl ?_
    refine g_aload_n dX0_giftsAhead_15 rfl ?_
    refine g_getI' (jj := 0) dX0_giftsAhead_16 (hP).ob fX0_75 rfl rfl ?_
    obtain ⟨q2, h⟩ := h
    refine g_icmp_lt (tgt := 29) dX0_giftsAhead_19 (by decide) q1 q2 (fun c_ => ?_) (fun c_ => ?_)
    · have h := h.1 c_
      refine g_iconst dX0_giftsAhead_29 ?_
      refine g_goto (tgt := 34) dX0_giftsAhead_30 (by decide) ?_
      refine g_istore dX0_giftsAhead_34 (by decide) rfl ?_
      refine g_iconst dX0_giftsAhead_36 ?_
      refine g_istore dX0_giftsAhead_37 (by decide) rfl ?_
      exact g_wk (zwk_s (zwk_s (zwk_s (zwk_s (zwk_s (zwk_s (zwk_s (zwk_s (zwk_s zwk_n))))))))) h
    · have h := h.2 c_
      refine g_iload dX0_giftsAhead_22 rfl ?_
      refine g_bipush dX0_giftsAhead_24 rfl ?_
      refine g_icmp_ne (tgt := 33) dX0_giftsAhead_26 (by decide) q1 (zin_d rfl) (fun c_ => ?_) (fun c_ => ?_)
      · have h := h.1 c_
        refine g_iconst dX0_giftsAhead_33 ?_
        refine g_istore dX0_giftsAhead_34 (by decide) rfl ?_
        refine g_iconst dX0_giftsAhead_36 ?_
        refine g_istore dX0_giftsAhead_37 (by decide) rfl ?_
        exact g_wk (zwk_s (zwk_s (zwk_s (zwk_s (zwk_s (zwk_s (zwk_s (zwk_s (zwk_s zwk_n))))))))) h
      · have h := h.2 c_
        refine g_iconst dX0_giftsAhead_29 ?_
        refine g_goto (tgt := 34) dX0_giftsAhead_30 (by decide) ?_
        refine g_istore dX0_giftsAhead_34 (by decide) rfl ?_
        refine g_iconst dX0_giftsAhead_36 ?_
        refine g_istore dX0_giftsAhead_37 (by decide) rfl ?_
        exact g_wk (zwk_s (zwk_s (zwk_s (zwk_s (zwk_s (zwk_s (zwk_s (zwk_s (zwk_s zwk_n))))))))) h
theorem sg_X0_giftsAhead_39 {K d : Nat} {mu : Mem} {Q : AV → Mem → Prop} {P S a3 a4 a6 a7 a8 : Int} (hd : 0 ≤ d) (hK : 64 ≤ K) (hP : isP K P) (hS : isS K S) (h : (zin a8 ∧ zin (mu P 4) ∧ (((mu P 4) ≤ a8 → (zin a7 ∧ ((a7 = 0 → zG K d mX0_giftsAhead 6 [zU, zR P, zR S, zI a3, zJ a4, zU, zI (a6 + 1), zU, zU] [] mu Q) ∧ (¬ a7 = 0 → zG K d mX0_giftsAhead 6 [zU, zR P, zR S, zI a3, zJ (a4 + 1), zU, zI (a6 + 1), zU, zU] [] mu Q)))) ∧ (¬ (mu P 4) ≤ a8 → (zin a7 ∧ ((a7 = 0 → zG K d mX0_giftsAhead 39 [zU, zR P, zR S, zI a3, zJ a4, zU, zI a6, zI 0, zI (a8 + 1)] [] mu Q) ∧ (¬ a7 = 0 → (0 ≤ a8 ∧ a8 < 6 ∧ zin (mu (P + 5) a8) ∧ zin a3 ∧ ((¬ (mu (P + 5) a8) = a3 → zG K d mX0_giftsAhead 39 [zU, zR P, zR S, zI a3, zJ a4, zU, zI a6, zI 1, zI (a8 + 1)] [] mu Q) ∧ ((mu (P + 5) a8) = a3 → (zin (mu (S + 2) a8) ∧ zin a6 ∧ ((¬ (mu (S + 2) a8) = a6 → zG K d mX0_giftsAhead 39 [zU, zR P, zR S, zI a3, zJ a4, zU, zI a6, zI 0, zI (a8 + 1)] [] mu Q) ∧ ((mu (S + 2) a8) = a6 → zG K d mX0_giftsAhead 39 [zU, zR P, zR S, zI a3, zJ a4, zU, zI a6, zI 1, zI (a8 + 1)] [] mu Q))))))))))))) : zG K d mX0_giftsAhead 39 [zU, zR P, zR S, zI a3, zJ a4, zU, zI a6, zI a7, zI a8] [] mu Q := by
  refine g_iload dX0_giftsAhead_39 rfl ?_
  refine g_aload_n dX0_giftsAhead_41 rfl ?_
  refine g_getI' (jj := 4) dX0_giftsAhead_42 (hP).ob fX0_26 rfl rfl ?_
  obtain ⟨q1, h⟩ := h
  obtain ⟨q2, h⟩ := h
  refine g_icmp_ge (tgt := 89) dX0_giftsAhead_45 (by decide) q1 q2 (fun c_ => ?_) (fun c_ => ?_)
  · have h := h.1 c_
    refine g_iload dX0_giftsAhead_89 rfl ?_
    obtain ⟨q3, h⟩ := h
    refine g_if_eq (tgt := 100) dX0_giftsAhead_91 (by decide) q3 (fun c_ => ?_) (fun c_ => ?_)
    · have h := h.1 c_
      refine g_iinc dX0_giftsAhead_100 rfl (by decide) rfl ?_
      refine g_goto (tgt := 6) dX0_giftsAhead_103 (by decide) ?_
      exact g_wk (zwk_s (zwk_s (zwk_s (zwk_s (zwk_s (zwk_s (zwk_s (zwk_u (zwk_u zwk_n))))))))) h
    · have h := h.2 c_
      refine g_lload dX0_giftsAhead_94 rfl ?_
      refine g_lconst (x := 1) dX0_giftsAhead_96 rfl ?_
      refine g_ladd dX0_giftsAhead_97 ?_
      refine g_lstore dX0_giftsAhead_98 (by decide) rfl ?_
      refine g_iinc dX0_giftsAhead_100 rfl (by decide) rfl ?_
      refine g_goto (tgt := 6) dX0_giftsAhead_103 (by decide) ?_
      exact g_wk (zwk_s (zwk_s (zwk_s (zwk_s (zwk_s (zwk_s (zwk_s (zwk_u (zwk_u zwk_n))))))))) h
  · have h := h.2 c_
    refine g_iload dX0_giftsAhead_48 rfl ?_
    obtain ⟨q4, h⟩ := h
    refine g_if_eq (tgt := 80) dX0_giftsAhead_50 (by decide) q4 (fun c_ => ?_) (fun c_ => ?_)
    · have h := h.1 c_
      refine g_iconst dX0_giftsAhead_80 ?_
      refine g_istore dX0_giftsAhead_81 (by decide) rfl ?_
      refine g_iinc dX0_giftsAhead_83 rfl (by decide) rfl ?_
      refine g_goto (tgt := 39) dX0_giftsAhead_86 (by decide) ?_
      exact g_wk (zwk_s (zwk_s (zwk_s (zwk_s (zwk_s (zwk_s (zwk_s (zwk_s (zwk_s zwk_n))))))))) h
    · have h := h.2 c_
      refine g_aload_n dX0_giftsAhead_53 rfl ?_
      refine g_getR (k' := (P + 5)) dX0_giftsAhead_54 (hP).ob fX0_35 (by decide) rfl ?_
      refine g_iload dX0_giftsAhead_57 rfl ?_
      obtain ⟨q5, h⟩ := h
      obtain ⟨q6, h⟩ := h
      refine g_iald' (nn := 6) dX0_giftsAhead_59 (hP).a5 rfl q5 q6 ?_
      refine g_iload_n dX0_giftsAhead_60 rfl ?_
      obtain ⟨q7, h⟩ := h
      obtain ⟨q8, h⟩ := h
      refine g_icmp_ne (tgt := 76) dX0_giftsAhead_61 (by decide) q7 q8 (fun c_ => ?_) (fun c_ => ?_)
      · have h := h.1 c_
        refine g_iconst dX0_giftsAhead_76 ?_
        refine g_goto (tgt := 81) dX0_giftsAhead_77 (by decide) ?_
        refine g_istore dX0_giftsAhead_81 (by decide) rfl ?_
        refine g_iinc dX0_giftsAhead_83 rfl (by decide) rfl ?_
        refine g_goto (tgt := 39) dX0_giftsAhead_86 (by decide) ?_
        exact g_wk (zwk_s (zwk_s (zwk_s (zwk_s (zwk_s (zwk_s (zwk_s (zwk_s (zwk_s zwk_n))))))))) h
      · have h := h.2 c_
        refine g_aload_n dX0_giftsAhead_64 rfl ?_
        refine g_getR (k' := (S + 2)) dX0_giftsAhead_65 (hS).ob fX0_41 (by decide) rfl ?_
        refine g_iload dX0_giftsAhead_68 rfl ?_
        refine g_iald' (nn := 6) dX0_giftsAhead_70 (hS).a2 rfl q5 q6 ?_
        refine g_iload dX0_giftsAhead_71 rfl ?_
        obtain ⟨q9, h⟩ := h
        obtain ⟨q10, h⟩ := h
        refine g_icmp_ne (tgt := 80) dX0_giftsAhead_73 (by decide) q9 q10 (fun c_ => ?_) (fun c_ => ?_)
        · have h := h.1 c_
          refine g_iconst dX0_giftsAhead_80 ?_
          refine g_istore dX0_giftsAhead_81 (by decide) rfl ?_
          refine g_iinc dX0_giftsAhead_83 rfl (by decide) rfl ?_
          refine g_goto (tgt := 39) dX0_giftsAhead_86 (by decide) ?_
          exact g_wk (zwk_s (zwk_s (zwk_s (zwk_s (zwk_s (zwk_s (zwk_s (zwk_s (zwk_s zwk_n))))))))) h
        · have h := h.2 c_
          refine g_iconst dX0_giftsAhead_76 ?_
          refine g_goto (tgt := 81) dX0_giftsAhead_77 (by decide) ?_
          refine g_istore dX0_giftsAhead_81 (by decide) rfl ?_
          refine g_iinc dX0_giftsAhead_83 rfl (by decide) rfl ?_
          refine g_goto (tgt := 39) dX0_giftsAhead_86 (by decide) ?_
          exact g_wk (zwk_s (zwk_s (zwk_s (zwk_s (zwk_s (zwk_s (zwk_s (zwk_s (zwk_s zwk_n))))))))) h
theorem sg_X0_numberOf_0 {K d : Nat} {mu : Mem} {Q : AV → Mem → Prop} {P S : Int} (hd : 0 ≤ d) (hK : 64 ≤ K) (hP : isP K P) (hS : isS K S) (h : zG K d mX0_numberOf 5 [zU, zR P, zR S, zJ 0, zU, zI 0] [] mu Q) : zG K d mX0_numberOf 0 [zR 56, zR P, zR S, zU, zU, zU] [] mu Q := by
  refine g_lconst (x := 0) dX0_numberOf_0 rfl ?_
  refine g_lstore_n dX0_numberOf_1 (by decide) rfl ?_
  refine g_iconst dX0_numberOf_2 ?_
  refine g_istore dX0_numberOf_3 (by decide) rfl ?_
  exact g_wk (zwk_u (zwk_s (zwk_s (zwk_s (zwk_s (zwk_s zwk_n)))))) h
theorem sg_X0_numberOf_5 {K d : Nat} {mu : Mem} {Q : AV → Mem → Prop} {P S a3 a5 : Int} (hd : 0 ≤ d) (hK : 64 ≤ K) (hP : isP K P) (hS : isS K S) (h : (zin a5 ∧ zin (mu P 4) ∧ (((mu P 4) ≤ a5 → Q (zJ a3) mu) ∧ (¬ (mu P 4) ≤ a5 → (0 ≤ a5 ∧ a5 < 6 ∧ zin (mu (S + 1) a5) ∧ zin (mu (S + 2) a5) ∧ zin (mu (S + 3) a5) ∧ zG K d mX0_numberOf 5 [zU, zR P, zR S, zJ ((((((a3 * 7) + (mu (S + 1) a5)) * 7) + (mu (S + 2) a5)) * 7) + (mu (S + 3) a5)), zU, zI (a5 + 1)] [] mu Q))))) : zG K d mX0_numberOf 5 [zU, zR P, zR S, zJ a3, zU, zI a5] [] mu Q := by
  refine g_iload dX0_numberOf_5 rfl ?_
  refine g_aload_n dX0_numberOf_7 rfl ?_
  refine g_getI' (jj := 4) dX0_numberOf_8 (hP).ob fX0_26 rfl rfl ?_
  obtain ⟨q1, h⟩ := h
  obtain ⟨q2, h⟩ := h
  refine g_icmp_ge (tgt := 65) dX0_numberOf_11 (by decide) q1 q2 (fun c_ => ?_) (fun c_ => ?_)
  · have h := h.1 c_
    refine g_lload_n dX0_numberOf_65 rfl ?_
    exact g_lreturn dX0_numberOf_66 rfl h
  · have h := h.2 c_
    refine g_lload_n dX0_numberOf_14 rfl ?_
    refine g_ldc2 (x := 7) (zc64 (x := 7) (v := 7) (by decide +kernel) kX0_66) dX0_numberOf_15 ?_
    refine g_lmul dX0_numberOf_18 ?_
    refine g_aload_n dX0_numberOf_19 rfl ?_
    refine g_getR (k' := (S + 1)) dX0_numberOf_20 (hS).ob fX0_38 (by decide) rfl ?_
    refine g_iload dX0_numberOf_23 rfl ?_
    obtain ⟨q3, h⟩ := h
    obtain ⟨q4, h⟩ := h
    refine g_iald' (nn := 6) dX0_numberOf_25 (hS).a1 rfl q3 q4 ?_
    obtain ⟨q5, h⟩ := h
    refine g_i2l dX0_numberOf_26 q5 ?_
    refine g_ladd dX0_numberOf_27 ?_
    refine g_lstore_n dX0_numberOf_28 (by decide) rfl ?_
    refine g_lload_n dX0_numberOf_29 rfl ?_
    refine g_ldc2 (x := 7) (zc64 (x := 7) (v := 7) (by decide +kernel) kX0_66) dX0_numberOf_30 ?_
    refine g_lmul dX0_numberOf_33 ?_
    refine g_aload_n dX0_numberOf_34 rfl ?_
    refine g_getR (k' := (S + 2)) dX0_numberOf_35 (hS).ob fX0_41 (by decide) rfl ?_
    refine g_iload dX0_numberOf_38 rfl ?_
    refine g_iald' (nn := 6) dX0_numberOf_40 (hS).a2 rfl q3 q4 ?_
    obtain ⟨q6, h⟩ := h
    refine g_i2l dX0_numberOf_41 q6 ?_
    refine g_ladd dX0_numberOf_42 ?_
    refine g_lstore_n dX0_numberOf_43 (by decide) rfl ?_
    refine g_lload_n dX0_numberOf_44 rfl ?_
    refine g_ldc2 (x := 7) (zc64 (x := 7) (v := 7) (by decide +kernel) kX0_66) dX0_numberOf_45 ?_
    refine g_lmul dX0_numberOf_48 ?_
    refine g_aload_n dX0_numberOf_49 rfl ?_
    refine g_getR (k' := (S + 3)) dX0_numberOf_50 (hS).ob fX0_32 (by decide) rfl ?_
    refine g_iload dX0_numberOf_53 rfl ?_
    refine g_iald' (nn := 6) dX0_numberOf_55 (hS).a3 rfl q3 q4 ?_
    obtain ⟨q7, h⟩ := h
    refine g_i2l dX0_numberOf_56 q7 ?_
    refine g_ladd dX0_numberOf_57 ?_
    refine g_lstore_n dX0_numberOf_58 (by decide) rfl ?_
    refine g_iinc dX0_numberOf_59 rfl (by decide) rfl ?_
    refine g_goto (tgt := 5) dX0_numberOf_62 (by decide) ?_
    exact g_wk (zwk_s (zwk_s (zwk_s (zwk_s (zwk_s (zwk_s zwk_n)))))) h
theorem sg_X0_statesAhead_0 {K d : Nat} {mu : Mem} {Q : AV → Mem → Prop} {P S : Int} (hd : 2 ≤ d) (hK : 64 ≤ K) (hP : isP K P) (hS : isS K S) (h : zG K d mX0_statesAhead 5 [zR 56, zR P, zR S, zJ 1, zU, zI 0] [] mu Q) : zG K d mX0_statesAhead 0 [zR 56, zR P, zR S, zU, zU, zU] [] mu Q := by
  refine g_lconst (x := 1) dX0_statesAhead_0 rfl ?_
  refine g_lstore_n dX0_statesAhead_1 (by decide) rfl ?_
  refine g_iconst dX0_statesAhead_2 ?_
  refine g_istore dX0_statesAhead_3 (by decide) rfl ?_
  exact g_wk (zwk_s (zwk_s (zwk_s (zwk_s (zwk_s (zwk_s zwk_n)))))) h
theorem sg_X0_statesAhead_5 {K d : Nat} {mu : Mem} {Q : AV → Mem → Prop} {P S a3 a5 : Int} (hd : 2 ≤ d) (hK : 64 ≤ K) (hP : isP K P) (hS : isS K S) (h : (zin a5 ∧ zin (mu P 4) ∧ (((mu P 4) ≤ a5 → Q (zJ a3) mu) ∧ (¬ (mu P 4) ≤ a5 → zC K 1 mX0_asksAhead [zR 56, zR P, zR S, zI a5] mu (fun v_ nu4 => ∃ r3, v_ = zJ r3 ∧ zC K 0 mX0_giftsAhead [zR 56, zR P, zR S, zI a5] nu4 (fun v_ nu6 => ∃ r5, v_ = zJ r5 ∧ zG K d mX0_statesAhead 5 [zR 56, zR P, zR S, zJ (a3 * (r3 * r5)), zU, zI (a5 + 1)] [] nu6 Q)))))) : zG K d mX0_statesAhead 5 [zR 56, zR P, zR S, zJ a3, zU, zI a5] [] mu Q := by
  refine g_iload dX0_statesAhead_5 rfl ?_
  refine g_aload_n dX0_statesAhead_7 rfl ?_
  refine g_getI' (jj := 4) dX0_statesAhead_8 (hP).ob fX0_26 rfl rfl ?_
  obtain ⟨q1, h⟩ := h
  obtain ⟨q2, h⟩ := h
  refine g_icmp_ge (tgt := 40) dX0_statesAhead_11 (by decide) q1 q2 (fun c_ => ?_) (fun c_ => ?_)
  · have h := h.1 c_
    refine g_lload_n dX0_statesAhead_40 rfl ?_
    exact g_lreturn dX0_statesAhead_41 rfl h
  · have h := h.2 c_
    refine g_lload_n dX0_statesAhead_14 rfl ?_
    refine g_aload_n dX0_statesAhead_15 rfl ?_
    refine g_aload_n dX0_statesAhead_16 rfl ?_
    refine g_aload_n dX0_statesAhead_17 rfl ?_
    refine g_iload dX0_statesAhead_18 rfl ?_
    refine g_callV (Y' := mX0_asksAhead) (d' := 1) (As := [zR P, zR S, zI a5]) (rest := [zJ a3]) dX0_statesAhead_20 lX0_68 vX0_asksAhead (by omega) (o56 hK) rfl rfl (Nat.le_of_ble_eq_true rfl) rfl (zC_j h (fun r3 nu4 h => ?_))
    refine g_aload_n dX0_statesAhead_23 rfl ?_
    refine g_aload_n dX0_statesAhead_24 rfl ?_
    refine g_aload_n dX0_statesAhead_25 rfl ?_
    refine g_iload dX0_statesAhead_26 rfl ?_
    refine g_callV (Y' := mX0_giftsAhead) (d' := 0) (As := [zR P, zR S, zI a5]) (rest := [zJ r3, zJ a3]) dX0_statesAhead_28 lX0_72 vX0_giftsAhead (by omega) (o56 hK) rfl rfl (Nat.le_of_ble_eq_true rfl) rfl (zC_j h (fun r5 nu6 h => ?_))
    refine g_lmul dX0_statesAhead_31 ?_
    refine g_lmul dX0_statesAhead_32 ?_
    refine g_lstore_n dX0_statesAhead_33 (by decide) rfl ?_
    refine g_iinc dX0_statesAhead_34 rfl (by decide) rfl ?_
    refine g_goto (tgt := 5) dX0_statesAhead_37 (by decide) ?_
    exact g_wk (zwk_s (zwk_s (zwk_s (zwk_s (zwk_s (zwk_s zwk_n)))))) h
theorem sg_X4_readInto_0 {K d : Nat} {mu : Mem} {Q : AV → Mem → Prop} {P a3 : Int} (hd : 5 ≤ d) (hK : 64 ≤ K) (hP : isP K P) (h : (zin a3 ∧ zC K 1 mX2_clear [zR P] mu (fun v_ nu3 => v_ = zV ∧ zG K d mX4_readInto 18 [zR 2, zR P, zR 1, zU, zI (min a3 300), zI 0, zI 0, zU] [] nu3 Q))) : zG K d mX4_readInto 0 [zR 2, zR P, zR 1, zI a3, zU, zU, zU, zU] [] mu Q := by
  refine g_iload_n dX4_readInto_0 rfl ?_
  refine g_aload_n dX4_readInto_1 rfl ?_
  refine g_alen' (nn := 300) dX4_readInto_2 (r1 hK) (by decide) rfl ?_
  obtain ⟨q1, h⟩ := h
  refine g_min dX4_readInto_3 lX4_15 (by omega) (Nat.le_of_ble_eq_true rfl) q1 (zin_d rfl) ?_
  refine g_istore dX4_readInto_6 (by decide) rfl ?_
  refine g_aload_n dX4_readInto_8 rfl ?_
  refine g_callV (Y' := mX2_clear) (d' := 1) (As := []) (rest := []) dX4_readInto_9 lX4_21 vX2_clear (by omega) (hP).ob rfl rfl (Nat.le_of_ble_eq_true rfl) rfl (zC_v h (fun nu3 h => ?_))
  refine g_iconst dX4_readInto_12 ?_
  refine g_istore dX4_readInto_13 (by decide) rfl ?_
  refine g_iconst dX4_readInto_15 ?_
  refine g_istore dX4_readInto_16 (by decide) rfl ?_
  exact g_wk (zwk_s (zwk_s (zwk_s (zwk_u (zwk_s (zwk_s (zwk_s (zwk_s zwk_n)))))))) h
theorem sg_X4_readInto_18 {K d : Nat} {mu : Mem} {Q : AV → Mem → Prop} {P a4 a5 a6 : Int} (hd : 5 ≤ d) (hK : 64 ≤ K) (hP : isP K P) (h : (zin a6 ∧ ((300 ≤ a6 → Q (zI (-4)) mu) ∧ (¬ 300 ≤ a6 → (zin a5 ∧ zin a4 ∧ ((a4 ≤ a5 → Q (zI (-4)) mu) ∧ (¬ a4 ≤ a5 → zC K 0 mX4_readNumbers [zR 2, zR 1, zI (a5 + 1), zI a4] mu (fun v_ nu5 => ∃ r4, v_ = zI r4 ∧ (zin r4 ∧ ((r4 = (-4) → Q (zI a5) nu5) ∧ (¬ r4 = (-4) → (0 ≤ a5 ∧ a5 < 300 ∧ zC K 4 mX4_tell [zR 2, zR P, zI (nu5 1 a5)] nu5 (fun v_ nu10 => ∃ r9, v_ = zI r9 ∧ (zin r9 ∧ ((¬ r9 = 0 → zG K d mX4_readInto 18 [zR 2, zR P, zR 1, zU, zI a4, zI r4, zI (a6 + 1), zU] [] nu10 Q) ∧ (r9 = 0 → Q (zI a5) nu10)))))))))))))))) : zG K d mX4_readInto 18 [zR 2, zR P, zR 1, zU, zI a4, zI a5, zI a6, zU] [] mu Q := by
  refine g_iload dX4_readInto_18 rfl ?_
  refine g_sipush dX4_readInto_20 rfl ?_
  obtain ⟨q1, h⟩ := h
  refine g_icmp_ge (tgt := 78) dX4_readInto_23 (by decide) q1 (zin_d rfl) (fun c_ => ?_) (fun c_ => ?_)
  · have h := h.1 c_
    refine g_bipush dX4_readInto_78 rfl ?_
    exact g_ireturn dX4_readInto_80 rfl h
  · have h := h.2 c_
    refine g_iload dX4_readInto_26 rfl ?_
    refine g_iload dX4_readInto_28 rfl ?_
    obtain ⟨q2, h⟩ := h
    obtain ⟨q3, h⟩ := h
    refine g_icmp_ge (tgt := 78) dX4_readInto_30 (by decide) q2 q3 (fun c_ => ?_) (fun c_ => ?_)
    · have h := h.1 c_
      refine g_bipush dX4_readInto_78 rfl ?_
      exact g_ireturn dX4_readInto_80 rfl h
    · have h := h.2 c_
      refine g_aload_n dX4_readInto_33 rfl ?_
      refine g_aload_n dX4_readInto_34 rfl ?_
      refine g_iload dX4_readInto_35 rfl ?_
      refine g_iconst dX4_readInto_37 ?_
      refine g_iadd dX4_readInto_38 ?_
      refine g_iload dX4_readInto_39 rfl ?_
      refine g_callV (Y' := mX4_readNumbers) (d' := 0) (As := [zR 1, zI (a5 + 1), zI a4]) (rest := []) dX4_readInto_41 lX4_26 vX4_readNumbers (by omega) (o2 hK) rfl rfl (Nat.le_of_ble_eq_true rfl) rfl (zC_i h (fun r4 nu5 h => ?_))
      refine g_istore dX4_readInto_44 (by decide) rfl ?_
      refine g_iload dX4_readInto_46 rfl ?_
      refine g_bipush dX4_readInto_48 rfl ?_
      obtain ⟨q6, h⟩ := h
      refine g_icmp_eq (tgt := 65) dX4_readInto_50 (by decide) q6 (zin_d rfl) (fun c_ => ?_) (fun c_ => ?_)
      · have h := h.1 c_
        refine g_iload dX4_readInto_65 rfl ?_
        exact g_ireturn dX4_readInto_67 rfl h
      · have h := h.2 c_
        refine g_aload_n dX4_readInto_53 rfl ?_
        refine g_aload_n dX4_readInto_54 rfl ?_
        refine g_aload_n dX4_readInto_55 rfl ?_
        refine g_iload dX4_readInto_56 rfl ?_
        obtain ⟨q7, h⟩ := h
        obtain ⟨q8, h⟩ := h
        refine g_bald' (nn := 300) dX4_readInto_58 (r1 hK) rfl q7 q8 ?_
        refine g_callV (Y' := mX4_tell) (d' := 4) (As := [zR P, zI (nu5 1 a5)]) (rest := []) dX4_readInto_59 lX4_30 vX4_tell (by omega) (o2 hK) rfl rfl (Nat.le_of_ble_eq_true rfl) rfl (zC_i h (fun r9 nu10 h => ?_))
        obtain ⟨q11, h⟩ := h
        refine g_if_ne (tgt := 68) dX4_readInto_62 (by decide) q11 (fun c_ => ?_) (fun c_ => ?_)
        · have h := h.1 c_
          refine g_iload dX4_readInto_68 rfl ?_
          refine g_istore dX4_readInto_70 (by decide) rfl ?_
          refine g_iinc dX4_readInto_72 rfl (by decide) rfl ?_
          refine g_goto (tgt := 18) dX4_readInto_75 (by decide) ?_
          exact g_wk (zwk_s (zwk_s (zwk_s (zwk_s (zwk_s (zwk_s (zwk_s (zwk_u zwk_n)))))))) h
        · have h := h.2 c_
          refine g_iload dX4_readInto_65 rfl ?_
          exact g_ireturn dX4_readInto_67 rfl h
theorem sg_X4_readNumbers_0 {K d : Nat} {mu : Mem} {Q : AV → Mem → Prop} {a2 a3 : Int} (hd : 0 ≤ d) (hK : 64 ≤ K) (h : zG K d mX4_readNumbers 14 [zR 2, zR 1, zU, zI a3, zI 0, zI 0, zI a2, zU] [] (zup mu 2 1 0) Q) : zG K d mX4_readNumbers 0 [zR 2, zR 1, zI a2, zI a3, zU, zU, zU, zU] [] mu Q := by
  refine g_aload_n dX4_readNumbers_0 rfl ?_
  refine g_iconst dX4_readNumbers_1 ?_
  refine g_putI' (jj := 1) dX4_readNumbers_2 (o2 hK) pX4_34 rfl rfl ?_
  refine g_iconst dX4_readNumbers_5 ?_
  refine g_istore dX4_readNumbers_6 (by decide) rfl ?_
  refine g_iconst dX4_readNumbers_8 ?_
  refine g_istore dX4_readNumbers_9 (by decide) rfl ?_
  refine g_iload_n dX4_readNumbers_11 rfl ?_
  refine g_istore dX4_readNumbers_12 (by decide) rfl ?_
  exact g_wk (zwk_s (zwk_s (zwk_u (zwk_s (zwk_s (zwk_s (zwk_s (zwk_s zwk_n)))))))) h
theorem sg_X4_readNumbers_14 {K d : Nat} {mu : Mem} {Q : AV → Mem → Prop} {a3 a4 a5 a6 : Int} (hd : 0 ≤ d) (hK : 64 ≤ K) (h : (zin a6 ∧ zin a3 ∧ ((a3 ≤ a6 → Q (zI (-4)) mu) ∧ (¬ a3 ≤ a6 → (0 ≤ a6 ∧ a6 < 300 ∧ zin (mu 1 a6) ∧ (((mu 1 a6) < 48 → (((mu 1 a6) = 44 → (zin a4 ∧ ((a4 = 0 → Q (zI (-4)) mu) ∧ (¬ a4 = 0 → (zin (mu 2 1) ∧ (((mu 2 1) < 4 → (0 ≤ (mu 2 1) ∧ (mu 2 1) < 4 ∧ ((¬ (mu 1 a6) = 59 → zG K d mX4_readNumbers 14 [zR 2, zR 1, zU, zI a3, zI 0, zI 0, zI (a6 + 1), zU] [] (zup (zup mu 3 (mu 2 1) a5) 2 1 (((zup mu 3 (mu 2 1) a5) 2 1) + 1)) Q) ∧ ((mu 1 a6) = 59 → Q (zI (a6 + 1)) (zup (zup mu 3 (mu 2 1) a5) 2 1 (((zup mu 3 (mu 2 1) a5) 2 1) + 1)))))) ∧ (¬ (mu 2 1) < 4 → Q (zI (-4)) mu))))))) ∧ (¬ (mu 1 a6) = 44 → ((¬ (mu 1 a6) = 59 → Q (zI (-4)) mu) ∧ ((mu 1 a6) = 59 → (zin a4 ∧ ((a4 = 0 → Q (zI (-4)) mu) ∧ (¬ a4 = 0 → (zin (mu 2 1) ∧ (((mu 2 1) < 4 → (0 ≤ (mu 2 1) ∧ (mu 2 1) < 4 ∧ ((¬ (mu 1 a6) = 59 → zG K d mX4_readNumbers 14 [zR 2, zR 1, zU, zI a3, zI 0, zI 0, zI (a6 + 1), zU] [] (zup (zup mu 3 (mu 2 1) a5) 2 1 (((zup mu 3 (mu 2 1) a5) 2 1) + 1)) Q) ∧ ((mu 1 a6) = 59 → Q (zI (a6 + 1)) (zup (zup mu 3 (mu 2 1) a5) 2 1 (((zup mu 3 (mu 2 1) a5) 2 1) + 1)))))) ∧ (¬ (mu 2 1) < 4 → Q (zI (-4)) mu))))))))))) ∧ (¬ (mu 1 a6) < 48 → ((57 < (mu 1 a6) → (((mu 1 a6) = 44 → (zin a4 ∧ ((a4 = 0 → Q (zI (-4)) mu) ∧ (¬ a4 = 0 → (zin (mu 2 1) ∧ (((mu 2 1) < 4 → (0 ≤ (mu 2 1) ∧ (mu 2 1) < 4 ∧ ((¬ (mu 1 a6) = 59 → zG K d mX4_readNumbers 14 [zR 2, zR 1, zU, zI a3, zI 0, zI 0, zI (a6 + 1), zU] [] (zup (zup mu 3 (mu 2 1) a5) 2 1 (((zup mu 3 (mu 2 1) a5) 2 1) + 1)) Q) ∧ ((mu 1 a6) = 59 → Q (zI (a6 + 1)) (zup (zup mu 3 (mu 2 1) a5) 2 1 (((zup mu 3 (mu 2 1) a5) 2 1) + 1)))))) ∧ (¬ (mu 2 1) < 4 → Q (zI (-4)) mu))))))) ∧ (¬ (mu 1 a6) = 44 → ((¬ (mu 1 a6) = 59 → Q (zI (-4)) mu) ∧ ((mu 1 a6) = 59 → (zin a4 ∧ ((a4 = 0 → Q (zI (-4)) mu) ∧ (¬ a4 = 0 → (zin (mu 2 1) ∧ (((mu 2 1) < 4 → (0 ≤ (mu 2 1) ∧ (mu 2 1) < 4 ∧ ((¬ (mu 1 a6) = 59 → zG K d mX4_readNumbers 14 [zR 2, zR 1, zU, zI a3, zI 0, zI 0, zI (a6 + 1), zU] [] (zup (zup mu 3 (mu 2 1) a5) 2 1 (((zup mu 3 (mu 2 1) a5) 2 1) + 1)) Q) ∧ ((mu 1 a6) = 59 → Q (zI (a6 + 1)) (zup (zup mu 3 (mu 2 1) a5) 2 1 (((zup mu 3 (mu 2 1) a5) 2 1) + 1)))))) ∧ (¬ (mu 2 1) < 4 → Q (zI (-4)) mu))))))))))) ∧ (¬ 57 < (mu 1 a6) → (zin a4 ∧ ((3 ≤ a4 → (((mu 1 a6) = 44 → ((a4 = 0 → Q (zI (-4)) mu) ∧ (¬ a4 = 0 → (zin (mu 2 1) ∧ (((mu 2 1) < 4 → (0 ≤ (mu 2 1) ∧ (mu 2 1) < 4 ∧ ((¬ (mu 1 a6) = 59 → zG K d mX4_readNumbers 14 [zR 2, zR 1, zU, zI a3, zI 0, zI 0, zI (a6 + 1), zU] [] (zup (zup mu 3 (mu 2 1) a5) 2 1 (((zup mu 3 (mu 2 1) a5) 2 1) + 1)) Q) ∧ ((mu 1 a6) = 59 → Q (zI (a6 + 1)) (zup (zup mu 3 (mu 2 1) a5) 2 1 (((zup mu 3 (mu 2 1) a5) 2 1) + 1)))))) ∧ (¬ (mu 2 1) < 4 → Q (zI (-4)) mu)))))) ∧ (¬ (mu 1 a6) = 44 → ((¬ (mu 1 a6) = 59 → Q (zI (-4)) mu) ∧ ((mu 1 a6) = 59 → ((a4 = 0 → Q (zI (-4)) mu) ∧ (¬ a4 = 0 → (zin (mu 2 1) ∧ (((mu 2 1) < 4 → (0 ≤ (mu 2 1) ∧ (mu 2 1) < 4 ∧ ((¬ (mu 1 a6) = 59 → zG K d mX4_readNumbers 14 [zR 2, zR 1, zU, zI a3, zI 0, zI 0, zI (a6 + 1), zU] [] (zup (zup mu 3 (mu 2 1) a5) 2 1 (((zup mu 3 (mu 2 1) a5) 2 1) + 1)) Q) ∧ ((mu 1 a6) = 59 → Q (zI (a6 + 1)) (zup (zup mu 3 (mu 2 1) a5) 2 1 (((zup mu 3 (mu 2 1) a5) 2 1) + 1)))))) ∧ (¬ (mu 2 1) < 4 → Q (zI (-4)) mu)))))))))) ∧ (¬ 3 ≤ a4 → zG K d mX4_readNumbers 14 [zR 2, zR 1, zU, zI a3, zI (a4 + 1), zI ((a5 * 10) + ((mu 1 a6) - 48)), zI (a6 + 1), zU] [] mu Q)))))))))))) : zG K d mX4_readNumbers 14 [zR 2, zR 1, zU, zI a3, zI a4, zI a5, zI a6, zU] [] mu Q := by
  refine g_iload dX4_readNumbers_14 rfl ?_
  refine g_iload_n dX4_readNumbers_16 rfl ?_
  obtain ⟨q1, h⟩ := h
  obtain ⟨q2, h⟩ := h
  refine g_icmp_ge (tgt := 140) dX4_readNumbers_17 (by decide) q1 q2 (fun c_ => ?_) (fun c_ => ?_)
  · have h := h.1 c_
    refine g_bipush dX4_readNumbers_140 rfl ?_
    exact g_ireturn dX4_readNumbers_142 rfl h
  · have h := h.2 c_
    refine g_aload_n dX4_readNumbers_20 rfl ?_
    refine g_iload dX4_readNumbers_21 rfl ?_
    obtain ⟨q3, h⟩ := h
    obtain ⟨q4, h⟩ := h
    refine g_bald' (nn := 300) dX4_readNumbers_23 (r1 hK) rfl q3 q4 ?_
    refine g_istore dX4_readNumbers_24 (by decide) rfl ?_
    refine g_iload dX4_readNumbers_26 rfl ?_
    refine g_bipush dX4_readNumbers_28 rfl ?_
    obtain ⟨q5, h⟩ := h
    refine g_icmp_lt (tgt := 65) dX4_readNumbers_30 (by decide) q5 (zin_d rfl) (fun c_ => ?_) (fun c_ => ?_)
    · have h := h.1 c_
      refine g_iload dX4_readNumbers_65 rfl ?_
      refine g_bipush dX4_readNumbers_67 rfl ?_
      refine g_icmp_eq (tgt := 79) dX4_readNumbers_69 (by decide) q5 (zin_d rfl) (fun c_ => ?_) (fun c_ => ?_)
      · have h := h.1 c_
        refine g_iload dX4_readNumbers_79 rfl ?_
        obtain ⟨q6, h⟩ := h
        refine g_if_eq (tgt := 92) dX4_readNumbers_81 (by decide) q6 (fun c_ => ?_) (fun c_ => ?_)
        · have h := h.1 c_
          refine g_bipush dX4_readNumbers_92 rfl ?_
          exact g_ireturn dX4_readNumbers_94 rfl h
        · have h := h.2 c_
          refine g_aload_n dX4_readNumbers_84 rfl ?_
          refine g_getI' (jj := 1) dX4_readNumbers_85 (o2 hK) fX4_34 rfl rfl ?_
          refine g_iconst dX4_readNumbers_88 ?_
          obtain ⟨q7, h⟩ := h
          refine g_icmp_lt (tgt := 95) dX4_readNumbers_89 (by decide) q7 (zin_d rfl) (fun c_ => ?_) (fun c_ => ?_)
          · have h := h.1 c_
            refine g_aload_n dX4_readNumbers_95 rfl ?_
            refine g_getR (k' := 3) dX4_readNumbers_96 (o2 hK) fX4_11 (by decide) (by decide) ?_
            refine g_aload_n dX4_readNumbers_99 rfl ?_
            refine g_getI' (jj := 1) dX4_readNumbers_100 (o2 hK) fX4_34 rfl rfl ?_
            refine g_iload dX4_readNumbers_103 rfl ?_
            obtain ⟨q8, h⟩ := h
            obtain ⟨q9, h⟩ := h
            refine g_iast' (nn := 4) dX4_readNumbers_105 (r3 hK) rfl q8 q9 ?_
            refine g_aload_n dX4_readNumbers_106 rfl ?_
            refine g_dup dX4_readNumbers_107 (by simp) ?_
            refine g_getI' (jj := 1) dX4_readNumbers_108 (o2 hK) fX4_34 rfl rfl ?_
            refine g_iconst dX4_readNumbers_111 ?_
            refine g_iadd dX4_readNumbers_112 ?_
            refine g_putI' (jj := 1) dX4_readNumbers_113 (o2 hK) pX4_34 rfl rfl ?_
            refine g_iconst dX4_readNumbers_116 ?_
            refine g_istore dX4_readNumbers_117 (by decide) rfl ?_
            refine g_iconst dX4_readNumbers_119 ?_
            refine g_istore dX4_readNumbers_120 (by decide) rfl ?_
            refine g_iload dX4_readNumbers_122 rfl ?_
            refine g_bipush dX4_readNumbers_124 rfl ?_
            refine g_icmp_ne (tgt := 134) dX4_readNumbers_126 (by decide) q5 (zin_d rfl) (fun c_ => ?_) (fun c_ => ?_)
            · have h := h.1 c_
              refine g_iinc dX4_readNumbers_134 rfl (by decide) rfl ?_
              refine g_goto (tgt := 14) dX4_readNumbers_137 (by decide) ?_
              exact g_wk (zwk_s (zwk_s (zwk_s (zwk_s (zwk_s (zwk_s (zwk_s (zwk_u zwk_n)))))))) h
            · have h := h.2 c_
              refine g_iload dX4_readNumbers_129 rfl ?_
              refine g_iconst dX4_readNumbers_131 ?_
              refine g_iadd dX4_readNumbers_132 ?_
              exact g_ireturn dX4_readNumbers_133 rfl h
          · have h := h.2 c_
            refine g_bipush dX4_readNumbers_92 rfl ?_
            exact g_ireturn dX4_readNumbers_94 rfl h
      · have h := h.2 c_
        refine g_iload dX4_readNumbers_72 rfl ?_
        refine g_bipush dX4_readNumbers_74 rfl ?_
        refine g_icmp_ne (tgt := 92) dX4_readNumbers_76 (by decide) q5 (zin_d rfl) (fun c_ => ?_) (fun c_ => ?_)
        · have h := h.1 c_
          refine g_bipush dX4_readNumbers_92 rfl ?_
          exact g_ireturn dX4_readNumbers_94 rfl h
        · have h := h.2 c_
          refine g_iload dX4_readNumbers_79 rfl ?_
          obtain ⟨q10, h⟩ := h
          refine g_if_eq (tgt := 92) dX4_readNumbers_81 (by decide) q10 (fun c_ => ?_) (fun c_ => ?_)
          · have h := h.1 c_
            refine g_bipush dX4_readNumbers_92 rfl ?_
            exact g_ireturn dX4_readNumbers_94 rfl h
          · have h := h.2 c_
            refine g_aload_n dX4_readNumbers_84 rfl ?_
            refine g_getI' (jj := 1) dX4_readNumbers_85 (o2 hK) fX4_34 rfl rfl ?_
            refine g_iconst dX4_readNumbers_88 ?_
            obtain ⟨q11, h⟩ := h
            refine g_icmp_lt (tgt := 95) dX4_readNumbers_89 (by decide) q11 (zin_d rfl) (fun c_ => ?_) (fun c_ => ?_)
            · have h := h.1 c_
              refine g_aload_n dX4_readNumbers_95 rfl ?_
              refine g_getR (k' := 3) dX4_readNumbers_96 (o2 hK) fX4_11 (by decide) (by decide) ?_
              refine g_aload_n dX4_readNumbers_99 rfl ?_
              refine g_getI' (jj := 1) dX4_readNumbers_100 (o2 hK) fX4_34 rfl rfl ?_
              refine g_iload dX4_readNumbers_103 rfl ?_
              obtain ⟨q12, h⟩ := h
              obtain ⟨q13, h⟩ := h
              refine g_iast' (nn := 4) dX4_readNumbers_105 (r3 hK) rfl q12 q13 ?_
              refine g_aload_n dX4_readNumbers_106 rfl ?_
              refine g_dup dX4_readNumbers_107 (by simp) ?_
              refine g_getI' (jj := 1) dX4_readNumbers_108 (o2 hK) fX4_34 rfl rfl ?_
              refine g_iconst dX4_readNumbers_111 ?_
              refine g_iadd dX4_readNumbers_112 ?_
              refine g_putI' (jj := 1) dX4_readNumbers_113 (o2 hK) pX4_34 rfl rfl ?_
              refine g_iconst dX4_readNumbers_116 ?_
              refine g_istore dX4_readNumbers_117 (by decide) rfl ?_
              refine g_iconst dX4_readNumbers_119 ?_
              refine g_istore dX4_readNumbers_120 (by decide) rfl ?_
              refine g_iload dX4_readNumbers_122 rfl ?_
              refine g_bipush dX4_readNumbers_124 rfl ?_
              refine g_icmp_ne (tgt := 134) dX4_readNumbers_126 (by decide) q5 (zin_d rfl) (fun c_ => ?_) (fun c_ => ?_)
              · have h := h.1 c_
                refine g_iinc dX4_readNumbers_134 rfl (by decide) rfl ?_
                refine g_goto (tgt := 14) dX4_readNumbers_137 (by decide) ?_
                exact g_wk (zwk_s (zwk_s (zwk_s (zwk_s (zwk_s (zwk_s (zwk_s (zwk_u zwk_n)))))))) h
              · have h := h.2 c_
                refine g_iload dX4_readNumbers_129 rfl ?_
                refine g_iconst dX4_readNumbers_131 ?_
                refine g_iadd dX4_readNumbers_132 ?_
                exact g_ireturn dX4_readNumbers_133 rfl h
            · have h := h.2 c_
              refine g_bipush dX4_readNumbers_92 rfl ?_
              exact g_ireturn dX4_readNumbers_94 rfl h
    · have h := h.2 c_
      refine g_iload dX4_readNumbers_33 rfl ?_
      refine g_bipush dX4_readNumbers_35 rfl ?_
      refine g_icmp_gt (tgt := 65) dX4_readNumbers_37 (by decide) q5 (zin_d rfl) (fun c_ => ?_) (fun c_ => ?_)
      · have h := h.1 c_
        refine g_iload dX4_readNumbers_65 rfl ?_
        refine g_bipush dX4_readNumbers_67 rfl ?_
        refine g_icmp_eq (tgt := 79) dX4_readNumbers_69 (by decide) q5 (zin_d rfl) (fun c_ => ?_) (fun c_ => ?_)
        · have h := h.1 c_
          refine g_iload dX4_readNumbers_79 rfl ?_
          obtain ⟨q14, h⟩ := h
          refine g_if_eq (tgt := 92) dX4_readNumbers_81 (by decide) q14 (fun c_ => ?_) (fun c_ => ?_)
          · have h := h.1 c_
            refine g_bipush dX4_readNumbers_92 rfl ?_
            exact g_ireturn dX4_readNumbers_94 rfl h
          · have h := h.2 c_
            refine g_aload_n dX4_readNumbers_84 rfl ?_
            refine g_getI' (jj := 1) dX4_readNumbers_85 (o2 hK) fX4_34 rfl rfl ?_
            refine g_iconst dX4_readNumbers_88 ?_
            obtain ⟨q15, h⟩ := h
            refine g_icmp_lt (tgt := 95) dX4_readNumbers_89 (by decide) q15 (zin_d rfl) (fun c_ => ?_) (fun c_ => ?_)
            · have h := h.1 c_
              refine g_aload_n dX4_readNumbers_95 rfl ?_
              refine g_getR (k' := 3) dX4_readNumbers_96 (o2 hK) fX4_11 (by decide) (by decide) ?_
              refine g_aload_n dX4_readNumbers_99 rfl ?_
              refine g_getI' (jj := 1) dX4_readNumbers_100 (o2 hK) fX4_34 rfl rfl ?_
              refine g_iload dX4_readNumbers_103 rfl ?_
              obtain ⟨q16, h⟩ := h
              obtain ⟨q17, h⟩ := h
              refine g_iast' (nn := 4) dX4_readNumbers_105 (r3 hK) rfl q16 q17 ?_
              refine g_aload_n dX4_readNumbers_106 rfl ?_
              refine g_dup dX4_readNumbers_107 (by simp) ?_
              refine g_getI' (jj := 1) dX4_readNumbers_108 (o2 hK) fX4_34 rfl rfl ?_
              refine g_iconst dX4_readNumbers_111 ?_
              refine g_iadd dX4_readNumbers_112 ?_
              refine g_putI' (jj := 1) dX4_readNumbers_113 (o2 hK) pX4_34 rfl rfl ?_
              refine g_iconst dX4_readNumbers_116 ?_
              refine g_istore dX4_readNumbers_117 (by decide) rfl ?_
              refine g_iconst dX4_readNumbers_119 ?_
              refine g_istore dX4_readNumbers_120 (by decide) rfl ?_
              refine g_iload dX4_readNumbers_122 rfl ?_
              refine g_bipush dX4_readNumbers_124 rfl ?_
              refine g_icmp_ne (tgt := 134) dX4_readNumbers_126 (by decide) q5 (zin_d rfl) (fun c_ => ?_) (fun c_ => ?_)
              · have h := h.1 c_
                refine g_iinc dX4_readNumbers_134 rfl (by decide) rfl ?_
                refine g_goto (tgt := 14) dX4_readNumbers_137 (by decide) ?_
                exact g_wk (zwk_s (zwk_s (zwk_s (zwk_s (zwk_s (zwk_s (zwk_s (zwk_u zwk_n)))))))) h
              · have h := h.2 c_
                refine g_iload dX4_readNumbers_129 rfl ?_
                refine g_iconst dX4_readNumbers_131 ?_
                refine g_iadd dX4_readNumbers_132 ?_
                exact g_ireturn dX4_readNumbers_133 rfl h
            · have h := h.2 c_
              refine g_bipush dX4_readNumbers_92 rfl ?_
              exact g_ireturn dX4_readNumbers_94 rfl h
        · have h := h.2 c_
          refine g_iload dX4_readNumbers_72 rfl ?_
          refine g_bipush dX4_readNumbers_74 rfl ?_
          refine g_icmp_ne (tgt := 92) dX4_readNumbers_76 (by decide) q5 (zin_d rfl) (fun c_ => ?_) (fun c_ => ?_)
          · have h := h.1 c_
            refine g_bipush dX4_readNumbers_92 rfl ?_
            exact g_ireturn dX4_readNumbers_94 rfl h
          · have h := h.2 c_
            refine g_iload dX4_readNumbers_79 rfl ?_
            obtain ⟨q18, h⟩ := h
            refine g_if_eq (tgt := 92) dX4_readNumbers_81 (by decide) q18 (fun c_ => ?_) (fun c_ => ?_)
            · have h := h.1 c_
              refine g_bipush dX4_readNumbers_92 rfl ?_
              exact g_ireturn dX4_readNumbers_94 rfl h
            · have h := h.2 c_
              refine g_aload_n dX4_readNumbers_84 rfl ?_
              refine g_getI' (jj := 1) dX4_readNumbers_85 (o2 hK) fX4_34 rfl rfl ?_
              refine g_iconst dX4_readNumbers_88 ?_
              obtain ⟨q19, h⟩ := h
              refine g_icmp_lt (tgt := 95) dX4_readNumbers_89 (by decide) q19 (zin_d rfl) (fun c_ => ?_) (fun c_ => ?_)
              · have h := h.1 c_
                refine g_aload_n dX4_readNumbers_95 rfl ?_
                refine g_getR (k' := 3) dX4_readNumbers_96 (o2 hK) fX4_11 (by decide) (by decide) ?_
                refine g_aload_n dX4_readNumbers_99 rfl ?_
                refine g_getI' (jj := 1) dX4_readNumbers_100 (o2 hK) fX4_34 rfl rfl ?_
                refine g_iload dX4_readNumbers_103 rfl ?_
                obtain ⟨q20, h⟩ := h
                obtain ⟨q21, h⟩ := h
                refine g_iast' (nn := 4) dX4_readNumbers_105 (r3 hK) rfl q20 q21 ?_
                refine g_aload_n dX4_readNumbers_106 rfl ?_
                refine g_dup dX4_readNumbers_107 (by simp) ?_
                refine g_getI' (jj := 1) dX4_readNumbers_108 (o2 hK) fX4_34 rfl rfl ?_
                refine g_iconst dX4_readNumbers_111 ?_
                refine g_iadd dX4_readNumbers_112 ?_
                refine g_putI' (jj := 1) dX4_readNumbers_113 (o2 hK) pX4_34 rfl rfl ?_
                refine g_iconst dX4_readNumbers_116 ?_
                refine g_istore dX4_readNumbers_117 (by decide) rfl ?_
                refine g_iconst dX4_readNumbers_119 ?_
                refine g_istore dX4_readNumbers_120 (by decide) rfl ?_
                refine g_iload dX4_readNumbers_122 rfl ?_
                refine g_bipush dX4_readNumbers_124 rfl ?_
                refine g_icmp_ne (tgt := 134) dX4_readNumbers_126 (by decide) q5 (zin_d rfl) (fun c_ => ?_) (fun c_ => ?_)
                · have h := h.1 c_
                  refine g_iinc dX4_readNumbers_134 rfl (by decide) rfl ?_
                  refine g_goto (tgt := 14) dX4_readNumbers_137 (by decide) ?_
                  exact g_wk (zwk_s (zwk_s (zwk_s (zwk_s (zwk_s (zwk_s (zwk_s (zwk_u zwk_n)))))))) h
                · have h := h.2 c_
                  refine g_iload dX4_readNumbers_129 rfl ?_
                  refine g_iconst dX4_readNumbers_131 ?_
                  refine g_iadd dX4_readNumbers_132 ?_
                  exact g_ireturn dX4_readNumbers_133 rfl h
              · have h := h.2 c_
                refine g_bipush dX4_readNumbers_92 rfl ?_
                exact g_ireturn dX4_readNumbers_94 rfl h
      · have h := h.2 c_
        refine g_iload dX4_readNumbers_40 rfl ?_
        refine g_iconst dX4_readNumbers_42 ?_
        obtain ⟨q22, h⟩ := h
        refine g_icmp_ge (tgt := 65) dX4_readNumbers_43 (by decide) q22 (zin_d rfl) (fun c_ => ?_) (fun c_ => ?_)
        · have h := h.1 c_
          refine g_iload dX4_readNumbers_65 rfl ?_
          refine g_bipush dX4_readNumbers_67 rfl ?_
          refine g_icmp_eq (tgt := 79) dX4_readNumbers_69 (by decide) q5 (zin_d rfl) (fun c_ => ?_) (fun c_ => ?_)
          · have h := h.1 c_
            refine g_iload dX4_readNumbers_79 rfl ?_
            refine g_if_eq (tgt := 92) dX4_readNumbers_81 (by decide) q22 (fun c_ => ?_) (fun c_ => ?_)
            · have h := h.1 c_
              refine g_bipush dX4_readNumbers_92 rfl ?_
              exact g_ireturn dX4_readNumbers_94 rfl h
            · have h := h.2 c_
              refine g_aload_n dX4_readNumbers_84 rfl ?_
              refine g_getI' (jj := 1) dX4_readNumbers_85 (o2 hK) fX4_34 rfl rfl ?_
              refine g_iconst dX4_readNumbers_88 ?_
              obtain ⟨q23, h⟩ := h
              refine g_icmp_lt (tgt := 95) dX4_readNumbers_89 (by decide) q23 (zin_d rfl) (fun c_ => ?_) (fun c_ => ?_)
              · have h := h.1 c_
                refine g_aload_n dX4_readNumbers_95 rfl ?_
                refine g_getR (k' := 3) dX4_readNumbers_96 (o2 hK) fX4_11 (by decide) (by decide) ?_
                refine g_aload_n dX4_readNumbers_99 rfl ?_
                refine g_getI' (jj := 1) dX4_readNumbers_100 (o2 hK) fX4_34 rfl rfl ?_
                refine g_iload dX4_readNumbers_103 rfl ?_
                obtain ⟨q24, h⟩ := h
                obtain ⟨q25, h⟩ := h
                refine g_iast' (nn := 4) dX4_readNumbers_105 (r3 hK) rfl q24 q25 ?_
                refine g_aload_n dX4_readNumbers_106 rfl ?_
                refine g_dup dX4_readNumbers_107 (by simp) ?_
                refine g_getI' (jj := 1) dX4_readNumbers_108 (o2 hK) fX4_34 rfl rfl ?_
                refine g_iconst dX4_readNumbers_111 ?_
                refine g_iadd dX4_readNumbers_112 ?_
                refine g_putI' (jj := 1) dX4_readNumbers_113 (o2 hK) pX4_34 rfl rfl ?_
                refine g_iconst dX4_readNumbers_116 ?_
                refine g_istore dX4_readNumbers_117 (by decide) rfl ?_
                refine g_iconst dX4_readNumbers_119 ?_
                refine g_istore dX4_readNumbers_120 (by decide) rfl ?_
                refine g_iload dX4_readNumbers_122 rfl ?_
                refine g_bipush dX4_readNumbers_124 rfl ?_
                refine g_icmp_ne (tgt := 134) dX4_readNumbers_126 (by decide) q5 (zin_d rfl) (fun c_ => ?_) (fun c_ => ?_)
                · have h := h.1 c_
                  refine g_iinc dX4_readNumbers_134 rfl (by decide) rfl ?_
                  refine g_goto (tgt := 14) dX4_readNumbers_137 (by decide) ?_
                  exact g_wk (zwk_s (zwk_s (zwk_s (zwk_s (zwk_s (zwk_s (zwk_s (zwk_u zwk_n)))))))) h
                · have h := h.2 c_
                  refine g_iload dX4_readNumbers_129 rfl ?_
                  refine g_iconst dX4_readNumbers_131 ?_
                  refine g_iadd dX4_readNumbers_132 ?_
                  exact g_ireturn dX4_readNumbers_133 rfl h
              · have h := h.2 c_
                refine g_bipush dX4_readNumbers_92 rfl ?_
                exact g_ireturn dX4_readNumbers_94 rfl h
          · have h := h.2 c_
            refine g_iload dX4_readNumbers_72 rfl ?_
            refine g_bipush dX4_readNumbers_74 rfl ?_
            refine g_icmp_ne (tgt := 92) dX4_readNumbers_76 (by decide) q5 (zin_d rfl) (fun c_ => ?_) (fun c_ => ?_)
            · have h := h.1 c_
              refine g_bipush dX4_readNumbers_92 rfl ?_
              exact g_ireturn dX4_readNumbers_94 rfl h
            · have h := h.2 c_
              refine g_iload dX4_readNumbers_79 rfl ?_
              refine g_if_eq (tgt := 92) dX4_readNumbers_81 (by decide) q22 (fun c_ => ?_) (fun c_ => ?_)
              · have h := h.1 c_
                refine g_bipush dX4_readNumbers_92 rfl ?_
                exact g_ireturn dX4_readNumbers_94 rfl h
              · have h := h.2 c_
                refine g_aload_n dX4_readNumbers_84 rfl ?_
                refine g_getI' (jj := 1) dX4_readNumbers_85 (o2 hK) fX4_34 rfl rfl ?_
                refine g_iconst dX4_readNumbers_88 ?_
                obtain ⟨q26, h⟩ := h
                refine g_icmp_lt (tgt := 95) dX4_readNumbers_89 (by decide) q26 (zin_d rfl) (fun c_ => ?_) (fun c_ => ?_)
                · have h := h.1 c_
                  refine g_aload_n dX4_readNumbers_95 rfl ?_
                  refine g_getR (k' := 3) dX4_readNumbers_96 (o2 hK) fX4_11 (by decide) (by decide) ?_
                  refine g_aload_n dX4_readNumbers_99 rfl ?_
                  refine g_getI' (jj := 1) dX4_readNumbers_100 (o2 hK) fX4_34 rfl rfl ?_
                  refine g_iload dX4_readNumbers_103 rfl ?_
                  obtain ⟨q27, h⟩ := h
                  obtain ⟨q28, h⟩ := h
                  refine g_iast' (nn := 4) dX4_readNumbers_105 (r3 hK) rfl q27 q28 ?_
                  refine g_aload_n dX4_readNumbers_106 rfl ?_
                  refine g_dup dX4_readNumbers_107 (by simp) ?_
                  refine g_getI' (jj := 1) dX4_readNumbers_108 (o2 hK) fX4_34 rfl rfl ?_
                  refine g_iconst dX4_readNumbers_111 ?_
                  refine g_iadd dX4_readNumbers_112 ?_
                  refine g_putI' (jj := 1) dX4_readNumbers_113 (o2 hK) pX4_34 rfl rfl ?_
                  refine g_iconst dX4_readNumbers_116 ?_
                  refine g_istore dX4_readNumbers_117 (by decide) rfl ?_
                  refine g_iconst dX4_readNumbers_119 ?_
                  refine g_istore dX4_readNumbers_120 (by decide) rfl ?_
                  refine g_iload dX4_readNumbers_122 rfl ?_
                  refine g_bipush dX4_readNumbers_124 rfl ?_
                  refine g_icmp_ne (tgt := 134) dX4_readNumbers_126 (by decide) q5 (zin_d rfl) (fun c_ => ?_) (fun c_ => ?_)
                  · have h := h.1 c_
                    refine g_iinc dX4_readNumbers_134 rfl (by decide) rfl ?_
                    refine g_goto (tgt := 14) dX4_readNumbers_137 (by decide) ?_
                    exact g_wk (zwk_s (zwk_s (zwk_s (zwk_s (zwk_s (zwk_s (zwk_s (zwk_u zwk_n)))))))) h
                  · have h := h.2 c_
                    refine g_iload dX4_readNumbers_129 rfl ?_
                    refine g_iconst dX4_readNumbers_131 ?_
                    refine g_iadd dX4_readNumbers_132 ?_
                    exact g_ireturn dX4_readNumbers_133 rfl h
                · have h := h.2 c_
                  refine g_bipush dX4_readNumbers_92 rfl ?_
                  exact g_ireturn dX4_readNumbers_94 rfl h
        · have h := h.2 c_
          refine g_iload dX4_readNumbers_46 rfl ?_
          refine g_bipush dX4_readNumbers_48 rfl ?_
          refine g_imul dX4_readNumbers_50 ?_
          refine g_iload dX4_readNumbers_51 rfl ?_
          refine g_bipush dX4_readNumbers_53 rfl ?_
          refine g_isub dX4_readNumbers_55 ?_
          refine g_iadd dX4_readNumbers_56 ?_
          refine g_istore dX4_readNumbers_57 (by decide) rfl ?_
          refine g_iinc dX4_readNumbers_59 rfl (by decide) rfl ?_
          refine g_goto (tgt := 134) dX4_readNumbers_62 (by decide) ?_
          refine g_iinc dX4_readNumbers_134 rfl (by decide) rfl ?_
          refine g_goto (tgt := 14) dX4_readNumbers_137 (by decide) ?_
          exact g_wk (zwk_s (zwk_s (zwk_s (zwk_s (zwk_s (zwk_s (zwk_s (zwk_u zwk_n)))))))) h
theorem sg_X4_tell_0 {K d : Nat} {mu : Mem} {Q : AV → Mem → Prop} {P a2 : Int} (hd : 4 ≤ d) (hK : 64 ≤ K) (hP : isP K P) (h : (zin a2 ∧ (((a2 < 98 ∨ 118 < a2) → Q (zI 0) mu) ∧ (a2 = 98 → (zin (mu 2 1) ∧ ((¬ (mu 2 1) = 1 → Q (zI 0) mu) ∧ ((mu 2 1) = 1 → zC K 2 mX2_addAsked [zR P, zI (mu 3 0)] mu (fun v_ nu4 => ∃ r3, v_ = zI r3 ∧ (zin r3 ∧ ((r3 = 0 → Q (zI 0) nu4) ∧ (¬ r3 = 0 → Q (zI 1) nu4)))))))) ∧ (a2 = 99 → (zin (mu 2 1) ∧ ((¬ (mu 2 1) = 2 → Q (zI 0) mu) ∧ ((mu 2 1) = 2 → zC K 2 mX2_setParts [zR P, zI (mu 3 0), zI (mu 3 1)] mu (fun v_ nu8 => ∃ r7, v_ = zI r7 ∧ (zin r7 ∧ ((r7 = 0 → Q (zI 0) nu8) ∧ (¬ r7 = 0 → Q (zI 1) nu8)))))))) ∧ (a2 = 100 → Q (zI 0) mu) ∧ (a2 = 101 → Q (zI 0) mu) ∧ (a2 = 102 → Q (zI 0) mu) ∧ (a2 = 103 → Q (zI 0) mu) ∧ (a2 = 104 → Q (zI 0) mu) ∧ (a2 = 105 → Q (zI 0) mu) ∧ (a2 = 106 → Q (zI 0) mu) ∧ (a2 = 107 → Q (zI 0) mu) ∧ (a2 = 108 → Q (zI 0) mu) ∧ (a2 = 109 → (zin (mu 2 1) ∧ ((¬ (mu 2 1) = 1 → Q (zI 0) mu) ∧ ((mu 2 1) = 1 → zC K 1 mX2_setKind [zR P, zI (mu 3 0)] mu (fun v_ nu12 => ∃ r11, v_ = zI r11 ∧ (zin r11 ∧ ((r11 = 0 → Q (zI 0) nu12) ∧ (¬ r11 = 0 → Q (zI 1) nu12)))))))) ∧ (a2 = 110 → Q (zI 0) mu) ∧ (a2 = 111 → Q (zI 0) mu) ∧ (a2 = 112 → (zin (mu 2 1) ∧ ((¬ (mu 2 1) = 4 → Q (zI 0) mu) ∧ ((mu 2 1) = 4 → zC K 3 mX2_addPost [zR P, zI (mu 3 0), zI (mu 3 1), zI (mu 3 2), zI (mu 3 3)] mu (fun v_ nu16 => ∃ r15, v_ = zI r15 ∧ (zin r15 ∧ ((r15 = 0 → Q (zI 0) nu16) ∧ (¬ r15 = 0 → Q (zI 1) nu16)))))))) ∧ (a2 = 113 → (zin (mu 2 1) ∧ ((¬ (mu 2 1) = 1 → Q (zI 0) mu) ∧ ((mu 2 1) = 1 → zC K 2 mX2_addWish [zR P, zI (mu 3 0)] mu (fun v_ nu20 => ∃ r19, v_ = zI r19 ∧ (zin r19 ∧ ((r19 = 0 → Q (zI 0) nu20) ∧ (¬ r19 = 0 → Q (zI 1) nu20)))))))) ∧ (a2 = 114 → Q (zI 0) mu) ∧ (a2 = 115 → Q (zI 0) mu) ∧ (a2 = 116 → (zin (mu 2 1) ∧ ((¬ (mu 2 1) = 1 → Q (zI 0) mu) ∧ ((mu 2 1) = 1 → zC K 1 mX2_setThings [zR P, zI (mu 3 0)] mu (fun v_ nu24 => ∃ r23, v_ = zI r23 ∧ (zin r23 ∧ ((r23 = 0 → Q (zI 0) nu24) ∧ (¬ r23 = 0 → Q (zI 1) nu24)))))))) ∧ (a2 = 117 → Q (zI 0) mu) ∧ (a2 = 118 → (zin (mu 2 1) ∧ ((¬ (mu 2 1) = 3 → Q (zI 0) mu) ∧ ((mu 2 1) = 3 → zC K 3 mX2_setWorth [zR P, zI (mu 3 0), zI (mu 3 1), zI (mu 3 2)] mu (fun v_ nu28 => ∃ r27, v_ = zI r27 ∧ (zin r27 ∧ ((r27 = 0 → Q (zI 0) nu28) ∧ (¬ r27 = 0 → Q (zI 1) nu28))))))))))) : zG K d mX4_tell 0 [zR 2, zR P, zI a2, zU, zU, zU] [] mu Q := by
  refine g_aload_n dX4_tell_0 rfl ?_
  refine g_getR (k' := 3) dX4_tell_1 (o2 hK) fX4_11 (by decide) (by decide) ?_
  refine g_iconst dX4_tell_4 ?_
  refine g_iald' (nn := 4) dX4_tell_5 (r3 hK) rfl (by decide) (by decide) ?_
  refine g_istore_n dX4_tell_6 (by decide) rfl ?_
  refine g_aload_n dX4_tell_7 rfl ?_
  refine g_getR (k' := 3) dX4_tell_8 (o2 hK) fX4_11 (by decide) (by decide) ?_
  refine g_iconst dX4_tell_11 ?_
  refine g_iald' (nn := 4) dX4_tell_12 (r3 hK) rfl (by decide) (by decide) ?_
  refine g_istore dX4_tell_13 (by decide) rfl ?_
  refine g_aload_n dX4_tell_15 rfl ?_
  refine g_getR (k' := 3) dX4_tell_16 (o2 hK) fX4_11 (by decide) (by decide) ?_
  refine g_iconst dX4_tell_19 ?_
  refine g_iald' (nn := 4) dX4_tell_20 (r3 hK) rfl (by decide) (by decide) ?_
  refine g_istore dX4_tell_21 (by decide) rfl ?_
  refine g_iload_n dX4_tell_23 rfl ?_
  obtain ⟨q1, h⟩ := h
  by_cases hsw : a2 < 98 ∨ 118 < a2
  · have h := h.1 hsw
    refine g_swOut (tgt := 294) dX4_tell_24 q1 hsw (by decide) ?_
    refine g_iconst dX4_tell_294 ?_
    exact g_zreturn dX4_tell_295 rfl (by decide) h
  · have h := h.2
    have hsw1 : 98 ≤ a2 := by omega
    have hsw2 : a2 ≤ 118 := by omega
    by_cases hc98 : a2 = 98
    · have h := h.1 hc98
      refine g_swIn (tgt := 168) dX4_tell_24 q1 hsw1 hsw2 (by rw [hc98]; rfl) (by decide) ?_
      refine g_aload_n dX4_tell_168 rfl ?_
      refine g_getI' (jj := 1) dX4_tell_169 (o2 hK) fX4_34 rfl rfl ?_
      refine g_iconst dX4_tell_172 ?_
      obtain ⟨q2, h⟩ := h
      refine g_icmp_ne (tgt := 188) dX4_tell_173 (by decide) q2 (zin_d rfl) (fun c_ => ?_) (fun c_ => ?_)
      · have h := h.1 c_
        refine g_iconst dX4_tell_188 ?_
        exact g_zreturn dX4_tell_189 rfl (by decide) h
      · have h := h.2 c_
        refine g_aload_n dX4_tell_176 rfl ?_
        refine g_iload_n dX4_tell_177 rfl ?_
        refine g_callV (Y' := mX2_addAsked) (d' := 2) (As := [zI (mu 3 0)]) (rest := []) dX4_tell_178 lX4_45 vX2_addAsked (by omega) (hP).ob rfl rfl (Nat.le_of_ble_eq_true rfl) rfl (zC_i h (fun r3 nu4 h => ?_))
        obtain ⟨q5, h⟩ := h
        refine g_if_eq (tgt := 188) dX4_tell_181 (by decide) q5 (fun c_ => ?_) (fun c_ => ?_)
        · have h := h.1 c_
          refine g_iconst dX4_tell_188 ?_
          exact g_zreturn dX4_tell_189 rfl (by decide) h
        · have h := h.2 c_
          refine g_iconst dX4_tell_184 ?_
          refine g_goto (tgt := 189) dX4_tell_185 (by decide) ?_
          exact g_zreturn dX4_tell_189 rfl (by decide) h
    by_cases hc99 : a2 = 99
    · have h := h.2.1 hc99
      refine g_swIn (tgt := 238) dX4_tell_24 q1 hsw1 hsw2 (by rw [hc99]; rfl) (by decide) ?_
      refine g_aload_n dX4_tell_238 rfl ?_
      refine g_getI' (jj := 1) dX4_tell_239 (o2 hK) fX4_34 rfl rfl ?_
      refine g_iconst dX4_tell_242 ?_
      obtain ⟨q6, h⟩ := h
      refine g_icmp_ne (tgt := 260) dX4_tell_243 (by decide) q6 (zin_d rfl) (fun c_ => ?_) (fun c_ => ?_)
      · have h := h.1 c_
        refine g_iconst dX4_tell_260 ?_
        exact g_zreturn dX4_tell_261 rfl (by decide) h
      · have h := h.2 c_
        refine g_aload_n dX4_tell_246 rfl ?_
        refine g_iload_n dX4_tell_247 rfl ?_
        refine g_iload dX4_tell_248 rfl ?_
        refine g_callV (Y' := mX2_setParts) (d' := 2) (As := [zI (mu 3 0), zI (mu 3 1)]) (rest := []) dX4_tell_250 lX4_55 vX2_setParts (by omega) (hP).ob rfl rfl (Nat.le_of_ble_eq_true rfl) rfl (zC_i h (fun r7 nu8 h => ?_))
        obtain ⟨q9, h⟩ := h
        refine g_if_eq (tgt := 260) dX4_tell_253 (by decide) q9 (fun c_ => ?_) (fun c_ => ?_)
        · have h := h.1 c_
          refine g_iconst dX4_tell_260 ?_
          exact g_zreturn dX4_tell_261 rfl (by decide) h
        · have h := h.2 c_
          refine g_iconst dX4_tell_256 ?_
          refine g_goto (tgt := 261) dX4_tell_257 (by decide) ?_
          exact g_zreturn dX4_tell_261 rfl (by decide) h
    by_cases hc100 : a2 = 100
    · have h := h.2.2.1 hc100
      refine g_swIn (tgt := 294) dX4_tell_24 q1 hsw1 hsw2 (by rw [hc100]; rfl) (by decide) ?_
      refine g_iconst dX4_tell_294 ?_
      exact g_zreturn dX4_tell_295 rfl (by decide) h
    by_cases hc101 : a2 = 101
    · have h := h.2.2.2.1 hc101
      refine g_swIn (tgt := 294) dX4_tell_24 q1 hsw1 hsw2 (by rw [hc101]; rfl) (by decide) ?_
      refine g_iconst dX4_tell_294 ?_
      exact g_zreturn dX4_tell_295 rfl (by decide) h
    by_cases hc102 : a2 = 102
    · have h := h.2.2.2.2.1 hc102
      refine g_swIn (tgt := 294) dX4_tell_24 q1 hsw1 hsw2 (by rw [hc102]; rfl) (by decide) ?_
      refine g_iconst dX4_tell_294 ?_
      exact g_zreturn dX4_tell_295 rfl (by decide) h
    by_cases hc103 : a2 = 103
    · have h := h.2.2.2.2.2.1 hc103
      refine g_swIn (tgt := 294) dX4_tell_24 q1 hsw1 hsw2 (by rw [hc103]; rfl) (by decide) ?_
      refine g_iconst dX4_tell_294 ?_
      exact g_zreturn dX4_tell_295 rfl (by decide) h
    by_cases hc104 : a2 = 104
    · have h := h.2.2.2.2.2.2.1 hc104
      refine g_swIn (tgt := 294) dX4_tell_24 q1 hsw1 hsw2 (by rw [hc104]; rfl) (by decide) ?_
      refine g_iconst dX4_tell_294 ?_
      exact g_zreturn dX4_tell_295 rfl (by decide) h
    by_cases hc105 : a2 = 105
    · have h := h.2.2.2.2.2.2.2.1 hc105
      refine g_swIn (tgt := 294) dX4_tell_24 q1 hsw1 hsw2 (by rw [hc105]; rfl) (by decide) ?_
      refine g_iconst dX4_tell_294 ?_
      exact g_zreturn dX4_tell_295 rfl (by decide) h
    by_cases hc106 : a2 = 106
    · have h := h.2.2.2.2.2.2.2.2.1 hc106
      refine g_swIn (tgt := 294) dX4_tell_24 q1 hsw1 hsw2 (by rw [hc106]; rfl) (by decide) ?_
      refine g_iconst dX4_tell_294 ?_
      exact g_zreturn dX4_tell_295 rfl (by decide) h
    by_cases hc107 : a2 = 107
    · have h := h.2.2.2.2.2.2.2.2.2.1 hc107
      refine g_swIn (tgt := 294) dX4_tell_24 q1 hsw1 hsw2 (by rw [hc107]; rfl) (by decide) ?_
      refine g_iconst dX4_tell_294 ?_
      exact g_zreturn dX4_tell_295 rfl (by decide) h
    by_cases hc108 : a2 = 108
    · have h := h.2.2.2.2.2.2.2.2.2.2.1 hc108
      refine g_swIn (tgt := 294) dX4_tell_24 q1 hsw1 hsw2 (by rw [hc108]; rfl) (by decide) ?_
      refine g_iconst dX4_tell_294 ?_
      exact g_zreturn dX4_tell_295 rfl (by decide) h
    by_cases hc109 : a2 = 109
    · have h := h.2.2.2.2.2.2.2.2.2.2.2.1 hc109
      refine g_swIn (tgt := 146) dX4_tell_24 q1 hsw1 hsw2 (by rw [hc109]; rfl) (by decide) ?_
      refine g_aload_n dX4_tell_146 rfl ?_
      refine g_getI' (jj := 1) dX4_tell_147 (o2 hK) fX4_34 rfl rfl ?_
      refine g_iconst dX4_tell_150 ?_
      obtain ⟨q10, h⟩ := h
      refine g_icmp_ne (tgt := 166) dX4_tell_151 (by decide) q10 (zin_d rfl) (fun c_ => ?_) (fun c_ => ?_)
      · have h := h.1 c_
        refine g_iconst dX4_tell_166 ?_
        exact g_zreturn dX4_tell_167 rfl (by decide) h
      · have h := h.2 c_
        refine g_aload_n dX4_tell_154 rfl ?_
        refine g_iload_n dX4_tell_155 rfl ?_
        refine g_callV (Y' := mX2_setKind) (d' := 1) (As := [zI (mu 3 0)]) (rest := []) dX4_tell_156 lX4_42 vX2_setKind (by omega) (hP).ob rfl rfl (Nat.le_of_ble_eq_true rfl) rfl (zC_i h (fun r11 nu12 h => ?_))
        obtain ⟨q13, h⟩ := h
        refine g_if_eq (tgt := 166) dX4_tell_159 (by decide) q13 (fun c_ => ?_) (fun c_ => ?_)
        · have h := h.1 c_
          refine g_iconst dX4_tell_166 ?_
          exact g_zreturn dX4_tell_167 rfl (by decide) h
        · have h := h.2 c_
          refine g_iconst dX4_tell_162 ?_
          refine g_goto (tgt := 167) dX4_tell_163 (by decide) ?_
          exact g_zreturn dX4_tell_167 rfl (by decide) h
    by_cases hc110 : a2 = 110
    · have h := h.2.2.2.2.2.2.2.2.2.2.2.2.1 hc110
      refine g_swIn (tgt := 294) dX4_tell_24 q1 hsw1 hsw2 (by rw [hc110]; rfl) (by decide) ?_
      refine g_iconst dX4_tell_294 ?_
      exact g_zreturn dX4_tell_295 rfl (by decide) h
    by_cases hc111 : a2 = 111
    · have h := h.2.2.2.2.2.2.2.2.2.2.2.2.2.1 hc111
      refine g_swIn (tgt := 294) dX4_tell_24 q1 hsw1 hsw2 (by rw [hc111]; rfl) (by decide) ?_
      refine g_iconst dX4_tell_294 ?_
      exact g_zreturn dX4_tell_295 rfl (by decide) h
    by_cases hc112 : a2 = 112
    · have h := h.2.2.2.2.2.2.2.2.2.2.2.2.2.2.1 hc112
      refine g_swIn (tgt := 262) dX4_tell_24 q1 hsw1 hsw2 (by rw [hc112]; rfl) (by decide) ?_
      refine g_aload_n dX4_tell_262 rfl ?_
      refine g_getI' (jj := 1) dX4_tell_263 (o2 hK) fX4_34 rfl rfl ?_
      refine g_iconst dX4_tell_266 ?_
      obtain ⟨q14, h⟩ := h
      refine g_icmp_ne (tgt := 292) dX4_tell_267 (by decide) q14 (zin_d rfl) (fun c_ => ?_) (fun c_ => ?_)
      · have h := h.1 c_
        refine g_iconst dX4_tell_292 ?_
        exact g_zreturn dX4_tell_293 rfl (by decide) h
      · have h := h.2 c_
        refine g_aload_n dX4_tell_270 rfl ?_
        refine g_iload_n dX4_tell_271 rfl ?_
        refine g_iload dX4_tell_272 rfl ?_
        refine g_iload dX4_tell_274 rfl ?_
        refine g_aload_n dX4_tell_276 rfl ?_
        refine g_getR (k' := 3) dX4_tell_277 (o2 hK) fX4_11 (by decide) (by decide) ?_
        refine g_iconst dX4_tell_280 ?_
        refine g_iald' (nn := 4) dX4_tell_281 (r3 hK) rfl (by decide) (by decide) ?_
        refine g_callV (Y' := mX2_addPost) (d' := 3) (As := [zI (mu 3 0), zI (mu 3 1), zI (mu 3 2), zI (mu 3 3)]) (rest := []) dX4_tell_282 lX4_59 vX2_addPost (by omega) (hP).ob rfl rfl (Nat.le_of_ble_eq_true rfl) rfl (zC_i h (fun r15 nu16 h => ?_))
        obtain ⟨q17, h⟩ := h
        refine g_if_eq (tgt := 292) dX4_tell_285 (by decide) q17 (fun c_ => ?_) (fun c_ => ?_)
        · have h := h.1 c_
          refine g_iconst dX4_tell_292 ?_
          exact g_zreturn dX4_tell_293 rfl (by decide) h
        · have h := h.2 c_
          refine g_iconst dX4_tell_288 ?_
          refine g_goto (tgt := 293) dX4_tell_289 (by decide) ?_
          exact g_zreturn dX4_tell_293 rfl (by decide) h
    by_cases hc113 : a2 = 113
    · have h := h.2.2.2.2.2.2.2.2.2.2.2.2.2.2.2.1 hc113
      refine g_swIn (tgt := 190) dX4_tell_24 q1 hsw1 hsw2 (by rw [hc113]; rfl) (by decide) ?_
      refine g_aload_n dX4_tell_190 rfl ?_
      refine g_getI' (jj := 1) dX4_tell_191 (o2 hK) fX4_34 rfl rfl ?_
      refine g_iconst dX4_tell_194 ?_
      obtain ⟨q18, h⟩ := h
      refine g_icmp_ne (tgt := 210) dX4_tell_195 (by decide) q18 (zin_d rfl) (fun c_ => ?_) (fun c_ => ?_)
      · have h := h.1 c_
        refine g_iconst dX4_tell_210 ?_
        exact g_zreturn dX4_tell_211 rfl (by decide) h
      · have h := h.2 c_
        refine g_aload_n dX4_tell_198 rfl ?_
        refine g_iload_n dX4_tell_199 rfl ?_
        refine g_callV (Y' := mX2_addWish) (d' := 2) (As := [zI (mu 3 0)]) (rest := []) dX4_tell_200 lX4_48 vX2_addWish (by omega) (hP).ob rfl rfl (Nat.le_of_ble_eq_true rfl) rfl (zC_i h (fun r19 nu20 h => ?_))
        obtain ⟨q21, h⟩ := h
        refine g_if_eq (tgt := 210) dX4_tell_203 (by decide) q21 (fun c_ => ?_) (fun c_ => ?_)
        · have h := h.1 c_
          refine g_iconst dX4_tell_210 ?_
          exact g_zreturn dX4_tell_211 rfl (by decide) h
        · have h := h.2 c_
          refine g_iconst dX4_tell_206 ?_
          refine g_goto (tgt := 211) dX4_tell_207 (by decide) ?_
          exact g_zreturn dX4_tell_211 rfl (by decide) h
    by_cases hc114 : a2 = 114
    · have h := h.2.2.2.2.2.2.2.2.2.2.2.2.2.2.2.2.1 hc114
      refine g_swIn (tgt := 294) dX4_tell_24 q1 hsw1 hsw2 (by rw [hc114]; rfl) (by decide) ?_
      refine g_iconst dX4_tell_294 ?_
      exact g_zreturn dX4_tell_295 rfl (by decide) h
    by_cases hc115 : a2 = 115
    · have h := h.2.2.2.2.2.2.2.2.2.2.2.2.2.2.2.2.2.1 hc115
      refine g_swIn (tgt := 294) dX4_tell_24 q1 hsw1 hsw2 (by rw [hc115]; rfl) (by decide) ?_
      refine g_iconst dX4_tell_294 ?_
      exact g_zreturn dX4_tell_295 rfl (by decide) h
    by_cases hc116 : a2 = 116
    · have h := h.2.2.2.2.2.2.2.2.2.2.2.2.2.2.2.2.2.2.1 hc116
      refine g_swIn (tgt := 124) dX4_tell_24 q1 hsw1 hsw2 (by rw [hc116]; rfl) (by decide) ?_
      refine g_aload_n dX4_tell_124 rfl ?_
      refine g_getI' (jj := 1) dX4_tell_125 (o2 hK) fX4_34 rfl rfl ?_
      refine g_iconst dX4_tell_128 ?_
      obtain ⟨q22, h⟩ := h
      refine g_icmp_ne (tgt := 144) dX4_tell_129 (by decide) q22 (zin_d rfl) (fun c_ => ?_) (fun c_ => ?_)
      · have h := h.1 c_
        refine g_iconst dX4_tell_144 ?_
        exact g_zreturn dX4_tell_145 rfl (by decide) h
      · have h := h.2 c_
        refine g_aload_n dX4_tell_132 rfl ?_
        refine g_iload_n dX4_tell_133 rfl ?_
        refine g_callV (Y' := mX2_setThings) (d' := 1) (As := [zI (mu 3 0)]) (rest := []) dX4_tell_134 lX4_38 vX2_setThings (by omega) (hP).ob rfl rfl (Nat.le_of_ble_eq_true rfl) rfl (zC_i h (fun r23 nu24 h => ?_))
        obtain ⟨q25, h⟩ := h
        refine g_if_eq (tgt := 144) dX4_tell_137 (by decide) q25 (fun c_ => ?_) (fun c_ => ?_)
        · have h := h.1 c_
          refine g_iconst dX4_tell_144 ?_
          exact g_zreturn dX4_tell_145 rfl (by decide) h
        · have h := h.2 c_
          refine g_iconst dX4_tell_140 ?_
          refine g_goto (tgt := 145) dX4_tell_141 (by decide) ?_
          exact g_zreturn dX4_tell_145 rfl (by decide) h
    by_cases hc117 : a2 = 117
    · have h := h.2.2.2.2.2.2.2.2.2.2.2.2.2.2.2.2.2.2.2.1 hc117
      refine g_swIn (tgt := 294) dX4_tell_24 q1 hsw1 hsw2 (by rw [hc117]; rfl) (by decide) ?_
      refine g_iconst dX4_tell_294 ?_
      exact g_zreturn dX4_tell_295 rfl (by decide) h
    by_cases hc118 : a2 = 118
    · have h := h.2.2.2.2.2.2.2.2.2.2.2.2.2.2.2.2.2.2.2.2 hc118
      refine g_swIn (tgt := 212) dX4_tell_24 q1 hsw1 hsw2 (by rw [hc118]; rfl) (by decide) ?_
      refine g_aload_n dX4_tell_212 rfl ?_
      refine g_getI' (jj := 1) dX4_tell_213 (o2 hK) fX4_34 rfl rfl ?_
      refine g_iconst dX4_tell_216 ?_
      obtain ⟨q26, h⟩ := h
      refine g_icmp_ne (tgt := 236) dX4_tell_217 (by decide) q26 (zin_d rfl) (fun c_ => ?_) (fun c_ => ?_)
      · have h := h.1 c_
        refine g_iconst dX4_tell_236 ?_
        exact g_zreturn dX4_tell_237 rfl (by decide) h
      · have h := h.2 c_
        refine g_aload_n dX4_tell_220 rfl ?_
        refine g_iload_n dX4_tell_221 rfl ?_
        refine g_iload dX4_tell_222 rfl ?_
        refine g_iload dX4_tell_224 rfl ?_
        refine g_callV (Y' := mX2_setWorth) (d' := 3) (As := [zI (mu 3 0), zI (mu 3 1), zI (mu 3 2)]) (rest := []) dX4_tell_226 lX4_51 vX2_setWorth (by omega) (hP).ob rfl rfl (Nat.le_of_ble_eq_true rfl) rfl (zC_i h (fun r27 nu28 h => ?_))
        obtain ⟨q29, h⟩ := h
        refine g_if_eq (tgt := 236) dX4_tell_229 (by decide) q29 (fun c_ => ?_) (fun c_ => ?_)
        · have h := h.1 c_
          refine g_iconst dX4_tell_236 ?_
          exact g_zreturn dX4_tell_237 rfl (by decide) h
        · have h := h.2 c_
          refine g_iconst dX4_tell_232 ?_
          refine g_goto (tgt := 237) dX4_tell_233 (by decide) ?_
          exact g_zreturn dX4_tell_237 rfl (by decide) h
    · exact absurd hsw2 (by omega)
theorem sg_X6_begin_0 {K d : Nat} {mu : Mem} {Q : AV → Mem → Prop} {S P : Int} (hd : 1 ≤ d) (hK : 64 ≤ K) (hS : isS K S) (hP : isP K P) (h : Q zV (zup (zcp (zcp (zcp mu (P + 6) (S + 1) 0 0 6) (P + 7) (S + 2) 0 0 6) (P + 8) (S + 3) 0 0 6) S 4 0)) : zG K d mX6_begin 0 [zR S, zR P] [] mu Q := by
  refine g_aload_n dX6_begin_0 rfl ?_
  refine g_getR (k' := (P + 6)) dX6_begin_1 (hP).ob fX6_24 (by decide) rfl ?_
  refine g_iconst dX6_begin_4 ?_
  refine g_aload_n dX6_begin_5 rfl ?_
  refine g_getR (k' := (S + 1)) dX6_begin_6 (hS).ob fX6_9 (by decide) rfl ?_
  refine g_iconst dX6_begin_9 ?_
  refine g_bipush dX6_begin_10 rfl ?_
  refine g_copy dX6_begin_12 lX6_27 (by omega) rfl (hP).a6 (hS).a1 (by decide) (by decide) (by decide) (by decide) (by decide) ?_
  refine g_aload_n dX6_begin_15 rfl ?_
  refine g_getR (k' := (P + 7)) dX6_begin_16 (hP).ob fX6_33 (by decide) rfl ?_
  refine g_iconst dX6_begin_19 ?_
  refine g_aload_n dX6_begin_20 rfl ?_
  refine g_getR (k' := (S + 2)) dX6_begin_21 (hS).ob fX6_15 (by decide) rfl ?_
  refine g_iconst dX6_begin_24 ?_
  refine g_bipush dX6_begin_25 rfl ?_
  refine g_copy dX6_begin_27 lX6_27 (by omega) rfl (hP).a7 (hS).a2 (by decide) (by decide) (by decide) (by decide) (by decide) ?_
  refine g_aload_n dX6_begin_30 rfl ?_
  refine g_getR (k' := (P + 8)) dX6_begin_31 (hP).ob fX6_34 (by decide) rfl ?_
  refine g_iconst dX6_begin_34 ?_
  refine g_aload_n dX6_begin_35 rfl ?_
  refine g_getR (k' := (S + 3)) dX6_begin_36 (hS).ob fX6_18 (by decide) rfl ?_
  refine g_iconst dX6_begin_39 ?_
  refine g_bipush dX6_begin_40 rfl ?_
  refine g_copy dX6_begin_42 lX6_27 (by omega) rfl (hP).a8 (hS).a3 (by decide) (by decide) (by decide) (by decide) (by decide) ?_
  refine g_aload_n dX6_begin_45 rfl ?_
  refine g_iconst dX6_begin_46 ?_
  refine g_putI' (jj := 4) dX6_begin_47 (hS).ob pX6_35 rfl rfl ?_
  exact g_return dX6_begin_50 rfl h
theorem sg_X6_copyFrom_0 {K d : Nat} {mu : Mem} {Q : AV → Mem → Prop} {S F : Int} (hd : 1 ≤ d) (hK : 64 ≤ K) (hS : isS K S) (hF : isS K F) (h : Q zV (zup (zcp (zcp (zcp (zcp mu (F + 1) (S + 1) 0 0 6) (F + 2) (S + 2) 0 0 6) (F + 3) (S + 3) 0 0 6) (F + 4) (S + 4) 0 0 10) S 4 ((zcp (zcp (zcp (zcp mu (F + 1) (S + 1) 0 0 6) (F + 2) (S + 2) 0 0 6) (F + 3) (S + 3) 0 0 6) (F + 4) (S + 4) 0 0 10) F 4))) : zG K d mX6_copyFrom 0 [zR S, zR F] [] mu Q := by
  refine g_aload_n dX6_copyFrom_0 rfl ?_
  refine g_getR (k' := (F + 1)) dX6_copyFrom_1 (hF).ob fX6_9 (by decide) rfl ?_
  refine g_iconst dX6_copyFrom_4 ?_
  refine g_aload_n dX6_copyFrom_5 rfl ?_
  refine g_getR (k' := (S + 1)) dX6_copyFrom_6 (hS).ob fX6_9 (by decide) rfl ?_
  refine g_iconst dX6_copyFrom_9 ?_
  refine g_bipush dX6_copyFrom_10 rfl ?_
  refine g_copy dX6_copyFrom_12 lX6_27 (by omega) rfl (hF).a1 (hS).a1 (by decide) (by decide) (by decide) (by decide) (by decide) ?_
  refine g_aload_n dX6_copyFrom_15 rfl ?_
  refine g_getR (k' := (F + 2)) dX6_copyFrom_16 (hF).ob fX6_15 (by decide) rfl ?_
  refine g_iconst dX6_copyFrom_19 ?_
  refine g_aload_n dX6_copyFrom_20 rfl ?_
  refine g_getR (k' := (S + 2)) dX6_copyFrom_21 (hS).ob fX6_15 (by decide) rfl ?_
  refine g_iconst dX6_copyFrom_24 ?_
  refine g_bipush dX6_copyFrom_25 rfl ?_
  refine g_copy dX6_copyFrom_27 lX6_27 (by omega) rfl (hF).a2 (hS).a2 (by decide) (by decide) (by decide) (by decide) (by decide) ?_
  refine g_aload_n dX6_copyFrom_30 rfl ?_
  refine g_getR (k' := (F + 3)) dX6_copyFrom_31 (hF).ob fX6_18 (by decide) rfl ?_
  refine g_iconst dX6_copyFrom_34 ?_
  refine g_aload_n dX6_copyFrom_35 rfl ?_
  refine g_getR (k' := (S + 3)) dX6_copyFrom_36 (hS).ob fX6_18 (by decide) rfl ?_
  refine g_iconst dX6_copyFrom_39 ?_
  refine g_bipush dX6_copyFrom_40 rfl ?_
  refine g_copy dX6_copyFrom_42 lX6_27 (by omega) rfl (hF).a3 (hS).a3 (by decide) (by decide) (by decide) (by decide) (by decide) ?_
  refine g_aload_n dX6_copyFrom_45 rfl ?_
  refine g_getR (k' := (F + 4)) dX6_copyFrom_46 (hF).ob fX6_21 (by decide) rfl ?_
  refine g_iconst dX6_copyFrom_49 ?_
  refine g_aload_n dX6_copyFrom_50 rfl ?_
  refine g_getR (k' := (S + 4)) dX6_copyFrom_51 (hS).ob fX6_21 (by decide) rfl ?_
  refine g_iconst dX6_copyFrom_54 ?_
  refine g_bipush dX6_copyFrom_55 rfl ?_
  refine g_copy dX6_copyFrom_57 lX6_27 (by omega) rfl (hF).a4 (hS).a4 (by decide) (by decide) (by decide) (by decide) (by decide) ?_
  refine g_aload_n dX6_copyFrom_60 rfl ?_
  refine g_aload_n dX6_copyFrom_61 rfl ?_
  refine g_getI' (jj := 4) dX6_copyFrom_62 (hF).ob fX6_35 rfl rfl ?_
  refine g_putI' (jj := 4) dX6_copyFrom_65 (hS).ob pX6_35 rfl rfl ?_
  exact g_return dX6_copyFrom_68 rfl h
