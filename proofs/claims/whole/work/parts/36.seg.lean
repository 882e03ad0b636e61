theorem sg_X9_layNeeds_0 {K d : Nat} {mu : Mem} {Q : AV → Mem → Prop} {a1 : Int} (hd : 3 ≤ d) (hK : 93 ≤ K) (h : zG K d mX9_layNeeds 7 [zR 64, zI a1, zI (mu 70 0), zU, zU, zU, zU, zU] [] mu Q) : zG K d mX9_layNeeds 0 [zR 64, zI a1, zU, zU, zU, zU, zU, zU] [] mu Q := by
  refine g_aload_n dX9_layNeeds_0 rfl ?_
  refine g_getR (k' := 70) dX9_layNeeds_1 (o64 hK) fX9_25 (by decide) (by decide) ?_
  refine g_iconst dX9_layNeeds_4 ?_
  refine g_iald' (nn := 2) dX9_layNeeds_5 (r70 hK) rfl (by decide) (by decide) ?_
  refine g_istore_n dX9_layNeeds_6 (by decide) rfl ?_
  exact g_wk (zwk_s (zwk_s (zwk_s (zwk_s (zwk_s (zwk_s (zwk_s (zwk_s zwk_n)))))))) h
theorem sg_X9_layNeeds_7 {K d : Nat} {mu : Mem} {Q : AV → Mem → Prop} {a1 a2 : Int} (hd : 3 ≤ d) (hK : 93 ≤ K) (h : (zin a2 ∧ ((a2 < 0 → Q zV mu) ∧ (¬ a2 < 0 → zG K d mX9_layNeeds 13 [zR 64, zI a1, zI a2, zI 0, zU, zU, zU, zU] [] mu Q)))) : zG K d mX9_layNeeds 7 [zR 64, zI a1, zI a2, zU, zU, zU, zU, zU] [] mu Q := by
  refine g_iload_n dX9_layNeeds_7 rfl ?_
  obtain ⟨q1, h⟩ := h
  refine g_if_lt (tgt := 218) dX9_layNeeds_8 (by decide) q1 (fun c_ => ?_) (fun c_ => ?_)
  · have h := h.1 c_
    exact g_return dX9_layNeeds_218 rfl h
  · have h := h.2 c_
    refine g_iconst dX9_layNeeds_11 ?_
    refine g_istore_n dX9_layNeeds_12 (by decide) rfl ?_
    exact g_wk (zwk_s (zwk_s (zwk_s (zwk_s (zwk_s (zwk_s (zwk_s (zwk_s zwk_n)))))))) h
theorem sg_X9_layNeeds_13 {K d : Nat} {mu : Mem} {Q : AV → Mem → Prop} {a1 a2 a3 : Int} (hd : 3 ≤ d) (hK : 93 ≤ K) (h : (zin a3 ∧ ((64 ≤ a3 → zG K d mX9_layNeeds 54 [zR 64, zI a1, zI a2, zI 0, zU, zU, zU, zU] [] mu Q) ∧ (¬ 64 ≤ a3 → (zin a2 ∧ zin (mu 70 0) ∧ ((¬ a2 = (mu 70 0) → (0 ≤ ((64 * a2) + a3) ∧ ((64 * a2) + a3) < 704 ∧ zG K d mX9_layNeeds 13 [zR 64, zI a1, zI a2, zI (a3 + 1), zU, zU, zU, zU] [] (zup mu 83 ((64 * a2) + a3) 99) Q)) ∧ (a2 = (mu 70 0) → (0 ≤ ((64 * a2) + a3) ∧ ((64 * a2) + a3) < 704 ∧ zG K d mX9_layNeeds 13 [zR 64, zI a1, zI a2, zI (a3 + 1), zU, zU, zU, zU] [] (zup mu 83 ((64 * a2) + a3) 0) Q)))))))) : zG K d mX9_layNeeds 13 [zR 64, zI a1, zI a2, zI a3, zU, zU, zU, zU] [] mu Q := by
  refine g_iload_n dX9_layNeeds_13 rfl ?_
  refine g_bipush dX9_layNeeds_14 rfl ?_
  obtain ⟨q1, h⟩ := h
  refine g_icmp_ge (tgt := 52) dX9_layNeeds_16 (by decide) q1 (zin_d rfl) (fun c_ => ?_) (fun c_ => ?_)
  · have h := h.1 c_
    refine g_iconst dX9_layNeeds_52 ?_
    refine g_istore_n dX9_layNeeds_53 (by decide) rfl ?_
    exact g_wk (zwk_s (zwk_s (zwk_s (zwk_s (zwk_s (zwk_s (zwk_s (zwk_s zwk_n)))))))) h
  · have h := h.2 c_
    refine g_aload_n dX9_layNeeds_19 rfl ?_
    refine g_getR (k' := 83) dX9_layNeeds_20 (o64 hK) fX9_65 (by decide) (by decide) ?_
    refine g_bipush dX9_layNeeds_23 rfl ?_
    refine g_iload_n dX9_layNeeds_25 rfl ?_
    refine g_imul dX9_layNeeds_26 ?_
    refine g_iload_n dX9_layNeeds_27 rfl ?_
    refine g_iadd dX9_layNeeds_28 ?_
    refine g_iload_n dX9_layNeeds_29 rfl ?_
    refine g_aload_n dX9_layNeeds_30 rfl ?_
    refine g_getR (k' := 70) dX9_layNeeds_31 (o64 hK) fX9_25 (by decide) (by decide) ?_
    refine g_iconst dX9_layNeeds_34 ?_
    refine g_iald' (nn := 2) dX9_layNeeds_35 (r70 hK) rfl (by decide) (by decide) ?_
    obtain ⟨q2, h⟩ := h
    obtain ⟨q3, h⟩ := h
    refine g_icmp_ne (tgt := 43) dX9_layNeeds_36 (by decide) q2 q3 (fun c_ => ?_) (fun c_ => ?_)
    · have h := h.1 c_
      refine g_bipush dX9_layNeeds_43 rfl ?_
      obtain ⟨q4, h⟩ := h
      obtain ⟨q5, h⟩ := h
      refine g_iast' (nn := 704) dX9_layNeeds_45 (r83 hK) rfl q4 q5 ?_
      refine g_iinc dX9_layNeeds_46 rfl (by decide) rfl ?_
      refine g_goto (tgt := 13) dX9_layNeeds_49 (by decide) ?_
      exact g_wk (zwk_s (zwk_s (zwk_s (zwk_s (zwk_s (zwk_s (zwk_s (zwk_s zwk_n)))))))) h
    · have h := h.2 c_
      refine g_iconst dX9_layNeeds_39 ?_
      refine g_goto (tgt := 45) dX9_layNeeds_40 (by decide) ?_
      obtain ⟨q6, h⟩ := h
      obtain ⟨q7, h⟩ := h
      refine g_iast' (nn := 704) dX9_layNeeds_45 (r83 hK) rfl q6 q7 ?_
      refine g_iinc dX9_layNeeds_46 rfl (by decide) rfl ?_
      refine g_goto (tgt := 13) dX9_layNeeds_49 (by decide) ?_
      exact g_wk (zwk_s (zwk_s (zwk_s (zwk_s (zwk_s (zwk_s (zwk_s (zwk_s zwk_n)))))))) h
theorem sg_X9_layNeeds_54 {K d : Nat} {mu : Mem} {Q : AV → Mem → Prop} {a1 a2 a3 : Int} (hd : 3 ≤ d) (hK : 93 ≤ K) (h : (zin a3 ∧ ((12 < a3 → zG K d mX9_layNeeds 7 [zR 64, zI a1, zI (a2 + (-1)), zU, zU, zU, zU, zU] [] mu Q) ∧ (¬ 12 < a3 → (zin a2 ∧ zin (mu 70 0) ∧ (((mu 70 0) ≤ a2 → zG K d mX9_layNeeds 7 [zR 64, zI a1, zI (a2 + (-1)), zU, zU, zU, zU, zU] [] mu Q) ∧ (¬ (mu 70 0) ≤ a2 → zG K d mX9_layNeeds 73 [zR 64, zI a1, zI a2, zI a3, zI 0, zU, zU, zU] [] mu Q))))))) : zG K d mX9_layNeeds 54 [zR 64, zI a1, zI a2, zI a3, zU, zU, zU, zU] [] mu Q := by
  refine g_iload_n dX9_layNeeds_54 rfl ?_
  refine g_bipush dX9_layNeeds_55 rfl ?_
  obtain ⟨q1, h⟩ := h
  refine g_icmp_gt (tgt := 212) dX9_layNeeds_57 (by decide) q1 (zin_d rfl) (fun c_ => ?_) (fun c_ => ?_)
  · have h := h.1 c_
    refine g_iinc dX9_layNeeds_212 rfl (by decide) rfl ?_
    refine g_goto (tgt := 7) dX9_layNeeds_215 (by decide) ?_
    exact g_wk (zwk_s (zwk_s (zwk_s (zwk_u (zwk_s (zwk_s (zwk_s (zwk_s zwk_n)))))))) h
  · have h := h.2 c_
    refine g_iload_n dX9_layNeeds_60 rfl ?_
    refine g_aload_n dX9_layNeeds_61 rfl ?_
    refine g_getR (k' := 70) dX9_layNeeds_62 (o64 hK) fX9_25 (by decide) (by decide) ?_
    refine g_iconst dX9_layNeeds_65 ?_
    refine g_iald' (nn := 2) dX9_layNeeds_66 (r70 hK) rfl (by decide) (by decide) ?_
    obtain ⟨q2, h⟩ := h
    obtain ⟨q3, h⟩ := h
    refine g_icmp_ge (tgt := 212) dX9_layNeeds_67 (by decide) q2 q3 (fun c_ => ?_) (fun c_ => ?_)
    · have h := h.1 c_
      refine g_iinc dX9_layNeeds_212 rfl (by decide) rfl ?_
      refine g_goto (tgt := 7) dX9_layNeeds_215 (by decide) ?_
      exact g_wk (zwk_s (zwk_s (zwk_s (zwk_u (zwk_s (zwk_s (zwk_s (zwk_s zwk_n)))))))) h
    · have h := h.2 c_
      refine g_iconst dX9_layNeeds_70 ?_
      refine g_istore dX9_layNeeds_71 (by decide) rfl ?_
      exact g_wk (zwk_s (zwk_s (zwk_s (zwk_s (zwk_s (zwk_s (zwk_s (zwk_s zwk_n)))))))) h
theorem sg_X9_layNeeds_73 {K d : Nat} {mu : Mem} {Q : AV → Mem → Prop} {a1 a2 a3 a4 : Int} (hd : 3 ≤ d) (hK : 93 ≤ K) (h : (zin a4 ∧ ((64 ≤ a4 → zG K d mX9_layNeeds 54 [zR 64, zI a1, zI a2, zI (a3 + 1), zU, zU, zU, zU] [] mu Q) ∧ (¬ 64 ≤ a4 → zC K 2 mX9_byQueue [zR 64, zI a1, zI a2, zI (a4.tdiv 8), zI (a4.tmod 8)] mu (fun v_ nu3 => ∃ r2, v_ = zI r2 ∧ zG K d mX9_layNeeds 101 [zR 64, zI a1, zI a2, zI a3, zI a4, zI r2, zI 0, zU] [] nu3 Q))))) : zG K d mX9_layNeeds 73 [zR 64, zI a1, zI a2, zI a3, zI a4, zU, zU, zU] [] mu Q := by
  refine g_iload dX9_layNeeds_73 rfl ?_
  refine g_bipush dX9_layNeeds_75 rfl ?_
  obtain ⟨q1, h⟩ := h
  refine g_icmp_ge (tgt := 206) dX9_layNeeds_77 (by decide) q1 (zin_d rfl) (fun c_ => ?_) (fun c_ => ?_)
  · have h := h.1 c_
    refine g_iinc dX9_layNeeds_206 rfl (by decide) rfl ?_
    refine g_goto (tgt := 54) dX9_layNeeds_209 (by decide) ?_
    exact g_wk (zwk_s (zwk_s (zwk_s (zwk_s (zwk_u (zwk_s (zwk_s (zwk_s zwk_n)))))))) h
  · have h := h.2 c_
    refine g_aload_n dX9_layNeeds_80 rfl ?_
    refine g_iload_n dX9_layNeeds_81 rfl ?_
    refine g_iload_n dX9_layNeeds_82 rfl ?_
    refine g_iload dX9_layNeeds_83 rfl ?_
    refine g_bipush dX9_layNeeds_85 rfl ?_
    refine g_idiv dX9_layNeeds_87 q1 (zin_d rfl) (by decide) ?_
    refine g_iload dX9_layNeeds_88 rfl ?_
    refine g_bipush dX9_layNeeds_90 rfl ?_
    refine g_irem dX9_layNeeds_92 q1 (zin_d rfl) (by decide) ?_
    refine g_callV (Y' := mX9_byQueue) (d' := 2) (As := [zI a1, zI a2, zI (a4.tdiv 8), zI (a4.tmod 8)]) (rest := []) dX9_layNeeds_93 lX9_226 vX9_byQueue (by omega) (o64 hK) rfl rfl (Nat.le_of_ble_eq_true rfl) rfl (zC_i h (fun r2 nu3 h => ?_))
    refine g_istore dX9_layNeeds_96 (by decide) rfl ?_
    refine g_iconst dX9_layNeeds_98 ?_
    refine g_istore dX9_layNeeds_99 (by decide) rfl ?_
    exact g_wk (zwk_s (zwk_s (zwk_s (zwk_s (zwk_s (zwk_s (zwk_s (zwk_s zwk_n)))))))) h
theorem sg_X9_layNeeds_101 {K d : Nat} {mu : Mem} {Q : AV → Mem → Prop} {a1 a2 a3 a4 a5 a6 : Int} (hd : 3 ≤ d) (hK : 93 ≤ K) (h : (zin a6 ∧ zin (mu 66 0) ∧ (((mu 66 0) ≤ a6 → (0 ≤ ((64 * a2) + a4) ∧ ((64 * a2) + a4) < 704 ∧ zin a5 ∧ zin (mu 83 ((64 * a2) + a4)) ∧ (((mu 83 ((64 * a2) + a4)) ≤ a5 → zG K d mX9_layNeeds 73 [zR 64, zI a1, zI a2, zI a3, zI (a4 + 1), zU, zU, zU] [] (zup mu 83 ((64 * a2) + a4) (mu 83 ((64 * a2) + a4))) Q) ∧ (¬ (mu 83 ((64 * a2) + a4)) ≤ a5 → zG K d mX9_layNeeds 73 [zR 64, zI a1, zI a2, zI a3, zI (a4 + 1), zU, zU, zU] [] (zup mu 83 ((64 * a2) + a4) a5) Q)))) ∧ (¬ (mu 66 0) ≤ a6 → (zin a4 ∧ zC K 0 mX9_stand [zI a2, zI (a4.tmod 8), zI a6] mu (fun v_ nu9 => ∃ r8, v_ = zI r8 ∧ (0 ≤ r8 ∧ r8 < 704 ∧ zin ((nu9 83 r8) + 1) ∧ zin a5 ∧ ((a5 ≤ ((nu9 83 r8) + 1) → zG K d mX9_layNeeds 101 [zR 64, zI a1, zI a2, zI a3, zI a4, zI a5, zI (a6 + 1), zU] [] nu9 Q) ∧ (¬ a5 ≤ ((nu9 83 r8) + 1) → zG K d mX9_layNeeds 101 [zR 64, zI a1, zI a2, zI a3, zI a4, zI ((nu9 83 r8) + 1), zI (a6 + 1), zU] [] nu9 Q))))))))) : zG K d mX9_layNeeds 101 [zR 64, zI a1, zI a2, zI a3, zI a4, zI a5, zI a6, zU] [] mu Q := by
  refine g_iload dX9_layNeeds_101 rfl ?_
  refine g_aload_n dX9_layNeeds_103 rfl ?_
  refine g_getR (k' := 66) dX9_layNeeds_104 (o64 hK) fX9_13 (by decide) (by decide) ?_
  refine g_iconst dX9_layNeeds_107 ?_
  refine g_iald' (nn := 2) dX9_layNeeds_108 (r66 hK) rfl (by decide) (by decide) ?_
  obtain ⟨q1, h⟩ := h
  obtain ⟨q2, h⟩ := h
  refine g_icmp_ge (tgt := 154) dX9_layNeeds_109 (by decide) q1 q2 (fun c_ => ?_) (fun c_ => ?_)
  · have h := h.1 c_
    refine g_aload_n dX9_layNeeds_154 rfl ?_
    refine g_getR (k' := 83) dX9_layNeeds_155 (o64 hK) fX9_65 (by decide) (by decide) ?_
    refine g_bipush dX9_layNeeds_158 rfl ?_
    refine g_iload_n dX9_layNeeds_160 rfl ?_
    refine g_imul dX9_layNeeds_161 ?_
    refine g_iload dX9_layNeeds_162 rfl ?_
    refine g_iadd dX9_layNeeds_164 ?_
    refine g_iload dX9_layNeeds_165 rfl ?_
    refine g_aload_n dX9_layNeeds_167 rfl ?_
    refine g_getR (k' := 83) dX9_layNeeds_168 (o64 hK) fX9_65 (by decide) (by decide) ?_
    refine g_bipush dX9_layNeeds_171 rfl ?_
    refine g_iload_n dX9_layNeeds_173 rfl ?_
    refine g_imul dX9_layNeeds_174 ?_
    refine g_iload dX9_layNeeds_175 rfl ?_
    refine g_iadd dX9_layNeeds_177 ?_
    obtain ⟨q3, h⟩ := h
    obtain ⟨q4, h⟩ := h
    refine g_iald' (nn := 704) dX9_layNeeds_178 (r83 hK) rfl q3 q4 ?_
    obtain ⟨q5, h⟩ := h
    obtain ⟨q6, h⟩ := h
    refine g_icmp_ge (tgt := 187) dX9_layNeeds_179 (by decide) q5 q6 (fun c_ => ?_) (fun c_ => ?_)
    · have h := h.1 c_
      refine g_aload_n dX9_layNeeds_187 rfl ?_
      refine g_getR (k' := 83) dX9_layNeeds_188 (o64 hK) fX9_65 (by decide) (by decide) ?_
      refine g_bipush dX9_layNeeds_191 rfl ?_
      refine g_iload_n dX9_layNeeds_193 rfl ?_
      refine g_imul dX9_layNeeds_194 ?_
      refine g_iload dX9_layNeeds_195 rfl ?_
      refine g_iadd dX9_layNeeds_197 ?_
      refine g_iald' (nn := 704) dX9_layNeeds_198 (r83 hK) rfl q3 q4 ?_
      refine g_iast' (nn := 704) dX9_layNeeds_199 (r83 hK) rfl q3 q4 ?_
      refine g_iinc dX9_layNeeds_200 rfl (by decide) rfl ?_
      refine g_goto (tgt := 73) dX9_layNeeds_203 (by decide) ?_
      exact g_wk (zwk_s (zwk_s (zwk_s (zwk_s (zwk_s (zwk_u (zwk_u (zwk_s zwk_n)))))))) h
    · have h := h.2 c_
      refine g_iload dX9_layNeeds_182 rfl ?_
      refine g_goto (tgt := 199) dX9_layNeeds_184 (by decide) ?_
      refine g_iast' (nn := 704) dX9_layNeeds_199 (r83 hK) rfl q3 q4 ?_
      refine g_iinc dX9_layNeeds_200 rfl (by decide) rfl ?_
      refine g_goto (tgt := 73) dX9_layNeeds_203 (by decide) ?_
      exact g_wk (zwk_s (zwk_s (zwk_s (zwk_s (zwk_s (zwk_u (zwk_u (zwk_s zwk_n)))))))) h
  · have h := h.2 c_
    refine g_aload_n dX9_layNeeds_112 rfl ?_
    refine g_getR (k' := 83) dX9_layNeeds_113 (o64 hK) fX9_65 (by decide) (by decide) ?_
    refine g_iload_n dX9_layNeeds_116 rfl ?_
    refine g_iload dX9_layNeeds_117 rfl ?_
    refine g_bipush dX9_layNeeds_119 rfl ?_
    obtain ⟨q7, h⟩ := h
    refine g_irem dX9_layNeeds_121 q7 (zin_d rfl) (by decide) ?_
    refine g_iload dX9_layNeeds_122 rfl ?_
    refine g_callS (Y' := mX9_stand) (d' := 0) (As := [zI a2, zI (a4.tmod 8), zI a6]) (rest := [zR 83]) dX9_layNeeds_124 lX9_223 vX9_stand (by omega) rfl (Nat.le_of_ble_eq_true rfl) rfl (zC_i h (fun r8 nu9 h => ?_))
    obtain ⟨q10, h⟩ := h
    obtain ⟨q11, h⟩ := h
    refine g_iald' (nn := 704) dX9_layNeeds_127 (r83 hK) rfl q10 q11 ?_
    refine g_iconst dX9_layNeeds_128 ?_
    refine g_iadd dX9_layNeeds_129 ?_
    refine g_istore dX9_layNeeds_130 (by decide) rfl ?_
    refine g_iload dX9_layNeeds_132 rfl ?_
    refine g_iload dX9_layNeeds_134 rfl ?_
    obtain ⟨q12, h⟩ := h
    obtain ⟨q13, h⟩ := h
    refine g_icmp_ge (tgt := 144) dX9_layNeeds_136 (by decide) q12 q13 (fun c_ => ?_) (fun c_ => ?_)
    · have h := h.1 c_
      refine g_iload dX9_layNeeds_144 rfl ?_
      refine g_istore dX9_layNeeds_146 (by decide) rfl ?_
      refine g_iinc dX9_layNeeds_148 rfl (by decide) rfl ?_
      refine g_goto (tgt := 101) dX9_layNeeds_151 (by decide) ?_
      exact g_wk (zwk_s (zwk_s (zwk_s (zwk_s (zwk_s (zwk_s (zwk_s (zwk_u zwk_n)))))))) h
    · have h := h.2 c_
      refine g_iload dX9_layNeeds_139 rfl ?_
      refine g_goto (tgt := 146) dX9_layNeeds_141 (by decide) ?_
      refine g_istore dX9_layNeeds_146 (by decide) rfl ?_
      refine g_iinc dX9_layNeeds_148 rfl (by decide) rfl ?_
      refine g_goto (tgt := 101) dX9_layNeeds_151 (by decide) ?_
      exact g_wk (zwk_s (zwk_s (zwk_s (zwk_s (zwk_s (zwk_s (zwk_s (zwk_u zwk_n)))))))) h
theorem sg_X9_layOrders_0 {K d : Nat} {mu : Mem} {Q : AV → Mem → Prop} {a1 : Int} (hd : 3 ≤ d) (hK : 93 ≤ K) (h : zG K d mX9_layOrders 13 [zR 64, zI a1, zI ((zshl 1 (mu 70 0)) - 1), zI ((zshl 1 (mu 70 0)) - 1), zU, zU, zU, zU, zU] [] mu Q) : zG K d mX9_layOrders 0 [zR 64, zI a1, zU, zU, zU, zU, zU, zU, zU] [] mu Q := by
  refine g_iconst dX9_layOrders_0 ?_
  refine g_aload_n dX9_layOrders_1 rfl ?_
  refine g_getR (k' := 70) dX9_layOrders_2 (o64 hK) fX9_25 (by decide) (by decide) ?_
  refine g_iconst dX9_layOrders_5 ?_
  refine g_iald' (nn := 2) dX9_layOrders_6 (r70 hK) rfl (by decide) (by decide) ?_
  refine g_ishl dX9_layOrders_7 (zshl_ok _ _) ?_
  refine g_iconst dX9_layOrders_8 ?_
  refine g_isub dX9_layOrders_9 ?_
  refine g_istore_n dX9_layOrders_10 (by decide) rfl ?_
  refine g_iload_n dX9_layOrders_11 rfl ?_
  refine g_istore_n dX9_layOrders_12 (by decide) rfl ?_
  exact g_wk (zwk_s (zwk_s (zwk_s (zwk_s (zwk_s (zwk_s (zwk_s (zwk_s (zwk_s zwk_n))))))))) h
theorem sg_X9_layOrders_13 {K d : Nat} {mu : Mem} {Q : AV → Mem → Prop} {a1 a2 a3 : Int} (hd : 3 ≤ d) (hK : 93 ≤ K) (h : (zin a3 ∧ ((a3 < 0 → Q zV mu) ∧ (¬ a3 < 0 → zG K d mX9_layOrders 20 [zR 64, zI a1, zI a2, zI a3, zI 0, zU, zU, zU, zU] [] mu Q)))) : zG K d mX9_layOrders 13 [zR 64, zI a1, zI a2, zI a3, zU, zU, zU, zU, zU] [] mu Q := by
  refine g_iload_n dX9_layOrders_13 rfl ?_
  obtain ⟨q1, h⟩ := h
  refine g_if_lt (tgt := 147) dX9_layOrders_14 (by decide) q1 (fun c_ => ?_) (fun c_ => ?_)
  · have h := h.1 c_
    exact g_return dX9_layOrders_147 rfl h
  · have h := h.2 c_
    refine g_iconst dX9_layOrders_17 ?_
    refine g_istore dX9_layOrders_18 (by decide) rfl ?_
    exact g_wk (zwk_s (zwk_s (zwk_s (zwk_s (zwk_s (zwk_s (zwk_s (zwk_s (zwk_s zwk_n))))))))) h
theorem sg_X9_layOrders_20 {K d : Nat} {mu : Mem} {Q : AV → Mem → Prop} {a1 a2 a3 a4 : Int} (hd : 3 ≤ d) (hK : 93 ≤ K) (h : (zin a4 ∧ ((8 ≤ a4 → zG K d mX9_layOrders 13 [zR 64, zI a1, zI a2, zI (a3 + (-1)), zU, zU, zU, zU, zU] [] mu Q) ∧ (¬ 8 ≤ a4 → zG K d mX9_layOrders 30 [zR 64, zI a1, zI a2, zI a3, zI a4, zI 0, zU, zU, zU] [] mu Q)))) : zG K d mX9_layOrders 20 [zR 64, zI a1, zI a2, zI a3, zI a4, zU, zU, zU, zU] [] mu Q := by
  refine g_iload dX9_layOrders_20 rfl ?_
  refine g_bipush dX9_layOrders_22 rfl ?_
  obtain ⟨q1, h⟩ := h
  refine g_icmp_ge (tgt := 141) dX9_layOrders_24 (by decide) q1 (zin_d rfl) (fun c_ => ?_) (fun c_ => ?_)
  · have h := h.1 c_
    refine g_iinc dX9_layOrders_141 rfl (by decide) rfl ?_
    refine g_goto (tgt := 13) dX9_layOrders_144 (by decide) ?_
    exact g_wk (zwk_s (zwk_s (zwk_s (zwk_s (zwk_u (zwk_s (zwk_s (zwk_s (zwk_s zwk_n))))))))) h
  · have h := h.2 c_
    refine g_iconst dX9_layOrders_27 ?_
    refine g_istore dX9_layOrders_28 (by decide) rfl ?_
    exact g_wk (zwk_s (zwk_s (zwk_s (zwk_s (zwk_s (zwk_s (zwk_s (zwk_s (zwk_s zwk_n))))))))) h
theorem sg_X9_layOrders_30 {K d : Nat} {mu : Mem} {Q : AV → Mem → Prop} {a1 a2 a3 a4 a5 : Int} (hd : 3 ≤ d) (hK : 93 ≤ K) (h : (zin a5 ∧ ((8 ≤ a5 → zG K d mX9_layOrders 20 [zR 64, zI a1, zI a2, zI a3, zI (a4 + 1), zU, zU, zU, zU] [] mu Q) ∧ (¬ 8 ≤ a5 → (zin a3 ∧ zin a2 ∧ ((¬ a3 = a2 → zG K d mX9_layOrders 53 [zR 64, zI a1, zI a2, zI a3, zI a4, zI a5, zI (-4), zI 0, zU] [] mu Q) ∧ (a3 = a2 → zG K d mX9_layOrders 53 [zR 64, zI a1, zI a2, zI a3, zI a4, zI a5, zI 0, zI 0, zU] [] mu Q))))))) : zG K d mX9_layOrders 30 [zR 64, zI a1, zI a2, zI a3, zI a4, zI a5, zU, zU, zU] [] mu Q := by
  refine g_iload dX9_layOrders_30 rfl ?_
  refine g_bipush dX9_layOrders_32 rfl ?_
  obtain ⟨q1, h⟩ := h
  refine g_icmp_ge (tgt := 135) dX9_layOrders_34 (by decide) q1 (zin_d rfl) (fun c_ => ?_) (fun c_ => ?_)
  · have h := h.1 c_
    refine g_iinc dX9_layOrders_135 rfl (by decide) rfl ?_
    refine g_goto (tgt := 20) dX9_layOrders_138 (by decide) ?_
    exact g_wk (zwk_s (zwk_s (zwk_s (zwk_s (zwk_s (zwk_u (zwk_s (zwk_s (zwk_s zwk_n))))))))) h
  · have h := h.2 c_
    refine g_iload_n dX9_layOrders_37 rfl ?_
    refine g_iload_n dX9_layOrders_38 rfl ?_
    obtain ⟨q2, h⟩ := h
    obtain ⟨q3, h⟩ := h
    refine g_icmp_ne (tgt := 46) dX9_layOrders_39 (by decide) q2 q3 (fun c_ => ?_) (fun c_ => ?_)
    · have h := h.1 c_
      refine g_bipush dX9_layOrders_46 rfl ?_
      refine g_istore dX9_layOrders_48 (by decide) rfl ?_
      refine g_iconst dX9_layOrders_50 ?_
      refine g_istore dX9_layOrders_51 (by decide) rfl ?_
      exact g_wk (zwk_s (zwk_s (zwk_s (zwk_s (zwk_s (zwk_s (zwk_s (zwk_s (zwk_s zwk_n))))))))) h
    · have h := h.2 c_
      refine g_iconst dX9_layOrders_42 ?_
      refine g_goto (tgt := 48) dX9_layOrders_43 (by decide) ?_
      refine g_istore dX9_layOrders_48 (by decide) rfl ?_
      refine g_iconst dX9_layOrders_50 ?_
      refine g_istore dX9_layOrders_51 (by decide) rfl ?_
      exact g_wk (zwk_s (zwk_s (zwk_s (zwk_s (zwk_s (zwk_s (zwk_s (zwk_s (zwk_s zwk_n))))))))) h
theorem sg_X9_layOrders_53 {K d : Nat} {mu : Mem} {Q : AV → Mem → Prop} {a1 a2 a3 a4 a5 a6 a7 : Int} (hd : 3 ≤ d) (hK : 93 ≤ K) (h : (zin a7 ∧ zin (mu 70 0) ∧ (((mu 70 0) ≤ a7 → zC K 0 mX9_spot [zI a3, zI a4, zI a5] mu (fun v_ nu4 => ∃ r3, v_ = zI r3 ∧ (0 ≤ r3 ∧ r3 < 65536 ∧ zG K d mX9_layOrders 30 [zR 64, zI a1, zI a2, zI a3, zI a4, zI (a5 + 1), zU, zU, zU] [] (zup nu4 82 r3 a6) Q))) ∧ (¬ (mu 70 0) ≤ a7 → zC K 0 mX9_has [zI a3, zI a7] mu (fun v_ nu8 => ∃ r7, v_ = zI r7 ∧ (zin r7 ∧ ((r7 = 0 → zC K 2 mX9_bring [zR 64, zI a1, zI a3, zI a4, zI a5, zI a7] nu8 (fun v_ nu11 => ∃ r10, v_ = zI r10 ∧ (zin r10 ∧ zin a6 ∧ ((r10 ≤ a6 → zG K d mX9_layOrders 53 [zR 64, zI a1, zI a2, zI a3, zI a4, zI a5, zI a6, zI (a7 + 1), zU] [] nu11 Q) ∧ (¬ r10 ≤ a6 → zG K d mX9_layOrders 53 [zR 64, zI a1, zI a2, zI a3, zI a4, zI a5, zI r10, zI (a7 + 1), zU] [] nu11 Q))))) ∧ (¬ r7 = 0 → (zin a6 ∧ (((-4) ≤ a6 → zG K d mX9_layOrders 53 [zR 64, zI a1, zI a2, zI a3, zI a4, zI a5, zI a6, zI (a7 + 1), zU] [] nu8 Q) ∧ (¬ (-4) ≤ a6 → zG K d mX9_layOrders 53 [zR 64, zI a1, zI a2, zI a3, zI a4, zI a5, zI (-4), zI (a7 + 1), zU] [] nu8 Q))))))))))) : zG K d mX9_layOrders 53 [zR 64, zI a1, zI a2, zI a3, zI a4, zI a5, zI a6, zI a7, zU] [] mu Q := by
  refine g_iload dX9_layOrders_53 rfl ?_
  refine g_aload_n dX9_layOrders_55 rfl ?_
  refine g_getR (k' := 70) dX9_layOrders_56 (o64 hK) fX9_25 (by decide) (by decide) ?_
  refine g_iconst dX9_layOrders_59 ?_
  refine g_iald' (nn := 2) dX9_layOrders_60 (r70 hK) rfl (by decide) (by decide) ?_
  obtain ⟨q1, h⟩ := h
  obtain ⟨q2, h⟩ := h
  refine g_icmp_ge (tgt := 114) dX9_layOrders_61 (by decide) q1 q2 (fun c_ => ?_) (fun c_ => ?_)
  · have h := h.1 c_
    refine g_aload_n dX9_layOrders_114 rfl ?_
    refine g_getR (k' := 82) dX9_layOrders_115 (o64 hK) fX9_62 (by decide) (by decide) ?_
    refine g_iload_n dX9_layOrders_118 rfl ?_
    refine g_iload dX9_layOrders_119 rfl ?_
    refine g_iload dX9_layOrders_121 rfl ?_
    refine g_callS (Y' := mX9_spot) (d' := 0) (As := [zI a3, zI a4, zI a5]) (rest := [zR 82]) dX9_layOrders_123 lX9_200 vX9_spot (by omega) rfl (Nat.le_of_ble_eq_true rfl) rfl (zC_i h (fun r3 nu4 h => ?_))
    refine g_iload dX9_layOrders_126 rfl ?_
    obtain ⟨q5, h⟩ := h
    obtain ⟨q6, h⟩ := h
    refine g_iast' (nn := 65536) dX9_layOrders_128 (r82 hK) rfl q5 q6 ?_
    refine g_iinc dX9_layOrders_129 rfl (by decide) rfl ?_
    refine g_goto (tgt := 30) dX9_layOrders_132 (by decide) ?_
    exact g_wk (zwk_s (zwk_s (zwk_s (zwk_s (zwk_s (zwk_s (zwk_u (zwk_u (zwk_s zwk_n))))))))) h
  · have h := h.2 c_
    refine g_iload_n dX9_layOrders_64 rfl ?_
    refine g_iload dX9_layOrders_65 rfl ?_
    refine g_callS (Y' := mX9_has) (d' := 0) (As := [zI a3, zI a7]) (rest := []) dX9_layOrders_67 lX9_203 vX9_has (by omega) rfl (Nat.le_of_ble_eq_true rfl) rfl (zC_i h (fun r7 nu8 h => ?_))
    obtain ⟨q9, h⟩ := h
    refine g_if_eq (tgt := 78) dX9_layOrders_70 (by decide) q9 (fun c_ => ?_) (fun c_ => ?_)
    · have h := h.1 c_
      refine g_aload_n dX9_layOrders_78 rfl ?_
      refine g_iload_n dX9_layOrders_79 rfl ?_
      refine g_iload_n dX9_layOrders_80 rfl ?_
      refine g_iload dX9_layOrders_81 rfl ?_
      refine g_iload dX9_layOrders_83 rfl ?_
      refine g_iload dX9_layOrders_85 rfl ?_
      refine g_callV (Y' := mX9_bring) (d' := 2) (As := [zI a1, zI a3, zI a4, zI a5, zI a7]) (rest := []) dX9_layOrders_87 lX9_207 vX9_bring (by omega) (o64 hK) rfl rfl (Nat.le_of_ble_eq_true rfl) rfl (zC_i h (fun r10 nu11 h => ?_))
      refine g_istore dX9_layOrders_90 (by decide) rfl ?_
      refine g_iload dX9_layOrders_92 rfl ?_
      refine g_iload dX9_layOrders_94 rfl ?_
      obtain ⟨q12, h⟩ := h
      obtain ⟨q13, h⟩ := h
      refine g_icmp_le (tgt := 104) dX9_layOrders_96 (by decide) q12 q13 (fun c_ => ?_) (fun c_ => ?_)
      · have h := h.1 c_
        refine g_iload dX9_layOrders_104 rfl ?_
        refine g_istore dX9_layOrders_106 (by decide) rfl ?_
        refine g_iinc dX9_layOrders_108 rfl (by decide) rfl ?_
        refine g_goto (tgt := 53) dX9_layOrders_111 (by decide) ?_
        exact g_wk (zwk_s (zwk_s (zwk_s (zwk_s (zwk_s (zwk_s (zwk_s (zwk_s (zwk_u zwk_n))))))))) h
      · have h := h.2 c_
        refine g_iload dX9_layOrders_99 rfl ?_
        refine g_goto (tgt := 106) dX9_layOrders_101 (by decide) ?_
        refine g_istore dX9_layOrders_106 (by decide) rfl ?_
        refine g_iinc dX9_layOrders_108 rfl (by decide) rfl ?_
        refine g_goto (tgt := 53) dX9_layOrders_111 (by decide) ?_
        exact g_wk (zwk_s (zwk_s (zwk_s (zwk_s (zwk_s (zwk_s (zwk_s (zwk_s (zwk_u zwk_n))))))))) h
    · have h := h.2 c_
      refine g_bipush dX9_layOrders_73 rfl ?_
      refine g_goto (tgt := 90) dX9_layOrders_75 (by decide) ?_
      refine g_istore dX9_layOrders_90 (by decide) rfl ?_
      refine g_iload dX9_layOrders_92 rfl ?_
      refine g_iload dX9_layOrders_94 rfl ?_
      obtain ⟨q14, h⟩ := h
      refine g_icmp_le (tgt := 104) dX9_layOrders_96 (by decide) (zin_d rfl) q14 (fun c_ => ?_) (fun c_ => ?_)
      · have h := h.1 c_
        refine g_iload dX9_layOrders_104 rfl ?_
        refine g_istore dX9_layOrders_106 (by decide) rfl ?_
        refine g_iinc dX9_layOrders_108 rfl (by decide) rfl ?_
        refine g_goto (tgt := 53) dX9_layOrders_111 (by decide) ?_
        exact g_wk (zwk_s (zwk_s (zwk_s (zwk_s (zwk_s (zwk_s (zwk_s (zwk_s (zwk_u zwk_n))))))))) h
      · have h := h.2 c_
        refine g_iload dX9_layOrders_99 rfl ?_
        refine g_goto (tgt := 106) dX9_layOrders_101 (by decide) ?_
        refine g_istore dX9_layOrders_106 (by decide) rfl ?_
        refine g_iinc dX9_layOrders_108 rfl (by decide) rfl ?_
        refine g_goto (tgt := 53) dX9_layOrders_111 (by decide) ?_
        exact g_wk (zwk_s (zwk_s (zwk_s (zwk_s (zwk_s (zwk_s (zwk_s (zwk_s (zwk_u zwk_n))))))))) h
theorem sg_X9_layRows_0 {K d : Nat} {mu : Mem} {Q : AV → Mem → Prop} {a1 a2 : Int} (hd : 2 ≤ d) (hK : 93 ≤ K) (h : zG K d mX9_layRows 7 [zR 64, zI a1, zI a2, zI (mu 78 0), zU, zU, zU, zU, zU, zU, zU, zU, zU, zU] [] mu Q) : zG K d mX9_layRows 0 [zR 64, zI a1, zI a2, zU, zU, zU, zU, zU, zU, zU, zU, zU, zU, zU] [] mu Q := by
  refine g_aload_n dX9_layRows_0 rfl ?_
  refine g_getR (k' := 78) dX9_layRows_1 (o64 hK) fX9_49 (by decide) (by decide) ?_
  refine g_iconst dX9_layRows_4 ?_
  refine g_iald' (nn := 3) dX9_layRows_5 (r78 hK) rfl (by decide) (by decide) ?_
  refine g_istore_n dX9_layRows_6 (by decide) rfl ?_
  exact g_wk (zwk_s (zwk_s (zwk_s (zwk_s (zwk_s (zwk_s (zwk_s (zwk_s (zwk_s (zwk_s (zwk_s (zwk_s (zwk_s (zwk_s zwk_n)))))))))))))) h
theorem sg_X9_layRows_7 {K d : Nat} {mu : Mem} {Q : AV → Mem → Prop} {a1 a2 a3 : Int} (hd : 2 ≤ d) (hK : 93 ≤ K) (h : (zin a3 ∧ ((a3 < 0 → Q zV mu) ∧ (¬ a3 < 0 → zG K d mX9_layRows 14 [zR 64, zI a1, zI a2, zI a3, zI 0, zU, zU, zU, zU, zU, zU, zU, zU, zU] [] mu Q)))) : zG K d mX9_layRows 7 [zR 64, zI a1, zI a2, zI a3, zU, zU, zU, zU, zU, zU, zU, zU, zU, zU] [] mu Q := by
  refine g_iload_n dX9_layRows_7 rfl ?_
  obtain ⟨q1, h⟩ := h
  refine g_if_lt (tgt := 299) dX9_layRows_8 (by decide) q1 (fun c_ => ?_) (fun c_ => ?_)
  · have h := h.1 c_
    exact g_return dX9_layRows_299 rfl h
  · have h := h.2 c_
    refine g_iconst dX9_layRows_11 ?_
    refine g_istore dX9_layRows_12 (by decide) rfl ?_
    exact g_wk (zwk_s (zwk_s (zwk_s (zwk_s (zwk_s (zwk_s (zwk_s (zwk_s (zwk_s (zwk_s (zwk_s (zwk_s (zwk_s (zwk_s zwk_n)))))))))))))) h
theorem sg_X9_layRows_14 {K d : Nat} {mu : Mem} {Q : AV → Mem → Prop} {a1 a2 a3 a4 : Int} (hd : 2 ≤ d) (hK : 93 ≤ K) (h : (zin a4 ∧ ((64 ≤ a4 → zG K d mX9_layRows 7 [zR 64, zI a1, zI a2, zI (a3 + (-1)), zU, zU, zU, zU, zU, zU, zU, zU, zU, zU] [] mu Q) ∧ (¬ 64 ≤ a4 → (zin a3 ∧ zin (mu 78 0) ∧ ((¬ a3 = (mu 78 0) → zG K d mX9_layRows 49 [zR 64, zI a1, zI a2, zI a3, zI a4, zJ 0, zU, zJ 0, zU, zJ 0, zU, zI 0, zU, zU] [] mu Q) ∧ (a3 = (mu 78 0) → zG K d mX9_layRows 49 [zR 64, zI a1, zI a2, zI a3, zI a4, zJ 1, zU, zJ 1, zU, zJ 1, zU, zI 0, zU, zU] [] mu Q))))))) : zG K d mX9_layRows 14 [zR 64, zI a1, zI a2, zI a3, zI a4, zU, zU, zU, zU, zU, zU, zU, zU, zU] [] mu Q := by
  refine g_iload dX9_layRows_14 rfl ?_
  refine g_bipush dX9_layRows_16 rfl ?_
  obtain ⟨q1, h⟩ := h
  refine g_icmp_ge (tgt := 293) dX9_layRows_18 (by decide) q1 (zin_d rfl) (fun c_ => ?_) (fun c_ => ?_)
  · have h := h.1 c_
    refine g_iinc dX9_layRows_293 rfl (by decide) rfl ?_
    refine g_goto (tgt := 7) dX9_layRows_296 (by decide) ?_
    exact g_wk (zwk_s (zwk_s (zwk_s (zwk_s (zwk_u (zwk_s (zwk_s (zwk_s (zwk_s (zwk_s (zwk_s (zwk_s (zwk_s (zwk_s zwk_n)))))))))))))) h
  · have h := h.2 c_
    refine g_iload_n dX9_layRows_21 rfl ?_
    refine g_aload_n dX9_layRows_22 rfl ?_
    refine g_getR (k' := 78) dX9_layRows_23 (o64 hK) fX9_49 (by decide) (by decide) ?_
    refine g_iconst dX9_layRows_26 ?_
    refine g_iald' (nn := 3) dX9_layRows_27 (r78 hK) rfl (by decide) (by decide) ?_
    obtain ⟨q2, h⟩ := h
    obtain ⟨q3, h⟩ := h
    refine g_icmp_ne (tgt := 35) dX9_layRows_28 (by decide) q2 q3 (fun c_ => ?_) (fun c_ => ?_)
    · have h := h.1 c_
      refine g_lconst (x := 0) dX9_layRows_35 rfl ?_
      refine g_lstore dX9_layRows_36 (by decide) rfl ?_
      refine g_lload dX9_layRows_38 rfl ?_
      refine g_lstore dX9_layRows_40 (by decide) rfl ?_
      refine g_lload dX9_layRows_42 rfl ?_
      refine g_lstore dX9_layRows_44 (by decide) rfl ?_
      refine g_iconst dX9_layRows_46 ?_
      refine g_istore dX9_layRows_47 (by decide) rfl ?_
      exact g_wk (zwk_s (zwk_s (zwk_s (zwk_s (zwk_s (zwk_s (zwk_s (zwk_s (zwk_s (zwk_s (zwk_s (zwk_s (zwk_s (zwk_s zwk_n)))))))))))))) h
    · have h := h.2 c_
      refine g_lconst (x := 1) dX9_layRows_31 rfl ?_
      refine g_goto (tgt := 36) dX9_layRows_32 (by decide) ?_
      refine g_lstore dX9_layRows_36 (by decide) rfl ?_
      refine g_lload dX9_layRows_38 rfl ?_
      refine g_lstore dX9_layRows_40 (by decide) rfl ?_
      refine g_lload dX9_layRows_42 rfl ?_
      refine g_lstore dX9_layRows_44 (by decide) rfl ?_
      refine g_iconst dX9_layRows_46 ?_
      refine g_istore dX9_layRows_47 (by decide) rfl ?_
      exact g_wk (zwk_s (zwk_s (zwk_s (zwk_s (zwk_s (zwk_s (zwk_s (zwk_s (zwk_s (zwk_s (zwk_s (zwk_s (zwk_s (zwk_s zwk_n)))))))))))))) h
theorem sg_X9_layRows_49 {K d : Nat} {mu : Mem} {Q : AV → Mem → Prop} {a1 a2 a3 a4 a5 a7 a9 a11 : Int} (hd : 2 ≤ d) (hK : 93 ≤ K) (h : (zin a11 ∧ zin (mu 66 0) ∧ (((mu 66 0) ≤ a11 → (0 ≤ ((64 * a3) + a4) ∧ ((64 * a3) + a4) < 704 ∧ zG K d mX9_layRows 14 [zR 64, zI a1, zI a2, zI a3, zI (a4 + 1), zU, zU, zU, zU, zU, zU, zU, zU, zU] [] (zup (zup (zup mu 87 ((64 * a3) + a4) a5) 88 ((64 * a3) + a4) a7) 89 ((64 * a3) + a4) a9) Q)) ∧ (¬ (mu 66 0) ≤ a11 → (zin a3 ∧ zin (mu 78 0) ∧ (((mu 78 0) ≤ a3 → (0 ≤ ((64 * a3) + a4) ∧ ((64 * a3) + a4) < 704 ∧ zG K d mX9_layRows 14 [zR 64, zI a1, zI a2, zI a3, zI (a4 + 1), zU, zU, zU, zU, zU, zU, zU, zU, zU] [] (zup (zup (zup mu 87 ((64 * a3) + a4) a5) 88 ((64 * a3) + a4) a7) 89 ((64 * a3) + a4) a9) Q)) ∧ (¬ (mu 78 0) ≤ a3 → (0 ≤ a11 ∧ a11 < 12 ∧ zin (mu 73 a11) ∧ (((mu 73 a11) ≤ 0 → zG K d mX9_layRows 123 [zR 64, zI a1, zI a2, zI a3, zI a4, zJ a5, zU, zJ a7, zU, zJ a9, zU, zI a11, zI 0, zU] [] mu Q) ∧ (¬ (mu 73 a11) ≤ 0 → (zin a4 ∧ zC K 1 mX9_shortly [zR 64, zI (a4.tdiv 8), zI (a4.tmod 8), zI a11] mu (fun v_ nu14 => ∃ r13, v_ = zI r13 ∧ (0 ≤ a3 ∧ a3 < 30 ∧ zin r13 ∧ zin (nu14 79 a3) ∧ ((¬ r13 = (nu14 79 a3) → zG K d mX9_layRows 123 [zR 64, zI a1, zI a2, zI a3, zI a4, zJ a5, zU, zJ a7, zU, zJ a9, zU, zI a11, zI 0, zU] [] nu14 Q) ∧ (r13 = (nu14 79 a3) → (zin a1 ∧ ((¬ a3 = a1 → zG K d mX9_layRows 123 [zR 64, zI a1, zI a2, zI a3, zI a4, zJ a5, zU, zJ a7, zU, zJ a9, zU, zI a11, zI 1, zU] [] nu14 Q) ∧ (a3 = a1 → (zin a2 ∧ ((¬ a11 = a2 → zG K d mX9_layRows 123 [zR 64, zI a1, zI a2, zI a3, zI a4, zJ a5, zU, zJ a7, zU, zJ a9, zU, zI a11, zI 0, zU] [] nu14 Q) ∧ (a11 = a2 → zG K d mX9_layRows 123 [zR 64, zI a1, zI a2, zI a3, zI a4, zJ a5, zU, zJ a7, zU, zJ a9, zU, zI a11, zI 1, zU] [] nu14 Q))))))))))))))))))))) : zG K d mX9_layRows 49 [zR 64, zI a1, zI a2, zI a3, zI a4, zJ a5, zU, zJ a7, zU, zJ a9, zU, zI a11, zU, zU] [] mu Q := by
  refine g_iload dX9_layRows_49 rfl ?_
  refine g_aload_n dX9_layRows_51 rfl ?_
  refine g_getR (k' := 66) dX9_layRows_52 (o64 hK) fX9_13 (by decide) (by decide) ?_
  refine g_iconst dX9_layRows_55 ?_
  refine g_iald' (nn := 2) dX9_layRows_56 (r66 hK) rfl (by decide) (by decide) ?_
  obtain ⟨q1, h⟩ := h
  obtain ⟨q2, h⟩ := h
  refine g_icmp_ge (tgt := 245) dX9_layRows_57 (by decide) q1 q2 (fun c_ => ?_) (fun c_ => ?_)
  · have h := h.1 c_
    refine g_aload_n dX9_layRows_245 rfl ?_
    refine g_getR (k' := 87) dX9_layRows_246 (o64 hK) fX9_77 (by decide) (by decide) ?_
    refine g_bipush dX9_layRows_249 rfl ?_
    refine g_iload_n dX9_layRows_251 rfl ?_
    refine g_imul dX9_layRows_252 ?_
    refine g_iload dX9_layRows_253 rfl ?_
    refine g_iadd dX9_layRows_255 ?_
    refine g_lload dX9_layRows_256 rfl ?_
    obtain ⟨q3, h⟩ := h
    obtain ⟨q4, h⟩ := h
    refine g_last' (nn := 704) dX9_layRows_258 (r87 hK) rfl q3 q4 ?_
    refine g_aload_n dX9_layRows_259 rfl ?_
    refine g_getR (k' := 88) dX9_layRows_260 (o64 hK) fX9_81 (by decide) (by decide) ?_
    refine g_bipush dX9_layRows_263 rfl ?_
    refine g_iload_n dX9_layRows_265 rfl ?_
    refine g_imul dX9_layRows_266 ?_
    refine g_iload dX9_layRows_267 rfl ?_
    refine g_iadd dX9_layRows_269 ?_
    refine g_lload dX9_layRows_270 rfl ?_
    refine g_last' (nn := 704) dX9_layRows_272 (r88 hK) rfl q3 q4 ?_
    refine g_aload_n dX9_layRows_273 rfl ?_
    refine g_getR (k' := 89) dX9_layRows_274 (o64 hK) fX9_84 (by decide) (by decide) ?_
    refine g_bipush dX9_layRows_277 rfl ?_
    refine g_iload_n dX9_layRows_279 rfl ?_
    refine g_imul dX9_layRows_280 ?_
    refine g_iload dX9_layRows_281 rfl ?_
    refine g_iadd dX9_layRows_283 ?_
    refine g_lload dX9_layRows_284 rfl ?_
    refine g_last' (nn := 704) dX9_layRows_286 (r89 hK) rfl q3 q4 ?_
    refine g_iinc dX9_layRows_287 rfl (by decide) rfl ?_
    refine g_goto (tgt := 14) dX9_layRows_290 (by decide) ?_
    exact g_wk (zwk_s (zwk_s (zwk_s (zwk_s (zwk_s (zwk_u (zwk_s (zwk_u (zwk_s (zwk_u (zwk_s (zwk_u (zwk_s (zwk_s zwk_n)))))))))))))) h
  · have h := h.2 c_
    refine g_iload_n dX9_layRows_60 rfl ?_
    refine g_aload_n dX9_layRows_61 rfl ?_
    refine g_getR (k' := 78) dX9_layRows_62 (o64 hK) fX9_49 (by decide) (by decide) ?_
    refine g_iconst dX9_layRows_65 ?_
    refine g_iald' (nn := 3) dX9_layRows_66 (r78 hK) rfl (by decide) (by decide) ?_
    obtain ⟨q5, h⟩ := h
    obtain ⟨q6, h⟩ := h
    refine g_icmp_ge (tgt := 245) dX9_layRows_67 (by decide) q5 q6 (fun c_ => ?_) (fun c_ => ?_)
    · have h := h.1 c_
      refine g_aload_n dX9_layRows_245 rfl ?_
      refine g_getR (k' := 87) dX9_layRows_246 (o64 hK) fX9_77 (by decide) (by decide) ?_
      refine g_bipush dX9_layRows_249 rfl ?_
      refine g_iload_n dX9_layRows_251 rfl ?_
      refine g_imul dX9_layRows_252 ?_
      refine g_iload dX9_layRows_253 rfl ?_
      refine g_iadd dX9_layRows_255 ?_
      refine g_lload dX9_layRows_256 rfl ?_
      obtain ⟨q7, h⟩ := h
      obtain ⟨q8, h⟩ := h
      refine g_last' (nn := 704) dX9_layRows_258 (r87 hK) rfl q7 q8 ?_
      refine g_aload_n dX9_layRows_259 rfl ?_
      refine g_getR (k' := 88) dX9_layRows_260 (o64 hK) fX9_81 (by decide) (by decide) ?_
      refine g_bipush dX9_layRows_263 rfl ?_
      refine g_iload_n dX9_layRows_265 rfl ?_
      refine g_imul dX9_layRows_266 ?_
      refine g_iload dX9_layRows_267 rfl ?_
      refine g_iadd dX9_layRows_269 ?_
      refine g_lload dX9_layRows_270 rfl ?_
      refine g_last' (nn := 704) dX9_layRows_272 (r88 hK) rfl q7 q8 ?_
      refine g_aload_n dX9_layRows_273 rfl ?_
      refine g_getR (k' := 89) dX9_layRows_274 (o64 hK) fX9_84 (by decide) (by decide) ?_
      refine g_bipush dX9_layRows_277 rfl ?_
      refine g_iload_n dX9_layRows_279 rfl ?_
      refine g_imul dX9_layRows_280 ?_
      refine g_iload dX9_layRows_281 rfl ?_
      refine g_iadd dX9_layRows_283 ?_
      refine g_lload dX9_layRows_284 rfl ?_
      refine g_last' (nn := 704) dX9_layRows_286 (r89 hK) rfl q7 q8 ?_
      refine g_iinc dX9_layRows_287 rfl (by decide) rfl ?_
      refine g_goto (tgt := 14) dX9_layRows_290 (by decide) ?_
      exact g_wk (zwk_s (zwk_s (zwk_s (zwk_s (zwk_s (zwk_u (zwk_s (zwk_u (zwk_s (zwk_u (zwk_s (zwk_u (zwk_s (zwk_s zwk_n)))))))))))))) h
    · have h := h.2 c_
      refine g_aload_n dX9_layRows_70 rfl ?_
      refine g_getR (k' := 73) dX9_layRows_71 (o64 hK) fX9_34 (by decide) (by decide) ?_
      refine g_iload dX9_layRows_74 rfl ?_
      obtain ⟨q9, h⟩ := h
      obtain ⟨q10, h⟩ := h
      refine g_iald' (nn := 12) dX9_layRows_76 (r73 hK) rfl q9 q10 ?_
      obtain ⟨q11, h⟩ := h
      refine g_if_le (tgt := 120) dX9_layRows_77 (by decide) q11 (fun c_ => ?_) (fun c_ => ?_)
      · have h := h.1 c_
        refine g_iconst dX9_layRows_120 ?_
        refine g_istore dX9_layRows_121 (by decide) rfl ?_
        exact g_wk (zwk_s (zwk_s (zwk_s (zwk_s (zwk_s (zwk_s (zwk_s (zwk_s (zwk_s (zwk_s (zwk_s (zwk_s (zwk_s (zwk_s zwk_n)))))))))))))) h
      · have h := h.2 c_
        refine g_aload_n dX9_layRows_80 rfl ?_
        refine g_iload dX9_layRows_81 rfl ?_
        refine g_bipush dX9_layRows_83 rfl ?_
        obtain ⟨q12, h⟩ := h
        refine g_idiv dX9_layRows_85 q12 (zin_d rfl) (by decide) ?_
        refine g_iload dX9_layRows_86 rfl ?_
        refine g_bipush dX9_layRows_88 rfl ?_
        refine g_irem dX9_layRows_90 q12 (zin_d rfl) (by decide) ?_
        refine g_iload dX9_layRows_91 rfl ?_
        refine g_callV (Y' := mX9_shortly) (d' := 1) (As := [zI (a4.tdiv 8), zI (a4.tmod 8), zI a11]) (rest := []) dX9_layRows_93 lX9_197 vX9_shortly (by omega) (o64 hK) rfl rfl (Nat.le_of_ble_eq_true rfl) rfl (zC_i h (fun r13 nu14 h => ?_))
        refine g_aload_n dX9_layRows_96 rfl ?_
        refine g_getR (k' := 79) dX9_layRows_97 (o64 hK) fX9_52 (by decide) (by decide) ?_
        refine g_iload_n dX9_layRows_100 rfl ?_
        obtain ⟨q15, h⟩ := h
        obtain ⟨q16, h⟩ := h
        refine g_iald' (nn := 30) dX9_layRows_101 (r79 hK) rfl q15 q16 ?_
        obtain ⟨q17, h⟩ := h
        obtain ⟨q18, h⟩ := h
        refine g_icmp_ne (tgt := 120) dX9_layRows_102 (by decide) q17 q18 (fun c_ => ?_) (fun c_ => ?_)
        · have h := h.1 c_
          refine g_iconst dX9_layRows_120 ?_
          refine g_istore dX9_layRows_121 (by decide) rfl ?_
          exact g_wk (zwk_s (zwk_s (zwk_s (zwk_s (zwk_s (zwk_s (zwk_s (zwk_s (zwk_s (zwk_s (zwk_s (zwk_s (zwk_s (zwk_s zwk_n)))))))))))))) h
        · have h := h.2 c_
          refine g_iload_n dX9_layRows_105 rfl ?_
          refine g_iload_n dX9_layRows_106 rfl ?_
          obtain ⟨q19, h⟩ := h
          refine g_icmp_ne (tgt := 116) dX9_layRows_107 (by decide) q5 q19 (fun c_ => ?_) (fun c_ => ?_)
          · have h := h.1 c_
            refine g_iconst dX9_layRows_116 ?_
            refine g_goto (tgt := 121) dX9_layRows_117 (by decide) ?_
            refine g_istore dX9_layRows_121 (by decide) rfl ?_
            exact g_wk (zwk_s (zwk_s (zwk_s (zwk_s (zwk_s (zwk_s (zwk_s (zwk_s (zwk_s (zwk_s (zwk_s (zwk_s (zwk_s (zwk_s zwk_n)))))))))))))) h
          · have h := h.2 c_
            refine g_iload dX9_layRows_110 rfl ?_
            refine g_iload_n dX9_layRows_112 rfl ?_
            obtain ⟨q20, h⟩ := h
            refine g_icmp_ne (tgt := 120) dX9_layRows_113 (by decide) q1 q20 (fun c_ => ?_) (fun c_ => ?_)
            · have h := h.1 c_
              refine g_iconst dX9_layRows_120 ?_
              refine g_istore dX9_layRows_121 (by decide) rfl ?_
              exact g_wk (zwk_s (zwk_s (zwk_s (zwk_s (zwk_s (zwk_s (zwk_s (zwk_s (zwk_s (zwk_s (zwk_s (zwk_s (zwk_s (zwk_s zwk_n)))))))))))))) h
            · have h := h.2 c_
              refine g_iconst dX9_layRows_116 ?_
              refine g_goto (tgt := 121) dX9_layRows_117 (by decide) ?_
              refine g_istore dX9_layRows_121 (by decide) rfl ?_
              exact g_wk (zwk_s (zwk_s (zwk_s (zwk_s (zwk_s (zwk_s (zwk_s (zwk_s (zwk_s (zwk_s (zwk_s (zwk_s (zwk_s (zwk_s zwk_n)))))))))))))) h
theorem sg_X9_layRows_123 {K d : Nat} {mu : Mem} {Q : AV → Mem → Prop} {a1 a2 a3 a4 a5 a7 a9 a11 a12 : Int} (hd : 2 ≤ d) (hK : 93 ≤ K) (h : (zin a4 ∧ zC K 0 mX9_stand [zI (a3 + 1), zI (a4.tmod 8), zI a11] mu (fun v_ nu3 => ∃ r2, v_ = zI r2 ∧ (zin a12 ∧ ((a12 = 0 → zG K d mX9_layRows 159 [zR 64, zI a1, zI a2, zI a3, zI a4, zJ (a5 + 0), zU, zJ a7, zU, zJ a9, zU, zI a11, zI a12, zI r2] [] nu3 Q) ∧ (¬ a12 = 0 → (0 ≤ r2 ∧ r2 < 704 ∧ zG K d mX9_layRows 159 [zR 64, zI a1, zI a2, zI a3, zI a4, zJ (a5 + (nu3 87 r2)), zU, zJ a7, zU, zJ a9, zU, zI a11, zI a12, zI r2] [] nu3 Q))))))) : zG K d mX9_layRows 123 [zR 64, zI a1, zI a2, zI a3, zI a4, zJ a5, zU, zJ a7, zU, zJ a9, zU, zI a11, zI a12, zU] [] mu Q := by
  refine g_iload_n dX9_layRows_123 rfl ?_
  refine g_iconst dX9_layRows_124 ?_
  refine g_iadd dX9_layRows_125 ?_
  refine g_iload dX9_layRows_126 rfl ?_
  refine g_bipush dX9_layRows_128 rfl ?_
  obtain ⟨q1, h⟩ := h
  refine g_irem dX9_layRows_130 q1 (zin_d rfl) (by decide) ?_
  refine g_iload dX9_layRows_131 rfl ?_
  refine g_callS (Y' := mX9_stand) (d' := 0) (As := [zI (a3 + 1), zI (a4.tmod 8), zI a11]) (rest := []) dX9_layRows_133 lX9_223 vX9_stand (by omega) rfl (Nat.le_of_ble_eq_true rfl) rfl (zC_i h (fun r2 nu3 h => ?_))
  refine g_istore dX9_layRows_136 (by decide) rfl ?_
  refine g_lload dX9_layRows_138 rfl ?_
  refine g_iload dX9_layRows_140 rfl ?_
  obtain ⟨q4, h⟩ := h
  refine g_if_eq (tgt := 155) dX9_layRows_142 (by decide) q4 (fun c_ => ?_) (fun c_ => ?_)
  · have h := h.1 c_
    refine g_lconst (x := 0) dX9_layRows_155 rfl ?_
    refine g_ladd dX9_layRows_156 ?_
    refine g_lstore dX9_layRows_157 (by decide) rfl ?_
    exact g_wk (zwk_s (zwk_s (zwk_s (zwk_s (zwk_s (zwk_s (zwk_s (zwk_s (zwk_s (zwk_s (zwk_s (zwk_s (zwk_s (zwk_s zwk_n)))))))))))))) h
  · have h := h.2 c_
    refine g_aload_n dX9_layRows_145 rfl ?_
    refine g_getR (k' := 87) dX9_layRows_146 (o64 hK) fX9_77 (by decide) (by decide) ?_
    refine g_iload dX9_layRows_149 rfl ?_
    obtain ⟨q5, h⟩ := h
    obtain ⟨q6, h⟩ := h
    refine g_lald' (nn := 704) dX9_layRows_151 (r87 hK) rfl q5 q6 ?_
    refine g_goto (tgt := 156) dX9_layRows_152 (by decide) ?_
    refine g_ladd dX9_layRows_156 ?_
    refine g_lstore dX9_layRows_157 (by decide) rfl ?_
    exact g_wk (zwk_s (zwk_s (zwk_s (zwk_s (zwk_s (zwk_s (zwk_s (zwk_s (zwk_s (zwk_s (zwk_s (zwk_s (zwk_s (zwk_s zwk_n)))))))))))))) h
theorem sg_X9_layRows_159 {K d : Nat} {mu : Mem} {Q : AV → Mem → Prop} {a1 a2 a3 a4 a5 a7 a9 a11 a12 a13 : Int} (hd : 2 ≤ d) (hK : 93 ≤ K) (h : (zin a12 ∧ ((a12 = 0 → zG K d mX9_layRows 189 [zR 64, zI a1, zI a2, zI a3, zI a4, zJ a5, zU, zJ (a7 + 0), zU, zJ a9, zU, zI a11, zI a12, zI a13] [] mu Q) ∧ (¬ a12 = 0 → (0 ≤ a11 ∧ a11 < 12 ∧ zin (mu 73 a11) ∧ 0 ≤ a13 ∧ a13 < 704 ∧ zG K d mX9_layRows 189 [zR 64, zI a1, zI a2, zI a3, zI a4, zJ a5, zU, zJ (a7 + ((mu 73 a11) * (mu 88 a13))), zU, zJ a9, zU, zI a11, zI a12, zI a13] [] mu Q))))) : zG K d mX9_layRows 159 [zR 64, zI a1, zI a2, zI a3, zI a4, zJ a5, zU, zJ a7, zU, zJ a9, zU, zI a11, zI a12, zI a13] [] mu Q := by
  refine g_lload dX9_layRows_159 rfl ?_
  refine g_iload dX9_layRows_161 rfl ?_
  obtain ⟨q1, h⟩ := h
  refine g_if_eq (tgt := 185) dX9_layRows_163 (by decide) q1 (fun c_ => ?_) (fun c_ => ?_)
  · have h := h.1 c_
    refine g_lconst (x := 0) dX9_layRows_185 rfl ?_
    refine g_ladd dX9_layRows_186 ?_
    refine g_lstore dX9_layRows_187 (by decide) rfl ?_
    exact g_wk (zwk_s (zwk_s (zwk_s (zwk_s (zwk_s (zwk_s (zwk_s (zwk_s (zwk_s (zwk_s (zwk_s (zwk_s (zwk_s (zwk_s zwk_n)))))))))))))) h
  · have h := h.2 c_
    refine g_aload_n dX9_layRows_166 rfl ?_
    refine g_getR (k' := 73) dX9_layRows_167 (o64 hK) fX9_34 (by decide) (by decide) ?_
    refine g_iload dX9_layRows_170 rfl ?_
    obtain ⟨q2, h⟩ := h
    obtain ⟨q3, h⟩ := h
    refine g_iald' (nn := 12) dX9_layRows_172 (r73 hK) rfl q2 q3 ?_
    obtain ⟨q4, h⟩ := h
    refine g_i2l dX9_layRows_173 q4 ?_
    refine g_aload_n dX9_layRows_174 rfl ?_
    refine g_getR (k' := 88) dX9_layRows_175 (o64 hK) fX9_81 (by decide) (by decide) ?_
    refine g_iload dX9_layRows_178 rfl ?_
    obtain ⟨q5, h⟩ := h
    obtain ⟨q6, h⟩ := h
    refine g_lald' (nn := 704) dX9_layRows_180 (r88 hK) rfl q5 q6 ?_
    refine g_lmul dX9_layRows_181 ?_
    refine g_goto (tgt := 186) dX9_layRows_182 (by decide) ?_
    refine g_ladd dX9_layRows_186 ?_
    refine g_lstore dX9_layRows_187 (by decide) rfl ?_
    exact g_wk (zwk_s (zwk_s (zwk_s (zwk_s (zwk_s (zwk_s (zwk_s (zwk_s (zwk_s (zwk_s (zwk_s (zwk_s (zwk_s (zwk_s zwk_n)))))))))))))) h
theorem sg_X9_layRows_189 {K d : Nat} {mu : Mem} {Q : AV → Mem → Prop} {a1 a2 a3 a4 a5 a7 a9 a11 a12 a13 : Int} (hd : 2 ≤ d) (hK : 93 ≤ K) (h : (zin a12 ∧ ((a12 = 0 → zG K d mX9_layRows 49 [zR 64, zI a1, zI a2, zI a3, zI a4, zJ a5, zU, zJ a7, zU, zJ a9, zU, zI (a11 + 1), zU, zU] [] mu Q) ∧ (¬ a12 = 0 → (0 ≤ a11 ∧ a11 < 12 ∧ zin (mu 73 a11) ∧ 0 ≤ a13 ∧ a13 < 704 ∧ zil ((mu 73 a11) * (mu 89 a13)) ∧ zil a9 ∧ ((((mu 73 a11) * (mu 89 a13)) ≤ a9 → zG K d mX9_layRows 49 [zR 64, zI a1, zI a2, zI a3, zI a4, zJ a5, zU, zJ a7, zU, zJ a9, zU, zI (a11 + 1), zU, zU] [] mu Q) ∧ (¬ ((mu 73 a11) * (mu 89 a13)) ≤ a9 → zG K d mX9_layRows 49 [zR 64, zI a1, zI a2, zI a3, zI a4, zJ a5, zU, zJ a7, zU, zJ ((mu 73 a11) * (mu 89 a13)), zU, zI (a11 + 1), zU, zU] [] mu Q))))))) : zG K d mX9_layRows 189 [zR 64, zI a1, zI a2, zI a3, zI a4, zJ a5, zU, zJ a7, zU, zJ a9, zU, zI a11, zI a12, zI a13] [] mu Q := by
  refine g_iload dX9_layRows_189 rfl ?_
  obtain ⟨q1, h⟩ := h
  refine g_if_eq (tgt := 235) dX9_layRows_191 (by decide) q1 (fun c_ => ?_) (fun c_ => ?_)
  · have h := h.1 c_
    refine g_lload dX9_layRows_235 rfl ?_
    refine g_lstore dX9_layRows_237 (by decide) rfl ?_
    refine g_iinc dX9_layRows_239 rfl (by decide) rfl ?_
    refine g_goto (tgt := 49) dX9_layRows_242 (by decide) ?_
    exact g_wk (zwk_s (zwk_s (zwk_s (zwk_s (zwk_s (zwk_s (zwk_s (zwk_s (zwk_s (zwk_s (zwk_s (zwk_s (zwk_u (zwk_u zwk_n)))))))))))))) h
  · have h := h.2 c_
    refine g_aload_n dX9_layRows_194 rfl ?_
    refine g_getR (k' := 73) dX9_layRows_195 (o64 hK) fX9_34 (by decide) (by decide) ?_
    refine g_iload dX9_layRows_198 rfl ?_
    obtain ⟨q2, h⟩ := h
    obtain ⟨q3, h⟩ := h
    refine g_iald' (nn := 12) dX9_layRows_200 (r73 hK) rfl q2 q3 ?_
    obtain ⟨q4, h⟩ := h
    refine g_i2l dX9_layRows_201 q4 ?_
    refine g_aload_n dX9_layRows_202 rfl ?_
    refine g_getR (k' := 89) dX9_layRows_203 (o64 hK) fX9_84 (by decide) (by decide) ?_
    refine g_iload dX9_layRows_206 rfl ?_
    obtain ⟨q5, h⟩ := h
    obtain ⟨q6, h⟩ := h
    refine g_lald' (nn := 704) dX9_layRows_208 (r89 hK) rfl q5 q6 ?_
    refine g_lmul dX9_layRows_209 ?_
    refine g_lload dX9_layRows_210 rfl ?_
    obtain ⟨q7, h⟩ := h
    obtain ⟨q8, h⟩ := h
    refine g_lcmp_le (tgt := 235) dX9_layRows_212 dX9_layRows_213 (by decide) q7 q8 (fun c_ => ?_) (fun c_ => ?_)
    · have h := h.1 c_
      refine g_lload dX9_layRows_235 rfl ?_
      refine g_lstore dX9_layRows_237 (by decide) rfl ?_
      refine g_iinc dX9_layRows_239 rfl (by decide) rfl ?_
      refine g_goto (tgt := 49) dX9_layRows_242 (by decide) ?_
      exact g_wk (zwk_s (zwk_s (zwk_s (zwk_s (zwk_s (zwk_s (zwk_s (zwk_s (zwk_s (zwk_s (zwk_s (zwk_s (zwk_u (zwk_u zwk_n)))))))))))))) h
    · have h := h.2 c_
      refine g_aload_n dX9_layRows_216 rfl ?_
      refine g_getR (k' := 73) dX9_layRows_217 (o64 hK) fX9_34 (by decide) (by decide) ?_
      refine g_iload dX9_layRows_220 rfl ?_
      refine g_iald' (nn := 12) dX9_layRows_222 (r73 hK) rfl q2 q3 ?_
      refine g_i2l dX9_layRows_223 q4 ?_
      refine g_aload_n dX9_layRows_224 rfl ?_
      refine g_getR (k' := 89) dX9_layRows_225 (o64 hK) fX9_84 (by decide) (by decide) ?_
      refine g_iload dX9_layRows_228 rfl ?_
      refine g_lald' (nn := 704) dX9_layRows_230 (r89 hK) rfl q5 q6 ?_
      refine g_lmul dX9_layRows_231 ?_
      refine g_goto (tgt := 237) dX9_layRows_232 (by decide) ?_
      refine g_lstore dX9_layRows_237 (by decide) rfl ?_
      refine g_iinc dX9_layRows_239 rfl (by decide) rfl ?_
      refine g_goto (tgt := 49) dX9_layRows_242 (by decide) ?_
      exact g_wk (zwk_s (zwk_s (zwk_s (zwk_s (zwk_s (zwk_s (zwk_s (zwk_s (zwk_s (zwk_s (zwk_s (zwk_s (zwk_u (zwk_u zwk_n)))))))))))))) h
theorem sg_X9_layStrangers_0 {K d : Nat} {mu : Mem} {Q : AV → Mem → Prop} {a1 : Int} (hd : 4 ≤ d) (hK : 93 ≤ K) (h : zC K 3 mX9_layNeeds [zR 64, zI a1] mu (fun v_ nu2 => v_ = zV ∧ zC K 0 mX9_lastBut [zR 64, zI 1] nu2 (fun v_ nu4 => ∃ r3, v_ = zI r3 ∧ zC K 0 mX9_lastBut [zR 64, zI 0] nu4 (fun v_ nu6 => ∃ r5, v_ = zI r5 ∧ zC K 0 mX9_stand [zI 0, zI r3, zI r5] nu6 (fun v_ nu8 => ∃ r7, v_ = zI r7 ∧ (0 ≤ r7 ∧ r7 < 704 ∧ zin (nu8 83 r7) ∧ (((nu8 83 r7) ≤ 12 → zG K d mX9_layStrangers 48 [zR 64, zI a1, zI r3, zI r5, zI 0, zU, zU, zU, zU, zU] [] (zup nu8 64 25 0) Q) ∧ (¬ (nu8 83 r7) ≤ 12 → Q (zI (-4)) nu8)))))))) : zG K d mX9_layStrangers 0 [zR 64, zI a1, zU, zU, zU, zU, zU, zU, zU, zU] [] mu Q := by
  refine g_aload_n dX9_layStrangers_0 rfl ?_
  refine g_iload_n dX9_layStrangers_1 rfl ?_
  refine g_callV (Y' := mX9_layNeeds) (d' := 3) (As := [zI a1]) (rest := []) dX9_layStrangers_2 lX9_230 vX9_layNeeds (by omega) (o64 hK) rfl rfl (Nat.le_of_ble_eq_true rfl) rfl (zC_v h (fun nu2 h => ?_))
  refine g_aload_n dX9_layStrangers_5 rfl ?_
  refine g_iconst dX9_layStrangers_6 ?_
  refine g_callV (Y' := mX9_lastBut) (d' := 0) (As := [zI 1]) (rest := []) dX9_layStrangers_7 lX9_220 vX9_lastBut (by omega) (o64 hK) rfl rfl (Nat.le_of_ble_eq_true rfl) rfl (zC_i h (fun r3 nu4 h => ?_))
  refine g_istore_n dX9_layStrangers_10 (by decide) rfl ?_
  refine g_aload_n dX9_layStrangers_11 rfl ?_
  refine g_iconst dX9_layStrangers_12 ?_
  refine g_callV (Y' := mX9_lastBut) (d' := 0) (As := [zI 0]) (rest := []) dX9_layStrangers_13 lX9_220 vX9_lastBut (by omega) (o64 hK) rfl rfl (Nat.le_of_ble_eq_true rfl) rfl (zC_i h (fun r5 nu6 h => ?_))
  refine g_istore_n dX9_layStrangers_16 (by decide) rfl ?_
  refine g_iconst dX9_layStrangers_17 ?_
  refine g_istore dX9_layStrangers_18 (by decide) rfl ?_
  refine g_aload_n dX9_layStrangers_20 rfl ?_
  refine g_getR (k' := 83) dX9_layStrangers_21 (o64 hK) fX9_65 (by decide) (by decide) ?_
  refine g_iconst dX9_layStrangers_24 ?_
  refine g_iload_n dX9_layStrangers_25 rfl ?_
  refine g_iload_n dX9_layStrangers_26 rfl ?_
  refine g_callS (Y' := mX9_stand) (d' := 0) (As := [zI 0, zI r3, zI r5]) (rest := [zR 83]) dX9_layStrangers_27 lX9_223 vX9_stand (by omega) rfl (Nat.le_of_ble_eq_true rfl) rfl (zC_i h (fun r7 nu8 h => ?_))
  obtain ⟨q9, h⟩ := h
  obtain ⟨q10, h⟩ := h
  refine g_iald' (nn := 704) dX9_layStrangers_30 (r83 hK) rfl q9 q10 ?_
  refine g_istore dX9_layStrangers_31 (by decide) rfl ?_
  refine g_iload dX9_layStrangers_33 rfl ?_
  refine g_bipush dX9_layStrangers_35 rfl ?_
  obtain ⟨q11, h⟩ := h
  refine g_icmp_le (tgt := 43) dX9_layStrangers_37 (by decide) q11 (zin_d rfl) (fun c_ => ?_) (fun c_ => ?_)
  · have h := h.1 c_
    refine g_aload_n dX9_layStrangers_43 rfl ?_
    refine g_iconst dX9_layStrangers_44 ?_
    refine g_putI' (jj := 25) dX9_layStrangers_45 (o64 hK) pX9_233 rfl rfl ?_
    exact g_wk (zwk_s (zwk_s (zwk_s (zwk_s (zwk_s (zwk_u (zwk_s (zwk_s (zwk_s (zwk_s zwk_n)))))))))) h
  · have h := h.2 c_
    refine g_bipush dX9_layStrangers_40 rfl ?_
    exact g_ireturn dX9_layStrangers_42 rfl h
theorem sg_X9_layStrangers_48 {K d : Nat} {mu : Mem} {Q : AV → Mem → Prop} {a1 a2 a3 a4 : Int} (hd : 4 ≤ d) (hK : 93 ≤ K) (h : (zin a4 ∧ zin (mu 70 0) ∧ (((mu 70 0) ≤ a4 → Q (zI (mu 64 25)) mu) ∧ (¬ (mu 70 0) ≤ a4 → zC K 0 mX9_stand [zI a4, zI a2, zI a3] mu (fun v_ nu4 => ∃ r3, v_ = zI r3 ∧ (0 ≤ r3 ∧ r3 < 704 ∧ zG K d mX9_layStrangers 82 [zR 64, zI a1, zI a2, zI a3, zI a4, zU, zI (nu4 83 r3), zI 0, zI 0, zI 0] [] nu4 Q)))))) : zG K d mX9_layStrangers 48 [zR 64, zI a1, zI a2, zI a3, zI a4, zU, zU, zU, zU, zU] [] mu Q := by
  refine g_iload dX9_layStrangers_48 rfl ?_
  refine g_aload_n dX9_layStrangers_50 rfl ?_
  refine g_getR (k' := 70) dX9_layStrangers_51 (o64 hK) fX9_25 (by decide) (by decide) ?_
  refine g_iconst dX9_layStrangers_54 ?_
  refine g_iald' (nn := 2) dX9_layStrangers_55 (r70 hK) rfl (by decide) (by decide) ?_
  obtain ⟨q1, h⟩ := h
  obtain ⟨q2, h⟩ := h
  refine g_icmp_ge (tgt := 221) dX9_layStrangers_56 (by decide) q1 q2 (fun c_ => ?_) (fun c_ => ?_)
  · have h := h.1 c_
    refine g_aload_n dX9_layStrangers_221 rfl ?_
    refine g_getI' (jj := 25) dX9_layStrangers_222 (o64 hK) fX9_233 rfl rfl ?_
    exact g_ireturn dX9_layStrangers_225 rfl h
  · have h := h.2 c_
    refine g_aload_n dX9_layStrangers_59 rfl ?_
    refine g_getR (k' := 83) dX9_layStrangers_60 (o64 hK) fX9_65 (by decide) (by decide) ?_
    refine g_iload dX9_layStrangers_63 rfl ?_
    refine g_iload_n dX9_layStrangers_65 rfl ?_
    refine g_iload_n dX9_layStrangers_66 rfl ?_
    refine g_callS (Y' := mX9_stand) (d' := 0) (As := [zI a4, zI a2, zI a3]) (rest := [zR 83]) dX9_layStrangers_67 lX9_223 vX9_stand (by omega) rfl (Nat.le_of_ble_eq_true rfl) rfl (zC_i h (fun r3 nu4 h => ?_))
    obtain ⟨q5, h⟩ := h
    obtain ⟨q6, h⟩ := h
    refine g_iald' (nn := 704) dX9_layStrangers_70 (r83 hK) rfl q5 q6 ?_
    refine g_istore dX9_layStrangers_71 (by decide) rfl ?_
    refine g_iconst dX9_layStrangers_73 ?_
    refine g_istore dX9_layStrangers_74 (by decide) rfl ?_
    refine g_iconst dX9_layStrangers_76 ?_
    refine g_istore dX9_layStrangers_77 (by decide) rfl ?_
    refine g_iconst dX9_layStrangers_79 ?_
    refine g_istore dX9_layStrangers_80 (by decide) rfl ?_
    exact g_wk (zwk_s (zwk_s (zwk_s (zwk_s (zwk_s (zwk_s (zwk_s (zwk_s (zwk_s (zwk_s zwk_n)))))))))) h
theorem sg_X9_layStrangers_82 {K d : Nat} {mu : Mem} {Q : AV → Mem → Prop} {a1 a2 a3 a4 a6 a7 a8 a9 : Int} (hd : 4 ≤ d) (hK : 93 ≤ K) (h : (zin a9 ∧ ((¬ a9 = 0 → (zin a7 ∧ ((a7 = 0 → (0 ≤ (mu 64 25) ∧ (mu 64 25) < 12 ∧ 0 ≤ ((zup mu 84 (mu 64 25) a8) 64 25) ∧ ((zup mu 84 (mu 64 25) a8) 64 25) < 12 ∧ zG K d mX9_layStrangers 48 [zR 64, zI a1, zI a3, zI a8, zI a4, zU, zU, zU, zU, zU] [] (zup (zup (zup mu 84 (mu 64 25) a8) 85 ((zup mu 84 (mu 64 25) a8) 64 25) a4) 64 25 (((zup (zup mu 84 (mu 64 25) a8) 85 ((zup mu 84 (mu 64 25) a8) 64 25) a4) 64 25) + 1)) Q)) ∧ (¬ a7 = 0 → zG K d mX9_layStrangers 48 [zR 64, zI a1, zI a3, zI a8, zI (a4 + 1), zU, zU, zU, zU, zU] [] mu Q)))) ∧ (a9 = 0 → (0 ≤ a4 ∧ a4 < 20 ∧ zin (mu 71 a4) ∧ zin a8 ∧ ((¬ (mu 71 a4) = a8 → zC K 0 mX9_stand [zI a4, zI a3, zI a8] mu (fun v_ nu12 => ∃ r11, v_ = zI r11 ∧ (0 ≤ r11 ∧ r11 < 704 ∧ zin ((nu12 83 r11) + 1) ∧ zin a6 ∧ ((¬ ((nu12 83 r11) + 1) = a6 → zG K d mX9_layStrangers 82 [zR 64, zI a1, zI a2, zI a3, zI a4, zU, zI a6, zI 0, zI (a8 + 1), zI 0] [] nu12 Q) ∧ (((nu12 83 r11) + 1) = a6 → zG K d mX9_layStrangers 82 [zR 64, zI a1, zI a2, zI a3, zI a4, zU, zI a6, zI 0, zI (a8 + 0), zI 1] [] nu12 Q))))) ∧ ((mu 71 a4) = a8 → zC K 2 mX9_byQueue [zR 64, zI a1, zI a4, zI a2, zI a3] mu (fun v_ nu18 => ∃ r17, v_ = zI r17 ∧ (zin r17 ∧ zin a6 ∧ ((¬ r17 = a6 → zC K 0 mX9_stand [zI a4, zI a3, zI a8] nu18 (fun v_ nu22 => ∃ r21, v_ = zI r21 ∧ (0 ≤ r21 ∧ r21 < 704 ∧ zin ((nu22 83 r21) + 1) ∧ ((¬ ((nu22 83 r21) + 1) = a6 → zG K d mX9_layStrangers 82 [zR 64, zI a1, zI a2, zI a3, zI a4, zU, zI a6, zI 0, zI (a8 + 1), zI 0] [] nu22 Q) ∧ (((nu22 83 r21) + 1) = a6 → zG K d mX9_layStrangers 82 [zR 64, zI a1, zI a2, zI a3, zI a4, zU, zI a6, zI 0, zI (a8 + 0), zI 1] [] nu22 Q))))) ∧ (r17 = a6 → zG K d mX9_layStrangers 82 [zR 64, zI a1, zI a2, zI a3, zI a4, zU, zI a6, zI 1, zI (a8 + 0), zI 1] [] nu18 Q))))))))))) : zG K d mX9_layStrangers 82 [zR 64, zI a1, zI a2, zI a3, zI a4, zU, zI a6, zI a7, zI a8, zI a9] [] mu Q := by
  refine g_iload dX9_layStrangers_82 rfl ?_
  obtain ⟨q1, h⟩ := h
  refine g_if_ne (tgt := 170) dX9_layStrangers_84 (by decide) q1 (fun c_ => ?_) (fun c_ => ?_)
  · have h := h.1 c_
    refine g_iload dX9_layStrangers_170 rfl ?_
    obtain ⟨q2, h⟩ := h
    refine g_if_eq (tgt := 181) dX9_layStrangers_172 (by decide) q2 (fun c_ => ?_) (fun c_ => ?_)
    · have h := h.1 c_
      refine g_aload_n dX9_layStrangers_181 rfl ?_
      refine g_getR (k' := 84) dX9_layStrangers_182 (o64 hK) fX9_68 (by decide) (by decide) ?_
      refine g_aload_n dX9_layStrangers_185 rfl ?_
      refine g_getI' (jj := 25) dX9_layStrangers_186 (o64 hK) fX9_233 rfl rfl ?_
      refine g_iload dX9_layStrangers_189 rfl ?_
      obtain ⟨q3, h⟩ := h
      obtain ⟨q4, h⟩ := h
      refine g_iast' (nn := 12) dX9_layStrangers_191 (r84 hK) rfl q3 q4 ?_
      refine g_aload_n dX9_layStrangers_192 rfl ?_
      refine g_getR (k' := 85) dX9_layStrangers_193 (o64 hK) fX9_71 (by decide) (by decide) ?_
      refine g_aload_n dX9_layStrangers_196 rfl ?_
      refine g_getI' (jj := 25) dX9_layStrangers_197 (o64 hK) fX9_233 rfl rfl ?_
      refine g_iload dX9_layStrangers_200 rfl ?_
      obtain ⟨q5, h⟩ := h
      obtain ⟨q6, h⟩ := h
      refine g_iast' (nn := 12) dX9_layStrangers_202 (r85 hK) rfl q5 q6 ?_
      refine g_aload_n dX9_layStrangers_203 rfl ?_
      refine g_dup dX9_layStrangers_204 (by simp) ?_
      refine g_getI' (jj := 25) dX9_layStrangers_205 (o64 hK) fX9_233 rfl rfl ?_
      refine g_iconst dX9_layStrangers_208 ?_
      refine g_iadd dX9_layStrangers_209 ?_
      refine g_putI' (jj := 25) dX9_layStrangers_210 (o64 hK) pX9_233 rfl rfl ?_
      refine g_iload_n dX9_layStrangers_213 rfl ?_
      refine g_istore_n dX9_layStrangers_214 (by decide) rfl ?_
      refine g_iload dX9_layStrangers_215 rfl ?_
      refine g_istore_n dX9_layStrangers_217 (by decide) rfl ?_
      refine g_goto (tgt := 48) dX9_layStrangers_218 (by decide) ?_
      exact g_wk (zwk_s (zwk_s (zwk_s (zwk_s (zwk_s (zwk_s (zwk_u (zwk_u (zwk_u (zwk_u zwk_n)))))))))) h
    · have h := h.2 c_
      refine g_iinc dX9_layStrangers_175 rfl (by decide) rfl ?_
      refine g_goto (tgt := 213) dX9_layStrangers_178 (by decide) ?_
      refine g_iload_n dX9_layStrangers_213 rfl ?_
      refine g_istore_n dX9_layStrangers_214 (by decide) rfl ?_
      refine g_iload dX9_layStrangers_215 rfl ?_
      refine g_istore_n dX9_layStrangers_217 (by decide) rfl ?_
      refine g_goto (tgt := 48) dX9_layStrangers_218 (by decide) ?_
      exact g_wk (zwk_s (zwk_s (zwk_s (zwk_s (zwk_s (zwk_s (zwk_u (zwk_u (zwk_u (zwk_u zwk_n)))))))))) h
  · have h := h.2 c_
    refine g_aload_n dX9_layStrangers_87 rfl ?_
    refine g_getR (k' := 71) dX9_layStrangers_88 (o64 hK) fX9_28 (by decide) (by decide) ?_
    refine g_iload dX9_layStrangers_91 rfl ?_
    obtain ⟨q7, h⟩ := h
    obtain ⟨q8, h⟩ := h
    refine g_iald' (nn := 20) dX9_layStrangers_93 (r71 hK) rfl q7 q8 ?_
    refine g_iload dX9_layStrangers_94 rfl ?_
    obtain ⟨q9, h⟩ := h
    obtain ⟨q10, h⟩ := h
    refine g_icmp_ne (tgt := 117) dX9_layStrangers_96 (by decide) q9 q10 (fun c_ => ?_) (fun c_ => ?_)
    · have h := h.1 c_
      refine g_iconst dX9_layStrangers_117 ?_
      refine g_istore dX9_layStrangers_118 (by decide) rfl ?_
      refine g_iload dX9_layStrangers_120 rfl ?_
      refine g_if_ne (tgt := 145) dX9_layStrangers_122 (by decide) (zin_d rfl) (fun c => absurd rfl c) (fun _ => ?_)
      refine g_aload_n dX9_layStrangers_125 rfl ?_
      refine g_getR (k' := 83) dX9_layStrangers_126 (o64 hK) fX9_65 (by decide) (by decide) ?_
      refine g_iload dX9_layStrangers_129 rfl ?_
      refine g_iload_n dX9_layStrangers_131 rfl ?_
      refine g_iload dX9_layStrangers_132 rfl ?_
      refine g_callS (Y' := mX9_stand) (d' := 0) (As := [zI a4, zI a3, zI a8]) (rest := [zR 83]) dX9_layStrangers_134 lX9_223 vX9_stand (by omega) rfl (Nat.le_of_ble_eq_true rfl) rfl (zC_i h (fun r11 nu12 h => ?_))
      obtain ⟨q13, h⟩ := h
      obtain ⟨q14, h⟩ := h
      refine g_iald' (nn := 704) dX9_layStrangers_137 (r83 hK) rfl q13 q14 ?_
      refine g_iconst dX9_layStrangers_138 ?_
      refine g_iadd dX9_layStrangers_139 ?_
      refine g_iload dX9_layStrangers_140 rfl ?_
      obtain ⟨q15, h⟩ := h
      obtain ⟨q16, h⟩ := h
      refine g_icmp_ne (tgt := 149) dX9_layStrangers_142 (by decide) q15 q16 (fun c_ => ?_) (fun c_ => ?_)
      · have h := h.1 c_
        refine g_iconst dX9_layStrangers_149 ?_
        refine g_istore dX9_layStrangers_150 (by decide) rfl ?_
        refine g_iload dX9_layStrangers_152 rfl ?_
        refine g_iload dX9_layStrangers_154 rfl ?_
        refine g_if_eq (tgt := 163) dX9_layStrangers_156 (by decide) (zin_d rfl) (fun _ => ?_) (fun c => absurd (by decide) c)
        refine g_iconst dX9_layStrangers_163 ?_
        refine g_iadd dX9_layStrangers_164 ?_
        refine g_istore dX9_layStrangers_165 (by decide) rfl ?_
        refine g_goto (tgt := 82) dX9_layStrangers_167 (by decide) ?_
        exact g_wk (zwk_s (zwk_s (zwk_s (zwk_s (zwk_s (zwk_s (zwk_s (zwk_s (zwk_s (zwk_s zwk_n)))))))))) h
      · have h := h.2 c_
        refine g_iconst dX9_layStrangers_145 ?_
        refine g_goto (tgt := 150) dX9_layStrangers_146 (by decide) ?_
        refine g_istore dX9_layStrangers_150 (by decide) rfl ?_
        refine g_iload dX9_layStrangers_152 rfl ?_
        refine g_iload dX9_layStrangers_154 rfl ?_
        refine g_if_eq (tgt := 163) dX9_layStrangers_156 (by decide) (zin_d rfl) (fun c => absurd c (by decide)) (fun _ => ?_)
        refine g_iconst dX9_layStrangers_159 ?_
        refine g_goto (tgt := 164) dX9_layStrangers_160 (by decide) ?_
        refine g_iadd dX9_layStrangers_164 ?_
        refine g_istore dX9_layStrangers_165 (by decide) rfl ?_
        refine g_goto (tgt := 82) dX9_layStrangers_167 (by decide) ?_
        exact g_wk (zwk_s (zwk_s (zwk_s (zwk_s (zwk_s (zwk_s (zwk_s (zwk_s (zwk_s (zwk_s zwk_n)))))))))) h
    · have h := h.2 c_
      refine g_aload_n dX9_layStrangers_99 rfl ?_
      refine g_iload_n dX9_layStrangers_100 rfl ?_
      refine g_iload dX9_layStrangers_101 rfl ?_
      refine g_iload_n dX9_layStrangers_103 rfl ?_
      refine g_iload_n dX9_layStrangers_104 rfl ?_
      refine g_callV (Y' := mX9_byQueue) (d' := 2) (As := [zI a1, zI a4, zI a2, zI a3]) (rest := []) dX9_layStrangers_105 lX9_226 vX9_byQueue (by omega) (o64 hK) rfl rfl (Nat.le_of_ble_eq_true rfl) rfl (zC_i h (fun r17 nu18 h => ?_))
      refine g_iload dX9_layStrangers_108 rfl ?_
      obtain ⟨q19, h⟩ := h
      obtain ⟨q20, h⟩ := h
      refine g_icmp_ne (tgt := 117) dX9_layStrangers_110 (by decide) q19 q20 (fun c_ => ?_) (fun c_ => ?_)
      · have h := h.1 c_
        refine g_iconst dX9_layStrangers_117 ?_
        refine g_istore dX9_layStrangers_118 (by decide) rfl ?_
        refine g_iload dX9_layStrangers_120 rfl ?_
        refine g_if_ne (tgt := 145) dX9_layStrangers_122 (by decide) (zin_d rfl) (fun c => absurd rfl c) (fun _ => ?_)
        refine g_aload_n dX9_layStrangers_125 rfl ?_
        refine g_getR (k' := 83) dX9_layStrangers_126 (o64 hK) fX9_65 (by decide) (by decide) ?_
        refine g_iload dX9_layStrangers_129 rfl ?_
        refine g_iload_n dX9_layStrangers_131 rfl ?_
        refine g_iload dX9_layStrangers_132 rfl ?_
        refine g_callS (Y' := mX9_stand) (d' := 0) (As := [zI a4, zI a3, zI a8]) (rest := [zR 83]) dX9_layStrangers_134 lX9_223 vX9_stand (by omega) rfl (Nat.le_of_ble_eq_true rfl) rfl (zC_i h (fun r21 nu22 h => ?_))
        obtain ⟨q23, h⟩ := h
        obtain ⟨q24, h⟩ := h
        refine g_iald' (nn := 704) dX9_layStrangers_137 (r83 hK) rfl q23 q24 ?_
        refine g_iconst dX9_layStrangers_138 ?_
        refine g_iadd dX9_layStrangers_139 ?_
        refine g_iload dX9_layStrangers_140 rfl ?_
        obtain ⟨q25, h⟩ := h
        refine g_icmp_ne (tgt := 149) dX9_layStrangers_142 (by decide) q25 q20 (fun c_ => ?_) (fun c_ => ?_)
        · have h := h.1 c_
          refine g_iconst dX9_layStrangers_149 ?_
          refine g_istore dX9_layStrangers_150 (by decide) rfl ?_
          refine g_iload dX9_layStrangers_152 rfl ?_
          refine g_iload dX9_layStrangers_154 rfl ?_
          refine g_if_eq (tgt := 163) dX9_layStrangers_156 (by decide) (zin_d rfl) (fun _ => ?_) (fun c => absurd (by decide) c)
          refine g_iconst dX9_layStrangers_163 ?_
          refine g_iadd dX9_layStrangers_164 ?_
          refine g_istore dX9_layStrangers_165 (by decide) rfl ?_
          refine g_goto (tgt := 82) dX9_layStrangers_167 (by decide) ?_
          exact g_wk (zwk_s (zwk_s (zwk_s (zwk_s (zwk_s (zwk_s (zwk_s (zwk_s (zwk_s (zwk_s zwk_n)))))))))) h
        · have h := h.2 c_
          refine g_iconst dX9_layStrangers_145 ?_
          refine g_goto (tgt := 150) dX9_layStrangers_146 (by decide) ?_
          refine g_istore dX9_layStrangers_150 (by decide) rfl ?_
          refine g_iload dX9_layStrangers_152 rfl ?_
          refine g_iload dX9_layStrangers_154 rfl ?_
          refine g_if_eq (tgt := 163) dX9_layStrangers_156 (by decide) (zin_d rfl) (fun c => absurd c (by decide)) (fun _ => ?_)
          refine g_iconst dX9_layStrangers_159 ?_
          refine g_goto (tgt := 164) dX9_layStrangers_160 (by decide) ?_
          refine g_iadd dX9_layStrangers_164 ?_
          refine g_istore dX9_layStrangers_165 (by decide) rfl ?_
          refine g_goto (tgt := 82) dX9_layStrangers_167 (by decide) ?_
          exact g_wk (zwk_s (zwk_s (zwk_s (zwk_s (zwk_s (zwk_s (zwk_s (zwk_s (zwk_s (zwk_s zwk_n)))))))))) h
      · have h := h.2 c_
        refine g_iconst dX9_layStrangers_113 ?_
        refine g_goto (tgt := 118) dX9_layStrangers_114 (by decide) ?_
        refine g_istore dX9_layStrangers_118 (by decide) rfl ?_
        refine g_iload dX9_layStrangers_120 rfl ?_
        refine g_if_ne (tgt := 145) dX9_layStrangers_122 (by decide) (zin_d rfl) (fun _ => ?_) (fun c => absurd c (by decide))
        refine g_iconst dX9_layStrangers_145 ?_
        refine g_goto (tgt := 150) dX9_layStrangers_146 (by decide) ?_
        refine g_istore dX9_layStrangers_150 (by decide) rfl ?_
        refine g_iload dX9_layStrangers_152 rfl ?_
        refine g_iload dX9_layStrangers_154 rfl ?_
        refine g_if_eq (tgt := 163) dX9_layStrangers_156 (by decide) (zin_d rfl) (fun c => absurd c (by decide)) (fun _ => ?_)
        refine g_iconst dX9_layStrangers_159 ?_
        refine g_goto (tgt := 164) dX9_layStrangers_160 (by decide) ?_
        refine g_iadd dX9_layStrangers_164 ?_
        refine g_istore dX9_layStrangers_165 (by decide) rfl ?_
        refine g_goto (tgt := 82) dX9_layStrangers_167 (by decide) ?_
        exact g_wk (zwk_s (zwk_s (zwk_s (zwk_s (zwk_s (zwk_s (zwk_s (zwk_s (zwk_s (zwk_s zwk_n)))))))))) h
theorem sg_X9_likeliest_0 {K d : Nat} {mu : Mem} {Q : AV → Mem → Prop} {a1 : Int} (hd : 3 ≤ d) (hK : 93 ≤ K) (h : (zin a1 ∧ zin ((mu 78 0) - 1) ∧ zC K 0 mX9_in [zJ a1, zJ 0, zJ ((mu 78 0) - 1)] mu (fun v_ nu4 => ∃ r3, v_ = zI r3 ∧ (zin r3 ∧ ((¬ r3 = 0 → zC K 0 mX9_isShort [zR 64] nu4 (fun v_ nu7 => ∃ r6, v_ = zI r6 ∧ (zin r6 ∧ ((¬ r6 = 0 → zC K 2 mX9_layRows [zR 64, zI (-4), zI (-4)] nu7 (fun v_ nu10 => v_ = zV ∧ zC K 0 mX9_lastBut [zR 64, zI 1] nu10 (fun v_ nu12 => ∃ r11, v_ = zI r11 ∧ zC K 0 mX9_lastBut [zR 64, zI 0] nu12 (fun v_ nu14 => ∃ r13, v_ = zI r13 ∧ zC K 0 mX9_stand [zI 0, zI r11, zI r13] nu14 (fun v_ nu16 => ∃ r15, v_ = zI r15 ∧ (0 ≤ r15 ∧ r15 < 704 ∧ zil (nu16 87 r15) ∧ ((¬ (nu16 87 r15) = 0 → zG K d mX9_likeliest 75 [zR 64, zI a1, zI r11, zI r13, zI 0, zI 0, zU, zU] [] nu16 Q) ∧ ((nu16 87 r15) = 0 → Q (zI (-4)) nu16)))))))) ∧ (r6 = 0 → Q (zI (-2)) nu7))))) ∧ (r3 = 0 → Q (zI (-1)) nu4)))))) : zG K d mX9_likeliest 0 [zR 64, zI a1, zU, zU, zU, zU, zU, zU] [] mu Q := by
  refine g_iload_n dX9_likeliest_0 rfl ?_
  obtain ⟨q1, h⟩ := h
  refine g_i2l dX9_likeliest_1 q1 ?_
  refine g_lconst (x := 0) dX9_likeliest_2 rfl ?_
  refine g_aload_n dX9_likeliest_3 rfl ?_
  refine g_getR (k' := 78) dX9_likeliest_4 (o64 hK) fX9_49 (by decide) (by decide) ?_
  refine g_iconst dX9_likeliest_7 ?_
  refine g_iald' (nn := 3) dX9_likeliest_8 (r78 hK) rfl (by decide) (by decide) ?_
  refine g_iconst dX9_likeliest_9 ?_
  refine g_isub dX9_likeliest_10 ?_
  obtain ⟨q2, h⟩ := h
  refine g_i2l dX9_likeliest_11 q2 ?_
  refine g_callS (Y' := mX9_in) (d' := 0) (As := [zJ a1, zJ 0, zJ ((mu 78 0) - 1)]) (rest := []) dX9_likeliest_12 lX9_102 vX9_in (by omega) rfl (Nat.le_of_ble_eq_true rfl) rfl (zC_i h (fun r3 nu4 h => ?_))
  obtain ⟨q5, h⟩ := h
  refine g_if_ne (tgt := 20) dX9_likeliest_15 (by decide) q5 (fun c_ => ?_) (fun c_ => ?_)
  · have h := h.1 c_
    refine g_aload_n dX9_likeliest_20 rfl ?_
    refine g_callV (Y' := mX9_isShort) (d' := 0) (As := []) (rest := []) dX9_likeliest_21 lX9_214 vX9_isShort (by omega) (o64 hK) rfl rfl (Nat.le_of_ble_eq_true rfl) rfl (zC_i h (fun r6 nu7 h => ?_))
    obtain ⟨q8, h⟩ := h
    refine g_if_ne (tgt := 30) dX9_likeliest_24 (by decide) q8 (fun c_ => ?_) (fun c_ => ?_)
    · have h := h.1 c_
      refine g_aload_n dX9_likeliest_30 rfl ?_
      refine g_bipush dX9_likeliest_31 rfl ?_
      refine g_bipush dX9_likeliest_33 rfl ?_
      refine g_callV (Y' := mX9_layRows) (d' := 2) (As := [zI (-4), zI (-4)]) (rest := []) dX9_likeliest_35 lX9_254 vX9_layRows (by omega) (o64 hK) rfl rfl (Nat.le_of_ble_eq_true rfl) rfl (zC_v h (fun nu10 h => ?_))
      refine g_aload_n dX9_likeliest_38 rfl ?_
      refine g_iconst dX9_likeliest_39 ?_
      refine g_callV (Y' := mX9_lastBut) (d' := 0) (As := [zI 1]) (rest := []) dX9_likeliest_40 lX9_220 vX9_lastBut (by omega) (o64 hK) rfl rfl (Nat.le_of_ble_eq_true rfl) rfl (zC_i h (fun r11 nu12 h => ?_))
      refine g_istore_n dX9_likeliest_43 (by decide) rfl ?_
      refine g_aload_n dX9_likeliest_44 rfl ?_
      refine g_iconst dX9_likeliest_45 ?_
      refine g_callV (Y' := mX9_lastBut) (d' := 0) (As := [zI 0]) (rest := []) dX9_likeliest_46 lX9_220 vX9_lastBut (by omega) (o64 hK) rfl rfl (Nat.le_of_ble_eq_true rfl) rfl (zC_i h (fun r13 nu14 h => ?_))
      refine g_istore_n dX9_likeliest_49 (by decide) rfl ?_
      refine g_aload_n dX9_likeliest_50 rfl ?_
      refine g_getR (k' := 87) dX9_likeliest_51 (o64 hK) fX9_77 (by decide) (by decide) ?_
      refine g_iconst dX9_likeliest_54 ?_
      refine g_iload_n dX9_likeliest_55 rfl ?_
      refine g_iload_n dX9_likeliest_56 rfl ?_
      refine g_callS (Y' := mX9_stand) (d' := 0) (As := [zI 0, zI r11, zI r13]) (rest := [zR 87]) dX9_likeliest_57 lX9_223 vX9_stand (by omega) rfl (Nat.le_of_ble_eq_true rfl) rfl (zC_i h (fun r15 nu16 h => ?_))
      obtain ⟨q17, h⟩ := h
      obtain ⟨q18, h⟩ := h
      refine g_lald' (nn := 704) dX9_likeliest_60 (r87 hK) rfl q17 q18 ?_
      refine g_lconst (x := 0) dX9_likeliest_61 rfl ?_
      obtain ⟨q19, h⟩ := h
      refine g_lcmp_ne (tgt := 69) dX9_likeliest_62 dX9_likeliest_63 (by decide) q19 (zil_d rfl) (fun c_ => ?_) (fun c_ => ?_)
      · have h := h.1 c_
        refine g_iconst dX9_likeliest_69 ?_
        refine g_istore dX9_likeliest_70 (by decide) rfl ?_
        refine g_iconst dX9_likeliest_72 ?_
        refine g_istore dX9_likeliest_73 (by decide) rfl ?_
        exact g_wk (zwk_s (zwk_s (zwk_s (zwk_s (zwk_s (zwk_s (zwk_s (zwk_s zwk_n)))))))) h
      · have h := h.2 c_
        refine g_bipush dX9_likeliest_66 rfl ?_
        exact g_ireturn dX9_likeliest_68 rfl h
    · have h := h.2 c_
      refine g_bipush dX9_likeliest_27 rfl ?_
      exact g_ireturn dX9_likeliest_29 rfl h
  · have h := h.2 c_
    refine g_iconst dX9_likeliest_18 ?_
    exact g_ireturn dX9_likeliest_19 rfl h
theorem sg_X9_likeliest_75 {K d : Nat} {mu : Mem} {Q : AV → Mem → Prop} {a1 a2 a3 a4 a5 : Int} (hd : 3 ≤ d) (hK : 93 ≤ K) (h : (zin a5 ∧ zin a1 ∧ ((a1 < a5 → Q (zI a4) mu) ∧ (¬ a1 < a5 → zC K 0 mX9_stand [zI a5, zI a2, zI a3] mu (fun v_ nu4 => ∃ r3, v_ = zI r3 ∧ (0 ≤ r3 ∧ r3 < 704 ∧ zG K d mX9_likeliest 98 [zR 64, zI a1, zI a2, zI a3, zI 0, zI a5, zJ (nu4 89 r3), zU] [] nu4 Q)))))) : zG K d mX9_likeliest 75 [zR 64, zI a1, zI a2, zI a3, zI a4, zI a5, zU, zU] [] mu Q := by
  refine g_iload dX9_likeliest_75 rfl ?_
  refine g_iload_n dX9_likeliest_77 rfl ?_
  obtain ⟨q1, h⟩ := h
  obtain ⟨q2, h⟩ := h
  refine g_icmp_gt (tgt := 173) dX9_likeliest_78 (by decide) q1 q2 (fun c_ => ?_) (fun c_ => ?_)
  · have h := h.1 c_
    refine g_iload dX9_likeliest_173 rfl ?_
    exact g_ireturn dX9_likeliest_175 rfl h
  · have h := h.2 c_
    refine g_aload_n dX9_likeliest_81 rfl ?_
    refine g_getR (k' := 89) dX9_likeliest_82 (o64 hK) fX9_84 (by decide) (by decide) ?_
    refine g_iload dX9_likeliest_85 rfl ?_
    refine g_iload_n dX9_likeliest_87 rfl ?_
    refine g_iload_n dX9_likeliest_88 rfl ?_
    refine g_callS (Y' := mX9_stand) (d' := 0) (As := [zI a5, zI a2, zI a3]) (rest := [zR 89]) dX9_likeliest_89 lX9_223 vX9_stand (by omega) rfl (Nat.le_of_ble_eq_true rfl) rfl (zC_i h (fun r3 nu4 h => ?_))
    obtain ⟨q5, h⟩ := h
    obtain ⟨q6, h⟩ := h
    refine g_lald' (nn := 704) dX9_likeliest_92 (r89 hK) rfl q5 q6 ?_
    refine g_lstore dX9_likeliest_93 (by decide) rfl ?_
    refine g_iconst dX9_likeliest_95 ?_
    refine g_istore dX9_likeliest_96 (by decide) rfl ?_
    exact g_wk (zwk_s (zwk_s (zwk_s (zwk_s (zwk_s (zwk_s (zwk_s (zwk_s zwk_n)))))))) h
theorem sg_X9_likeliest_98 {K d : Nat} {mu : Mem} {Q : AV → Mem → Prop} {a1 a2 a3 a4 a5 a6 : Int} (hd : 3 ≤ d) (hK : 93 ≤ K) (h : (0 ≤ a4 ∧ a4 < 12 ∧ zin (mu 73 a4) ∧ (((mu 73 a4) = 0 → zG K d mX9_likeliest 98 [zR 64, zI a1, zI a2, zI a3, zI (a4 + 1), zI a5, zJ a6, zU] [] mu Q) ∧ (¬ (mu 73 a4) = 0 → zC K 1 mX9_shortly [zR 64, zI a2, zI a3, zI a4] mu (fun v_ nu5 => ∃ r4, v_ = zI r4 ∧ (0 ≤ a5 ∧ a5 < 30 ∧ zin r4 ∧ zin (nu5 79 a5) ∧ ((¬ r4 = (nu5 79 a5) → zG K d mX9_likeliest 98 [zR 64, zI a1, zI a2, zI a3, zI (a4 + 1), zI a5, zJ a6, zU] [] nu5 Q) ∧ (r4 = (nu5 79 a5) → (zin (nu5 73 a4) ∧ zC K 0 mX9_stand [zI (a5 + 1), zI a3, zI a4] nu5 (fun v_ nu12 => ∃ r11, v_ = zI r11 ∧ (0 ≤ r11 ∧ r11 < 704 ∧ zil ((nu5 73 a4) * (nu12 89 r11)) ∧ zil a6 ∧ ((((nu5 73 a4) * (nu12 89 r11)) = a6 → zG K d mX9_likeliest 75 [zR 64, zI a1, zI a3, zI a4, zI a4, zI (a5 + 1), zU, zU] [] nu12 Q) ∧ (¬ ((nu5 73 a4) * (nu12 89 r11)) = a6 → zG K d mX9_likeliest 98 [zR 64, zI a1, zI a2, zI a3, zI (a4 + 1), zI a5, zJ a6, zU] [] nu12 Q))))))))))))) : zG K d mX9_likeliest 98 [zR 64, zI a1, zI a2, zI a3, zI a4, zI a5, zJ a6, zU] [] mu Q := by
  refine g_aload_n dX9_likeliest_98 rfl ?_
  refine g_getR (k' := 73) dX9_likeliest_99 (o64 hK) fX9_34 (by decide) (by decide) ?_
  refine g_iload dX9_likeliest_102 rfl ?_
  obtain ⟨q1, h⟩ := h
  obtain ⟨q2, h⟩ := h
  refine g_iald' (nn := 12) dX9_likeliest_104 (r73 hK) rfl q1 q2 ?_
  obtain ⟨q3, h⟩ := h
  refine g_if_eq (tgt := 156) dX9_likeliest_105 (by decide) q3 (fun c_ => ?_) (fun c_ => ?_)
  · have h := h.1 c_
    refine g_iinc dX9_likeliest_156 rfl (by decide) rfl ?_
    refine g_goto (tgt := 98) dX9_likeliest_159 (by decide) ?_
    exact g_wk (zwk_s (zwk_s (zwk_s (zwk_s (zwk_s (zwk_s (zwk_s (zwk_s zwk_n)))))))) h
  · have h := h.2 c_
    refine g_aload_n dX9_likeliest_108 rfl ?_
    refine g_iload_n dX9_likeliest_109 rfl ?_
    refine g_iload_n dX9_likeliest_110 rfl ?_
    refine g_iload dX9_likeliest_111 rfl ?_
    refine g_callV (Y' := mX9_shortly) (d' := 1) (As := [zI a2, zI a3, zI a4]) (rest := []) dX9_likeliest_113 lX9_197 vX9_shortly (by omega) (o64 hK) rfl rfl (Nat.le_of_ble_eq_true rfl) rfl (zC_i h (fun r4 nu5 h => ?_))
    refine g_aload_n dX9_likeliest_116 rfl ?_
    refine g_getR (k' := 79) dX9_likeliest_117 (o64 hK) fX9_52 (by decide) (by decide) ?_
    refine g_iload dX9_likeliest_120 rfl ?_
    obtain ⟨q6, h⟩ := h
    obtain ⟨q7, h⟩ := h
    refine g_iald' (nn := 30) dX9_likeliest_122 (r79 hK) rfl q6 q7 ?_
    obtain ⟨q8, h⟩ := h
    obtain ⟨q9, h⟩ := h
    refine g_icmp_ne (tgt := 156) dX9_likeliest_123 (by decide) q8 q9 (fun c_ => ?_) (fun c_ => ?_)
    · have h := h.1 c_
      refine g_iinc dX9_likeliest_156 rfl (by decide) rfl ?_
      refine g_goto (tgt := 98) dX9_likeliest_159 (by decide) ?_
      exact g_wk (zwk_s (zwk_s (zwk_s (zwk_s (zwk_s (zwk_s (zwk_s (zwk_s zwk_n)))))))) h
    · have h := h.2 c_
      refine g_aload_n dX9_likeliest_126 rfl ?_
      refine g_getR (k' := 73) dX9_likeliest_127 (o64 hK) fX9_34 (by decide) (by decide) ?_
      refine g_iload dX9_likeliest_130 rfl ?_
      refine g_iald' (nn := 12) dX9_likeliest_132 (r73 hK) rfl q1 q2 ?_
      obtain ⟨q10, h⟩ := h
      refine g_i2l dX9_likeliest_133 q10 ?_
      refine g_aload_n dX9_likeliest_134 rfl ?_
      refine g_getR (k' := 89) dX9_likeliest_135 (o64 hK) fX9_84 (by decide) (by decide) ?_
      refine g_iload dX9_likeliest_138 rfl ?_
      refine g_iconst dX9_likeliest_140 ?_
      refine g_iadd dX9_likeliest_141 ?_
      refine g_iload_n dX9_likeliest_142 rfl ?_
      refine g_iload dX9_likeliest_143 rfl ?_
      refine g_callS (Y' := mX9_stand) (d' := 0) (As := [zI (a5 + 1), zI a3, zI a4]) (rest := [zR 89, zJ (nu5 73 a4)]) dX9_likeliest_145 lX9_223 vX9_stand (by omega) rfl (Nat.le_of_ble_eq_true rfl) rfl (zC_i h (fun r11 nu12 h => ?_))
      obtain ⟨q13, h⟩ := h
      obtain ⟨q14, h⟩ := h
      refine g_lald' (nn := 704) dX9_likeliest_148 (r89 hK) rfl q13 q14 ?_
      refine g_lmul dX9_likeliest_149 ?_
      refine g_lload dX9_likeliest_150 rfl ?_
      obtain ⟨q15, h⟩ := h
      obtain ⟨q16, h⟩ := h
      refine g_lcmp_eq (tgt := 162) dX9_likeliest_152 dX9_likeliest_153 (by decide) q15 q16 (fun c_ => ?_) (fun c_ => ?_)
      · have h := h.1 c_
        refine g_iload_n dX9_likeliest_162 rfl ?_
        refine g_istore_n dX9_likeliest_163 (by decide) rfl ?_
        refine g_iload dX9_likeliest_164 rfl ?_
        refine g_istore_n dX9_likeliest_166 (by decide) rfl ?_
        refine g_iinc dX9_likeliest_167 rfl (by decide) rfl ?_
        refine g_goto (tgt := 75) dX9_likeliest_170 (by decide) ?_
        exact g_wk (zwk_s (zwk_s (zwk_s (zwk_s (zwk_s (zwk_s (zwk_u (zwk_s zwk_n)))))))) h
      · have h := h.2 c_
        refine g_iinc dX9_likeliest_156 rfl (by decide) rfl ?_
        refine g_goto (tgt := 98) dX9_likeliest_159 (by decide) ?_
        exact g_wk (zwk_s (zwk_s (zwk_s (zwk_s (zwk_s (zwk_s (zwk_s (zwk_s zwk_n)))))))) h
theorem sg_X9_meet_0 {K d : Nat} {mu : Mem} {Q : AV → Mem → Prop} {a1 : Int} (hd : 0 ≤ d) (hK : 93 ≤ K) (h : (zin a1 ∧ ((6 ≤ a1 → Q zV (zup mu 64 19 (mu 64 19))) ∧ (¬ 6 ≤ a1 → (zin (mu 64 19) ∧ ((a1 ≤ (mu 64 19) → Q zV (zup mu 64 19 (mu 64 19))) ∧ (¬ a1 ≤ (mu 64 19) → Q zV (zup mu 64 19 a1)))))))) : zG K d mX9_meet 0 [zR 64, zI a1] [] mu Q := by
  refine g_aload_n dX9_meet_0 rfl ?_
  refine g_iload_n dX9_meet_1 rfl ?_
  refine g_bipush dX9_meet_2 rfl ?_
  obtain ⟨q1, h⟩ := h
  refine g_icmp_ge (tgt := 19) dX9_meet_4 (by decide) q1 (zin_d rfl) (fun c_ => ?_) (fun c_ => ?_)
  · have h := h.1 c_
    refine g_aload_n dX9_meet_19 rfl ?_
    refine g_getI' (jj := 19) dX9_meet_20 (o64 hK) fX9_125 rfl rfl ?_
    refine g_putI' (jj := 19) dX9_meet_23 (o64 hK) pX9_125 rfl rfl ?_
    exact g_return dX9_meet_26 rfl h
  · have h := h.2 c_
    refine g_iload_n dX9_meet_7 rfl ?_
    refine g_aload_n dX9_meet_8 rfl ?_
    refine g_getI' (jj := 19) dX9_meet_9 (o64 hK) fX9_125 rfl rfl ?_
    obtain ⟨q2, h⟩ := h
    refine g_icmp_le (tgt := 19) dX9_meet_12 (by decide) q1 q2 (fun c_ => ?_) (fun c_ => ?_)
    · have h := h.1 c_
      refine g_aload_n dX9_meet_19 rfl ?_
      refine g_getI' (jj := 19) dX9_meet_20 (o64 hK) fX9_125 rfl rfl ?_
      refine g_putI' (jj := 19) dX9_meet_23 (o64 hK) pX9_125 rfl rfl ?_
      exact g_return dX9_meet_26 rfl h
    · have h := h.2 c_
      refine g_iload_n dX9_meet_15 rfl ?_
      refine g_goto (tgt := 23) dX9_meet_16 (by decide) ?_
      refine g_putI' (jj := 19) dX9_meet_23 (o64 hK) pX9_125 rfl rfl ?_
      exact g_return dX9_meet_26 rfl h
theorem sg_X9_mostOf_0 {K d : Nat} {mu : Mem} {Q : AV → Mem → Prop} {a1 a2 : Int} (hd : 0 ≤ d) (hK : 93 ≤ K) (h : zG K d mX9_mostOf 2 [zR 64, zI a1, zI a2, zI 0, zU, zU] [] mu Q) : zG K d mX9_mostOf 0 [zR 64, zI a1, zI a2, zU, zU, zU] [] mu Q := by
  refine g_iconst dX9_mostOf_0 ?_
  refine g_istore_n dX9_mostOf_1 (by decide) rfl ?_
  exact g_wk (zwk_s (zwk_s (zwk_s (zwk_s (zwk_s (zwk_s zwk_n)))))) h
theorem sg_X9_mostOf_2 {K d : Nat} {mu : Mem} {Q : AV → Mem → Prop} {a1 a2 a3 : Int} (hd : 0 ≤ d) (hK : 93 ≤ K) (h : (zin a3 ∧ ((6 ≤ a3 → Q (zI 6) mu) ∧ (¬ 6 ≤ a3 → zG K d mX9_mostOf 19 [zR 64, zI a1, zI a2, zI a3, zI 0, zI ((mu 64 22) - 1)] [] mu Q)))) : zG K d mX9_mostOf 2 [zR 64, zI a1, zI a2, zI a3, zU, zU] [] mu Q := by
  refine g_iload_n dX9_mostOf_2 rfl ?_
  refine g_bipush dX9_mostOf_3 rfl ?_
  obtain ⟨q1, h⟩ := h
  refine g_icmp_ge (tgt := 76) dX9_mostOf_5 (by decide) q1 (zin_d rfl) (fun c_ => ?_) (fun c_ => ?_)
  · have h := h.1 c_
    refine g_bipush dX9_mostOf_76 rfl ?_
    exact g_ireturn dX9_mostOf_78 rfl h
  · have h := h.2 c_
    refine g_iconst dX9_mostOf_8 ?_
    refine g_istore dX9_mostOf_9 (by decide) rfl ?_
    refine g_aload_n dX9_mostOf_11 rfl ?_
    refine g_getI' (jj := 22) dX9_mostOf_12 (o64 hK) fX9_171 rfl rfl ?_
    refine g_iconst dX9_mostOf_15 ?_
    refine g_isub dX9_mostOf_16 ?_
    refine g_istore dX9_mostOf_17 (by decide) rfl ?_
    exact g_wk (zwk_s (zwk_s (zwk_s (zwk_s (zwk_s (zwk_s zwk_n)))))) h
theorem sg_X9_mostOf_19 {K d : Nat} {mu : Mem} {Q : AV → Mem → Prop} {a1 a2 a3 a4 a5 : Int} (hd : 0 ≤ d) (hK : 93 ≤ K) (h : (zin a5 ∧ ((a5 < 0 → (zin a4 ∧ zin a2 ∧ ((a4 < a2 → zG K d mX9_mostOf 2 [zR 64, zI a1, zI a2, zI (a3 + 1), zU, zU] [] mu Q) ∧ (¬ a4 < a2 → Q (zI a3) mu)))) ∧ (¬ a5 < 0 → (zin ((mu 64 22) - a1) ∧ ((a5 < ((mu 64 22) - a1) → (zin a4 ∧ zin a2 ∧ ((a4 < a2 → zG K d mX9_mostOf 2 [zR 64, zI a1, zI a2, zI (a3 + 1), zU, zU] [] mu Q) ∧ (¬ a4 < a2 → Q (zI a3) mu)))) ∧ (¬ a5 < ((mu 64 22) - a1) → (0 ≤ a5 ∧ a5 < 16 ∧ zin (mu 81 a5) ∧ zin a3 ∧ ((¬ (mu 81 a5) = a3 → zG K d mX9_mostOf 19 [zR 64, zI a1, zI a2, zI a3, zI (a4 + 0), zI (a5 + (-1))] [] mu Q) ∧ ((mu 81 a5) = a3 → zG K d mX9_mostOf 19 [zR 64, zI a1, zI a2, zI a3, zI (a4 + 1), zI (a5 + (-1))] [] mu Q)))))))))) : zG K d mX9_mostOf 19 [zR 64, zI a1, zI a2, zI a3, zI a4, zI a5] [] mu Q := by
  refine g_iload dX9_mostOf_19 rfl ?_
  obtain ⟨q1, h⟩ := h
  refine g_if_lt (tgt := 62) dX9_mostOf_21 (by decide) q1 (fun c_ => ?_) (fun c_ => ?_)
  · have h := h.1 c_
    refine g_iload dX9_mostOf_62 rfl ?_
    refine g_iload_n dX9_mostOf_64 rfl ?_
    obtain ⟨q2, h⟩ := h
    obtain ⟨q3, h⟩ := h
    refine g_icmp_lt (tgt := 70) dX9_mostOf_65 (by decide) q2 q3 (fun c_ => ?_) (fun c_ => ?_)
    · have h := h.1 c_
      refine g_iinc dX9_mostOf_70 rfl (by decide) rfl ?_
      refine g_goto (tgt := 2) dX9_mostOf_73 (by decide) ?_
      exact g_wk (zwk_s (zwk_s (zwk_s (zwk_s (zwk_u (zwk_u zwk_n)))))) h
    · have h := h.2 c_
      refine g_iload_n dX9_mostOf_68 rfl ?_
      exact g_ireturn dX9_mostOf_69 rfl h
  · have h := h.2 c_
    refine g_iload dX9_mostOf_24 rfl ?_
    refine g_aload_n dX9_mostOf_26 rfl ?_
    refine g_getI' (jj := 22) dX9_mostOf_27 (o64 hK) fX9_171 rfl rfl ?_
    refine g_iload_n dX9_mostOf_30 rfl ?_
    refine g_isub dX9_mostOf_31 ?_
    obtain ⟨q4, h⟩ := h
    refine g_icmp_lt (tgt := 62) dX9_mostOf_32 (by decide) q1 q4 (fun c_ => ?_) (fun c_ => ?_)
    · have h := h.1 c_
      refine g_iload dX9_mostOf_62 rfl ?_
      refine g_iload_n dX9_mostOf_64 rfl ?_
      obtain ⟨q5, h⟩ := h
      obtain ⟨q6, h⟩ := h
      refine g_icmp_lt (tgt := 70) dX9_mostOf_65 (by decide) q5 q6 (fun c_ => ?_) (fun c_ => ?_)
      · have h := h.1 c_
        refine g_iinc dX9_mostOf_70 rfl (by decide) rfl ?_
        refine g_goto (tgt := 2) dX9_mostOf_73 (by decide) ?_
        exact g_wk (zwk_s (zwk_s (zwk_s (zwk_s (zwk_u (zwk_u zwk_n)))))) h
      · have h := h.2 c_
        refine g_iload_n dX9_mostOf_68 rfl ?_
        exact g_ireturn dX9_mostOf_69 rfl h
    · have h := h.2 c_
      refine g_iload dX9_mostOf_35 rfl ?_
      refine g_aload_n dX9_mostOf_37 rfl ?_
      refine g_getR (k' := 81) dX9_mostOf_38 (o64 hK) fX9_58 (by decide) (by decide) ?_
      refine g_iload dX9_mostOf_41 rfl ?_
      obtain ⟨q7, h⟩ := h
      obtain ⟨q8, h⟩ := h
      refine g_iald' (nn := 16) dX9_mostOf_43 (r81 hK) rfl q7 q8 ?_
      refine g_iload_n dX9_mostOf_44 rfl ?_
      obtain ⟨q9, h⟩ := h
      obtain ⟨q10, h⟩ := h
      refine g_icmp_ne (tgt := 52) dX9_mostOf_45 (by decide) q9 q10 (fun c_ => ?_) (fun c_ => ?_)
      · have h := h.1 c_
        refine g_iconst dX9_mostOf_52 ?_
        refine g_iadd dX9_mostOf_53 ?_
        refine g_istore dX9_mostOf_54 (by decide) rfl ?_
        refine g_iinc dX9_mostOf_56 rfl (by decide) rfl ?_
        refine g_goto (tgt := 19) dX9_mostOf_59 (by decide) ?_
        exact g_wk (zwk_s (zwk_s (zwk_s (zwk_s (zwk_s (zwk_s zwk_n)))))) h
      · have h := h.2 c_
        refine g_iconst dX9_mostOf_48 ?_
        refine g_goto (tgt := 53) dX9_mostOf_49 (by decide) ?_
        refine g_iadd dX9_mostOf_53 ?_
        refine g_istore dX9_mostOf_54 (by decide) rfl ?_
        refine g_iinc dX9_mostOf_56 rfl (by decide) rfl ?_
        refine g_goto (tgt := 19) dX9_mostOf_59 (by decide) ?_
        exact g_wk (zwk_s (zwk_s (zwk_s (zwk_s (zwk_s (zwk_s zwk_n)))))) h
theorem sg_X9_noGifts_0 {K d : Nat} {mu : Mem} {Q : AV → Mem → Prop} (hd : 0 ≤ d) (hK : 93 ≤ K) (h : Q (zI (mu 78 0)) (zup mu 78 0 0)) : zG K d mX9_noGifts 0 [zR 64, zU] [] mu Q := by
  refine g_aload_n dX9_noGifts_0 rfl ?_
  refine g_getR (k' := 78) dX9_noGifts_1 (o64 hK) fX9_49 (by decide) (by decide) ?_
  refine g_iconst dX9_noGifts_4 ?_
  refine g_iald' (nn := 3) dX9_noGifts_5 (r78 hK) rfl (by decide) (by decide) ?_
  refine g_istore_n dX9_noGifts_6 (by decide) rfl ?_
  refine g_aload_n dX9_noGifts_7 rfl ?_
  refine g_getR (k' := 78) dX9_noGifts_8 (o64 hK) fX9_49 (by decide) (by decide) ?_
  refine g_iconst dX9_noGifts_11 ?_
  refine g_iconst dX9_noGifts_12 ?_
  refine g_iast' (nn := 3) dX9_noGifts_13 (r78 hK) rfl (by decide) (by decide) ?_
  refine g_iload_n dX9_noGifts_14 rfl ?_
  exact g_ireturn dX9_noGifts_15 rfl h
theorem sg_X9_noPost_0 {K d : Nat} {mu : Mem} {Q : AV → Mem → Prop} {a1 : Int} (hd : 0 ≤ d) (hK : 93 ≤ K) (h : (0 ≤ a1 ∧ a1 < 2 ∧ zG K d mX9_noPost 37 [zR 64, zI a1, zI 0, zU] [] (zup (zup (zup (zup (zup mu 66 a1 4) 67 a1 0) 68 a1 0) 70 a1 0) 74 a1 0) Q)) : zG K d mX9_noPost 0 [zR 64, zI a1, zU, zU] [] mu Q := by
  refine g_aload_n dX9_noPost_0 rfl ?_
  refine g_getR (k' := 66) dX9_noPost_1 (o64 hK) fX9_13 (by decide) (by decide) ?_
  refine g_iload_n dX9_noPost_4 rfl ?_
  refine g_iconst dX9_noPost_5 ?_
  obtain ⟨q1, h⟩ := h
  obtain ⟨q2, h⟩ := h
  refine g_iast' (nn := 2) dX9_noPost_6 (r66 hK) rfl q1 q2 ?_
  refine g_aload_n dX9_noPost_7 rfl ?_
  refine g_getR (k' := 67) dX9_noPost_8 (o64 hK) fX9_16 (by decide) (by decide) ?_
  refine g_iload_n dX9_noPost_11 rfl ?_
  refine g_iconst dX9_noPost_12 ?_
  refine g_iast' (nn := 2) dX9_noPost_13 (r67 hK) rfl q1 q2 ?_
  refine g_aload_n dX9_noPost_14 rfl ?_
  refine g_getR (k' := 68) dX9_noPost_15 (o64 hK) fX9_19 (by decide) (by decide) ?_
  refine g_iload_n dX9_noPost_18 rfl ?_
  refine g_iconst dX9_noPost_19 ?_
  refine g_iast' (nn := 2) dX9_noPost_20 (r68 hK) rfl q1 q2 ?_
  refine g_aload_n dX9_noPost_21 rfl ?_
  refine g_getR (k' := 70) dX9_noPost_22 (o64 hK) fX9_25 (by decide) (by decide) ?_
  refine g_iload_n dX9_noPost_25 rfl ?_
  refine g_iconst dX9_noPost_26 ?_
  refine g_iast' (nn := 2) dX9_noPost_27 (r70 hK) rfl q1 q2 ?_
  refine g_aload_n dX9_noPost_28 rfl ?_
  refine g_getR (k' := 74) dX9_noPost_29 (o64 hK) fX9_37 (by decide) (by decide) ?_
  refine g_iload_n dX9_noPost_32 rfl ?_
  refine g_iconst dX9_noPost_33 ?_
  refine g_iast' (nn := 2) dX9_noPost_34 (r74 hK) rfl q1 q2 ?_
  refine g_iconst dX9_noPost_35 ?_
  refine g_istore_n dX9_noPost_36 (by decide) rfl ?_
  exact g_wk (zwk_s (zwk_s (zwk_s (zwk_s zwk_n)))) h
theorem sg_X9_noPost_37 {K d : Nat} {mu : Mem} {Q : AV → Mem → Prop} {a1 a2 : Int} (hd : 0 ≤ d) (hK : 93 ≤ K) (h : (zin a2 ∧ ((6 ≤ a2 → Q zV mu) ∧ (¬ 6 ≤ a2 → zG K d mX9_noPost 45 [zR 64, zI a1, zI a2, zI 0] [] mu Q)))) : zG K d mX9_noPost 37 [zR 64, zI a1, zI a2, zU] [] mu Q := by
  refine g_iload_n dX9_noPost_37 rfl ?_
  refine g_bipush dX9_noPost_38 rfl ?_
  obtain ⟨q1, h⟩ := h
  refine g_icmp_ge (tgt := 102) dX9_noPost_40 (by decide) q1 (zin_d rfl) (fun c_ => ?_) (fun c_ => ?_)
  · have h := h.1 c_
    exact g_return dX9_noPost_102 rfl h
  · have h := h.2 c_
    refine g_iconst dX9_noPost_43 ?_
    refine g_istore_n dX9_noPost_44 (by decide) rfl ?_
    exact g_wk (zwk_s (zwk_s (zwk_s (zwk_s zwk_n)))) h
theorem sg_X9_noPost_45 {K d : Nat} {mu : Mem} {Q : AV → Mem → Prop} {a1 a2 a3 : Int} (hd : 0 ≤ d) (hK : 93 ≤ K) (h : (zin a3 ∧ ((7 ≤ a3 → (0 ≤ ((6 * a1) + a2) ∧ ((6 * a1) + a2) < 12 ∧ zG K d mX9_noPost 37 [zR 64, zI a1, zI (a2 + 1), zU] [] (zup mu 73 ((6 * a1) + a2) 1) Q)) ∧ (¬ 7 ≤ a3 → (zin a2 ∧ ((¬ a2 = a3 → (0 ≤ (((42 * a1) + (7 * a2)) + a3) ∧ (((42 * a1) + (7 * a2)) + a3) < 84 ∧ zG K d mX9_noPost 45 [zR 64, zI a1, zI a2, zI (a3 + 1)] [] (zup mu 72 (((42 * a1) + (7 * a2)) + a3) 0) Q)) ∧ (a2 = a3 → (0 ≤ (((42 * a1) + (7 * a2)) + a3) ∧ (((42 * a1) + (7 * a2)) + a3) < 84 ∧ zG K d mX9_noPost 45 [zR 64, zI a1, zI a2, zI (a3 + 1)] [] (zup mu 72 (((42 * a1) + (7 * a2)) + a3) 9) Q)))))))) : zG K d mX9_noPost 45 [zR 64, zI a1, zI a2, zI a3] [] mu Q := by
  refine g_iload_n dX9_noPost_45 rfl ?_
  refine g_bipush dX9_noPost_46 rfl ?_
  obtain ⟨q1, h⟩ := h
  refine g_icmp_ge (tgt := 84) dX9_noPost_48 (by decide) q1 (zin_d rfl) (fun c_ => ?_) (fun c_ => ?_)
  · have h := h.1 c_
    refine g_aload_n dX9_noPost_84 rfl ?_
    refine g_getR (k' := 73) dX9_noPost_85 (o64 hK) fX9_34 (by decide) (by decide) ?_
    refine g_bipush dX9_noPost_88 rfl ?_
    refine g_iload_n dX9_noPost_90 rfl ?_
    refine g_imul dX9_noPost_91 ?_
    refine g_iload_n dX9_noPost_92 rfl ?_
    refine g_iadd dX9_noPost_93 ?_
    refine g_iconst dX9_noPost_94 ?_
    obtain ⟨q2, h⟩ := h
    obtain ⟨q3, h⟩ := h
    refine g_iast' (nn := 12) dX9_noPost_95 (r73 hK) rfl q2 q3 ?_
    refine g_iinc dX9_noPost_96 rfl (by decide) rfl ?_
    refine g_goto (tgt := 37) dX9_noPost_99 (by decide) ?_
    exact g_wk (zwk_s (zwk_s (zwk_s (zwk_u zwk_n)))) h
  · have h := h.2 c_
    refine g_aload_n dX9_noPost_51 rfl ?_
    refine g_getR (k' := 72) dX9_noPost_52 (o64 hK) fX9_31 (by decide) (by decide) ?_
    refine g_bipush dX9_noPost_55 rfl ?_
    refine g_iload_n dX9_noPost_57 rfl ?_
    refine g_imul dX9_noPost_58 ?_
    refine g_bipush dX9_noPost_59 rfl ?_
    refine g_iload_n dX9_noPost_61 rfl ?_
    refine g_imul dX9_noPost_62 ?_
    refine g_iadd dX9_noPost_63 ?_
    refine g_iload_n dX9_noPost_64 rfl ?_
    refine g_iadd dX9_noPost_65 ?_
    refine g_iload_n dX9_noPost_66 rfl ?_
    refine g_iload_n dX9_noPost_67 rfl ?_
    obtain ⟨q4, h⟩ := h
    refine g_icmp_ne (tgt := 76) dX9_noPost_68 (by decide) q4 q1 (fun c_ => ?_) (fun c_ => ?_)
    · have h := h.1 c_
      refine g_iconst dX9_noPost_76 ?_
      obtain ⟨q5, h⟩ := h
      obtain ⟨q6, h⟩ := h
      refine g_iast' (nn := 84) dX9_noPost_77 (r72 hK) rfl q5 q6 ?_
      refine g_iinc dX9_noPost_78 rfl (by decide) rfl ?_
      refine g_goto (tgt := 45) dX9_noPost_81 (by decide) ?_
      exact g_wk (zwk_s (zwk_s (zwk_s (zwk_s zwk_n)))) h
    · have h := h.2 c_
      refine g_bipush dX9_noPost_71 rfl ?_
      refine g_goto (tgt := 77) dX9_noPost_73 (by decide) ?_
      obtain ⟨q7, h⟩ := h
      obtain ⟨q8, h⟩ := h
      refine g_iast' (nn := 84) dX9_noPost_77 (r72 hK) rfl q7 q8 ?_
      refine g_iinc dX9_noPost_78 rfl (by decide) rfl ?_
      refine g_goto (tgt := 45) dX9_noPost_81 (by decide) ?_
      exact g_wk (zwk_s (zwk_s (zwk_s (zwk_s zwk_n)))) h
theorem sg_X9_odds_0 {K d : Nat} {mu : Mem} {Q : AV → Mem → Prop} {a1 a2 a3 : Int} (hd : 3 ≤ d) (hK : 93 ≤ K) (h : (zin a1 ∧ zin ((mu 78 0) - 1) ∧ zC K 0 mX9_in [zJ a1, zJ 0, zJ ((mu 78 0) - 1)] mu (fun v_ nu4 => ∃ r3, v_ = zI r3 ∧ (zin r3 ∧ ((r3 = 0 → Q (zJ (-1)) nu4) ∧ (¬ r3 = 0 → zC K 1 mX9_isThing [zR 64, zI a2] nu4 (fun v_ nu7 => ∃ r6, v_ = zI r6 ∧ (zin r6 ∧ ((r6 = 0 → Q (zJ (-1)) nu7) ∧ (¬ r6 = 0 → (zin a3 ∧ zC K 0 mX9_in [zJ a3, zJ 0, zJ 1] nu7 (fun v_ nu11 => ∃ r10, v_ = zI r10 ∧ (zin r10 ∧ ((¬ r10 = 0 → zC K 0 mX9_isShort [zR 64] nu11 (fun v_ nu14 => ∃ r13, v_ = zI r13 ∧ (zin r13 ∧ ((¬ r13 = 0 → zC K 0 mX9_lastBut [zR 64, zI 1] nu14 (fun v_ nu17 => ∃ r16, v_ = zI r16 ∧ zC K 0 mX9_lastBut [zR 64, zI 0] nu17 (fun v_ nu19 => ∃ r18, v_ = zI r18 ∧ zC K 0 mX9_stand [zI 0, zI r16, zI r18] nu19 (fun v_ nu21 => ∃ r20, v_ = zI r20 ∧ zC K 2 mX9_layRows [zR 64, zI a1, zI a2] nu21 (fun v_ nu23 => v_ = zV ∧ (0 ≤ r20 ∧ r20 < 704 ∧ zC K 2 mX9_layRows [zR 64, zI (-4), zI (-4)] nu23 (fun v_ nu27 => v_ = zV ∧ (zil (nu27 88 r20) ∧ ((¬ (nu27 88 r20) = 0 → zC K 0 mX9_common [zJ (nu23 88 r20), zJ (nu27 88 r20)] nu27 (fun v_ nu30 => ∃ r29, v_ = zJ r29 ∧ ((¬ a3 = 0 → (zil r29 ∧ 0 < r29 ∧ Q (zJ ((nu27 88 r20).tdiv r29)) nu30)) ∧ (a3 = 0 → (zil (nu23 88 r20) ∧ zil r29 ∧ 0 < r29 ∧ Q (zJ ((nu23 88 r20).tdiv r29)) nu30))))) ∧ ((nu27 88 r20) = 0 → Q (zJ (-4)) nu27)))))))))) ∧ (r13 = 0 → Q (zJ (-2)) nu14))))) ∧ (r10 = 0 → Q (zJ (-1)) nu11))))))))))))))) : zG K d mX9_odds 0 [zR 64, zI a1, zI a2, zI a3, zU, zU, zU, zU, zU, zU, zU] [] mu Q := by
  refine g_iload_n dX9_odds_0 rfl ?_
  obtain ⟨q1, h⟩ := h
  refine g_i2l dX9_odds_1 q1 ?_
  refine g_lconst (x := 0) dX9_odds_2 rfl ?_
  refine g_aload_n dX9_odds_3 rfl ?_
  refine g_getR (k' := 78) dX9_odds_4 (o64 hK) fX9_49 (by decide) (by decide) ?_
  refine g_iconst dX9_odds_7 ?_
  refine g_iald' (nn := 3) dX9_odds_8 (r78 hK) rfl (by decide) (by decide) ?_
  refine g_iconst dX9_odds_9 ?_
  refine g_isub dX9_odds_10 ?_
  obtain ⟨q2, h⟩ := h
  refine g_i2l dX9_odds_11 q2 ?_
  refine g_callS (Y' := mX9_in) (d' := 0) (As := [zJ a1, zJ 0, zJ ((mu 78 0) - 1)]) (rest := []) dX9_odds_12 lX9_102 vX9_in (by omega) rfl (Nat.le_of_ble_eq_true rfl) rfl (zC_i h (fun r3 nu4 h => ?_))
  obtain ⟨q5, h⟩ := h
  refine g_if_eq (tgt := 36) dX9_odds_15 (by decide) q5 (fun c_ => ?_) (fun c_ => ?_)
  · have h := h.1 c_
    refine g_ldc2 (x := (-1)) (zc64 (x := (-1)) (v := (-1)) (by decide +kernel) kX9_236) dX9_odds_36 ?_
    exact g_lreturn dX9_odds_39 rfl h
  · have h := h.2 c_
    refine g_aload_n dX9_odds_18 rfl ?_
    refine g_iload_n dX9_odds_19 rfl ?_
    refine g_callV (Y' := mX9_isThing) (d' := 1) (As := [zI a2]) (rest := []) dX9_odds_20 lX9_165 vX9_isThing (by omega) (o64 hK) rfl rfl (Nat.le_of_ble_eq_true rfl) rfl (zC_i h (fun r6 nu7 h => ?_))
    obtain ⟨q8, h⟩ := h
    refine g_if_eq (tgt := 36) dX9_odds_23 (by decide) q8 (fun c_ => ?_) (fun c_ => ?_)
    · have h := h.1 c_
      refine g_ldc2 (x := (-1)) (zc64 (x := (-1)) (v := (-1)) (by decide +kernel) kX9_236) dX9_odds_36 ?_
      exact g_lreturn dX9_odds_39 rfl h
    · have h := h.2 c_
      refine g_iload_n dX9_odds_26 rfl ?_
      obtain ⟨q9, h⟩ := h
      refine g_i2l dX9_odds_27 q9 ?_
      refine g_lconst (x := 0) dX9_odds_28 rfl ?_
      refine g_lconst (x := 1) dX9_odds_29 rfl ?_
      refine g_callS (Y' := mX9_in) (d' := 0) (As := [zJ a3, zJ 0, zJ 1]) (rest := []) dX9_odds_30 lX9_102 vX9_in (by omega) rfl (Nat.le_of_ble_eq_true rfl) rfl (zC_i h (fun r10 nu11 h => ?_))
      obtain ⟨q12, h⟩ := h
      refine g_if_ne (tgt := 40) dX9_odds_33 (by decide) q12 (fun c_ => ?_) (fun c_ => ?_)
      · have h := h.1 c_
        refine g_aload_n dX9_odds_40 rfl ?_
        refine g_callV (Y' := mX9_isShort) (d' := 0) (As := []) (rest := []) dX9_odds_41 lX9_214 vX9_isShort (by omega) (o64 hK) rfl rfl (Nat.le_of_ble_eq_true rfl) rfl (zC_i h (fun r13 nu14 h => ?_))
        obtain ⟨q15, h⟩ := h
        refine g_if_ne (tgt := 51) dX9_odds_44 (by decide) q15 (fun c_ => ?_) (fun c_ => ?_)
        · have h := h.1 c_
          refine g_iconst dX9_odds_51 ?_
          refine g_aload_n dX9_odds_52 rfl ?_
          refine g_iconst dX9_odds_53 ?_
          refine g_callV (Y' := mX9_lastBut) (d' := 0) (As := [zI 1]) (rest := [zI 0]) dX9_odds_54 lX9_220 vX9_lastBut (by omega) (o64 hK) rfl rfl (Nat.le_of_ble_eq_true rfl) rfl (zC_i h (fun r16 nu17 h => ?_))
          refine g_aload_n dX9_odds_57 rfl ?_
          refine g_iconst dX9_odds_58 ?_
          refine g_callV (Y' := mX9_lastBut) (d' := 0) (As := [zI 0]) (rest := [zI r16, zI 0]) dX9_odds_59 lX9_220 vX9_lastBut (by omega) (o64 hK) rfl rfl (Nat.le_of_ble_eq_true rfl) rfl (zC_i h (fun r18 nu19 h => ?_))
          refine g_callS (Y' := mX9_stand) (d' := 0) (As := [zI 0, zI r16, zI r18]) (rest := []) dX9_odds_62 lX9_223 vX9_stand (by omega) rfl (Nat.le_of_ble_eq_true rfl) rfl (zC_i h (fun r20 nu21 h => ?_))
          refine g_istore dX9_odds_65 (by decide) rfl ?_
          refine g_aload_n dX9_odds_67 rfl ?_
          refine g_iload_n dX9_odds_68 rfl ?_
          refine g_iload_n dX9_odds_69 rfl ?_
          refine g_callV (Y' := mX9_layRows) (d' := 2) (As := [zI a1, zI a2]) (rest := []) dX9_odds_70 lX9_254 vX9_layRows (by omega) (o64 hK) rfl rfl (Nat.le_of_ble_eq_true rfl) rfl (zC_v h (fun nu23 h => ?_))
          refine g_aload_n dX9_odds_73 rfl ?_
          refine g_getR (k' := 88) dX9_odds_74 (o64 hK) fX9_81 (by decide) (by decide) ?_
          refine g_iload dX9_odds_77 rfl ?_
          obtain ⟨q24, h⟩ := h
          obtain ⟨q25, h⟩ := h
          refine g_lald' (nn := 704) dX9_odds_79 (r88 hK) rfl q24 q25 ?_
          refine g_lstore dX9_odds_80 (by decide) rfl ?_
          refine g_aload_n dX9_odds_82 rfl ?_
          refine g_bipush dX9_odds_83 rfl ?_
          refine g_bipush dX9_odds_85 rfl ?_
          refine g_callV (Y' := mX9_layRows) (d' := 2) (As := [zI (-4), zI (-4)]) (rest := []) dX9_odds_87 lX9_254 vX9_layRows (by omega) (o64 hK) rfl rfl (Nat.le_of_ble_eq_true rfl) rfl (zC_v h (fun nu27 h => ?_))
          refine g_aload_n dX9_odds_90 rfl ?_
          refine g_getR (k' := 88) dX9_odds_91 (o64 hK) fX9_81 (by decide) (by decide) ?_
          refine g_iload dX9_odds_94 rfl ?_
          refine g_lald' (nn := 704) dX9_odds_96 (r88 hK) rfl q24 q25 ?_
          refine g_lstore dX9_odds_97 (by decide) rfl ?_
          refine g_lload dX9_odds_99 rfl ?_
          refine g_lconst (x := 0) dX9_odds_101 rfl ?_
          obtain ⟨q28, h⟩ := h
          refine g_lcmp_ne (tgt := 110) dX9_odds_102 dX9_odds_103 (by decide) q28 (zil_d rfl) (fun c_ => ?_) (fun c_ => ?_)
          · have h := h.1 c_
            refine g_lload dX9_odds_110 rfl ?_
            refine g_lload dX9_odds_112 rfl ?_
            refine g_callS (Y' := mX9_common) (d' := 0) (As := [zJ (nu23 88 r20), zJ (nu27 88 r20)]) (rest := []) dX9_odds_114 lX9_260 vX9_common (by omega) rfl (Nat.le_of_ble_eq_true rfl) rfl (zC_j h (fun r29 nu30 h => ?_))
            refine g_lstore dX9_odds_117 (by decide) rfl ?_
            refine g_iload_n dX9_odds_119 rfl ?_
            refine g_if_ne (tgt := 131) dX9_odds_120 (by decide) q9 (fun c_ => ?_) (fun c_ => ?_)
            · have h := h.1 c_
              refine g_lload dX9_odds_131 rfl ?_
              refine g_lload dX9_odds_133 rfl ?_
              obtain ⟨q31, h⟩ := h
              obtain ⟨q32, h⟩ := h
              refine g_ldiv dX9_odds_135 q28 q31 q32 ?_
              exact g_lreturn dX9_odds_136 rfl h
            · have h := h.2 c_
              refine g_lload dX9_odds_123 rfl ?_
              refine g_lload dX9_odds_125 rfl ?_
              obtain ⟨q33, h⟩ := h
              obtain ⟨q34, h⟩ := h
              obtain ⟨q35, h⟩ := h
              refine g_ldiv dX9_odds_127 q33 q34 q35 ?_
              refine g_goto (tgt := 136) dX9_odds_128 (by decide) ?_
              exact g_lreturn dX9_odds_136 rfl h
          · have h := h.2 c_
            refine g_ldc2 (x := (-4)) (zc64 (x := (-4)) (v := (-4)) (by decide +kernel) kX9_258) dX9_odds_106 ?_
            exact g_lreturn dX9_odds_109 rfl h
        · have h := h.2 c_
          refine g_ldc2 (x := (-2)) (zc64 (x := (-2)) (v := (-2)) (by decide +kernel) kX9_252) dX9_odds_47 ?_
          exact g_lreturn dX9_odds_50 rfl h
      · have h := h.2 c_
        refine g_ldc2 (x := (-1)) (zc64 (x := (-1)) (v := (-1)) (by decide +kernel) kX9_236) dX9_odds_36 ?_
        exact g_lreturn dX9_odds_39 rfl h
theorem sg_X9_order_0 {K d : Nat} {mu : Mem} {Q : AV → Mem → Prop} {a1 a2 : Int} (hd : 4 ≤ d) (hK : 93 ≤ K) (h : zC K 1 mX9_isQueue [zR 64, zI a1] mu (fun v_ nu2 => ∃ r1, v_ = zI r1 ∧ (zin r1 ∧ ((r1 = 0 → Q (zI (-1)) nu2) ∧ (¬ r1 = 0 → (zin a2 ∧ ((a2 = (-1) → zC K 0 mX9_isShort [zR 64] nu2 (fun v_ nu6 => ∃ r5, v_ = zI r5 ∧ (zin r5 ∧ ((¬ r5 = 0 → zC K 3 mX9_layOrders [zR 64, zI a1] nu6 (fun v_ nu9 => v_ = zV ∧ zC K 0 mX9_lastBut [zR 64, zI 1] nu9 (fun v_ nu11 => ∃ r10, v_ = zI r10 ∧ zC K 0 mX9_lastBut [zR 64, zI 0] nu11 (fun v_ nu13 => ∃ r12, v_ = zI r12 ∧ zC K 0 mX9_spot [zI 0, zI r10, zI r12] nu13 (fun v_ nu15 => ∃ r14, v_ = zI r14 ∧ (0 ≤ r14 ∧ r14 < 65536 ∧ ((a2 < 0 → (zin (nu15 82 r14) ∧ ((0 ≤ (nu15 82 r14) → Q (zI (nu15 82 r14)) nu15) ∧ (¬ 0 ≤ (nu15 82 r14) → Q (zI (-4)) nu15)))) ∧ (¬ a2 < 0 → (zin (nu15 82 r14) ∧ ((0 ≤ (nu15 82 r14) → zG K d mX9_order 97 [zR 64, zI a1, zI a2, zI r10, zI r12, zI 0, zU, zI (-4), zI 0, zU] [] nu15 Q) ∧ (¬ 0 ≤ (nu15 82 r14) → ((0 ≤ (nu15 82 r14) → Q (zI (nu15 82 r14)) nu15) ∧ (¬ 0 ≤ (nu15 82 r14) → Q (zI (-4)) nu15))))))))))))) ∧ (r5 = 0 → Q (zI (-2)) nu6))))) ∧ (¬ a2 = (-1) → zC K 1 mX9_isWish [zR 64, zI a2] nu2 (fun v_ nu21 => ∃ r20, v_ = zI r20 ∧ (zin r20 ∧ ((¬ r20 = 0 → zC K 0 mX9_isShort [zR 64] nu21 (fun v_ nu24 => ∃ r23, v_ = zI r23 ∧ (zin r23 ∧ ((¬ r23 = 0 → zC K 3 mX9_layOrders [zR 64, zI a1] nu24 (fun v_ nu27 => v_ = zV ∧ zC K 0 mX9_lastBut [zR 64, zI 1] nu27 (fun v_ nu29 => ∃ r28, v_ = zI r28 ∧ zC K 0 mX9_lastBut [zR 64, zI 0] nu29 (fun v_ nu31 => ∃ r30, v_ = zI r30 ∧ zC K 0 mX9_spot [zI 0, zI r28, zI r30] nu31 (fun v_ nu33 => ∃ r32, v_ = zI r32 ∧ (0 ≤ r32 ∧ r32 < 65536 ∧ ((a2 < 0 → (zin (nu33 82 r32) ∧ ((0 ≤ (nu33 82 r32) → Q (zI (nu33 82 r32)) nu33) ∧ (¬ 0 ≤ (nu33 82 r32) → Q (zI (-4)) nu33)))) ∧ (¬ a2 < 0 → (zin (nu33 82 r32) ∧ ((0 ≤ (nu33 82 r32) → zG K d mX9_order 97 [zR 64, zI a1, zI a2, zI r28, zI r30, zI 0, zU, zI (-4), zI 0, zU] [] nu33 Q) ∧ (¬ 0 ≤ (nu33 82 r32) → ((0 ≤ (nu33 82 r32) → Q (zI (nu33 82 r32)) nu33) ∧ (¬ 0 ≤ (nu33 82 r32) → Q (zI (-4)) nu33))))))))))))) ∧ (r23 = 0 → Q (zI (-2)) nu24))))) ∧ (r20 = 0 → Q (zI (-1)) nu21)))))))))))) : zG K d mX9_order 0 [zR 64, zI a1, zI a2, zU, zU, zU, zU, zU, zU, zU] [] mu Q := by
  refine g_aload_n dX9_order_0 rfl ?_
  refine g_iload_n dX9_order_1 rfl ?_
  refine g_callV (Y' := mX9_isQueue) (d' := 1) (As := [zI a1]) (rest := []) dX9_order_2 lX9_211 vX9_isQueue (by omega) (o64 hK) rfl rfl (Nat.le_of_ble_eq_true rfl) rfl (zC_i h (fun r1 nu2 h => ?_))
  obtain ⟨q3, h⟩ := h
  refine g_if_eq (tgt := 21) dX9_order_5 (by decide) q3 (fun c_ => ?_) (fun c_ => ?_)
  · have h := h.1 c_
    refine g_iconst dX9_order_21 ?_
    exact g_ireturn dX9_order_22 rfl h
  · have h := h.2 c_
    refine g_iload_n dX9_order_8 rfl ?_
    refine g_iconst dX9_order_9 ?_
    obtain ⟨q4, h⟩ := h
    refine g_icmp_eq (tgt := 23) dX9_order_10 (by decide) q4 (zin_d rfl) (fun c_ => ?_) (fun c_ => ?_)
    · have h := h.1 c_
      refine g_aload_n dX9_order_23 rfl ?_
      refine g_callV (Y' := mX9_isShort) (d' := 0) (As := []) (rest := []) dX9_order_24 lX9_214 vX9_isShort (by omega) (o64 hK) rfl rfl (Nat.le_of_ble_eq_true rfl) rfl (zC_i h (fun r5 nu6 h => ?_))
      obtain ⟨q7, h⟩ := h
      refine g_if_ne (tgt := 33) dX9_order_27 (by decide) q7 (fun c_ => ?_) (fun c_ => ?_)
      · have h := h.1 c_
        refine g_aload_n dX9_order_33 rfl ?_
        refine g_iload_n dX9_order_34 rfl ?_
        refine g_callV (Y' := mX9_layOrders) (d' := 3) (As := [zI a1]) (rest := []) dX9_order_35 lX9_217 vX9_layOrders (by omega) (o64 hK) rfl rfl (Nat.le_of_ble_eq_true rfl) rfl (zC_v h (fun nu9 h => ?_))
        refine g_aload_n dX9_order_38 rfl ?_
        refine g_iconst dX9_order_39 ?_
        refine g_callV (Y' := mX9_lastBut) (d' := 0) (As := [zI 1]) (rest := []) dX9_order_40 lX9_220 vX9_lastBut (by omega) (o64 hK) rfl rfl (Nat.le_of_ble_eq_true rfl) rfl (zC_i h (fun r10 nu11 h => ?_))
        refine g_istore_n dX9_order_43 (by decide) rfl ?_
        refine g_aload_n dX9_order_44 rfl ?_
        refine g_iconst dX9_order_45 ?_
        refine g_callV (Y' := mX9_lastBut) (d' := 0) (As := [zI 0]) (rest := []) dX9_order_46 lX9_220 vX9_lastBut (by omega) (o64 hK) rfl rfl (Nat.le_of_ble_eq_true rfl) rfl (zC_i h (fun r12 nu13 h => ?_))
        refine g_istore dX9_order_49 (by decide) rfl ?_
        refine g_iconst dX9_order_51 ?_
        refine g_istore dX9_order_52 (by decide) rfl ?_
        refine g_aload_n dX9_order_54 rfl ?_
        refine g_getR (k' := 82) dX9_order_55 (o64 hK) fX9_62 (by decide) (by decide) ?_
        refine g_iconst dX9_order_58 ?_
        refine g_iload_n dX9_order_59 rfl ?_
        refine g_iload dX9_order_60 rfl ?_
        refine g_callS (Y' := mX9_spot) (d' := 0) (As := [zI 0, zI r10, zI r12]) (rest := [zR 82]) dX9_order_62 lX9_200 vX9_spot (by omega) rfl (Nat.le_of_ble_eq_true rfl) rfl (zC_i h (fun r14 nu15 h => ?_))
        obtain ⟨q16, h⟩ := h
        obtain ⟨q17, h⟩ := h
        refine g_iald' (nn := 65536) dX9_order_65 (r82 hK) rfl q16 q17 ?_
        refine g_istore dX9_order_66 (by decide) rfl ?_
        refine g_iload_n dX9_order_68 rfl ?_
        refine g_if_lt (tgt := 77) dX9_order_69 (by decide) q4 (fun c_ => ?_) (fun c_ => ?_)
        · have h := h.1 c_
          refine g_iload dX9_order_77 rfl ?_
          obtain ⟨q18, h⟩ := h
          refine g_if_ge (tgt := 87) dX9_order_79 (by decide) q18 (fun c_ => ?_) (fun c_ => ?_)
          · have h := h.1 c_
            refine g_iload dX9_order_87 rfl ?_
            exact g_ireturn dX9_order_89 rfl h
          · have h := h.2 c_
            refine g_bipush dX9_order_82 rfl ?_
            refine g_goto (tgt := 89) dX9_order_84 (by decide) ?_
            exact g_ireturn dX9_order_89 rfl h
        · have h := h.2 c_
          refine g_iload dX9_order_72 rfl ?_
          obtain ⟨q19, h⟩ := h
          refine g_if_ge (tgt := 90) dX9_order_74 (by decide) q19 (fun c_ => ?_) (fun c_ => ?_)
          · have h := h.1 c_
            refine g_bipush dX9_order_90 rfl ?_
            refine g_istore dX9_order_92 (by decide) rfl ?_
            refine g_iconst dX9_order_94 ?_
            refine g_istore dX9_order_95 (by decide) rfl ?_
            exact g_wk (zwk_s (zwk_s (zwk_s (zwk_s (zwk_s (zwk_s (zwk_u (zwk_s (zwk_s (zwk_s zwk_n)))))))))) h
          · have h := h.2 c_
            refine g_iload dX9_order_77 rfl ?_
            refine g_if_ge (tgt := 87) dX9_order_79 (by decide) q19 (fun c_ => ?_) (fun c_ => ?_)
            · have h := h.1 c_
              refine g_iload dX9_order_87 rfl ?_
              exact g_ireturn dX9_order_89 rfl h
            · have h := h.2 c_
              refine g_bipush dX9_order_82 rfl ?_
              refine g_goto (tgt := 89) dX9_order_84 (by decide) ?_
              exact g_ireturn dX9_order_89 rfl h
      · have h := h.2 c_
        refine g_bipush dX9_order_30 rfl ?_
        exact g_ireturn dX9_order_32 rfl h
    · have h := h.2 c_
      refine g_aload_n dX9_order_13 rfl ?_
      refine g_iload_n dX9_order_14 rfl ?_
      refine g_callV (Y' := mX9_isWish) (d' := 1) (As := [zI a2]) (rest := []) dX9_order_15 lX9_187 vX9_isWish (by omega) (o64 hK) rfl rfl (Nat.le_of_ble_eq_true rfl) rfl (zC_i h (fun r20 nu21 h => ?_))
      obtain ⟨q22, h⟩ := h
      refine g_if_ne (tgt := 23) dX9_order_18 (by decide) q22 (fun c_ => ?_) (fun c_ => ?_)
      · have h := h.1 c_
        refine g_aload_n dX9_order_23 rfl ?_
        refine g_callV (Y' := mX9_isShort) (d' := 0) (As := []) (rest := []) dX9_order_24 lX9_214 vX9_isShort (by omega) (o64 hK) rfl rfl (Nat.le_of_ble_eq_true rfl) rfl (zC_i h (fun r23 nu24 h => ?_))
        obtain ⟨q25, h⟩ := h
        refine g_if_ne (tgt := 33) dX9_order_27 (by decide) q25 (fun c_ => ?_) (fun c_ => ?_)
        · have h := h.1 c_
          refine g_aload_n dX9_order_33 rfl ?_
          refine g_iload_n dX9_order_34 rfl ?_
          refine g_callV (Y' := mX9_layOrders) (d' := 3) (As := [zI a1]) (rest := []) dX9_order_35 lX9_217 vX9_layOrders (by omega) (o64 hK) rfl rfl (Nat.le_of_ble_eq_true rfl) rfl (zC_v h (fun nu27 h => ?_))
          refine g_aload_n dX9_order_38 rfl ?_
          refine g_iconst dX9_order_39 ?_
          refine g_callV (Y' := mX9_lastBut) (d' := 0) (As := [zI 1]) (rest := []) dX9_order_40 lX9_220 vX9_lastBut (by omega) (o64 hK) rfl rfl (Nat.le_of_ble_eq_true rfl) rfl (zC_i h (fun r28 nu29 h => ?_))
          refine g_istore_n dX9_order_43 (by decide) rfl ?_
          refine g_aload_n dX9_order_44 rfl ?_
          refine g_iconst dX9_order_45 ?_
          refine g_callV (Y' := mX9_lastBut) (d' := 0) (As := [zI 0]) (rest := []) dX9_order_46 lX9_220 vX9_lastBut (by omega) (o64 hK) rfl rfl (Nat.le_of_ble_eq_true rfl) rfl (zC_i h (fun r30 nu31 h => ?_))
          refine g_istore dX9_order_49 (by decide) rfl ?_
          refine g_iconst dX9_order_51 ?_
          refine g_istore dX9_order_52 (by decide) rfl ?_
          refine g_aload_n dX9_order_54 rfl ?_
          refine g_getR (k' := 82) dX9_order_55 (o64 hK) fX9_62 (by decide) (by decide) ?_
          refine g_iconst dX9_order_58 ?_
          refine g_iload_n dX9_order_59 rfl ?_
          refine g_iload dX9_order_60 rfl ?_
          refine g_callS (Y' := mX9_spot) (d' := 0) (As := [zI 0, zI r28, zI r30]) (rest := [zR 82]) dX9_order_62 lX9_200 vX9_spot (by omega) rfl (Nat.le_of_ble_eq_true rfl) rfl (zC_i h (fun r32 nu33 h => ?_))
          obtain ⟨q34, h⟩ := h
          obtain ⟨q35, h⟩ := h
          refine g_iald' (nn := 65536) dX9_order_65 (r82 hK) rfl q34 q35 ?_
          refine g_istore dX9_order_66 (by decide) rfl ?_
          refine g_iload_n dX9_order_68 rfl ?_
          refine g_if_lt (tgt := 77) dX9_order_69 (by decide) q4 (fun c_ => ?_) (fun c_ => ?_)
          · have h := h.1 c_
            refine g_iload dX9_order_77 rfl ?_
            obtain ⟨q36, h⟩ := h
            refine g_if_ge (tgt := 87) dX9_order_79 (by decide) q36 (fun c_ => ?_) (fun c_ => ?_)
            · have h := h.1 c_
              refine g_iload dX9_order_87 rfl ?_
              exact g_ireturn dX9_order_89 rfl h
            · have h := h.2 c_
              refine g_bipush dX9_order_82 rfl ?_
              refine g_goto (tgt := 89) dX9_order_84 (by decide) ?_
              exact g_ireturn dX9_order_89 rfl h
          · have h := h.2 c_
            refine g_iload dX9_order_72 rfl ?_
            obtain ⟨q37, h⟩ := h
            refine g_if_ge (tgt := 90) dX9_order_74 (by decide) q37 (fun c_ => ?_) (fun c_ => ?_)
            · have h := h.1 c_
              refine g_bipush dX9_order_90 rfl ?_
              refine g_istore dX9_order_92 (by decide) rfl ?_
              refine g_iconst dX9_order_94 ?_
              refine g_istore dX9_order_95 (by decide) rfl ?_
              exact g_wk (zwk_s (zwk_s (zwk_s (zwk_s (zwk_s (zwk_s (zwk_u (zwk_s (zwk_s (zwk_s zwk_n)))))))))) h
            · have h := h.2 c_
              refine g_iload dX9_order_77 rfl ?_
              refine g_if_ge (tgt := 87) dX9_order_79 (by decide) q37 (fun c_ => ?_) (fun c_ => ?_)
              · have h := h.1 c_
                refine g_iload dX9_order_87 rfl ?_
                exact g_ireturn dX9_order_89 rfl h
              · have h := h.2 c_
                refine g_bipush dX9_order_82 rfl ?_
                refine g_goto (tgt := 89) dX9_order_84 (by decide) ?_
                exact g_ireturn dX9_order_89 rfl h
        · have h := h.2 c_
          refine g_bipush dX9_order_30 rfl ?_
          exact g_ireturn dX9_order_32 rfl h
      · have h := h.2 c_
        refine g_iconst dX9_order_21 ?_
        exact g_ireturn dX9_order_22 rfl h
theorem sg_X9_order_97 {K d : Nat} {mu : Mem} {Q : AV → Mem → Prop} {a1 a2 a3 a4 a5 a7 a8 : Int} (hd : 4 ≤ d) (hK : 93 ≤ K) (h : (zin a8 ∧ zin a2 ∧ ((a2 < a8 → Q (zI a7) mu) ∧ (¬ a2 < a8 → zC K 0 mX9_spot [zI a5, zI a3, zI a4] mu (fun v_ nu4 => ∃ r3, v_ = zI r3 ∧ (0 ≤ r3 ∧ r3 < 65536 ∧ zG K d mX9_order 121 [zR 64, zI a1, zI a2, zI a3, zI a4, zI a5, zU, zI 0, zI a8, zI (nu4 82 r3)] [] nu4 Q)))))) : zG K d mX9_order 97 [zR 64, zI a1, zI a2, zI a3, zI a4, zI a5, zU, zI a7, zI a8, zU] [] mu Q := by
  refine g_iload dX9_order_97 rfl ?_
  refine g_iload_n dX9_order_99 rfl ?_
  obtain ⟨q1, h⟩ := h
  obtain ⟨q2, h⟩ := h
  refine g_icmp_gt (tgt := 181) dX9_order_100 (by decide) q1 q2 (fun c_ => ?_) (fun c_ => ?_)
  · have h := h.1 c_
    refine g_iload dX9_order_181 rfl ?_
    exact g_ireturn dX9_order_183 rfl h
  · have h := h.2 c_
    refine g_aload_n dX9_order_103 rfl ?_
    refine g_getR (k' := 82) dX9_order_104 (o64 hK) fX9_62 (by decide) (by decide) ?_
    refine g_iload dX9_order_107 rfl ?_
    refine g_iload_n dX9_order_109 rfl ?_
    refine g_iload dX9_order_110 rfl ?_
    refine g_callS (Y' := mX9_spot) (d' := 0) (As := [zI a5, zI a3, zI a4]) (rest := [zR 82]) dX9_order_112 lX9_200 vX9_spot (by omega) rfl (Nat.le_of_ble_eq_true rfl) rfl (zC_i h (fun r3 nu4 h => ?_))
    obtain ⟨q5, h⟩ := h
    obtain ⟨q6, h⟩ := h
    refine g_iald' (nn := 65536) dX9_order_115 (r82 hK) rfl q5 q6 ?_
    refine g_istore dX9_order_116 (by decide) rfl ?_
    refine g_iconst dX9_order_118 ?_
    refine g_istore dX9_order_119 (by decide) rfl ?_
    exact g_wk (zwk_s (zwk_s (zwk_s (zwk_s (zwk_s (zwk_s (zwk_s (zwk_s (zwk_s (zwk_s zwk_n)))))))))) h
theorem sg_X9_order_121 {K d : Nat} {mu : Mem} {Q : AV → Mem → Prop} {a1 a2 a3 a4 a5 a7 a8 a9 : Int} (hd : 4 ≤ d) (hK : 93 ≤ K) (h : zC K 0 mX9_has [zI a5, zI a7] mu (fun v_ nu2 => ∃ r1, v_ = zI r1 ∧ (zin r1 ∧ ((¬ r1 = 0 → zG K d mX9_order 121 [zR 64, zI a1, zI a2, zI a3, zI a4, zI a5, zU, zI (a7 + 1), zI a8, zI a9] [] nu2 Q) ∧ (r1 = 0 → zC K 2 mX9_bring [zR 64, zI a1, zI a5, zI a3, zI a4, zI a7] nu2 (fun v_ nu5 => ∃ r4, v_ = zI r4 ∧ (zin r4 ∧ zin a9 ∧ ((r4 = a9 → (0 ≤ a7 ∧ a7 < 20 ∧ zG K d mX9_order 97 [zR 64, zI a1, zI a2, zI a4, zI (nu5 71 a7), zI (zor a5 (zshl 1 a7)), zU, zI a7, zI (a8 + 1), zU] [] nu5 Q)) ∧ (¬ r4 = a9 → zG K d mX9_order 121 [zR 64, zI a1, zI a2, zI a3, zI a4, zI a5, zU, zI (a7 + 1), zI a8, zI a9] [] nu5 Q))))))))) : zG K d mX9_order 121 [zR 64, zI a1, zI a2, zI a3, zI a4, zI a5, zU, zI a7, zI a8, zI a9] [] mu Q := by
  refine g_iload dX9_order_121 rfl ?_
  refine g_iload dX9_order_123 rfl ?_
  refine g_callS (Y' := mX9_has) (d' := 0) (As := [zI a5, zI a7]) (rest := []) dX9_order_125 lX9_203 vX9_has (by omega) rfl (Nat.le_of_ble_eq_true rfl) rfl (zC_i h (fun r1 nu2 h => ?_))
  obtain ⟨q3, h⟩ := h
  refine g_if_ne (tgt := 148) dX9_order_128 (by decide) q3 (fun c_ => ?_) (fun c_ => ?_)
  · have h := h.1 c_
    refine g_iinc dX9_order_148 rfl (by decide) rfl ?_
    refine g_goto (tgt := 121) dX9_order_151 (by decide) ?_
    exact g_wk (zwk_s (zwk_s (zwk_s (zwk_s (zwk_s (zwk_s (zwk_s (zwk_s (zwk_s (zwk_s zwk_n)))))))))) h
  · have h := h.2 c_
    refine g_aload_n dX9_order_131 rfl ?_
    refine g_iload_n dX9_order_132 rfl ?_
    refine g_iload dX9_order_133 rfl ?_
    refine g_iload_n dX9_order_135 rfl ?_
    refine g_iload dX9_order_136 rfl ?_
    refine g_iload dX9_order_138 rfl ?_
    refine g_callV (Y' := mX9_bring) (d' := 2) (As := [zI a1, zI a5, zI a3, zI a4, zI a7]) (rest := []) dX9_order_140 lX9_207 vX9_bring (by omega) (o64 hK) rfl rfl (Nat.le_of_ble_eq_true rfl) rfl (zC_i h (fun r4 nu5 h => ?_))
    refine g_iload dX9_order_143 rfl ?_
    obtain ⟨q6, h⟩ := h
    obtain ⟨q7, h⟩ := h
    refine g_icmp_eq (tgt := 154) dX9_order_145 (by decide) q6 q7 (fun c_ => ?_) (fun c_ => ?_)
    · have h := h.1 c_
      refine g_iload dX9_order_154 rfl ?_
      refine g_iconst dX9_order_156 ?_
      refine g_iload dX9_order_157 rfl ?_
      refine g_ishl dX9_order_159 (zshl_ok _ _) ?_
      refine g_ior dX9_order_160 (zor_ok _ _) ?_
      refine g_istore dX9_order_161 (by decide) rfl ?_
      refine g_iload dX9_order_163 rfl ?_
      refine g_istore_n dX9_order_165 (by decide) rfl ?_
      refine g_aload_n dX9_order_166 rfl ?_
      refine g_getR (k' := 71) dX9_order_167 (o64 hK) fX9_28 (by decide) (by decide) ?_
      refine g_iload dX9_order_170 rfl ?_
      obtain ⟨q8, h⟩ := h
      obtain ⟨q9, h⟩ := h
      refine g_iald' (nn := 20) dX9_order_172 (r71 hK) rfl q8 q9 ?_
      refine g_istore dX9_order_173 (by decide) rfl ?_
      refine g_iinc dX9_order_175 rfl (by decide) rfl ?_
      refine g_goto (tgt := 97) dX9_order_178 (by decide) ?_
      exact g_wk (zwk_s (zwk_s (zwk_s (zwk_s (zwk_s (zwk_s (zwk_s (zwk_s (zwk_s (zwk_u zwk_n)))))))))) h
    · have h := h.2 c_
      refine g_iinc dX9_order_148 rfl (by decide) rfl ?_
      refine g_goto (tgt := 121) dX9_order_151 (by decide) ?_
      exact g_wk (zwk_s (zwk_s (zwk_s (zwk_s (zwk_s (zwk_s (zwk_s (zwk_s (zwk_s (zwk_s zwk_n)))))))))) h
theorem sg_X9_other_0 {K d : Nat} {mu : Mem} {Q : AV → Mem → Prop} {a1 : Int} (hd : 3 ≤ d) (hK : 93 ≤ K) (h : (zin a1 ∧ zC K 0 mX9_in [zJ a1, zJ 0, zJ 3] mu (fun v_ nu3 => ∃ r2, v_ = zI r2 ∧ (zin r2 ∧ ((¬ r2 = 0 → zG K d mX9_other 18 [zR 64, zI a1, zI 0, zI 0] [] nu3 Q) ∧ (r2 = 0 → Q (zI (-1)) nu3)))))) : zG K d mX9_other 0 [zR 64, zI a1, zU, zU] [] mu Q := by
  refine g_iload_n dX9_other_0 rfl ?_
  obtain ⟨q1, h⟩ := h
  refine g_i2l dX9_other_1 q1 ?_
  refine g_lconst (x := 0) dX9_other_2 rfl ?_
  refine g_ldc2 (x := 3) (zc64 (x := 3) (v := 3) (by decide +kernel) kX9_123) dX9_other_3 ?_
  refine g_callS (Y' := mX9_in) (d' := 0) (As := [zJ a1, zJ 0, zJ 3]) (rest := []) dX9_other_6 lX9_102 vX9_in (by omega) rfl (Nat.le_of_ble_eq_true rfl) rfl (zC_i h (fun r2 nu3 h => ?_))
  obtain ⟨q4, h⟩ := h
  refine g_if_ne (tgt := 14) dX9_other_9 (by decide) q4 (fun c_ => ?_) (fun c_ => ?_)
  · have h := h.1 c_
    refine g_iconst dX9_other_14 ?_
    refine g_istore_n dX9_other_15 (by decide) rfl ?_
    refine g_iconst dX9_other_16 ?_
    refine g_istore_n dX9_other_17 (by decide) rfl ?_
    exact g_wk (zwk_s (zwk_s (zwk_s (zwk_s zwk_n)))) h
  · have h := h.2 c_
    refine g_iconst dX9_other_12 ?_
    exact g_ireturn dX9_other_13 rfl h
theorem sg_X9_other_18 {K d : Nat} {mu : Mem} {Q : AV → Mem → Prop} {a1 a2 a3 : Int} (hd : 3 ≤ d) (hK : 93 ≤ K) (h : (zin a3 ∧ zin (mu 70 0) ∧ (((mu 70 0) ≤ a3 → Q (zI a2) mu) ∧ (¬ (mu 70 0) ≤ a3 → zC K 2 mX9_givenBy [zR 64, zI (mu 67 0), zI a3] mu (fun v_ nu4 => ∃ r3, v_ = zI r3 ∧ zC K 2 mX9_givenBy [zR 64, zI a1, zI a3] nu4 (fun v_ nu6 => ∃ r5, v_ = zI r5 ∧ (zin r3 ∧ zin r5 ∧ ((r3 = r5 → zG K d mX9_other 18 [zR 64, zI a1, zI (a2 + 0), zI (a3 + 1)] [] nu6 Q) ∧ (¬ r3 = r5 → zG K d mX9_other 18 [zR 64, zI a1, zI (a2 + 1), zI (a3 + 1)] [] nu6 Q))))))))) : zG K d mX9_other 18 [zR 64, zI a1, zI a2, zI a3] [] mu Q := by
  refine g_iload_n dX9_other_18 rfl ?_
  refine g_aload_n dX9_other_19 rfl ?_
  refine g_getR (k' := 70) dX9_other_20 (o64 hK) fX9_25 (by decide) (by decide) ?_
  refine g_iconst dX9_other_23 ?_
  refine g_iald' (nn := 2) dX9_other_24 (r70 hK) rfl (by decide) (by decide) ?_
  obtain ⟨q1, h⟩ := h
  obtain ⟨q2, h⟩ := h
  refine g_icmp_ge (tgt := 62) dX9_other_25 (by decide) q1 q2 (fun c_ => ?_) (fun c_ => ?_)
  · have h := h.1 c_
    refine g_iload_n dX9_other_62 rfl ?_
    exact g_ireturn dX9_other_63 rfl h
  · have h := h.2 c_
    refine g_iload_n dX9_other_28 rfl ?_
    refine g_aload_n dX9_other_29 rfl ?_
    refine g_aload_n dX9_other_30 rfl ?_
    refine g_getR (k' := 67) dX9_other_31 (o64 hK) fX9_16 (by decide) (by decide) ?_
    refine g_iconst dX9_other_34 ?_
    refine g_iald' (nn := 2) dX9_other_35 (r67 hK) rfl (by decide) (by decide) ?_
    refine g_iload_n dX9_other_36 rfl ?_
    refine g_callV (Y' := mX9_givenBy) (d' := 2) (As := [zI (mu 67 0), zI a3]) (rest := [zI a2]) dX9_other_37 lX9_190 vX9_givenBy (by omega) (o64 hK) rfl rfl (Nat.le_of_ble_eq_true rfl) rfl (zC_i h (fun r3 nu4 h => ?_))
    refine g_aload_n dX9_other_40 rfl ?_
    refine g_iload_n dX9_other_41 rfl ?_
    refine g_iload_n dX9_other_42 rfl ?_
    refine g_callV (Y' := mX9_givenBy) (d' := 2) (As := [zI a1, zI a3]) (rest := [zI r3, zI a2]) dX9_other_43 lX9_190 vX9_givenBy (by omega) (o64 hK) rfl rfl (Nat.le_of_ble_eq_true rfl) rfl (zC_i h (fun r5 nu6 h => ?_))
    obtain ⟨q7, h⟩ := h
    obtain ⟨q8, h⟩ := h
    refine g_icmp_eq (tgt := 53) dX9_other_46 (by decide) q7 q8 (fun c_ => ?_) (fun c_ => ?_)
    · have h := h.1 c_
      refine g_iconst dX9_other_53 ?_
      refine g_iadd dX9_other_54 ?_
      refine g_istore_n dX9_other_55 (by decide) rfl ?_
      refine g_iinc dX9_other_56 rfl (by decide) rfl ?_
      refine g_goto (tgt := 18) dX9_other_59 (by decide) ?_
      exact g_wk (zwk_s (zwk_s (zwk_s (zwk_s zwk_n)))) h
    · have h := h.2 c_
      refine g_iconst dX9_other_49 ?_
      refine g_goto (tgt := 54) dX9_other_50 (by decide) ?_
      refine g_iadd dX9_other_54 ?_
      refine g_istore_n dX9_other_55 (by decide) rfl ?_
      refine g_iinc dX9_other_56 rfl (by decide) rfl ?_
      refine g_goto (tgt := 18) dX9_other_59 (by decide) ?_
      exact g_wk (zwk_s (zwk_s (zwk_s (zwk_s zwk_n)))) h
theorem sg_X9_otherwise_0 {K d : Nat} {mu : Mem} {Q : AV → Mem → Prop} (hd : 3 ≤ d) (hK : 93 ≤ K) (h : zC K 0 mX9_beginRow [zR 64] mu (fun v_ nu2 => v_ = zV ∧ zG K d mX9_otherwise 8 [zR 64, zI 0, zI 0] [] nu2 Q)) : zG K d mX9_otherwise 0 [zR 64, zU, zU] [] mu Q := by
  refine g_aload_n dX9_otherwise_0 rfl ?_
  refine g_callV (Y' := mX9_beginRow) (d' := 0) (As := []) (rest := []) dX9_otherwise_1 lX9_178 vX9_beginRow (by omega) (o64 hK) rfl rfl (Nat.le_of_ble_eq_true rfl) rfl (zC_v h (fun nu2 h => ?_))
  refine g_iconst dX9_otherwise_4 ?_
  refine g_istore_n dX9_otherwise_5 (by decide) rfl ?_
  refine g_iconst dX9_otherwise_6 ?_
  refine g_istore_n dX9_otherwise_7 (by decide) rfl ?_
  exact g_wk (zwk_s (zwk_s (zwk_s zwk_n))) h
theorem sg_X9_otherwise_8 {K d : Nat} {mu : Mem} {Q : AV → Mem → Prop} {a1 a2 : Int} (hd : 3 ≤ d) (hK : 93 ≤ K) (h : (zin a2 ∧ zin (mu 70 0) ∧ (((mu 70 0) ≤ a2 → Q (zI a1) mu) ∧ (¬ (mu 70 0) ≤ a2 → (0 ≤ a2 ∧ a2 < 20 ∧ zC K 2 mX9_askFor [zR 64, zI (mu 71 a2)] mu (fun v_ nu6 => ∃ r5, v_ = zI r5 ∧ (zin r5 ∧ zin (nu6 71 a2) ∧ ((r5 = (nu6 71 a2) → zG K d mX9_otherwise 8 [zR 64, zI (a1 + 0), zI (a2 + 1)] [] nu6 Q) ∧ (¬ r5 = (nu6 71 a2) → zG K d mX9_otherwise 8 [zR 64, zI (a1 + 1), zI (a2 + 1)] [] nu6 Q))))))))) : zG K d mX9_otherwise 8 [zR 64, zI a1, zI a2] [] mu Q := by
  refine g_iload_n dX9_otherwise_8 rfl ?_
  refine g_aload_n dX9_otherwise_9 rfl ?_
  refine g_getR (k' := 70) dX9_otherwise_10 (o64 hK) fX9_25 (by decide) (by decide) ?_
  refine g_iconst dX9_otherwise_13 ?_
  refine g_iald' (nn := 2) dX9_otherwise_14 (r70 hK) rfl (by decide) (by decide) ?_
  obtain ⟨q1, h⟩ := h
  obtain ⟨q2, h⟩ := h
  refine g_icmp_ge (tgt := 51) dX9_otherwise_15 (by decide) q1 q2 (fun c_ => ?_) (fun c_ => ?_)
  · have h := h.1 c_
    refine g_iload_n dX9_otherwise_51 rfl ?_
    exact g_ireturn dX9_otherwise_52 rfl h
  · have h := h.2 c_
    refine g_iload_n dX9_otherwise_18 rfl ?_
    refine g_aload_n dX9_otherwise_19 rfl ?_
    refine g_aload_n dX9_otherwise_20 rfl ?_
    refine g_getR (k' := 71) dX9_otherwise_21 (o64 hK) fX9_28 (by decide) (by decide) ?_
    refine g_iload_n dX9_otherwise_24 rfl ?_
    obtain ⟨q3, h⟩ := h
    obtain ⟨q4, h⟩ := h
    refine g_iald' (nn := 20) dX9_otherwise_25 (r71 hK) rfl q3 q4 ?_
    refine g_callV (Y' := mX9_askFor) (d' := 2) (As := [zI (mu 71 a2)]) (rest := [zI a1]) dX9_otherwise_26 lX9_243 vX9_askFor (by omega) (o64 hK) rfl rfl (Nat.le_of_ble_eq_true rfl) rfl (zC_i h (fun r5 nu6 h => ?_))
    refine g_aload_n dX9_otherwise_29 rfl ?_
    refine g_getR (k' := 71) dX9_otherwise_30 (o64 hK) fX9_28 (by decide) (by decide) ?_
    refine g_iload_n dX9_otherwise_33 rfl ?_
    refine g_iald' (nn := 20) dX9_otherwise_34 (r71 hK) rfl q3 q4 ?_
    obtain ⟨q7, h⟩ := h
    obtain ⟨q8, h⟩ := h
    refine g_icmp_eq (tgt := 42) dX9_otherwise_35 (by decide) q7 q8 (fun c_ => ?_) (fun c_ => ?_)
    · have h := h.1 c_
      refine g_iconst dX9_otherwise_42 ?_
      refine g_iadd dX9_otherwise_43 ?_
      refine g_istore_n dX9_otherwise_44 (by decide) rfl ?_
      refine g_iinc dX9_otherwise_45 rfl (by decide) rfl ?_
      refine g_goto (tgt := 8) dX9_otherwise_48 (by decide) ?_
      exact g_wk (zwk_s (zwk_s (zwk_s zwk_n))) h
    · have h := h.2 c_
      refine g_iconst dX9_otherwise_38 ?_
      refine g_goto (tgt := 43) dX9_otherwise_39 (by decide) ?_
      refine g_iadd dX9_otherwise_43 ?_
      refine g_istore_n dX9_otherwise_44 (by decide) rfl ?_
      refine g_iinc dX9_otherwise_45 rfl (by decide) rfl ?_
      refine g_goto (tgt := 8) dX9_otherwise_48 (by decide) ?_
      exact g_wk (zwk_s (zwk_s (zwk_s zwk_n))) h
theorem sg_X9_post_0 {K d : Nat} {mu : Mem} {Q : AV → Mem → Prop} {a1 a2 : Int} (hd : 2 ≤ d) (hK : 93 ≤ K) (h : zC K 1 mX9_isPost [zR 64, zI a1] mu (fun v_ nu2 => ∃ r1, v_ = zI r1 ∧ (zin r1 ∧ ((r1 = 0 → Q (zI (-1)) nu2) ∧ (¬ r1 = 0 → (zin a2 ∧ zC K 0 mX9_in [zJ a2, zJ 0, zJ 3] nu2 (fun v_ nu6 => ∃ r5, v_ = zI r5 ∧ (zin r5 ∧ ((¬ r5 = 0 → ((¬ a2 = 0 → (0 ≤ (((3 * a1) + a2) - 1) ∧ (((3 * a1) + a2) - 1) < 54 ∧ Q (zI (nu6 77 (((3 * a1) + a2) - 1))) nu6)) ∧ (a2 = 0 → (0 ≤ a1 ∧ a1 < 12 ∧ Q (zI (nu6 75 a1)) nu6)))) ∧ (r5 = 0 → Q (zI (-1)) nu6)))))))))) : zG K d mX9_post 0 [zR 64, zI a1, zI a2] [] mu Q := by
  refine g_aload_n dX9_post_0 rfl ?_
  refine g_iload_n dX9_post_1 rfl ?_
  refine g_callV (Y' := mX9_isPost) (d' := 1) (As := [zI a1]) (rest := []) dX9_post_2 lX9_264 vX9_isPost (by omega) (o64 hK) rfl rfl (Nat.le_of_ble_eq_true rfl) rfl (zC_i h (fun r1 nu2 h => ?_))
  obtain ⟨q3, h⟩ := h
  refine g_if_eq (tgt := 20) dX9_post_5 (by decide) q3 (fun c_ => ?_) (fun c_ => ?_)
  · have h := h.1 c_
    refine g_iconst dX9_post_20 ?_
    exact g_ireturn dX9_post_21 rfl h
  · have h := h.2 c_
    refine g_iload_n dX9_post_8 rfl ?_
    obtain ⟨q4, h⟩ := h
    refine g_i2l dX9_post_9 q4 ?_
    refine g_lconst (x := 0) dX9_post_10 rfl ?_
    refine g_ldc2 (x := 3) (zc64 (x := 3) (v := 3) (by decide +kernel) kX9_123) dX9_post_11 ?_
    refine g_callS (Y' := mX9_in) (d' := 0) (As := [zJ a2, zJ 0, zJ 3]) (rest := []) dX9_post_14 lX9_102 vX9_in (by omega) rfl (Nat.le_of_ble_eq_true rfl) rfl (zC_i h (fun r5 nu6 h => ?_))
    obtain ⟨q7, h⟩ := h
    refine g_if_ne (tgt := 22) dX9_post_17 (by decide) q7 (fun c_ => ?_) (fun c_ => ?_)
    · have h := h.1 c_
      refine g_iload_n dX9_post_22 rfl ?_
      refine g_if_ne (tgt := 35) dX9_post_23 (by decide) q4 (fun c_ => ?_) (fun c_ => ?_)
      · have h := h.1 c_
        refine g_aload_n dX9_post_35 rfl ?_
        refine g_getR (k' := 77) dX9_post_36 (o64 hK) fX9_46 (by decide) (by decide) ?_
        refine g_iconst dX9_post_39 ?_
        refine g_iload_n dX9_post_40 rfl ?_
        refine g_imul dX9_post_41 ?_
        refine g_iload_n dX9_post_42 rfl ?_
        refine g_iadd dX9_post_43 ?_
        refine g_iconst dX9_post_44 ?_
        refine g_isub dX9_post_45 ?_
        obtain ⟨q8, h⟩ := h
        obtain ⟨q9, h⟩ := h
        refine g_iald' (nn := 54) dX9_post_46 (r77 hK) rfl q8 q9 ?_
        exact g_ireturn dX9_post_47 rfl h
      · have h := h.2 c_
        refine g_aload_n dX9_post_26 rfl ?_
        refine g_getR (k' := 75) dX9_post_27 (o64 hK) fX9_40 (by decide) (by decide) ?_
        refine g_iload_n dX9_post_30 rfl ?_
        obtain ⟨q10, h⟩ := h
        obtain ⟨q11, h⟩ := h
        refine g_iald' (nn := 12) dX9_post_31 (r75 hK) rfl q10 q11 ?_
        refine g_goto (tgt := 47) dX9_post_32 (by decide) ?_
        exact g_ireturn dX9_post_47 rfl h
    · have h := h.2 c_
      refine g_iconst dX9_post_20 ?_
      exact g_ireturn dX9_post_21 rfl h
theorem sg_X9_postItem_0 {K d : Nat} {mu : Mem} {Q : AV → Mem → Prop} (hd : 2 ≤ d) (hK : 93 ≤ K) (h : zC K 1 mX9_figures [zR 64, zI 4] mu (fun v_ nu2 => ∃ r1, v_ = zI r1 ∧ (zin r1 ∧ ((r1 = 0 → Q (zI 0) nu2) ∧ (¬ r1 = 0 → (zin (mu 74 1) ∧ (((mu 74 1) = 6 → Q (zI 0) nu2) ∧ (¬ (mu 74 1) = 6 → (zin (nu2 80 0) ∧ ((5 < (nu2 80 0) → Q (zI 0) nu2) ∧ (¬ 5 < (nu2 80 0) → (zin (nu2 80 1) ∧ ((6 < (nu2 80 1) → Q (zI 0) nu2) ∧ (¬ 6 < (nu2 80 1) → (zin (nu2 80 2) ∧ ((6 < (nu2 80 2) → Q (zI 0) nu2) ∧ (¬ 6 < (nu2 80 2) → (zin (nu2 80 3) ∧ (((nu2 80 3) ≤ 6 → (0 ≤ (6 + (mu 74 1)) ∧ (6 + (mu 74 1)) < 12 ∧ zin ((zup nu2 75 (6 + (mu 74 1)) (nu2 80 0)) 80 0) ∧ zin ((zup nu2 75 (6 + (mu 74 1)) (nu2 80 0)) 64 20) ∧ ((((zup nu2 75 (6 + (mu 74 1)) (nu2 80 0)) 80 0) ≤ ((zup nu2 75 (6 + (mu 74 1)) (nu2 80 0)) 64 20) → zG K d mX9_postItem 113 [zR 64, zI (mu 74 1), zI 0] [] (zup (zup nu2 75 (6 + (mu 74 1)) (nu2 80 0)) 64 20 ((zup nu2 75 (6 + (mu 74 1)) (nu2 80 0)) 64 20)) Q) ∧ (¬ ((zup nu2 75 (6 + (mu 74 1)) (nu2 80 0)) 80 0) ≤ ((zup nu2 75 (6 + (mu 74 1)) (nu2 80 0)) 64 20) → zG K d mX9_postItem 113 [zR 64, zI (mu 74 1), zI 0] [] (zup (zup nu2 75 (6 + (mu 74 1)) (nu2 80 0)) 64 20 ((zup nu2 75 (6 + (mu 74 1)) (nu2 80 0)) 80 0)) Q)))) ∧ (¬ (nu2 80 3) ≤ 6 → Q (zI 0) nu2)))))))))))))))))))) : zG K d mX9_postItem 0 [zR 64, zU, zU] [] mu Q := by
  refine g_aload_n dX9_postItem_0 rfl ?_
  refine g_getR (k' := 74) dX9_postItem_1 (o64 hK) fX9_37 (by decide) (by decide) ?_
  refine g_iconst dX9_postItem_4 ?_
  refine g_iald' (nn := 2) dX9_postItem_5 (r74 hK) rfl (by decide) (by decide) ?_
  refine g_istore_n dX9_postItem_6 (by decide) rfl ?_
  refine g_aload_n dX9_postItem_7 rfl ?_
  refine g_iconst dX9_postItem_8 ?_
  refine g_callV (Y' := mX9_figures) (d' := 1) (As := [zI 4]) (rest := []) dX9_postItem_9 lX9_128 vX9_figures (by omega) (o64 hK) rfl rfl (Nat.le_of_ble_eq_true rfl) rfl (zC_i h (fun r1 nu2 h => ?_))
  obtain ⟨q3, h⟩ := h
  refine g_if_eq (tgt := 64) dX9_postItem_12 (by decide) q3 (fun c_ => ?_) (fun c_ => ?_)
  · have h := h.1 c_
    refine g_iconst dX9_postItem_64 ?_
    exact g_zreturn dX9_postItem_65 rfl (by decide) h
  · have h := h.2 c_
    refine g_iload_n dX9_postItem_15 rfl ?_
    refine g_bipush dX9_postItem_16 rfl ?_
    obtain ⟨q4, h⟩ := h
    refine g_icmp_eq (tgt := 64) dX9_postItem_18 (by decide) q4 (zin_d rfl) (fun c_ => ?_) (fun c_ => ?_)
    · have h := h.1 c_
      refine g_iconst dX9_postItem_64 ?_
      exact g_zreturn dX9_postItem_65 rfl (by decide) h
    · have h := h.2 c_
      refine g_aload_n dX9_postItem_21 rfl ?_
      refine g_getR (k' := 80) dX9_postItem_22 (o64 hK) fX9_55 (by decide) (by decide) ?_
      refine g_iconst dX9_postItem_25 ?_
      refine g_iald' (nn := 4) dX9_postItem_26 (r80 hK) rfl (by decide) (by decide) ?_
      refine g_iconst dX9_postItem_27 ?_
      obtain ⟨q5, h⟩ := h
      refine g_icmp_gt (tgt := 64) dX9_postItem_28 (by decide) q5 (zin_d rfl) (fun c_ => ?_) (fun c_ => ?_)
      · have h := h.1 c_
        refine g_iconst dX9_postItem_64 ?_
        exact g_zreturn dX9_postItem_65 rfl (by decide) h
      · have h := h.2 c_
        refine g_aload_n dX9_postItem_31 rfl ?_
        refine g_getR (k' := 80) dX9_postItem_32 (o64 hK) fX9_55 (by decide) (by decide) ?_
        refine g_iconst dX9_postItem_35 ?_
        refine g_iald' (nn := 4) dX9_postItem_36 (r80 hK) rfl (by decide) (by decide) ?_
        refine g_bipush dX9_postItem_37 rfl ?_
        obtain ⟨q6, h⟩ := h
        refine g_icmp_gt (tgt := 64) dX9_postItem_39 (by decide) q6 (zin_d rfl) (fun c_ => ?_) (fun c_ => ?_)
        · have h := h.1 c_
          refine g_iconst dX9_postItem_64 ?_
          exact g_zreturn dX9_postItem_65 rfl (by decide) h
        · have h := h.2 c_
          refine g_aload_n dX9_postItem_42 rfl ?_
          refine g_getR (k' := 80) dX9_postItem_43 (o64 hK) fX9_55 (by decide) (by decide) ?_
          refine g_iconst dX9_postItem_46 ?_
          refine g_iald' (nn := 4) dX9_postItem_47 (r80 hK) rfl (by decide) (by decide) ?_
          refine g_bipush dX9_postItem_48 rfl ?_
          obtain ⟨q7, h⟩ := h
          refine g_icmp_gt (tgt := 64) dX9_postItem_50 (by decide) q7 (zin_d rfl) (fun c_ => ?_) (fun c_ => ?_)
          · have h := h.1 c_
            refine g_iconst dX9_postItem_64 ?_
            exact g_zreturn dX9_postItem_65 rfl (by decide) h
          · have h := h.2 c_
            refine g_aload_n dX9_postItem_53 rfl ?_
            refine g_getR (k' := 80) dX9_postItem_54 (o64 hK) fX9_55 (by decide) (by decide) ?_
            refine g_iconst dX9_postItem_57 ?_
            refine g_iald' (nn := 4) dX9_postItem_58 (r80 hK) rfl (by decide) (by decide) ?_
            refine g_bipush dX9_postItem_59 rfl ?_
            obtain ⟨q8, h⟩ := h
            refine g_icmp_le (tgt := 66) dX9_postItem_61 (by decide) q8 (zin_d rfl) (fun c_ => ?_) (fun c_ => ?_)
            · have h := h.1 c_
              refine g_aload_n dX9_postItem_66 rfl ?_
              refine g_getR (k' := 75) dX9_postItem_67 (o64 hK) fX9_40 (by decide) (by decide) ?_
              refine g_bipush dX9_postItem_70 rfl ?_
              refine g_iload_n dX9_postItem_72 rfl ?_
              refine g_iadd dX9_postItem_73 ?_
              refine g_aload_n dX9_postItem_74 rfl ?_
              refine g_getR (k' := 80) dX9_postItem_75 (o64 hK) fX9_55 (by decide) (by decide) ?_
              refine g_iconst dX9_postItem_78 ?_
              refine g_iald' (nn := 4) dX9_postItem_79 (r80 hK) rfl (by decide) (by decide) ?_
              obtain ⟨q9, h⟩ := h
              obtain ⟨q10, h⟩ := h
              refine g_iast' (nn := 12) dX9_postItem_80 (r75 hK) rfl q9 q10 ?_
              refine g_aload_n dX9_postItem_81 rfl ?_
              refine g_aload_n dX9_postItem_82 rfl ?_
              refine g_getR (k' := 80) dX9_postItem_83 (o64 hK) fX9_55 (by decide) (by decide) ?_
              refine g_iconst dX9_postItem_86 ?_
              refine g_iald' (nn := 4) dX9_postItem_87 (r80 hK) rfl (by decide) (by decide) ?_
              refine g_aload_n dX9_postItem_88 rfl ?_
              refine g_getI' (jj := 20) dX9_postItem_89 (o64 hK) fX9_135 rfl rfl ?_
              obtain ⟨q11, h⟩ := h
              obtain ⟨q12, h⟩ := h
              refine g_icmp_le (tgt := 104) dX9_postItem_92 (by decide) q11 q12 (fun c_ => ?_) (fun c_ => ?_)
              · have h := h.1 c_
                refine g_aload_n dX9_postItem_104 rfl ?_
                refine g_getI' (jj := 20) dX9_postItem_105 (o64 hK) fX9_135 rfl rfl ?_
                refine g_putI' (jj := 20) dX9_postItem_108 (o64 hK) pX9_135 rfl rfl ?_
                refine g_iconst dX9_postItem_111 ?_
                refine g_istore_n dX9_postItem_112 (by decide) rfl ?_
                exact g_wk (zwk_s (zwk_s (zwk_s zwk_n))) h
              · have h := h.2 c_
                refine g_aload_n dX9_postItem_95 rfl ?_
                refine g_getR (k' := 80) dX9_postItem_96 (o64 hK) fX9_55 (by decide) (by decide) ?_
                refine g_iconst dX9_postItem_99 ?_
                refine g_iald' (nn := 4) dX9_postItem_100 (r80 hK) rfl (by decide) (by decide) ?_
                refine g_goto (tgt := 108) dX9_postItem_101 (by decide) ?_
                refine g_putI' (jj := 20) dX9_postItem_108 (o64 hK) pX9_135 rfl rfl ?_
                refine g_iconst dX9_postItem_111 ?_
                refine g_istore_n dX9_postItem_112 (by decide) rfl ?_
                exact g_wk (zwk_s (zwk_s (zwk_s zwk_n))) h
            · have h := h.2 c_
              refine g_iconst dX9_postItem_64 ?_
              exact g_zreturn dX9_postItem_65 rfl (by decide) h
theorem sg_X9_postItem_113 {K d : Nat} {mu : Mem} {Q : AV → Mem → Prop} {a1 a2 : Int} (hd : 2 ≤ d) (hK : 93 ≤ K) (h : (zin a2 ∧ ((3 ≤ a2 → Q (zI 1) (zup mu 74 1 ((mu 74 1) + 1))) ∧ (¬ 3 ≤ a2 → (0 ≤ (1 + a2) ∧ (1 + a2) < 4 ∧ 0 ≤ ((18 + (3 * a1)) + a2) ∧ ((18 + (3 * a1)) + a2) < 36 ∧ zC K 0 mX9_meet [zR 64, zI ((zup mu 76 ((18 + (3 * a1)) + a2) (mu 80 (1 + a2))) 80 (1 + a2))] (zup mu 76 ((18 + (3 * a1)) + a2) (mu 80 (1 + a2))) (fun v_ nu7 => v_ = zV ∧ zG K d mX9_postItem 113 [zR 64, zI a1, zI (a2 + 1)] [] nu7 Q)))))) : zG K d mX9_postItem 113 [zR 64, zI a1, zI a2] [] mu Q := by
  refine g_iload_n dX9_postItem_113 rfl ?_
  refine g_iconst dX9_postItem_114 ?_
  obtain ⟨q1, h⟩ := h
  refine g_icmp_ge (tgt := 157) dX9_postItem_115 (by decide) q1 (zin_d rfl) (fun c_ => ?_) (fun c_ => ?_)
  · have h := h.1 c_
    refine g_aload_n dX9_postItem_157 rfl ?_
    refine g_getR (k' := 74) dX9_postItem_158 (o64 hK) fX9_37 (by decide) (by decide) ?_
    refine g_iconst dX9_postItem_161 ?_
    refine g_dup2 dX9_postItem_162 (by simp) (by simp) ?_
    refine g_iald' (nn := 2) dX9_postItem_163 (r74 hK) rfl (by decide) (by decide) ?_
    refine g_iconst dX9_postItem_164 ?_
    refine g_iadd dX9_postItem_165 ?_
    refine g_iast' (nn := 2) dX9_postItem_166 (r74 hK) rfl (by decide) (by decide) ?_
    refine g_iconst dX9_postItem_167 ?_
    exact g_zreturn dX9_postItem_168 rfl (by decide) h
  · have h := h.2 c_
    refine g_aload_n dX9_postItem_118 rfl ?_
    refine g_getR (k' := 76) dX9_postItem_119 (o64 hK) fX9_43 (by decide) (by decide) ?_
    refine g_bipush dX9_postItem_122 rfl ?_
    refine g_iconst dX9_postItem_124 ?_
    refine g_iload_n dX9_postItem_125 rfl ?_
    refine g_imul dX9_postItem_126 ?_
    refine g_iadd dX9_postItem_127 ?_
    refine g_iload_n dX9_postItem_128 rfl ?_
    refine g_iadd dX9_postItem_129 ?_
    refine g_aload_n dX9_postItem_130 rfl ?_
    refine g_getR (k' := 80) dX9_postItem_131 (o64 hK) fX9_55 (by decide) (by decide) ?_
    refine g_iconst dX9_postItem_134 ?_
    refine g_iload_n dX9_postItem_135 rfl ?_
    refine g_iadd dX9_postItem_136 ?_
    obtain ⟨q2, h⟩ := h
    obtain ⟨q3, h⟩ := h
    refine g_iald' (nn := 4) dX9_postItem_137 (r80 hK) rfl q2 q3 ?_
    obtain ⟨q4, h⟩ := h
    obtain ⟨q5, h⟩ := h
    refine g_iast' (nn := 36) dX9_postItem_138 (r76 hK) rfl q4 q5 ?_
    refine g_aload_n dX9_postItem_139 rfl ?_
    refine g_aload_n dX9_postItem_140 rfl ?_
    refine g_getR (k' := 80) dX9_postItem_141 (o64 hK) fX9_55 (by decide) (by decide) ?_
    refine g_iconst dX9_postItem_144 ?_
    refine g_iload_n dX9_postItem_145 rfl ?_
    refine g_iadd dX9_postItem_146 ?_
    refine g_iald' (nn := 4) dX9_postItem_147 (r80 hK) rfl q2 q3 ?_
    refine g_callV (Y' := mX9_meet) (d' := 0) (As := [zI ((zup mu 76 ((18 + (3 * a1)) + a2) (mu 80 (1 + a2))) 80 (1 + a2))]) (rest := []) dX9_postItem_148 lX9_132 vX9_meet (by omega) (o64 hK) rfl rfl (Nat.le_of_ble_eq_true rfl) rfl (zC_v h (fun nu7 h => ?_))
    refine g_iinc dX9_postItem_151 rfl (by decide) rfl ?_
    refine g_goto (tgt := 113) dX9_postItem_154 (by decide) ?_
    exact g_wk (zwk_s (zwk_s (zwk_s zwk_n))) h
theorem sg_X9_readAll_0 {K d : Nat} {mu : Mem} {Q : AV → Mem → Prop} (hd : 4 ≤ d) (hK : 93 ≤ K) (h : zC K 0 mX9_noPost [zR 64, zI 1] mu (fun v_ nu2 => v_ = zV ∧ zG K d mX9_readAll 20 [zR 64, zU] [] (zup (zup (zup nu2 64 19 0) 64 20 (-1)) 64 17 0) Q)) : zG K d mX9_readAll 0 [zR 64, zU] [] mu Q := by
  refine g_aload_n dX9_readAll_0 rfl ?_
  refine g_iconst dX9_readAll_1 ?_
  refine g_callV (Y' := mX9_noPost) (d' := 0) (As := [zI 1]) (rest := []) dX9_readAll_2 lX9_96 vX9_noPost (by omega) (o64 hK) rfl rfl (Nat.le_of_ble_eq_true rfl) rfl (zC_v h (fun nu2 h => ?_))
  refine g_aload_n dX9_readAll_5 rfl ?_
  refine g_iconst dX9_readAll_6 ?_
  refine g_putI' (jj := 19) dX9_readAll_7 (o64 hK) pX9_125 rfl rfl ?_
  refine g_aload_n dX9_readAll_10 rfl ?_
  refine g_iconst dX9_readAll_11 ?_
  refine g_putI' (jj := 20) dX9_readAll_12 (o64 hK) pX9_135 rfl rfl ?_
  refine g_aload_n dX9_readAll_15 rfl ?_
  refine g_iconst dX9_readAll_16 ?_
  refine g_putI' (jj := 17) dX9_readAll_17 (o64 hK) pX9_112 rfl rfl ?_
  exact g_wk (zwk_s (zwk_s zwk_n)) h
theorem sg_X9_readAll_20 {K d : Nat} {mu : Mem} {Q : AV → Mem → Prop} (hd : 4 ≤ d) (hK : 93 ≤ K) (h : (zin (mu 64 17) ∧ zin (mu 64 0) ∧ (((mu 64 0) ≤ (mu 64 17) → Q (zI (-4)) mu) ∧ (¬ (mu 64 0) ≤ (mu 64 17) → zC K 3 mX9_item [zR 64] mu (fun v_ nu4 => ∃ r3, v_ = zI r3 ∧ (zin r3 ∧ ((¬ r3 = 0 → zG K d mX9_readAll 20 [zR 64, zU] [] nu4 Q) ∧ (r3 = 0 → Q (zI (mu 64 17)) nu4)))))))) : zG K d mX9_readAll 20 [zR 64, zU] [] mu Q := by
  refine g_aload_n dX9_readAll_20 rfl ?_
  refine g_getI' (jj := 17) dX9_readAll_21 (o64 hK) fX9_112 rfl rfl ?_
  refine g_aload_n dX9_readAll_24 rfl ?_
  refine g_getI' (jj := 0) dX9_readAll_25 (o64 hK) fX9_106 rfl rfl ?_
  obtain ⟨q1, h⟩ := h
  obtain ⟨q2, h⟩ := h
  refine g_icmp_ge (tgt := 48) dX9_readAll_28 (by decide) q1 q2 (fun c_ => ?_) (fun c_ => ?_)
  · have h := h.1 c_
    refine g_bipush dX9_readAll_48 rfl ?_
    exact g_ireturn dX9_readAll_50 rfl h
  · have h := h.2 c_
    refine g_aload_n dX9_readAll_31 rfl ?_
    refine g_getI' (jj := 17) dX9_readAll_32 (o64 hK) fX9_112 rfl rfl ?_
    refine g_istore_n dX9_readAll_35 (by decide) rfl ?_
    refine g_aload_n dX9_readAll_36 rfl ?_
    refine g_callV (Y' := mX9_item) (d' := 3) (As := []) (rest := []) dX9_readAll_37 lX9_155 vX9_item (by omega) (o64 hK) rfl rfl (Nat.le_of_ble_eq_true rfl) rfl (zC_i h (fun r3 nu4 h => ?_))
    obtain ⟨q5, h⟩ := h
    refine g_if_ne (tgt := 45) dX9_readAll_40 (by decide) q5 (fun c_ => ?_) (fun c_ => ?_)
    · have h := h.1 c_
      refine g_goto (tgt := 20) dX9_readAll_45 (by decide) ?_
      exact g_wk (zwk_s (zwk_u zwk_n)) h
    · have h := h.2 c_
      refine g_iload_n dX9_readAll_43 rfl ?_
      exact g_ireturn dX9_readAll_44 rfl h
theorem sg_X9_ring_0 {K d : Nat} {mu : Mem} {Q : AV → Mem → Prop} {a1 : Int} (hd : 2 ≤ d) (hK : 93 ≤ K) (h : (zin a1 ∧ zC K 0 mX9_in [zJ a1, zJ 0, zJ 1] mu (fun v_ nu3 => ∃ r2, v_ = zI r2 ∧ (zin r2 ∧ ((¬ r2 = 0 → (zin (nu3 74 0) ∧ ((¬ (nu3 74 0) = 0 → zC K 0 mX9_takeNet [zR 64] nu3 (fun v_ nu7 => v_ = zV ∧ zG K d mX9_ring 30 [zR 64, zI a1, zI 0, zU] [] nu7 Q)) ∧ ((nu3 74 0) = 0 → Q (zI (-2)) nu3)))) ∧ (r2 = 0 → Q (zI (-1)) nu3)))))) : zG K d mX9_ring 0 [zR 64, zI a1, zU, zU] [] mu Q := by
  refine g_iload_n dX9_ring_0 rfl ?_
  obtain ⟨q1, h⟩ := h
  refine g_i2l dX9_ring_1 q1 ?_
  refine g_lconst (x := 0) dX9_ring_2 rfl ?_
  refine g_lconst (x := 1) dX9_ring_3 rfl ?_
  refine g_callS (Y' := mX9_in) (d' := 0) (As := [zJ a1, zJ 0, zJ 1]) (rest := []) dX9_ring_4 lX9_102 vX9_in (by omega) rfl (Nat.le_of_ble_eq_true rfl) rfl (zC_i h (fun r2 nu3 h => ?_))
  obtain ⟨q4, h⟩ := h
  refine g_if_ne (tgt := 12) dX9_ring_7 (by decide) q4 (fun c_ => ?_) (fun c_ => ?_)
  · have h := h.1 c_
    refine g_aload_n dX9_ring_12 rfl ?_
    refine g_getR (k' := 74) dX9_ring_13 (o64 hK) fX9_37 (by decide) (by decide) ?_
    refine g_iconst dX9_ring_16 ?_
    refine g_iald' (nn := 2) dX9_ring_17 (r74 hK) rfl (by decide) (by decide) ?_
    obtain ⟨q5, h⟩ := h
    refine g_if_ne (tgt := 24) dX9_ring_18 (by decide) q5 (fun c_ => ?_) (fun c_ => ?_)
    · have h := h.1 c_
      refine g_aload_n dX9_ring_24 rfl ?_
      refine g_callV (Y' := mX9_takeNet) (d' := 0) (As := []) (rest := []) dX9_ring_25 lX9_267 vX9_takeNet (by omega) (o64 hK) rfl rfl (Nat.le_of_ble_eq_true rfl) rfl (zC_v h (fun nu7 h => ?_))
      refine g_iconst dX9_ring_28 ?_
      refine g_istore_n dX9_ring_29 (by decide) rfl ?_
      exact g_wk (zwk_s (zwk_s (zwk_s (zwk_s zwk_n)))) h
    · have h := h.2 c_
      refine g_bipush dX9_ring_21 rfl ?_
      exact g_ireturn dX9_ring_23 rfl h
  · have h := h.2 c_
    refine g_iconst dX9_ring_10 ?_
    exact g_ireturn dX9_ring_11 rfl h
theorem sg_X9_ring_30 {K d : Nat} {mu : Mem} {Q : AV → Mem → Prop} {a1 a2 : Int} (hd : 2 ≤ d) (hK : 93 ≤ K) (h : (zin a2 ∧ ((600 < a2 → zG K d mX9_ring 59 [zR 64, zI a1, zI 0, zU] [] mu Q) ∧ (¬ 600 < a2 → zC K 0 mX9_state [zR 64] mu (fun v_ nu3 => ∃ r2, v_ = zJ r2 ∧ (0 ≤ a2 ∧ a2 < 601 ∧ zC K 1 mX9_goRound [zR 64] (zup nu3 92 a2 r2) (fun v_ nu7 => v_ = zV ∧ zG K d mX9_ring 30 [zR 64, zI a1, zI (a2 + 1), zU] [] nu7 Q))))))) : zG K d mX9_ring 30 [zR 64, zI a1, zI a2, zU] [] mu Q := by
  refine g_iload_n dX9_ring_30 rfl ?_
  refine g_sipush dX9_ring_31 rfl ?_
  obtain ⟨q1, h⟩ := h
  refine g_icmp_gt (tgt := 57) dX9_ring_34 (by decide) q1 (zin_d rfl) (fun c_ => ?_) (fun c_ => ?_)
  · have h := h.1 c_
    refine g_iconst dX9_ring_57 ?_
    refine g_istore_n dX9_ring_58 (by decide) rfl ?_
    exact g_wk (zwk_s (zwk_s (zwk_s (zwk_s zwk_n)))) h
  · have h := h.2 c_
    refine g_aload_n dX9_ring_37 rfl ?_
    refine g_getR (k' := 92) dX9_ring_38 (o64 hK) fX9_93 (by decide) (by decide) ?_
    refine g_iload_n dX9_ring_41 rfl ?_
    refine g_aload_n dX9_ring_42 rfl ?_
    refine g_callV (Y' := mX9_state) (d' := 0) (As := []) (rest := [zI a2, zR 92]) dX9_ring_43 lX9_275 vX9_state (by omega) (o64 hK) rfl rfl (Nat.le_of_ble_eq_true rfl) rfl (zC_j h (fun r2 nu3 h => ?_))
    obtain ⟨q4, h⟩ := h
    obtain ⟨q5, h⟩ := h
    refine g_last' (nn := 601) dX9_ring_46 (r92 hK) rfl q4 q5 ?_
    refine g_aload_n dX9_ring_47 rfl ?_
    refine g_callV (Y' := mX9_goRound) (d' := 1) (As := []) (rest := []) dX9_ring_48 lX9_270 vX9_goRound (by omega) (o64 hK) rfl rfl (Nat.le_of_ble_eq_true rfl) rfl (zC_v h (fun nu7 h => ?_))
    refine g_iinc dX9_ring_51 rfl (by decide) rfl ?_
    refine g_goto (tgt := 30) dX9_ring_54 (by decide) ?_
    exact g_wk (zwk_s (zwk_s (zwk_s (zwk_s zwk_n)))) h
theorem sg_X9_ring_59 {K d : Nat} {mu : Mem} {Q : AV → Mem → Prop} {a1 a2 : Int} (hd : 2 ≤ d) (hK : 93 ≤ K) (h : (zin a2 ∧ ((600 ≤ a2 → Q (zI (-4)) mu) ∧ (¬ 600 ≤ a2 → zG K d mX9_ring 70 [zR 64, zI a1, zI a2, zI (a2 + 1)] [] mu Q)))) : zG K d mX9_ring 59 [zR 64, zI a1, zI a2, zU] [] mu Q := by
  refine g_iload_n dX9_ring_59 rfl ?_
  refine g_sipush dX9_ring_60 rfl ?_
  obtain ⟨q1, h⟩ := h
  refine g_icmp_ge (tgt := 117) dX9_ring_63 (by decide) q1 (zin_d rfl) (fun c_ => ?_) (fun c_ => ?_)
  · have h := h.1 c_
    refine g_bipush dX9_ring_117 rfl ?_
    exact g_ireturn dX9_ring_119 rfl h
  · have h := h.2 c_
    refine g_iload_n dX9_ring_66 rfl ?_
    refine g_iconst dX9_ring_67 ?_
    refine g_iadd dX9_ring_68 ?_
    refine g_istore_n dX9_ring_69 (by decide) rfl ?_
    exact g_wk (zwk_s (zwk_s (zwk_s (zwk_s zwk_n)))) h
theorem sg_X9_ring_70 {K d : Nat} {mu : Mem} {Q : AV → Mem → Prop} {a1 a2 a3 : Int} (hd : 2 ≤ d) (hK : 93 ≤ K) (h : (zin a3 ∧ ((600 < a3 → zG K d mX9_ring 59 [zR 64, zI a1, zI (a2 + 1), zU] [] mu Q) ∧ (¬ 600 < a3 → (0 ≤ a2 ∧ a2 < 601 ∧ 0 ≤ a3 ∧ a3 < 601 ∧ zil (mu 92 a2) ∧ zil (mu 92 a3) ∧ ((¬ (mu 92 a2) = (mu 92 a3) → zG K d mX9_ring 70 [zR 64, zI a1, zI a2, zI (a3 + 1)] [] mu Q) ∧ ((mu 92 a2) = (mu 92 a3) → (zin a1 ∧ ((¬ a1 = 0 → Q (zI (a3 - a2)) mu) ∧ (a1 = 0 → Q (zI a2) mu)))))))))) : zG K d mX9_ring 70 [zR 64, zI a1, zI a2, zI a3] [] mu Q := by
  refine g_iload_n dX9_ring_70 rfl ?_
  refine g_sipush dX9_ring_71 rfl ?_
  obtain ⟨q1, h⟩ := h
  refine g_icmp_gt (tgt := 111) dX9_ring_74 (by decide) q1 (zin_d rfl) (fun c_ => ?_) (fun c_ => ?_)
  · have h := h.1 c_
    refine g_iinc dX9_ring_111 rfl (by decide) rfl ?_
    refine g_goto (tgt := 59) dX9_ring_114 (by decide) ?_
    exact g_wk (zwk_s (zwk_s (zwk_s (zwk_u zwk_n)))) h
  · have h := h.2 c_
    refine g_aload_n dX9_ring_77 rfl ?_
    refine g_getR (k' := 92) dX9_ring_78 (o64 hK) fX9_93 (by decide) (by decide) ?_
    refine g_iload_n dX9_ring_81 rfl ?_
    obtain ⟨q2, h⟩ := h
    obtain ⟨q3, h⟩ := h
    refine g_lald' (nn := 601) dX9_ring_82 (r92 hK) rfl q2 q3 ?_
    refine g_aload_n dX9_ring_83 rfl ?_
    refine g_getR (k' := 92) dX9_ring_84 (o64 hK) fX9_93 (by decide) (by decide) ?_
    refine g_iload_n dX9_ring_87 rfl ?_
    obtain ⟨q4, h⟩ := h
    obtain ⟨q5, h⟩ := h
    refine g_lald' (nn := 601) dX9_ring_88 (r92 hK) rfl q4 q5 ?_
    obtain ⟨q6, h⟩ := h
    obtain ⟨q7, h⟩ := h
    refine g_lcmp_ne (tgt := 105) dX9_ring_89 dX9_ring_90 (by decide) q6 q7 (fun c_ => ?_) (fun c_ => ?_)
    · have h := h.1 c_
      refine g_iinc dX9_ring_105 rfl (by decide) rfl ?_
      refine g_goto (tgt := 70) dX9_ring_108 (by decide) ?_
      exact g_wk (zwk_s (zwk_s (zwk_s (zwk_s zwk_n)))) h
    · have h := h.2 c_
      refine g_iload_n dX9_ring_93 rfl ?_
      obtain ⟨q8, h⟩ := h
      refine g_if_ne (tgt := 101) dX9_ring_94 (by decide) q8 (fun c_ => ?_) (fun c_ => ?_)
      · have h := h.1 c_
        refine g_iload_n dX9_ring_101 rfl ?_
        refine g_iload_n dX9_ring_102 rfl ?_
        refine g_isub dX9_ring_103 ?_
        exact g_ireturn dX9_ring_104 rfl h
      · have h := h.2 c_
        refine g_iload_n dX9_ring_97 rfl ?_
        refine g_goto (tgt := 104) dX9_ring_98 (by decide) ?_
        exact g_ireturn dX9_ring_104 rfl h
theorem sg_X9_round_0 {K d : Nat} {mu : Mem} {Q : AV → Mem → Prop} (hd : 2 ≤ d) (hK : 93 ≤ K) (h : (zin (mu 74 0) ∧ ((¬ (mu 74 0) = 0 → zC K 0 mX9_takeNet [zR 64] mu (fun v_ nu3 => v_ = zV ∧ zC K 1 mX9_goRound [zR 64] nu3 (fun v_ nu5 => v_ = zV ∧ zG K d mX9_round 24 [zR 64, zI 0, zI 0] [] nu5 Q))) ∧ ((mu 74 0) = 0 → Q (zI (-2)) mu)))) : zG K d mX9_round 0 [zR 64, zU, zU] [] mu Q := by
  refine g_aload_n dX9_round_0 rfl ?_
  refine g_getR (k' := 74) dX9_round_1 (o64 hK) fX9_37 (by decide) (by decide) ?_
  refine g_iconst dX9_round_4 ?_
  refine g_iald' (nn := 2) dX9_round_5 (r74 hK) rfl (by decide) (by decide) ?_
  obtain ⟨q1, h⟩ := h
  refine g_if_ne (tgt := 12) dX9_round_6 (by decide) q1 (fun c_ => ?_) (fun c_ => ?_)
  · have h := h.1 c_
    refine g_aload_n dX9_round_12 rfl ?_
    refine g_callV (Y' := mX9_takeNet) (d' := 0) (As := []) (rest := []) dX9_round_13 lX9_267 vX9_takeNet (by omega) (o64 hK) rfl rfl (Nat.le_of_ble_eq_true rfl) rfl (zC_v h (fun nu3 h => ?_))
    refine g_aload_n dX9_round_16 rfl ?_
    refine g_callV (Y' := mX9_goRound) (d' := 1) (As := []) (rest := []) dX9_round_17 lX9_270 vX9_goRound (by omega) (o64 hK) rfl rfl (Nat.le_of_ble_eq_true rfl) rfl (zC_v h (fun nu5 h => ?_))
    refine g_iconst dX9_round_20 ?_
    refine g_istore_n dX9_round_21 (by decide) rfl ?_
    refine g_iconst dX9_round_22 ?_
    refine g_istore_n dX9_round_23 (by decide) rfl ?_
    exact g_wk (zwk_s (zwk_s (zwk_s zwk_n))) h
  · have h := h.2 c_
    refine g_bipush dX9_round_9 rfl ?_
    exact g_ireturn dX9_round_11 rfl h
theorem sg_X9_round_24 {K d : Nat} {mu : Mem} {Q : AV → Mem → Prop} {a1 a2 : Int} (hd : 2 ≤ d) (hK : 93 ≤ K) (h : (zin a2 ∧ ((18 ≤ a2 → Q (zI a1) mu) ∧ (¬ 18 ≤ a2 → (0 ≤ a2 ∧ a2 < 18 ∧ a2 < 54 ∧ zin (a2.tmod 3) ∧ ((¬ (a2.tmod 3) = 2 → zG K d mX9_round 24 [zR 64, zI (a1 + 0), zI (a2 + 1)] [] (zup mu 77 a2 (mu 90 a2)) Q) ∧ ((a2.tmod 3) = 2 → (zin (3 * ((zup mu 77 a2 (mu 90 a2)) 74 0)) ∧ (((3 * ((zup mu 77 a2 (mu 90 a2)) 74 0)) ≤ a2 → zG K d mX9_round 24 [zR 64, zI (a1 + 0), zI (a2 + 1)] [] (zup mu 77 a2 (mu 90 a2)) Q) ∧ (¬ (3 * ((zup mu 77 a2 (mu 90 a2)) 74 0)) ≤ a2 → (zin ((zup mu 77 a2 (mu 90 a2)) 90 a2) ∧ ((6 ≤ ((zup mu 77 a2 (mu 90 a2)) 90 a2) → zG K d mX9_round 24 [zR 64, zI (a1 + 0), zI (a2 + 1)] [] (zup mu 77 a2 (mu 90 a2)) Q) ∧ (¬ 6 ≤ ((zup mu 77 a2 (mu 90 a2)) 90 a2) → zG K d mX9_round 24 [zR 64, zI (a1 + 1), zI (a2 + 1)] [] (zup mu 77 a2 (mu 90 a2)) Q))))))))))))) : zG K d mX9_round 24 [zR 64, zI a1, zI a2] [] mu Q := by
  refine g_iload_n dX9_round_24 rfl ?_
  refine g_bipush dX9_round_25 rfl ?_
  obtain ⟨q1, h⟩ := h
  refine g_icmp_ge (tgt := 86) dX9_round_27 (by decide) q1 (zin_d rfl) (fun c_ => ?_) (fun c_ => ?_)
  · have h := h.1 c_
    refine g_iload_n dX9_round_86 rfl ?_
    exact g_ireturn dX9_round_87 rfl h
  · have h := h.2 c_
    refine g_aload_n dX9_round_30 rfl ?_
    refine g_getR (k' := 77) dX9_round_31 (o64 hK) fX9_46 (by decide) (by decide) ?_
    refine g_iload_n dX9_round_34 rfl ?_
    refine g_aload_n dX9_round_35 rfl ?_
    refine g_getR (k' := 90) dX9_round_36 (o64 hK) fX9_87 (by decide) (by decide) ?_
    refine g_iload_n dX9_round_39 rfl ?_
    obtain ⟨q2, h⟩ := h
    obtain ⟨q3, h⟩ := h
    refine g_iald' (nn := 18) dX9_round_40 (r90 hK) rfl q2 q3 ?_
    obtain ⟨q4, h⟩ := h
    refine g_iast' (nn := 54) dX9_round_41 (r77 hK) rfl q2 q4 ?_
    refine g_iload_n dX9_round_42 rfl ?_
    refine g_iload_n dX9_round_43 rfl ?_
    refine g_iconst dX9_round_44 ?_
    refine g_irem dX9_round_45 q1 (zin_d rfl) (by decide) ?_
    refine g_iconst dX9_round_46 ?_
    obtain ⟨q5, h⟩ := h
    refine g_icmp_ne (tgt := 77) dX9_round_47 (by decide) q5 (zin_d rfl) (fun c_ => ?_) (fun c_ => ?_)
    · have h := h.1 c_
      refine g_iconst dX9_round_77 ?_
      refine g_iadd dX9_round_78 ?_
      refine g_istore_n dX9_round_79 (by decide) rfl ?_
      refine g_iinc dX9_round_80 rfl (by decide) rfl ?_
      refine g_goto (tgt := 24) dX9_round_83 (by decide) ?_
      exact g_wk (zwk_s (zwk_s (zwk_s zwk_n))) h
    · have h := h.2 c_
      refine g_iload_n dX9_round_50 rfl ?_
      refine g_iconst dX9_round_51 ?_
      refine g_aload_n dX9_round_52 rfl ?_
      refine g_getR (k' := 74) dX9_round_53 (o64 hK) fX9_37 (by decide) (by decide) ?_
      refine g_iconst dX9_round_56 ?_
      refine g_iald' (nn := 2) dX9_round_57 (r74 hK) rfl (by decide) (by decide) ?_
      refine g_imul dX9_round_58 ?_
      obtain ⟨q6, h⟩ := h
      refine g_icmp_ge (tgt := 77) dX9_round_59 (by decide) q1 q6 (fun c_ => ?_) (fun c_ => ?_)
      · have h := h.1 c_
        refine g_iconst dX9_round_77 ?_
        refine g_iadd dX9_round_78 ?_
        refine g_istore_n dX9_round_79 (by decide) rfl ?_
        refine g_iinc dX9_round_80 rfl (by decide) rfl ?_
        refine g_goto (tgt := 24) dX9_round_83 (by decide) ?_
        exact g_wk (zwk_s (zwk_s (zwk_s zwk_n))) h
      · have h := h.2 c_
        refine g_aload_n dX9_round_62 rfl ?_
        refine g_getR (k' := 90) dX9_round_63 (o64 hK) fX9_87 (by decide) (by decide) ?_
        refine g_iload_n dX9_round_66 rfl ?_
        refine g_iald' (nn := 18) dX9_round_67 (r90 hK) rfl q2 q3 ?_
        refine g_bipush dX9_round_68 rfl ?_
        obtain ⟨q7, h⟩ := h
        refine g_icmp_ge (tgt := 77) dX9_round_70 (by decide) q7 (zin_d rfl) (fun c_ => ?_) (fun c_ => ?_)
        · have h := h.1 c_
          refine g_iconst dX9_round_77 ?_
          refine g_iadd dX9_round_78 ?_
          refine g_istore_n dX9_round_79 (by decide) rfl ?_
          refine g_iinc dX9_round_80 rfl (by decide) rfl ?_
          refine g_goto (tgt := 24) dX9_round_83 (by decide) ?_
          exact g_wk (zwk_s (zwk_s (zwk_s zwk_n))) h
        · have h := h.2 c_
          refine g_iconst dX9_round_73 ?_
          refine g_goto (tgt := 78) dX9_round_74 (by decide) ?_
          refine g_iadd dX9_round_78 ?_
          refine g_istore_n dX9_round_79 (by decide) rfl ?_
          refine g_iinc dX9_round_80 rfl (by decide) rfl ?_
          refine g_goto (tgt := 24) dX9_round_83 (by decide) ?_
          exact g_wk (zwk_s (zwk_s (zwk_s zwk_n))) h
theorem sg_X9_rows_0 {K d : Nat} {mu : Mem} {Q : AV → Mem → Prop} {a1 : Int} (hd : 3 ≤ d) (hK : 93 ≤ K) (h : (zin a1 ∧ zC K 0 mX9_in [zJ a1, zJ 0, zJ 1] mu (fun v_ nu3 => ∃ r2, v_ = zI r2 ∧ (zin r2 ∧ ((¬ r2 = 0 → zC K 0 mX9_isShort [zR 64] nu3 (fun v_ nu6 => ∃ r5, v_ = zI r5 ∧ (zin r5 ∧ ((¬ r5 = 0 → zC K 2 mX9_layRows [zR 64, zI (-4), zI (-4)] nu6 (fun v_ nu9 => v_ = zV ∧ zC K 0 mX9_lastBut [zR 64, zI 1] nu9 (fun v_ nu11 => ∃ r10, v_ = zI r10 ∧ zC K 0 mX9_lastBut [zR 64, zI 0] nu11 (fun v_ nu13 => ∃ r12, v_ = zI r12 ∧ zC K 0 mX9_stand [zI 0, zI r10, zI r12] nu13 (fun v_ nu15 => ∃ r14, v_ = zI r14 ∧ ((¬ a1 = 0 → (0 ≤ r14 ∧ r14 < 704 ∧ Q (zJ (nu15 88 r14)) nu15)) ∧ (a1 = 0 → (0 ≤ r14 ∧ r14 < 704 ∧ Q (zJ (nu15 87 r14)) nu15)))))))) ∧ (r5 = 0 → Q (zJ (-2)) nu6))))) ∧ (r2 = 0 → Q (zJ (-1)) nu3)))))) : zG K d mX9_rows 0 [zR 64, zI a1, zU] [] mu Q := by
  refine g_iload_n dX9_rows_0 rfl ?_
  obtain ⟨q1, h⟩ := h
  refine g_i2l dX9_rows_1 q1 ?_
  refine g_lconst (x := 0) dX9_rows_2 rfl ?_
  refine g_lconst (x := 1) dX9_rows_3 rfl ?_
  refine g_callS (Y' := mX9_in) (d' := 0) (As := [zJ a1, zJ 0, zJ 1]) (rest := []) dX9_rows_4 lX9_102 vX9_in (by omega) rfl (Nat.le_of_ble_eq_true rfl) rfl (zC_i h (fun r2 nu3 h => ?_))
  obtain ⟨q4, h⟩ := h
  refine g_if_ne (tgt := 14) dX9_rows_7 (by decide) q4 (fun c_ => ?_) (fun c_ => ?_)
  · have h := h.1 c_
    refine g_aload_n dX9_rows_14 rfl ?_
    refine g_callV (Y' := mX9_isShort) (d' := 0) (As := []) (rest := []) dX9_rows_15 lX9_214 vX9_isShort (by omega) (o64 hK) rfl rfl (Nat.le_of_ble_eq_true rfl) rfl (zC_i h (fun r5 nu6 h => ?_))
    obtain ⟨q7, h⟩ := h
    refine g_if_ne (tgt := 25) dX9_rows_18 (by decide) q7 (fun c_ => ?_) (fun c_ => ?_)
    · have h := h.1 c_
      refine g_aload_n dX9_rows_25 rfl ?_
      refine g_bipush dX9_rows_26 rfl ?_
      refine g_bipush dX9_rows_28 rfl ?_
      refine g_callV (Y' := mX9_layRows) (d' := 2) (As := [zI (-4), zI (-4)]) (rest := []) dX9_rows_30 lX9_254 vX9_layRows (by omega) (o64 hK) rfl rfl (Nat.le_of_ble_eq_true rfl) rfl (zC_v h (fun nu9 h => ?_))
      refine g_iconst dX9_rows_33 ?_
      refine g_aload_n dX9_rows_34 rfl ?_
      refine g_iconst dX9_rows_35 ?_
      refine g_callV (Y' := mX9_lastBut) (d' := 0) (As := [zI 1]) (rest := [zI 0]) dX9_rows_36 lX9_220 vX9_lastBut (by omega) (o64 hK) rfl rfl (Nat.le_of_ble_eq_true rfl) rfl (zC_i h (fun r10 nu11 h => ?_))
      refine g_aload_n dX9_rows_39 rfl ?_
      refine g_iconst dX9_rows_40 ?_
      refine g_callV (Y' := mX9_lastBut) (d' := 0) (As := [zI 0]) (rest := [zI r10, zI 0]) dX9_rows_41 lX9_220 vX9_lastBut (by omega) (o64 hK) rfl rfl (Nat.le_of_ble_eq_true rfl) rfl (zC_i h (fun r12 nu13 h => ?_))
      refine g_callS (Y' := mX9_stand) (d' := 0) (As := [zI 0, zI r10, zI r12]) (rest := []) dX9_rows_44 lX9_223 vX9_stand (by omega) rfl (Nat.le_of_ble_eq_true rfl) rfl (zC_i h (fun r14 nu15 h => ?_))
      refine g_istore_n dX9_rows_47 (by decide) rfl ?_
      refine g_iload_n dX9_rows_48 rfl ?_
      refine g_if_ne (tgt := 61) dX9_rows_49 (by decide) q1 (fun c_ => ?_) (fun c_ => ?_)
      · have h := h.1 c_
        refine g_aload_n dX9_rows_61 rfl ?_
        refine g_getR (k' := 88) dX9_rows_62 (o64 hK) fX9_81 (by decide) (by decide) ?_
        refine g_iload_n dX9_rows_65 rfl ?_
        obtain ⟨q16, h⟩ := h
        obtain ⟨q17, h⟩ := h
        refine g_lald' (nn := 704) dX9_rows_66 (r88 hK) rfl q16 q17 ?_
        exact g_lreturn dX9_rows_67 rfl h
      · have h := h.2 c_
        refine g_aload_n dX9_rows_52 rfl ?_
        refine g_getR (k' := 87) dX9_rows_53 (o64 hK) fX9_77 (by decide) (by decide) ?_
        refine g_iload_n dX9_rows_56 rfl ?_
        obtain ⟨q18, h⟩ := h
        obtain ⟨q19, h⟩ := h
        refine g_lald' (nn := 704) dX9_rows_57 (r87 hK) rfl q18 q19 ?_
        refine g_goto (tgt := 67) dX9_rows_58 (by decide) ?_
        exact g_lreturn dX9_rows_67 rfl h
    · have h := h.2 c_
      refine g_ldc2 (x := (-2)) (zc64 (x := (-2)) (v := (-2)) (by decide +kernel) kX9_252) dX9_rows_21 ?_
      exact g_lreturn dX9_rows_24 rfl h
  · have h := h.2 c_
    refine g_ldc2 (x := (-1)) (zc64 (x := (-1)) (v := (-1)) (by decide +kernel) kX9_236) dX9_rows_10 ?_
    exact g_lreturn dX9_rows_13 rfl h
theorem sg_X9_shortly_0 {K d : Nat} {mu : Mem} {Q : AV → Mem → Prop} {a1 a2 a3 : Int} (hd : 1 ≤ d) (hK : 93 ≤ K) (h : (zin (mu 67 0) ∧ ((¬ (mu 67 0) = 0 → (zin a2 ∧ ((¬ a2 = 7 → Q (zI a2) mu) ∧ (a2 = 7 → Q (zI 6) mu)))) ∧ ((mu 67 0) = 0 → zC K 0 mX9_three [zI a1, zI a2, zI a3] mu (fun v_ nu4 => ∃ r3, v_ = zI r3 ∧ Q (zI r3) nu4))))) : zG K d mX9_shortly 0 [zR 64, zI a1, zI a2, zI a3] [] mu Q := by
  refine g_aload_n dX9_shortly_0 rfl ?_
  refine g_getR (k' := 67) dX9_shortly_1 (o64 hK) fX9_16 (by decide) (by decide) ?_
  refine g_iconst dX9_shortly_4 ?_
  refine g_iald' (nn := 2) dX9_shortly_5 (r67 hK) rfl (by decide) (by decide) ?_
  obtain ⟨q1, h⟩ := h
  refine g_if_ne (tgt := 18) dX9_shortly_6 (by decide) q1 (fun c_ => ?_) (fun c_ => ?_)
  · have h := h.1 c_
    refine g_iload_n dX9_shortly_18 rfl ?_
    refine g_bipush dX9_shortly_19 rfl ?_
    obtain ⟨q2, h⟩ := h
    refine g_icmp_ne (tgt := 29) dX9_shortly_21 (by decide) q2 (zin_d rfl) (fun c_ => ?_) (fun c_ => ?_)
    · have h := h.1 c_
      refine g_iload_n dX9_shortly_29 rfl ?_
      exact g_ireturn dX9_shortly_30 rfl h
    · have h := h.2 c_
      refine g_bipush dX9_shortly_24 rfl ?_
      refine g_goto (tgt := 30) dX9_shortly_26 (by decide) ?_
      exact g_ireturn dX9_shortly_30 rfl h
  · have h := h.2 c_
    refine g_iload_n dX9_shortly_9 rfl ?_
    refine g_iload_n dX9_shortly_10 rfl ?_
    refine g_iload_n dX9_shortly_11 rfl ?_
    refine g_callS (Y' := mX9_three) (d' := 0) (As := [zI a1, zI a2, zI a3]) (rest := []) dX9_shortly_12 lX9_193 vX9_three (by omega) rfl (Nat.le_of_ble_eq_true rfl) rfl (zC_i h (fun r3 nu4 h => ?_))
    refine g_goto (tgt := 30) dX9_shortly_15 (by decide) ?_
    exact g_ireturn dX9_shortly_30 rfl h
theorem sg_X9_spot_0 {K d : Nat} {mu : Mem} {Q : AV → Mem → Prop} {a0 a1 a2 : Int} (hd : 0 ≤ d) (hK : 93 ≤ K) (h : Q (zI (((64 * a0) + (8 * a1)) + a2)) mu) : zG K d mX9_spot 0 [zI a0, zI a1, zI a2] [] mu Q := by
  refine g_bipush dX9_spot_0 rfl ?_
  refine g_iload_n dX9_spot_2 rfl ?_
  refine g_imul dX9_spot_3 ?_
  refine g_bipush dX9_spot_4 rfl ?_
  refine g_iload_n dX9_spot_6 rfl ?_
  refine g_imul dX9_spot_7 ?_
  refine g_iadd dX9_spot_8 ?_
  refine g_iload_n dX9_spot_9 rfl ?_
  refine g_iadd dX9_spot_10 ?_
  exact g_ireturn dX9_spot_11 rfl h
theorem sg_X9_stand_0 {K d : Nat} {mu : Mem} {Q : AV → Mem → Prop} {a0 a1 a2 : Int} (hd : 0 ≤ d) (hK : 93 ≤ K) (h : Q (zI (((64 * a0) + (8 * a1)) + a2)) mu) : zG K d mX9_stand 0 [zI a0, zI a1, zI a2] [] mu Q := by
  refine g_bipush dX9_stand_0 rfl ?_
  refine g_iload_n dX9_stand_2 rfl ?_
  refine g_imul dX9_stand_3 ?_
  refine g_bipush dX9_stand_4 rfl ?_
  refine g_iload_n dX9_stand_6 rfl ?_
  refine g_imul dX9_stand_7 ?_
  refine g_iadd dX9_stand_8 ?_
  refine g_iload_n dX9_stand_9 rfl ?_
  refine g_iadd dX9_stand_10 ?_
  exact g_ireturn dX9_stand_11 rfl h
theorem sg_X9_state_0 {K d : Nat} {mu : Mem} {Q : AV → Mem → Prop} (hd : 0 ≤ d) (hK : 93 ≤ K) (h : zG K d mX9_state 4 [zR 64, zJ 0, zU, zI 0] [] mu Q) : zG K d mX9_state 0 [zR 64, zU, zU, zU] [] mu Q := by
  refine g_lconst (x := 0) dX9_state_0 rfl ?_
  refine g_lstore_n dX9_state_1 (by decide) rfl ?_
  refine g_iconst dX9_state_2 ?_
  refine g_istore_n dX9_state_3 (by decide) rfl ?_
  exact g_wk (zwk_s (zwk_s (zwk_s (zwk_s zwk_n)))) h
theorem sg_X9_state_4 {K d : Nat} {mu : Mem} {Q : AV → Mem → Prop} {a1 a3 : Int} (hd : 0 ≤ d) (hK : 93 ≤ K) (h : (zin a3 ∧ zin (3 * (mu 74 0)) ∧ (((3 * (mu 74 0)) ≤ a3 → Q (zJ a1) mu) ∧ (¬ (3 * (mu 74 0)) ≤ a3 → (0 ≤ a3 ∧ a3 < 18 ∧ zin (mu 90 a3) ∧ zG K d mX9_state 4 [zR 64, zJ ((7 * a1) + (mu 90 a3)), zU, zI (a3 + 1)] [] mu Q))))) : zG K d mX9_state 4 [zR 64, zJ a1, zU, zI a3] [] mu Q := by
  refine g_iload_n dX9_state_4 rfl ?_
  refine g_iconst dX9_state_5 ?_
  refine g_aload_n dX9_state_6 rfl ?_
  refine g_getR (k' := 74) dX9_state_7 (o64 hK) fX9_37 (by decide) (by decide) ?_
  refine g_iconst dX9_state_10 ?_
  refine g_iald' (nn := 2) dX9_state_11 (r74 hK) rfl (by decide) (by decide) ?_
  refine g_imul dX9_state_12 ?_
  obtain ⟨q1, h⟩ := h
  obtain ⟨q2, h⟩ := h
  refine g_icmp_ge (tgt := 36) dX9_state_13 (by decide) q1 q2 (fun c_ => ?_) (fun c_ => ?_)
  · have h := h.1 c_
    refine g_lload_n dX9_state_36 rfl ?_
    exact g_lreturn dX9_state_37 rfl h
  · have h := h.2 c_
    refine g_ldc2 (x := 7) (zc64 (x := 7) (v := 7) (by decide +kernel) kX9_273) dX9_state_16 ?_
    refine g_lload_n dX9_state_19 rfl ?_
    refine g_lmul dX9_state_20 ?_
    refine g_aload_n dX9_state_21 rfl ?_
    refine g_getR (k' := 90) dX9_state_22 (o64 hK) fX9_87 (by decide) (by decide) ?_
    refine g_iload_n dX9_state_25 rfl ?_
    obtain ⟨q3, h⟩ := h
    obtain ⟨q4, h⟩ := h
    refine g_iald' (nn := 18) dX9_state_26 (r90 hK) rfl q3 q4 ?_
    obtain ⟨q5, h⟩ := h
    refine g_i2l dX9_state_27 q5 ?_
    refine g_ladd dX9_state_28 ?_
    refine g_lstore_n dX9_state_29 (by decide) rfl ?_
    refine g_iinc dX9_state_30 rfl (by decide) rfl ?_
    refine g_goto (tgt := 4) dX9_state_33 (by decide) ?_
    exact g_wk (zwk_s (zwk_s (zwk_s (zwk_s zwk_n)))) h
theorem sg_X9_strangers_0 {K d : Nat} {mu : Mem} {Q : AV → Mem → Prop} {a1 a2 : Int} (hd : 5 ≤ d) (hK : 93 ≤ K) (h : zC K 1 mX9_isQueue [zR 64, zI a1] mu (fun v_ nu2 => ∃ r1, v_ = zI r1 ∧ (zin r1 ∧ ((r1 = 0 → Q (zI (-1)) nu2) ∧ (¬ r1 = 0 → (zin a2 ∧ zC K 0 mX9_in [zJ a2, zJ (-1), zJ 11] nu2 (fun v_ nu6 => ∃ r5, v_ = zI r5 ∧ (zin r5 ∧ ((¬ r5 = 0 → zC K 0 mX9_isShort [zR 64] nu6 (fun v_ nu9 => ∃ r8, v_ = zI r8 ∧ (zin r8 ∧ ((¬ r8 = 0 → zC K 4 mX9_layStrangers [zR 64, zI a1] nu9 (fun v_ nu12 => ∃ r11, v_ = zI r11 ∧ ((a2 < 0 → Q (zI r11) nu12) ∧ (¬ a2 < 0 → (zin r11 ∧ ((0 ≤ r11 → ((r11 ≤ a2 → Q (zI (-4)) nu12) ∧ (¬ r11 ≤ a2 → (0 ≤ a2 ∧ a2 < 12 ∧ Q (zI (nu12 84 a2)) nu12)))) ∧ (¬ 0 ≤ r11 → Q (zI r11) nu12))))))) ∧ (r8 = 0 → Q (zI (-2)) nu9))))) ∧ (r5 = 0 → Q (zI (-1)) nu6)))))))))) : zG K d mX9_strangers 0 [zR 64, zI a1, zI a2, zU] [] mu Q := by
  refine g_aload_n dX9_strangers_0 rfl ?_
  refine g_iload_n dX9_strangers_1 rfl ?_
  refine g_callV (Y' := mX9_isQueue) (d' := 1) (As := [zI a1]) (rest := []) dX9_strangers_2 lX9_211 vX9_isQueue (by omega) (o64 hK) rfl rfl (Nat.le_of_ble_eq_true rfl) rfl (zC_i h (fun r1 nu2 h => ?_))
  obtain ⟨q3, h⟩ := h
  refine g_if_eq (tgt := 22) dX9_strangers_5 (by decide) q3 (fun c_ => ?_) (fun c_ => ?_)
  · have h := h.1 c_
    refine g_iconst dX9_strangers_22 ?_
    exact g_ireturn dX9_strangers_23 rfl h
  · have h := h.2 c_
    refine g_iload_n dX9_strangers_8 rfl ?_
    obtain ⟨q4, h⟩ := h
    refine g_i2l dX9_strangers_9 q4 ?_
    refine g_ldc2 (x := (-1)) (zc64 (x := (-1)) (v := (-1)) (by decide +kernel) kX9_236) dX9_strangers_10 ?_
    refine g_ldc2 (x := 11) (zc64 (x := 11) (v := 11) (by decide +kernel) kX9_238) dX9_strangers_13 ?_
    refine g_callS (Y' := mX9_in) (d' := 0) (As := [zJ a2, zJ (-1), zJ 11]) (rest := []) dX9_strangers_16 lX9_102 vX9_in (by omega) rfl (Nat.le_of_ble_eq_true rfl) rfl (zC_i h (fun r5 nu6 h => ?_))
    obtain ⟨q7, h⟩ := h
    refine g_if_ne (tgt := 24) dX9_strangers_19 (by decide) q7 (fun c_ => ?_) (fun c_ => ?_)
    · have h := h.1 c_
      refine g_aload_n dX9_strangers_24 rfl ?_
      refine g_callV (Y' := mX9_isShort) (d' := 0) (As := []) (rest := []) dX9_strangers_25 lX9_214 vX9_isShort (by omega) (o64 hK) rfl rfl (Nat.le_of_ble_eq_true rfl) rfl (zC_i h (fun r8 nu9 h => ?_))
      obtain ⟨q10, h⟩ := h
      refine g_if_ne (tgt := 34) dX9_strangers_28 (by decide) q10 (fun c_ => ?_) (fun c_ => ?_)
      · have h := h.1 c_
        refine g_aload_n dX9_strangers_34 rfl ?_
        refine g_iload_n dX9_strangers_35 rfl ?_
        refine g_callV (Y' := mX9_layStrangers) (d' := 4) (As := [zI a1]) (rest := []) dX9_strangers_36 lX9_240 vX9_layStrangers (by omega) (o64 hK) rfl rfl (Nat.le_of_ble_eq_true rfl) rfl (zC_i h (fun r11 nu12 h => ?_))
        refine g_istore_n dX9_strangers_39 (by decide) rfl ?_
        refine g_iload_n dX9_strangers_40 rfl ?_
        refine g_if_lt (tgt := 48) dX9_strangers_41 (by decide) q4 (fun c_ => ?_) (fun c_ => ?_)
        · have h := h.1 c_
          refine g_iload_n dX9_strangers_48 rfl ?_
          refine g_goto (tgt := 68) dX9_strangers_49 (by decide) ?_
          exact g_ireturn dX9_strangers_68 rfl h
        · have h := h.2 c_
          refine g_iload_n dX9_strangers_44 rfl ?_
          obtain ⟨q13, h⟩ := h
          refine g_if_ge (tgt := 52) dX9_strangers_45 (by decide) q13 (fun c_ => ?_) (fun c_ => ?_)
          · have h := h.1 c_
            refine g_iload_n dX9_strangers_52 rfl ?_
            refine g_iload_n dX9_strangers_53 rfl ?_
            refine g_icmp_ge (tgt := 66) dX9_strangers_54 (by decide) q4 q13 (fun c_ => ?_) (fun c_ => ?_)
            · have h := h.1 c_
              refine g_bipush dX9_strangers_66 rfl ?_
              exact g_ireturn dX9_strangers_68 rfl h
            · have h := h.2 c_
              refine g_aload_n dX9_strangers_57 rfl ?_
              refine g_getR (k' := 84) dX9_strangers_58 (o64 hK) fX9_68 (by decide) (by decide) ?_
              refine g_iload_n dX9_strangers_61 rfl ?_
              obtain ⟨q14, h⟩ := h
              obtain ⟨q15, h⟩ := h
              refine g_iald' (nn := 12) dX9_strangers_62 (r84 hK) rfl q14 q15 ?_
              refine g_goto (tgt := 68) dX9_strangers_63 (by decide) ?_
              exact g_ireturn dX9_strangers_68 rfl h
          · have h := h.2 c_
            refine g_iload_n dX9_strangers_48 rfl ?_
            refine g_goto (tgt := 68) dX9_strangers_49 (by decide) ?_
            exact g_ireturn dX9_strangers_68 rfl h
      · have h := h.2 c_
        refine g_bipush dX9_strangers_31 rfl ?_
        exact g_ireturn dX9_strangers_33 rfl h
    · have h := h.2 c_
      refine g_iconst dX9_strangers_22 ?_
      exact g_ireturn dX9_strangers_23 rfl h
theorem sg_X9_swapOnce_0 {K d : Nat} {mu : Mem} {Q : AV → Mem → Prop} (hd : 1 ≤ d) (hK : 93 ≤ K) (h : zG K d mX9_swapOnce 2 [zR 64, zI 0, zU, zU] [] mu Q) : zG K d mX9_swapOnce 0 [zR 64, zU, zU, zU] [] mu Q := by
  refine g_iconst dX9_swapOnce_0 ?_
  refine g_istore_n dX9_swapOnce_1 (by decide) rfl ?_
  exact g_wk (zwk_s (zwk_s (zwk_s (zwk_s zwk_n)))) h
theorem sg_X9_swapOnce_2 {K d : Nat} {mu : Mem} {Q : AV → Mem → Prop} {a1 : Int} (hd : 1 ≤ d) (hK : 93 ≤ K) (h : (zin a1 ∧ zin (mu 70 0) ∧ (((mu 70 0) ≤ a1 → Q (zI 0) mu) ∧ (¬ (mu 70 0) ≤ a1 → zG K d mX9_swapOnce 16 [zR 64, zI a1, zI (a1 + 1), zU] [] mu Q)))) : zG K d mX9_swapOnce 2 [zR 64, zI a1, zU, zU] [] mu Q := by
  refine g_iload_n dX9_swapOnce_2 rfl ?_
  refine g_aload_n dX9_swapOnce_3 rfl ?_
  refine g_getR (k' := 70) dX9_swapOnce_4 (o64 hK) fX9_25 (by decide) (by decide) ?_
  refine g_iconst dX9_swapOnce_7 ?_
  refine g_iald' (nn := 2) dX9_swapOnce_8 (r70 hK) rfl (by decide) (by decide) ?_
  obtain ⟨q1, h⟩ := h
  obtain ⟨q2, h⟩ := h
  refine g_icmp_ge (tgt := 84) dX9_swapOnce_9 (by decide) q1 q2 (fun c_ => ?_) (fun c_ => ?_)
  · have h := h.1 c_
    refine g_iconst dX9_swapOnce_84 ?_
    exact g_zreturn dX9_swapOnce_85 rfl (by decide) h
  · have h := h.2 c_
    refine g_iload_n dX9_swapOnce_12 rfl ?_
    refine g_iconst dX9_swapOnce_13 ?_
    refine g_iadd dX9_swapOnce_14 ?_
    refine g_istore_n dX9_swapOnce_15 (by decide) rfl ?_
    exact g_wk (zwk_s (zwk_s (zwk_s (zwk_s zwk_n)))) h
theorem sg_X9_swapOnce_16 {K d : Nat} {mu : Mem} {Q : AV → Mem → Prop} {a1 a2 : Int} (hd : 1 ≤ d) (hK : 93 ≤ K) (h : (zin a2 ∧ zin (mu 70 0) ∧ (((mu 70 0) ≤ a2 → zG K d mX9_swapOnce 2 [zR 64, zI (a1 + 1), zU, zU] [] mu Q) ∧ (¬ (mu 70 0) ≤ a2 → zC K 0 mX9_wants [zR 64, zI a1, zI a2] mu (fun v_ nu4 => ∃ r3, v_ = zI r3 ∧ (zin r3 ∧ ((r3 = 0 → zG K d mX9_swapOnce 16 [zR 64, zI a1, zI (a2 + 1), zU] [] nu4 Q) ∧ (¬ r3 = 0 → zC K 0 mX9_wants [zR 64, zI a2, zI a1] nu4 (fun v_ nu7 => ∃ r6, v_ = zI r6 ∧ (zin r6 ∧ ((r6 = 0 → zG K d mX9_swapOnce 16 [zR 64, zI a1, zI (a2 + 1), zU] [] nu7 Q) ∧ (¬ r6 = 0 → (0 ≤ a1 ∧ a1 < 10 ∧ 0 ≤ a2 ∧ a2 < 10 ∧ Q (zI 1) (zup (zup nu7 86 a1 (nu7 86 a2)) 86 a2 (nu7 86 a1))))))))))))))) : zG K d mX9_swapOnce 16 [zR 64, zI a1, zI a2, zU] [] mu Q := by
  refine g_iload_n dX9_swapOnce_16 rfl ?_
  refine g_aload_n dX9_swapOnce_17 rfl ?_
  refine g_getR (k' := 70) dX9_swapOnce_18 (o64 hK) fX9_25 (by decide) (by decide) ?_
  refine g_iconst dX9_swapOnce_21 ?_
  refine g_iald' (nn := 2) dX9_swapOnce_22 (r70 hK) rfl (by decide) (by decide) ?_
  obtain ⟨q1, h⟩ := h
  obtain ⟨q2, h⟩ := h
  refine g_icmp_ge (tgt := 78) dX9_swapOnce_23 (by decide) q1 q2 (fun c_ => ?_) (fun c_ => ?_)
  · have h := h.1 c_
    refine g_iinc dX9_swapOnce_78 rfl (by decide) rfl ?_
    refine g_goto (tgt := 2) dX9_swapOnce_81 (by decide) ?_
    exact g_wk (zwk_s (zwk_s (zwk_u (zwk_s zwk_n)))) h
  · have h := h.2 c_
    refine g_aload_n dX9_swapOnce_26 rfl ?_
    refine g_iload_n dX9_swapOnce_27 rfl ?_
    refine g_iload_n dX9_swapOnce_28 rfl ?_
    refine g_callV (Y' := mX9_wants) (d' := 0) (As := [zI a1, zI a2]) (rest := []) dX9_swapOnce_29 lX9_246 vX9_wants (by omega) (o64 hK) rfl rfl (Nat.le_of_ble_eq_true rfl) rfl (zC_i h (fun r3 nu4 h => ?_))
    obtain ⟨q5, h⟩ := h
    refine g_if_eq (tgt := 72) dX9_swapOnce_32 (by decide) q5 (fun c_ => ?_) (fun c_ => ?_)
    · have h := h.1 c_
      refine g_iinc dX9_swapOnce_72 rfl (by decide) rfl ?_
      refine g_goto (tgt := 16) dX9_swapOnce_75 (by decide) ?_
      exact g_wk (zwk_s (zwk_s (zwk_s (zwk_s zwk_n)))) h
    · have h := h.2 c_
      refine g_aload_n dX9_swapOnce_35 rfl ?_
      refine g_iload_n dX9_swapOnce_36 rfl ?_
      refine g_iload_n dX9_swapOnce_37 rfl ?_
      refine g_callV (Y' := mX9_wants) (d' := 0) (As := [zI a2, zI a1]) (rest := []) dX9_swapOnce_38 lX9_246 vX9_wants (by omega) (o64 hK) rfl rfl (Nat.le_of_ble_eq_true rfl) rfl (zC_i h (fun r6 nu7 h => ?_))
      obtain ⟨q8, h⟩ := h
      refine g_if_eq (tgt := 72) dX9_swapOnce_41 (by decide) q8 (fun c_ => ?_) (fun c_ => ?_)
      · have h := h.1 c_
        refine g_iinc dX9_swapOnce_72 rfl (by decide) rfl ?_
        refine g_goto (tgt := 16) dX9_swapOnce_75 (by decide) ?_
        exact g_wk (zwk_s (zwk_s (zwk_s (zwk_s zwk_n)))) h
      · have h := h.2 c_
        refine g_aload_n dX9_swapOnce_44 rfl ?_
        refine g_getR (k' := 86) dX9_swapOnce_45 (o64 hK) fX9_74 (by decide) (by decide) ?_
        refine g_iload_n dX9_swapOnce_48 rfl ?_
        obtain ⟨q9, h⟩ := h
        obtain ⟨q10, h⟩ := h
        refine g_iald' (nn := 10) dX9_swapOnce_49 (r86 hK) rfl q9 q10 ?_
        refine g_istore_n dX9_swapOnce_50 (by decide) rfl ?_
        refine g_aload_n dX9_swapOnce_51 rfl ?_
        refine g_getR (k' := 86) dX9_swapOnce_52 (o64 hK) fX9_74 (by decide) (by decide) ?_
        refine g_iload_n dX9_swapOnce_55 rfl ?_
        refine g_aload_n dX9_swapOnce_56 rfl ?_
        refine g_getR (k' := 86) dX9_swapOnce_57 (o64 hK) fX9_74 (by decide) (by decide) ?_
        refine g_iload_n dX9_swapOnce_60 rfl ?_
        obtain ⟨q11, h⟩ := h
        obtain ⟨q12, h⟩ := h
        refine g_iald' (nn := 10) dX9_swapOnce_61 (r86 hK) rfl q11 q12 ?_
        refine g_iast' (nn := 10) dX9_swapOnce_62 (r86 hK) rfl q9 q10 ?_
        refine g_aload_n dX9_swapOnce_63 rfl ?_
        refine g_getR (k' := 86) dX9_swapOnce_64 (o64 hK) fX9_74 (by decide) (by decide) ?_
        refine g_iload_n dX9_swapOnce_67 rfl ?_
        refine g_iload_n dX9_swapOnce_68 rfl ?_
        refine g_iast' (nn := 10) dX9_swapOnce_69 (r86 hK) rfl q11 q12 ?_
        refine g_iconst dX9_swapOnce_70 ?_
        exact g_zreturn dX9_swapOnce_71 rfl (by decide) h
theorem sg_X9_swaps_0 {K d : Nat} {mu : Mem} {Q : AV → Mem → Prop} {a1 : Int} (hd : 3 ≤ d) (hK : 93 ≤ K) (h : (zin a1 ∧ ((a1 = (-1) → zG K d mX9_swaps 17 [zR 64, zI a1, zI 0] [] mu Q) ∧ (¬ a1 = (-1) → zC K 1 mX9_isWish [zR 64, zI a1] mu (fun v_ nu3 => ∃ r2, v_ = zI r2 ∧ (zin r2 ∧ ((¬ r2 = 0 → zG K d mX9_swaps 17 [zR 64, zI a1, zI 0] [] nu3 Q) ∧ (r2 = 0 → Q (zI (-1)) nu3)))))))) : zG K d mX9_swaps 0 [zR 64, zI a1, zU] [] mu Q := by
  refine g_iload_n dX9_swaps_0 rfl ?_
  refine g_iconst dX9_swaps_1 ?_
  obtain ⟨q1, h⟩ := h
  refine g_icmp_eq (tgt := 15) dX9_swaps_2 (by decide) q1 (zin_d rfl) (fun c_ => ?_) (fun c_ => ?_)
  · have h := h.1 c_
    refine g_iconst dX9_swaps_15 ?_
    refine g_istore_n dX9_swaps_16 (by decide) rfl ?_
    exact g_wk (zwk_s (zwk_s (zwk_s zwk_n))) h
  · have h := h.2 c_
    refine g_aload_n dX9_swaps_5 rfl ?_
    refine g_iload_n dX9_swaps_6 rfl ?_
    refine g_callV (Y' := mX9_isWish) (d' := 1) (As := [zI a1]) (rest := []) dX9_swaps_7 lX9_187 vX9_isWish (by omega) (o64 hK) rfl rfl (Nat.le_of_ble_eq_true rfl) rfl (zC_i h (fun r2 nu3 h => ?_))
    obtain ⟨q4, h⟩ := h
    refine g_if_ne (tgt := 15) dX9_swaps_10 (by decide) q4 (fun c_ => ?_) (fun c_ => ?_)
    · have h := h.1 c_
      refine g_iconst dX9_swaps_15 ?_
      refine g_istore_n dX9_swaps_16 (by decide) rfl ?_
      exact g_wk (zwk_s (zwk_s (zwk_s zwk_n))) h
    · have h := h.2 c_
      refine g_iconst dX9_swaps_13 ?_
      exact g_ireturn dX9_swaps_14 rfl h
theorem sg_X9_swaps_17 {K d : Nat} {mu : Mem} {Q : AV → Mem → Prop} {a1 a2 : Int} (hd : 3 ≤ d) (hK : 93 ≤ K) (h : (zin a2 ∧ zin (mu 70 0) ∧ (((mu 70 0) ≤ a2 → zG K d mX9_swaps 52 [zR 64, zI a1, zI 0] [] mu Q) ∧ (¬ (mu 70 0) ≤ a2 → zC K 2 mX9_givenBy [zR 64, zI (mu 67 0), zI a2] mu (fun v_ nu4 => ∃ r3, v_ = zI r3 ∧ (0 ≤ a2 ∧ a2 < 10 ∧ zG K d mX9_swaps 17 [zR 64, zI a1, zI (a2 + 1)] [] (zup nu4 86 a2 r3) Q)))))) : zG K d mX9_swaps 17 [zR 64, zI a1, zI a2] [] mu Q := by
  refine g_iload_n dX9_swaps_17 rfl ?_
  refine g_aload_n dX9_swaps_18 rfl ?_
  refine g_getR (k' := 70) dX9_swaps_19 (o64 hK) fX9_25 (by decide) (by decide) ?_
  refine g_iconst dX9_swaps_22 ?_
  refine g_iald' (nn := 2) dX9_swaps_23 (r70 hK) rfl (by decide) (by decide) ?_
  obtain ⟨q1, h⟩ := h
  obtain ⟨q2, h⟩ := h
  refine g_icmp_ge (tgt := 50) dX9_swaps_24 (by decide) q1 q2 (fun c_ => ?_) (fun c_ => ?_)
  · have h := h.1 c_
    refine g_iconst dX9_swaps_50 ?_
    refine g_istore_n dX9_swaps_51 (by decide) rfl ?_
    exact g_wk (zwk_s (zwk_s (zwk_s zwk_n))) h
  · have h := h.2 c_
    refine g_aload_n dX9_swaps_27 rfl ?_
    refine g_getR (k' := 86) dX9_swaps_28 (o64 hK) fX9_74 (by decide) (by decide) ?_
    refine g_iload_n dX9_swaps_31 rfl ?_
    refine g_aload_n dX9_swaps_32 rfl ?_
    refine g_aload_n dX9_swaps_33 rfl ?_
    refine g_getR (k' := 67) dX9_swaps_34 (o64 hK) fX9_16 (by decide) (by decide) ?_
    refine g_iconst dX9_swaps_37 ?_
    refine g_iald' (nn := 2) dX9_swaps_38 (r67 hK) rfl (by decide) (by decide) ?_
    refine g_iload_n dX9_swaps_39 rfl ?_
    refine g_callV (Y' := mX9_givenBy) (d' := 2) (As := [zI (mu 67 0), zI a2]) (rest := [zI a2, zR 86]) dX9_swaps_40 lX9_190 vX9_givenBy (by omega) (o64 hK) rfl rfl (Nat.le_of_ble_eq_true rfl) rfl (zC_i h (fun r3 nu4 h => ?_))
    obtain ⟨q5, h⟩ := h
    obtain ⟨q6, h⟩ := h
    refine g_iast' (nn := 10) dX9_swaps_43 (r86 hK) rfl q5 q6 ?_
    refine g_iinc dX9_swaps_44 rfl (by decide) rfl ?_
    refine g_goto (tgt := 17) dX9_swaps_47 (by decide) ?_
    exact g_wk (zwk_s (zwk_s (zwk_s zwk_n))) h
theorem sg_X9_swaps_52 {K d : Nat} {mu : Mem} {Q : AV → Mem → Prop} {a1 a2 : Int} (hd : 3 ≤ d) (hK : 93 ≤ K) (h : zC K 1 mX9_swapOnce [zR 64] mu (fun v_ nu2 => ∃ r1, v_ = zI r1 ∧ (zin r1 ∧ ((r1 = 0 → (zin a1 ∧ ((0 ≤ a1 → (0 ≤ a1 ∧ a1 < 10 ∧ Q (zI (nu2 86 a1)) nu2)) ∧ (¬ 0 ≤ a1 → Q (zI a2) nu2)))) ∧ (¬ r1 = 0 → zG K d mX9_swaps 52 [zR 64, zI a1, zI (a2 + 1)] [] nu2 Q))))) : zG K d mX9_swaps 52 [zR 64, zI a1, zI a2] [] mu Q := by
  refine g_aload_n dX9_swaps_52 rfl ?_
  refine g_callV (Y' := mX9_swapOnce) (d' := 1) (As := []) (rest := []) dX9_swaps_53 lX9_249 vX9_swapOnce (by omega) (o64 hK) rfl rfl (Nat.le_of_ble_eq_true rfl) rfl (zC_i h (fun r1 nu2 h => ?_))
  obtain ⟨q3, h⟩ := h
  refine g_if_eq (tgt := 65) dX9_swaps_56 (by decide) q3 (fun c_ => ?_) (fun c_ => ?_)
  · have h := h.1 c_
    refine g_iload_n dX9_swaps_65 rfl ?_
    obtain ⟨q4, h⟩ := h
    refine g_if_ge (tgt := 73) dX9_swaps_66 (by decide) q4 (fun c_ => ?_) (fun c_ => ?_)
    · have h := h.1 c_
      refine g_aload_n dX9_swaps_73 rfl ?_
      refine g_getR (k' := 86) dX9_swaps_74 (o64 hK) fX9_74 (by decide) (by decide) ?_
      refine g_iload_n dX9_swaps_77 rfl ?_
      obtain ⟨q5, h⟩ := h
      obtain ⟨q6, h⟩ := h
      refine g_iald' (nn := 10) dX9_swaps_78 (r86 hK) rfl q5 q6 ?_
      exact g_ireturn dX9_swaps_79 rfl h
    · have h := h.2 c_
      refine g_iload_n dX9_swaps_69 rfl ?_
      refine g_goto (tgt := 79) dX9_swaps_70 (by decide) ?_
      exact g_ireturn dX9_swaps_79 rfl h
  · have h := h.2 c_
    refine g_iinc dX9_swaps_59 rfl (by decide) rfl ?_
    refine g_goto (tgt := 52) dX9_swaps_62 (by decide) ?_
    exact g_wk (zwk_s (zwk_s (zwk_s zwk_n))) h
theorem sg_X9_takeNet_0 {K d : Nat} {mu : Mem} {Q : AV → Mem → Prop} (hd : 0 ≤ d) (hK : 93 ≤ K) (h : zG K d mX9_takeNet 2 [zR 64, zI 0] [] mu Q) : zG K d mX9_takeNet 0 [zR 64, zU] [] mu Q := by
  refine g_iconst dX9_takeNet_0 ?_
  refine g_istore_n dX9_takeNet_1 (by decide) rfl ?_
  exact g_wk (zwk_s (zwk_s zwk_n)) h
theorem sg_X9_takeNet_2 {K d : Nat} {mu : Mem} {Q : AV → Mem → Prop} {a1 : Int} (hd : 0 ≤ d) (hK : 93 ≤ K) (h : (zin a1 ∧ ((18 ≤ a1 → Q zV mu) ∧ (¬ 18 ≤ a1 → (0 ≤ a1 ∧ a1 < 54 ∧ a1 < 18 ∧ zG K d mX9_takeNet 2 [zR 64, zI (a1 + 1)] [] (zup mu 90 a1 (mu 77 a1)) Q))))) : zG K d mX9_takeNet 2 [zR 64, zI a1] [] mu Q := by
  refine g_iload_n dX9_takeNet_2 rfl ?_
  refine g_bipush dX9_takeNet_3 rfl ?_
  obtain ⟨q1, h⟩ := h
  refine g_icmp_ge (tgt := 26) dX9_takeNet_5 (by decide) q1 (zin_d rfl) (fun c_ => ?_) (fun c_ => ?_)
  · have h := h.1 c_
    exact g_return dX9_takeNet_26 rfl h
  · have h := h.2 c_
    refine g_aload_n dX9_takeNet_8 rfl ?_
    refine g_getR (k' := 90) dX9_takeNet_9 (o64 hK) fX9_87 (by decide) (by decide) ?_
    refine g_iload_n dX9_takeNet_12 rfl ?_
    refine g_aload_n dX9_takeNet_13 rfl ?_
    refine g_getR (k' := 77) dX9_takeNet_14 (o64 hK) fX9_46 (by decide) (by decide) ?_
    refine g_iload_n dX9_takeNet_17 rfl ?_
    obtain ⟨q2, h⟩ := h
    obtain ⟨q3, h⟩ := h
    refine g_iald' (nn := 54) dX9_takeNet_18 (r77 hK) rfl q2 q3 ?_
    obtain ⟨q4, h⟩ := h
    refine g_iast' (nn := 18) dX9_takeNet_19 (r90 hK) rfl q2 q4 ?_
    refine g_iinc dX9_takeNet_20 rfl (by decide) rfl ?_
    refine g_goto (tgt := 2) dX9_takeNet_23 (by decide) ?_
    exact g_wk (zwk_s (zwk_s zwk_n)) h
theorem sg_X9_three_0 {K d : Nat} {mu : Mem} {Q : AV → Mem → Prop} {a0 a1 a2 : Int} (hd : 0 ≤ d) (hK : 93 ≤ K) (h : (zin a2 ∧ ((6 ≤ a2 → (zin a0 ∧ ((6 ≤ a0 → Q (zI 6) mu) ∧ (¬ 6 ≤ a0 → (zin a1 ∧ ((¬ a0 = a1 → Q (zI 6) mu) ∧ (a0 = a1 → Q (zI a0) mu))))))) ∧ (¬ 6 ≤ a2 → (zin a0 ∧ ((a2 = a0 → Q (zI a2) mu) ∧ (¬ a2 = a0 → (zin a1 ∧ ((¬ a2 = a1 → ((6 ≤ a0 → Q (zI 6) mu) ∧ (¬ 6 ≤ a0 → ((¬ a0 = a1 → Q (zI 6) mu) ∧ (a0 = a1 → Q (zI a0) mu))))) ∧ (a2 = a1 → Q (zI a2) mu)))))))))) : zG K d mX9_three 0 [zI a0, zI a1, zI a2] [] mu Q := by
  refine g_iload_n dX9_three_0 rfl ?_
  refine g_bipush dX9_three_1 rfl ?_
  obtain ⟨q1, h⟩ := h
  refine g_icmp_ge (tgt := 20) dX9_three_3 (by decide) q1 (zin_d rfl) (fun c_ => ?_) (fun c_ => ?_)
  · have h := h.1 c_
    refine g_iload_n dX9_three_20 rfl ?_
    refine g_bipush dX9_three_21 rfl ?_
    obtain ⟨q2, h⟩ := h
    refine g_icmp_ge (tgt := 35) dX9_three_23 (by decide) q2 (zin_d rfl) (fun c_ => ?_) (fun c_ => ?_)
    · have h := h.1 c_
      refine g_bipush dX9_three_35 rfl ?_
      exact g_ireturn dX9_three_37 rfl h
    · have h := h.2 c_
      refine g_iload_n dX9_three_26 rfl ?_
      refine g_iload_n dX9_three_27 rfl ?_
      obtain ⟨q3, h⟩ := h
      refine g_icmp_ne (tgt := 35) dX9_three_28 (by decide) q2 q3 (fun c_ => ?_) (fun c_ => ?_)
      · have h := h.1 c_
        refine g_bipush dX9_three_35 rfl ?_
        exact g_ireturn dX9_three_37 rfl h
      · have h := h.2 c_
        refine g_iload_n dX9_three_31 rfl ?_
        refine g_goto (tgt := 37) dX9_three_32 (by decide) ?_
        exact g_ireturn dX9_three_37 rfl h
  · have h := h.2 c_
    refine g_iload_n dX9_three_6 rfl ?_
    refine g_iload_n dX9_three_7 rfl ?_
    obtain ⟨q4, h⟩ := h
    refine g_icmp_eq (tgt := 16) dX9_three_8 (by decide) q1 q4 (fun c_ => ?_) (fun c_ => ?_)
    · have h := h.1 c_
      refine g_iload_n dX9_three_16 rfl ?_
      refine g_goto (tgt := 37) dX9_three_17 (by decide) ?_
      exact g_ireturn dX9_three_37 rfl h
    · have h := h.2 c_
      refine g_iload_n dX9_three_11 rfl ?_
      refine g_iload_n dX9_three_12 rfl ?_
      obtain ⟨q5, h⟩ := h
      refine g_icmp_ne (tgt := 20) dX9_three_13 (by decide) q1 q5 (fun c_ => ?_) (fun c_ => ?_)
      · have h := h.1 c_
        refine g_iload_n dX9_three_20 rfl ?_
        refine g_bipush dX9_three_21 rfl ?_
        refine g_icmp_ge (tgt := 35) dX9_three_23 (by decide) q4 (zin_d rfl) (fun c_ => ?_) (fun c_ => ?_)
        · have h := h.1 c_
          refine g_bipush dX9_three_35 rfl ?_
          exact g_ireturn dX9_three_37 rfl h
        · have h := h.2 c_
          refine g_iload_n dX9_three_26 rfl ?_
          refine g_iload_n dX9_three_27 rfl ?_
          refine g_icmp_ne (tgt := 35) dX9_three_28 (by decide) q4 q5 (fun c_ => ?_) (fun c_ => ?_)
          · have h := h.1 c_
            refine g_bipush dX9_three_35 rfl ?_
            exact g_ireturn dX9_three_37 rfl h
          · have h := h.2 c_
            refine g_iload_n dX9_three_31 rfl ?_
            refine g_goto (tgt := 37) dX9_three_32 (by decide) ?_
            exact g_ireturn dX9_three_37 rfl h
      · have h := h.2 c_
        refine g_iload_n dX9_three_16 rfl ?_
        refine g_goto (tgt := 37) dX9_three_17 (by decide) ?_
        exact g_ireturn dX9_three_37 rfl h
theorem sg_X9_wants_0 {K d : Nat} {mu : Mem} {Q : AV → Mem → Prop} {a1 a2 : Int} (hd : 0 ≤ d) (hK : 93 ≤ K) (h : (0 ≤ a1 ∧ a1 < 20 ∧ 0 ≤ a2 ∧ a2 < 10 ∧ 0 ≤ ((7 * (mu 71 a1)) + (mu 86 a2)) ∧ ((7 * (mu 71 a1)) + (mu 86 a2)) < 84 ∧ a1 < 10 ∧ 0 ≤ ((7 * (mu 71 a1)) + (mu 86 a1)) ∧ ((7 * (mu 71 a1)) + (mu 86 a1)) < 84 ∧ zin (mu 72 ((7 * (mu 71 a1)) + (mu 86 a2))) ∧ zin (mu 72 ((7 * (mu 71 a1)) + (mu 86 a1))) ∧ (((mu 72 ((7 * (mu 71 a1)) + (mu 86 a2))) ≤ (mu 72 ((7 * (mu 71 a1)) + (mu 86 a1))) → Q (zI 0) mu) ∧ (¬ (mu 72 ((7 * (mu 71 a1)) + (mu 86 a2))) ≤ (mu 72 ((7 * (mu 71 a1)) + (mu 86 a1))) → Q (zI 1) mu)))) : zG K d mX9_wants 0 [zR 64, zI a1, zI a2] [] mu Q := by
  refine g_aload_n dX9_wants_0 rfl ?_
  refine g_getR (k' := 72) dX9_wants_1 (o64 hK) fX9_31 (by decide) (by decide) ?_
  refine g_bipush dX9_wants_4 rfl ?_
  refine g_aload_n dX9_wants_6 rfl ?_
  refine g_getR (k' := 71) dX9_wants_7 (o64 hK) fX9_28 (by decide) (by decide) ?_
  refine g_iload_n dX9_wants_10 rfl ?_
  obtain ⟨q1, h⟩ := h
  obtain ⟨q2, h⟩ := h
  refine g_iald' (nn := 20) dX9_wants_11 (r71 hK) rfl q1 q2 ?_
  refine g_imul dX9_wants_12 ?_
  refine g_aload_n dX9_wants_13 rfl ?_
  refine g_getR (k' := 86) dX9_wants_14 (o64 hK) fX9_74 (by decide) (by decide) ?_
  refine g_iload_n dX9_wants_17 rfl ?_
  obtain ⟨q3, h⟩ := h
  obtain ⟨q4, h⟩ := h
  refine g_iald' (nn := 10) dX9_wants_18 (r86 hK) rfl q3 q4 ?_
  refine g_iadd dX9_wants_19 ?_
  obtain ⟨q5, h⟩ := h
  obtain ⟨q6, h⟩ := h
  refine g_iald' (nn := 84) dX9_wants_20 (r72 hK) rfl q5 q6 ?_
  refine g_aload_n dX9_wants_21 rfl ?_
  refine g_getR (k' := 72) dX9_wants_22 (o64 hK) fX9_31 (by decide) (by decide) ?_
  refine g_bipush dX9_wants_25 rfl ?_
  refine g_aload_n dX9_wants_27 rfl ?_
  refine g_getR (k' := 71) dX9_wants_28 (o64 hK) fX9_28 (by decide) (by decide) ?_
  refine g_iload_n dX9_wants_31 rfl ?_
  refine g_iald' (nn := 20) dX9_wants_32 (r71 hK) rfl q1 q2 ?_
  refine g_imul dX9_wants_33 ?_
  refine g_aload_n dX9_wants_34 rfl ?_
  refine g_getR (k' := 86) dX9_wants_35 (o64 hK) fX9_74 (by decide) (by decide) ?_
  refine g_iload_n dX9_wants_38 rfl ?_
  obtain ⟨q7, h⟩ := h
  refine g_iald' (nn := 10) dX9_wants_39 (r86 hK) rfl q1 q7 ?_
  refine g_iadd dX9_wants_40 ?_
  obtain ⟨q8, h⟩ := h
  obtain ⟨q9, h⟩ := h
  refine g_iald' (nn := 84) dX9_wants_41 (r72 hK) rfl q8 q9 ?_
  obtain ⟨q10, h⟩ := h
  obtain ⟨q11, h⟩ := h
  refine g_icmp_le (tgt := 49) dX9_wants_42 (by decide) q10 q11 (fun c_ => ?_) (fun c_ => ?_)
  · have h := h.1 c_
    refine g_iconst dX9_wants_49 ?_
    exact g_zreturn dX9_wants_50 rfl (by decide) h
  · have h := h.2 c_
    refine g_iconst dX9_wants_45 ?_
    refine g_goto (tgt := 50) dX9_wants_46 (by decide) ?_
    exact g_zreturn dX9_wants_50 rfl (by decide) h
theorem sg_X9_wipe_0 {K d : Nat} {mu : Mem} {Q : AV → Mem → Prop} (hd : 0 ≤ d) (hK : 93 ≤ K) (h : Q (zI (mu 64 0)) (zup mu 64 0 0)) : zG K d mX9_wipe 0 [zR 64, zU] [] mu Q := by
  refine g_aload_n dX9_wipe_0 rfl ?_
  refine g_getI' (jj := 0) dX9_wipe_1 (o64 hK) fX9_106 rfl rfl ?_
  refine g_istore_n dX9_wipe_4 (by decide) rfl ?_
  refine g_aload_n dX9_wipe_5 rfl ?_
  refine g_iconst dX9_wipe_6 ?_
  refine g_putI' (jj := 0) dX9_wipe_7 (o64 hK) pX9_106 rfl rfl ?_
  refine g_iload_n dX9_wipe_10 rfl ?_
  exact g_ireturn dX9_wipe_11 rfl h
theorem sg_X9_wishItem_0 {K d : Nat} {mu : Mem} {Q : AV → Mem → Prop} (hd : 2 ≤ d) (hK : 93 ≤ K) (h : zC K 1 mX9_figures [zR 64, zI 1] mu (fun v_ nu2 => ∃ r1, v_ = zI r1 ∧ (zin r1 ∧ ((r1 = 0 → Q (zI 0) nu2) ∧ (¬ r1 = 0 → (zin (nu2 70 1) ∧ (((nu2 70 1) = 10 → Q (zI 0) nu2) ∧ (¬ (nu2 70 1) = 10 → (zin (nu2 80 0) ∧ (((nu2 80 0) ≤ 5 → (0 ≤ (10 + (nu2 70 1)) ∧ (10 + (nu2 70 1)) < 20 ∧ zC K 0 mX9_meet [zR 64, zI ((zup (zup nu2 71 (10 + (nu2 70 1)) (nu2 80 0)) 70 1 (((zup nu2 71 (10 + (nu2 70 1)) (nu2 80 0)) 70 1) + 1)) 80 0)] (zup (zup nu2 71 (10 + (nu2 70 1)) (nu2 80 0)) 70 1 (((zup nu2 71 (10 + (nu2 70 1)) (nu2 80 0)) 70 1) + 1)) (fun v_ nu9 => v_ = zV ∧ Q (zI 1) nu9))) ∧ (¬ (nu2 80 0) ≤ 5 → Q (zI 0) nu2))))))))))) : zG K d mX9_wishItem 0 [zR 64] [] mu Q := by
  refine g_aload_n dX9_wishItem_0 rfl ?_
  refine g_iconst dX9_wishItem_1 ?_
  refine g_callV (Y' := mX9_figures) (d' := 1) (As := [zI 1]) (rest := []) dX9_wishItem_2 lX9_128 vX9_figures (by omega) (o64 hK) rfl rfl (Nat.le_of_ble_eq_true rfl) rfl (zC_i h (fun r1 nu2 h => ?_))
  obtain ⟨q3, h⟩ := h
  refine g_if_eq (tgt := 29) dX9_wishItem_5 (by decide) q3 (fun c_ => ?_) (fun c_ => ?_)
  · have h := h.1 c_
    refine g_iconst dX9_wishItem_29 ?_
    exact g_zreturn dX9_wishItem_30 rfl (by decide) h
  · have h := h.2 c_
    refine g_aload_n dX9_wishItem_8 rfl ?_
    refine g_getR (k' := 70) dX9_wishItem_9 (o64 hK) fX9_25 (by decide) (by decide) ?_
    refine g_iconst dX9_wishItem_12 ?_
    refine g_iald' (nn := 2) dX9_wishItem_13 (r70 hK) rfl (by decide) (by decide) ?_
    refine g_bipush dX9_wishItem_14 rfl ?_
    obtain ⟨q4, h⟩ := h
    refine g_icmp_eq (tgt := 29) dX9_wishItem_16 (by decide) q4 (zin_d rfl) (fun c_ => ?_) (fun c_ => ?_)
    · have h := h.1 c_
      refine g_iconst dX9_wishItem_29 ?_
      exact g_zreturn dX9_wishItem_30 rfl (by decide) h
    · have h := h.2 c_
      refine g_aload_n dX9_wishItem_19 rfl ?_
      refine g_getR (k' := 80) dX9_wishItem_20 (o64 hK) fX9_55 (by decide) (by decide) ?_
      refine g_iconst dX9_wishItem_23 ?_
      refine g_iald' (nn := 4) dX9_wishItem_24 (r80 hK) rfl (by decide) (by decide) ?_
      refine g_iconst dX9_wishItem_25 ?_
      obtain ⟨q5, h⟩ := h
      refine g_icmp_le (tgt := 31) dX9_wishItem_26 (by decide) q5 (zin_d rfl) (fun c_ => ?_) (fun c_ => ?_)
      · have h := h.1 c_
        refine g_aload_n dX9_wishItem_31 rfl ?_
        refine g_getR (k' := 71) dX9_wishItem_32 (o64 hK) fX9_28 (by decide) (by decide) ?_
        refine g_bipush dX9_wishItem_35 rfl ?_
        refine g_aload_n dX9_wishItem_37 rfl ?_
        refine g_getR (k' := 70) dX9_wishItem_38 (o64 hK) fX9_25 (by decide) (by decide) ?_
        refine g_iconst dX9_wishItem_41 ?_
        refine g_iald' (nn := 2) dX9_wishItem_42 (r70 hK) rfl (by decide) (by decide) ?_
        refine g_iadd dX9_wishItem_43 ?_
        refine g_aload_n dX9_wishItem_44 rfl ?_
        refine g_getR (k' := 80) dX9_wishItem_45 (o64 hK) fX9_55 (by decide) (by decide) ?_
        refine g_iconst dX9_wishItem_48 ?_
        refine g_iald' (nn := 4) dX9_wishItem_49 (r80 hK) rfl (by decide) (by decide) ?_
        obtain ⟨q6, h⟩ := h
        obtain ⟨q7, h⟩ := h
        refine g_iast' (nn := 20) dX9_wishItem_50 (r71 hK) rfl q6 q7 ?_
        refine g_aload_n dX9_wishItem_51 rfl ?_
        refine g_getR (k' := 70) dX9_wishItem_52 (o64 hK) fX9_25 (by decide) (by decide) ?_
        refine g_iconst dX9_wishItem_55 ?_
        refine g_dup2 dX9_wishItem_56 (by simp) (by simp) ?_
        refine g_iald' (nn := 2) dX9_wishItem_57 (r70 hK) rfl (by decide) (by decide) ?_
        refine g_iconst dX9_wishItem_58 ?_
        refine g_iadd dX9_wishItem_59 ?_
        refine g_iast' (nn := 2) dX9_wishItem_60 (r70 hK) rfl (by decide) (by decide) ?_
        refine g_aload_n dX9_wishItem_61 rfl ?_
        refine g_aload_n dX9_wishItem_62 rfl ?_
        refine g_getR (k' := 80) dX9_wishItem_63 (o64 hK) fX9_55 (by decide) (by decide) ?_
        refine g_iconst dX9_wishItem_66 ?_
        refine g_iald' (nn := 4) dX9_wishItem_67 (r80 hK) rfl (by decide) (by decide) ?_
        refine g_callV (Y' := mX9_meet) (d' := 0) (As := [zI ((zup (zup nu2 71 (10 + (nu2 70 1)) (nu2 80 0)) 70 1 (((zup nu2 71 (10 + (nu2 70 1)) (nu2 80 0)) 70 1) + 1)) 80 0)]) (rest := []) dX9_wishItem_68 lX9_132 vX9_meet (by omega) (o64 hK) rfl rfl (Nat.le_of_ble_eq_true rfl) rfl (zC_v h (fun nu9 h => ?_))
        refine g_iconst dX9_wishItem_71 ?_
        exact g_zreturn dX9_wishItem_72 rfl (by decide) h
      · have h := h.2 c_
        refine g_iconst dX9_wishItem_29 ?_
        exact g_zreturn dX9_wishItem_30 rfl (by decide) h
theorem sg_X9_worth_0 {K d : Nat} {mu : Mem} {Q : AV → Mem → Prop} {a1 a2 : Int} (hd : 3 ≤ d) (hK : 93 ≤ K) (h : zC K 1 mX9_isThing [zR 64, zI a1] mu (fun v_ nu2 => ∃ r1, v_ = zI r1 ∧ (zin r1 ∧ ((r1 = 0 → Q (zI (-1)) nu2) ∧ (¬ r1 = 0 → zC K 2 mX9_isGift [zR 64, zI a2] nu2 (fun v_ nu5 => ∃ r4, v_ = zI r4 ∧ (zin r4 ∧ ((r4 = 0 → Q (zI (-1)) nu5) ∧ (¬ r4 = 0 → (0 ≤ ((7 * a1) + a2) ∧ ((7 * a1) + a2) < 84 ∧ Q (zI (nu5 72 ((7 * a1) + a2))) nu5)))))))))) : zG K d mX9_worth 0 [zR 64, zI a1, zI a2] [] mu Q := by
  refine g_aload_n dX9_worth_0 rfl ?_
  refine g_iload_n dX9_worth_1 rfl ?_
  refine g_callV (Y' := mX9_isThing) (d' := 1) (As := [zI a1]) (rest := []) dX9_worth_2 lX9_165 vX9_isThing (by omega) (o64 hK) rfl rfl (Nat.le_of_ble_eq_true rfl) rfl (zC_i h (fun r1 nu2 h => ?_))
  obtain ⟨q3, h⟩ := h
  refine g_if_eq (tgt := 30) dX9_worth_5 (by decide) q3 (fun c_ => ?_) (fun c_ => ?_)
  · have h := h.1 c_
    refine g_iconst dX9_worth_30 ?_
    exact g_ireturn dX9_worth_31 rfl h
  · have h := h.2 c_
    refine g_aload_n dX9_worth_8 rfl ?_
    refine g_iload_n dX9_worth_9 rfl ?_
    refine g_callV (Y' := mX9_isGift) (d' := 2) (As := [zI a2]) (rest := []) dX9_worth_10 lX9_168 vX9_isGift (by omega) (o64 hK) rfl rfl (Nat.le_of_ble_eq_true rfl) rfl (zC_i h (fun r4 nu5 h => ?_))
    obtain ⟨q6, h⟩ := h
    refine g_if_eq (tgt := 30) dX9_worth_13 (by decide) q6 (fun c_ => ?_) (fun c_ => ?_)
    · have h := h.1 c_
      refine g_iconst dX9_worth_30 ?_
      exact g_ireturn dX9_worth_31 rfl h
    · have h := h.2 c_
      refine g_aload_n dX9_worth_16 rfl ?_
      refine g_getR (k' := 72) dX9_worth_17 (o64 hK) fX9_31 (by decide) (by decide) ?_
      refine g_bipush dX9_worth_20 rfl ?_
      refine g_iload_n dX9_worth_22 rfl ?_
      refine g_imul dX9_worth_23 ?_
      refine g_iload_n dX9_worth_24 rfl ?_
      refine g_iadd dX9_worth_25 ?_
      obtain ⟨q7, h⟩ := h
      obtain ⟨q8, h⟩ := h
      refine g_iald' (nn := 84) dX9_worth_26 (r72 hK) rfl q7 q8 ?_
      refine g_goto (tgt := 31) dX9_worth_27 (by decide) ?_
      exact g_ireturn dX9_worth_31 rfl h
theorem sg_X9_worthItem_0 {K d : Nat} {mu : Mem} {Q : AV → Mem → Prop} (hd : 2 ≤ d) (hK : 93 ≤ K) (h : zC K 1 mX9_figures [zR 64, zI 3] mu (fun v_ nu2 => ∃ r1, v_ = zI r1 ∧ (zin r1 ∧ ((r1 = 0 → Q (zI 0) nu2) ∧ (¬ r1 = 0 → (zin (nu2 80 0) ∧ ((5 < (nu2 80 0) → Q (zI 0) nu2) ∧ (¬ 5 < (nu2 80 0) → (zin (nu2 80 1) ∧ ((6 < (nu2 80 1) → Q (zI 0) nu2) ∧ (¬ 6 < (nu2 80 1) → (zin (nu2 80 2) ∧ (((nu2 80 2) ≤ 9 → (0 ≤ ((42 + (7 * (nu2 80 0))) + (nu2 80 1)) ∧ ((42 + (7 * (nu2 80 0))) + (nu2 80 1)) < 84 ∧ zC K 0 mX9_meet [zR 64, zI ((zup nu2 72 ((42 + (7 * (nu2 80 0))) + (nu2 80 1)) (nu2 80 2)) 80 0)] (zup nu2 72 ((42 + (7 * (nu2 80 0))) + (nu2 80 1)) (nu2 80 2)) (fun v_ nu10 => v_ = zV ∧ zC K 0 mX9_meet [zR 64, zI (nu10 80 1)] nu10 (fun v_ nu12 => v_ = zV ∧ Q (zI 1) nu12)))) ∧ (¬ (nu2 80 2) ≤ 9 → Q (zI 0) nu2)))))))))))))) : zG K d mX9_worthItem 0 [zR 64] [] mu Q := by
  refine g_aload_n dX9_worthItem_0 rfl ?_
  refine g_iconst dX9_worthItem_1 ?_
  refine g_callV (Y' := mX9_figures) (d' := 1) (As := [zI 3]) (rest := []) dX9_worthItem_2 lX9_128 vX9_figures (by omega) (o64 hK) rfl rfl (Nat.le_of_ble_eq_true rfl) rfl (zC_i h (fun r1 nu2 h => ?_))
  obtain ⟨q3, h⟩ := h
  refine g_if_eq (tgt := 40) dX9_worthItem_5 (by decide) q3 (fun c_ => ?_) (fun c_ => ?_)
  · have h := h.1 c_
    refine g_iconst dX9_worthItem_40 ?_
    exact g_zreturn dX9_worthItem_41 rfl (by decide) h
  · have h := h.2 c_
    refine g_aload_n dX9_worthItem_8 rfl ?_
    refine g_getR (k' := 80) dX9_worthItem_9 (o64 hK) fX9_55 (by decide) (by decide) ?_
    refine g_iconst dX9_worthItem_12 ?_
    refine g_iald' (nn := 4) dX9_worthItem_13 (r80 hK) rfl (by decide) (by decide) ?_
    refine g_iconst dX9_worthItem_14 ?_
    obtain ⟨q4, h⟩ := h
    refine g_icmp_gt (tgt := 40) dX9_worthItem_15 (by decide) q4 (zin_d rfl) (fun c_ => ?_) (fun c_ => ?_)
    · have h := h.1 c_
      refine g_iconst dX9_worthItem_40 ?_
      exact g_zreturn dX9_worthItem_41 rfl (by decide) h
    · have h := h.2 c_
      refine g_aload_n dX9_worthItem_18 rfl ?_
      refine g_getR (k' := 80) dX9_worthItem_19 (o64 hK) fX9_55 (by decide) (by decide) ?_
      refine g_iconst dX9_worthItem_22 ?_
      refine g_iald' (nn := 4) dX9_worthItem_23 (r80 hK) rfl (by decide) (by decide) ?_
      refine g_bipush dX9_worthItem_24 rfl ?_
      obtain ⟨q5, h⟩ := h
      refine g_icmp_gt (tgt := 40) dX9_worthItem_26 (by decide) q5 (zin_d rfl) (fun c_ => ?_) (fun c_ => ?_)
      · have h := h.1 c_
        refine g_iconst dX9_worthItem_40 ?_
        exact g_zreturn dX9_worthItem_41 rfl (by decide) h
      · have h := h.2 c_
        refine g_aload_n dX9_worthItem_29 rfl ?_
        refine g_getR (k' := 80) dX9_worthItem_30 (o64 hK) fX9_55 (by decide) (by decide) ?_
        refine g_iconst dX9_worthItem_33 ?_
        refine g_iald' (nn := 4) dX9_worthItem_34 (r80 hK) rfl (by decide) (by decide) ?_
        refine g_bipush dX9_worthItem_35 rfl ?_
        obtain ⟨q6, h⟩ := h
        refine g_icmp_le (tgt := 42) dX9_worthItem_37 (by decide) q6 (zin_d rfl) (fun c_ => ?_) (fun c_ => ?_)
        · have h := h.1 c_
          refine g_aload_n dX9_worthItem_42 rfl ?_
          refine g_getR (k' := 72) dX9_worthItem_43 (o64 hK) fX9_31 (by decide) (by decide) ?_
          refine g_bipush dX9_worthItem_46 rfl ?_
          refine g_bipush dX9_worthItem_48 rfl ?_
          refine g_aload_n dX9_worthItem_50 rfl ?_
          refine g_getR (k' := 80) dX9_worthItem_51 (o64 hK) fX9_55 (by decide) (by decide) ?_
          refine g_iconst dX9_worthItem_54 ?_
          refine g_iald' (nn := 4) dX9_worthItem_55 (r80 hK) rfl (by decide) (by decide) ?_
          refine g_imul dX9_worthItem_56 ?_
          refine g_iadd dX9_worthItem_57 ?_
          refine g_aload_n dX9_worthItem_58 rfl ?_
          refine g_getR (k' := 80) dX9_worthItem_59 (o64 hK) fX9_55 (by decide) (by decide) ?_
          refine g_iconst dX9_worthItem_62 ?_
          refine g_iald' (nn := 4) dX9_worthItem_63 (r80 hK) rfl (by decide) (by decide) ?_
          refine g_iadd dX9_worthItem_64 ?_
          refine g_aload_n dX9_worthItem_65 rfl ?_
          refine g_getR (k' := 80) dX9_worthItem_66 (o64 hK) fX9_55 (by decide) (by decide) ?_
          refine g_iconst dX9_worthItem_69 ?_
          refine g_iald' (nn := 4) dX9_worthItem_70 (r80 hK) rfl (by decide) (by decide) ?_
          obtain ⟨q7, h⟩ := h
          obtain ⟨q8, h⟩ := h
          refine g_iast' (nn := 84) dX9_worthItem_71 (r72 hK) rfl q7 q8 ?_
          refine g_aload_n dX9_worthItem_72 rfl ?_
          refine g_aload_n dX9_worthItem_73 rfl ?_
          refine g_getR (k' := 80) dX9_worthItem_74 (o64 hK) fX9_55 (by decide) (by decide) ?_
          refine g_iconst dX9_worthItem_77 ?_
          refine g_iald' (nn := 4) dX9_worthItem_78 (r80 hK) rfl (by decide) (by decide) ?_
          refine g_callV (Y' := mX9_meet) (d' := 0) (As := [zI ((zup nu2 72 ((42 + (7 * (nu2 80 0))) + (nu2 80 1)) (nu2 80 2)) 80 0)]) (rest := []) dX9_worthItem_79 lX9_132 vX9_meet (by omega) (o64 hK) rfl rfl (Nat.le_of_ble_eq_true rfl) rfl (zC_v h (fun nu10 h => ?_))
          refine g_aload_n dX9_worthItem_82 rfl ?_
          refine g_aload_n dX9_worthItem_83 rfl ?_
          refine g_getR (k' := 80) dX9_worthItem_84 (o64 hK) fX9_55 (by decide) (by decide) ?_
          refine g_iconst dX9_worthItem_87 ?_
          refine g_iald' (nn := 4) dX9_worthItem_88 (r80 hK) rfl (by decide) (by decide) ?_
          refine g_callV (Y' := mX9_meet) (d' := 0) (As := [zI (nu10 80 1)]) (rest := []) dX9_worthItem_89 lX9_132 vX9_meet (by omega) (o64 hK) rfl rfl (Nat.le_of_ble_eq_true rfl) rfl (zC_v h (fun nu12 h => ?_))
          refine g_iconst dX9_worthItem_92 ?_
          exact g_zreturn dX9_worthItem_93 rfl (by decide) h
        · have h := h.2 c_
          refine g_iconst dX9_worthItem_40 ?_
          exact g_zreturn dX9_worthItem_41 rfl (by decide) h
theorem sg_X9_write_0 {K d : Nat} {mu : Mem} {Q : AV → Mem → Prop} {a1 a2 : Int} (hd : 1 ≤ d) (hK : 93 ≤ K) (h : (zin a1 ∧ zC K 0 mX9_in [zJ a1, zJ 1, zJ 8] mu (fun v_ nu3 => ∃ r2, v_ = zI r2 ∧ (zin r2 ∧ ((¬ r2 = 0 → (zin ((nu3 64 0) + a1) ∧ ((((nu3 64 0) + a1) ≤ 300 → zG K d mX9_write 34 [zR 64, zU, zJ a2, zU, zI (a1 - 1)] [] nu3 Q) ∧ (¬ ((nu3 64 0) + a1) ≤ 300 → Q (zI (-3)) nu3)))) ∧ (r2 = 0 → Q (zI (-1)) nu3)))))) : zG K d mX9_write 0 [zR 64, zI a1, zJ a2, zU, zU] [] mu Q := by
  refine g_iload_n dX9_write_0 rfl ?_
  obtain ⟨q1, h⟩ := h
  refine g_i2l dX9_write_1 q1 ?_
  refine g_lconst (x := 1) dX9_write_2 rfl ?_
  refine g_ldc2 (x := 8) (zc64 (x := 8) (v := 8) (by decide +kernel) kX9_100) dX9_write_3 ?_
  refine g_callS (Y' := mX9_in) (d' := 0) (As := [zJ a1, zJ 1, zJ 8]) (rest := []) dX9_write_6 lX9_102 vX9_in (by omega) rfl (Nat.le_of_ble_eq_true rfl) rfl (zC_i h (fun r2 nu3 h => ?_))
  obtain ⟨q4, h⟩ := h
  refine g_if_ne (tgt := 14) dX9_write_9 (by decide) q4 (fun c_ => ?_) (fun c_ => ?_)
  · have h := h.1 c_
    refine g_aload_n dX9_write_14 rfl ?_
    refine g_getI' (jj := 0) dX9_write_15 (o64 hK) fX9_106 rfl rfl ?_
    refine g_iload_n dX9_write_18 rfl ?_
    refine g_iadd dX9_write_19 ?_
    refine g_sipush dX9_write_20 rfl ?_
    obtain ⟨q5, h⟩ := h
    refine g_icmp_le (tgt := 29) dX9_write_23 (by decide) q5 (zin_d rfl) (fun c_ => ?_) (fun c_ => ?_)
    · have h := h.1 c_
      refine g_iload_n dX9_write_29 rfl ?_
      refine g_iconst dX9_write_30 ?_
      refine g_isub dX9_write_31 ?_
      refine g_istore dX9_write_32 (by decide) rfl ?_
      exact g_wk (zwk_s (zwk_u (zwk_s (zwk_s (zwk_s zwk_n))))) h
    · have h := h.2 c_
      refine g_bipush dX9_write_26 rfl ?_
      exact g_ireturn dX9_write_28 rfl h
  · have h := h.2 c_
    refine g_iconst dX9_write_12 ?_
    exact g_ireturn dX9_write_13 rfl h
theorem sg_X9_write_34 {K d : Nat} {mu : Mem} {Q : AV → Mem → Prop} {a2 a4 : Int} (hd : 1 ≤ d) (hK : 93 ≤ K) (h : (zin a4 ∧ ((a4 < 0 → Q (zI (mu 64 0)) mu) ∧ (¬ a4 < 0 → (0 ≤ (mu 64 0) ∧ (mu 64 0) < 300 ∧ zG K d mX9_write 34 [zR 64, zU, zJ a2, zU, zI (a4 + (-1))] [] (zup (zup mu 65 (mu 64 0) (zlan (zlsr a2 (8 * a4)) 255)) 64 0 (((zup mu 65 (mu 64 0) (zlan (zlsr a2 (8 * a4)) 255)) 64 0) + 1)) Q))))) : zG K d mX9_write 34 [zR 64, zU, zJ a2, zU, zI a4] [] mu Q := by
  refine g_iload dX9_write_34 rfl ?_
  obtain ⟨q1, h⟩ := h
  refine g_if_lt (tgt := 76) dX9_write_36 (by decide) q1 (fun c_ => ?_) (fun c_ => ?_)
  · have h := h.1 c_
    refine g_aload_n dX9_write_76 rfl ?_
    refine g_getI' (jj := 0) dX9_write_77 (o64 hK) fX9_106 rfl rfl ?_
    exact g_ireturn dX9_write_80 rfl h
  · have h := h.2 c_
    refine g_aload_n dX9_write_39 rfl ?_
    refine g_getR (k' := 65) dX9_write_40 (o64 hK) fX9_7 (by decide) (by decide) ?_
    refine g_aload_n dX9_write_43 rfl ?_
    refine g_getI' (jj := 0) dX9_write_44 (o64 hK) fX9_106 rfl rfl ?_
    refine g_lload_n dX9_write_47 rfl ?_
    refine g_bipush dX9_write_48 rfl ?_
    refine g_iload dX9_write_50 rfl ?_
    refine g_imul dX9_write_52 ?_
    refine g_lshr dX9_write_53 (zlsr_ok _ _) ?_
    refine g_ldc2 (x := 255) (zc64 (x := 255) (v := 255) (by decide +kernel) kX9_110) dX9_write_54 ?_
    refine g_land dX9_write_57 (zlan_ok _ _) ?_
    refine g_l2i dX9_write_58 ?_
    obtain ⟨q2, h⟩ := h
    obtain ⟨q3, h⟩ := h
    refine g_iast' (nn := 300) dX9_write_59 (r65 hK) rfl q2 q3 ?_
    refine g_aload_n dX9_write_60 rfl ?_
    refine g_dup dX9_write_61 (by simp) ?_
    refine g_getI' (jj := 0) dX9_write_62 (o64 hK) fX9_106 rfl rfl ?_
    refine g_iconst dX9_write_65 ?_
    refine g_iadd dX9_write_66 ?_
    refine g_putI' (jj := 0) dX9_write_67 (o64 hK) pX9_106 rfl rfl ?_
    refine g_iinc dX9_write_70 rfl (by decide) rfl ?_
    refine g_goto (tgt := 34) dX9_write_73 (by decide) ?_
    exact g_wk (zwk_s (zwk_s (zwk_s (zwk_s (zwk_s zwk_n))))) h
