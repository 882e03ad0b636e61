theorem sg_J7_fill_53178_0 {K d : Nat} {n : Nat} {mu : Mem} {Q : AV → Mem → Prop} {A a1 : Int} (hd : 0 ≤ d) (hK : 64 ≤ K) (hA : zAr K 11 A n) (h : zG K d mJ7_fill_53178 5 [zR A, zI a1, zI 0, zI n] [] mu Q) : zG K d mJ7_fill_53178 0 [zR A, zI a1, zU, zU] [] mu Q := by
  refine g_iconst dJ7_fill_53178_0 ?_
  refine g_istore_n dJ7_fill_53178_1 (by decide) rfl ?_
  refine g_aload_n dJ7_fill_53178_2 rfl ?_
  refine g_alen' (nn := n) dJ7_fill_53178_3 hA (by decide) rfl ?_
  refine g_istore_n dJ7_fill_53178_4 (by decide) rfl ?_
  exact g_wk (zwk_s (zwk_s (zwk_s (zwk_s zwk_n)))) h
theorem sg_J7_fill_53178_5 {K d : Nat} {n : Nat} {mu : Mem} {Q : AV → Mem → Prop} {A a1 a2 a3 : Int} (hd : 0 ≤ d) (hK : 64 ≤ K) (hA : zAr K 11 A n) (h : (zin a2 ∧ zin a3 ∧ ((a3 ≤ a2 → Q zV mu) ∧ (¬ a3 ≤ a2 → (0 ≤ a2 ∧ a2 < n ∧ zG K d mJ7_fill_53178 5 [zR A, zI a1, zI (a2 + 1), zI a3] [] (zup mu A a2 a1) Q))))) : zG K d mJ7_fill_53178 5 [zR A, zI a1, zI a2, zI a3] [] mu Q := by
  refine g_iload_n dJ7_fill_53178_5 rfl ?_
  refine g_iload_n dJ7_fill_53178_6 rfl ?_
  obtain ⟨q1, h⟩ := h
  obtain ⟨q2, h⟩ := h
  refine g_icmp_ge (tgt := 20) dJ7_fill_53178_7 (by decide) q1 q2 (fun c_ => ?_) (fun c_ => ?_)
  · have h := h.1 c_
    exact g_return dJ7_fill_53178_20 rfl h
  · have h := h.2 c_
    refine g_aload_n dJ7_fill_53178_10 rfl ?_
    refine g_iload_n dJ7_fill_53178_11 rfl ?_
    refine g_iload_n dJ7_fill_53178_12 rfl ?_
    obtain ⟨q3, h⟩ := h
    obtain ⟨q4, h⟩ := h
    refine g_iast' (nn := n) dJ7_fill_53178_13 hA rfl q3 q4 ?_
    refine g_iinc dJ7_fill_53178_14 rfl (by decide) rfl ?_
    refine g_goto (tgt := 5) dJ7_fill_53178_17 (by decide) ?_
    exact g_wk (zwk_s (zwk_s (zwk_s (zwk_s zwk_n)))) h
theorem sg_J7_fill_d0a16_0 {K d : Nat} {n : Nat} {mu : Mem} {Q : AV → Mem → Prop} {A a1 : Int} (hd : 0 ≤ d) (hK : 64 ≤ K) (hA : zAr K 12 A n) (h : zG K d mJ7_fill_d0a16 6 [zR A, zJ a1, zU, zI 0, zI n] [] mu Q) : zG K d mJ7_fill_d0a16 0 [zR A, zJ a1, zU, zU, zU] [] mu Q := by
  refine g_iconst dJ7_fill_d0a16_0 ?_
  refine g_istore_n dJ7_fill_d0a16_1 (by decide) rfl ?_
  refine g_aload_n dJ7_fill_d0a16_2 rfl ?_
  refine g_alen' (nn := n) dJ7_fill_d0a16_3 hA (by decide) rfl ?_
  refine g_istore dJ7_fill_d0a16_4 (by decide) rfl ?_
  exact g_wk (zwk_s (zwk_s (zwk_s (zwk_s (zwk_s zwk_n))))) h
theorem sg_J7_fill_d0a16_6 {K d : Nat} {n : Nat} {mu : Mem} {Q : AV → Mem → Prop} {A a1 a3 a4 : Int} (hd : 0 ≤ d) (hK : 64 ≤ K) (hA : zAr K 12 A n) (h : (zin a3 ∧ zin a4 ∧ ((a4 ≤ a3 → Q zV mu) ∧ (¬ a4 ≤ a3 → (0 ≤ a3 ∧ a3 < n ∧ zG K d mJ7_fill_d0a16 6 [zR A, zJ a1, zU, zI (a3 + 1), zI a4] [] (zup mu A a3 a1) Q))))) : zG K d mJ7_fill_d0a16 6 [zR A, zJ a1, zU, zI a3, zI a4] [] mu Q := by
  refine g_iload_n dJ7_fill_d0a16_6 rfl ?_
  refine g_iload dJ7_fill_d0a16_7 rfl ?_
  obtain ⟨q1, h⟩ := h
  obtain ⟨q2, h⟩ := h
  refine g_icmp_ge (tgt := 22) dJ7_fill_d0a16_9 (by decide) q1 q2 (fun c_ => ?_) (fun c_ => ?_)
  · have h := h.1 c_
    exact g_return dJ7_fill_d0a16_22 rfl h
  · have h := h.2 c_
    refine g_aload_n dJ7_fill_d0a16_12 rfl ?_
    refine g_iload_n dJ7_fill_d0a16_13 rfl ?_
    refine g_lload_n dJ7_fill_d0a16_14 rfl ?_
    obtain ⟨q3, h⟩ := h
    obtain ⟨q4, h⟩ := h
    refine g_last' (nn := n) dJ7_fill_d0a16_15 hA rfl q3 q4 ?_
    refine g_iinc dJ7_fill_d0a16_16 rfl (by decide) rfl ?_
    refine g_goto (tgt := 6) dJ7_fill_d0a16_19 (by decide) ?_
    exact g_wk (zwk_s (zwk_s (zwk_s (zwk_s (zwk_s zwk_n))))) h
theorem sg_X2_addAsked_0 {K d : Nat} {mu : Mem} {Q : AV → Mem → Prop} {P a1 : Int} (hd : 2 ≤ d) (hK : 64 ≤ K) (hP : isP K P) (h : zC K 1 mX2_noteThing [zR P, zI a1] mu (fun v_ nu2 => ∃ r1, v_ = zI r1 ∧ (zin r1 ∧ ((r1 = 0 → Q (zI 0) nu2) ∧ (¬ r1 = 0 → (zin (nu2 P 2) ∧ (((nu2 P 2) < 6 → (0 ≤ (nu2 P 2) ∧ (nu2 P 2) < 6 ∧ Q (zI 1) (zup (zup nu2 (P + 1) (nu2 P 2) a1) P 2 (((zup nu2 (P + 1) (nu2 P 2) a1) P 2) + 1)))) ∧ (¬ (nu2 P 2) < 6 → Q (zI 0) nu2)))))))) : zG K d mX2_addAsked 0 [zR P, zI a1] [] mu Q := by
  refine g_aload_n dX2_addAsked_0 rfl ?_
  refine g_iload_n dX2_addAsked_1 rfl ?_
  refine g_callV (Y' := mX2_noteThing) (d' := 1) (As := [zI a1]) (rest := []) dX2_addAsked_2 lX2_72 vX2_noteThing (by omega) (hP).ob rfl rfl (Nat.le_of_ble_eq_true rfl) rfl (zC_i h (fun r1 nu2 h => ?_))
  obtain ⟨q3, h⟩ := h
  refine g_if_eq (tgt := 17) dX2_addAsked_5 (by decide) q3 (fun c_ => ?_) (fun c_ => ?_)
  · have h := h.1 c_
    refine g_iconst dX2_addAsked_17 ?_
    exact g_zreturn dX2_addAsked_18 rfl (by decide) h
  · have h := h.2 c_
    refine g_aload_n dX2_addAsked_8 rfl ?_
    refine g_getI' (jj := 2) dX2_addAsked_9 (hP).ob fX2_43 rfl rfl ?_
    refine g_bipush dX2_addAsked_12 rfl ?_
    obtain ⟨q4, h⟩ := h
    refine g_icmp_lt (tgt := 19) dX2_addAsked_14 (by decide) q4 (zin_d rfl) (fun c_ => ?_) (fun c_ => ?_)
    · have h := h.1 c_
      refine g_aload_n dX2_addAsked_19 rfl ?_
      refine g_getR (k' := (P + 1)) dX2_addAsked_20 (hP).ob fX2_9 (by decide) rfl ?_
      refine g_aload_n dX2_addAsked_23 rfl ?_
      refine g_getI' (jj := 2) dX2_addAsked_24 (hP).ob fX2_43 rfl rfl ?_
      refine g_iload_n dX2_addAsked_27 rfl ?_
      obtain ⟨q5, h⟩ := h
      obtain ⟨q6, h⟩ := h
      refine g_iast' (nn := 6) dX2_addAsked_28 (hP).a1 rfl q5 q6 ?_
      refine g_aload_n dX2_addAsked_29 rfl ?_
      refine g_dup dX2_addAsked_30 (by simp) ?_
      refine g_getI' (jj := 2) dX2_addAsked_31 (hP).ob fX2_43 rfl rfl ?_
      refine g_iconst dX2_addAsked_34 ?_
      refine g_iadd dX2_addAsked_35 ?_
      refine g_putI' (jj := 2) dX2_addAsked_36 (hP).ob pX2_43 rfl rfl ?_
      refine g_iconst dX2_addAsked_39 ?_
      exact g_zreturn dX2_addAsked_40 rfl (by decide) h
    · have h := h.2 c_
      refine g_iconst dX2_addAsked_17 ?_
      exact g_zreturn dX2_addAsked_18 rfl (by decide) h
theorem sg_X2_addPost_0 {K d : Nat} {mu : Mem} {Q : AV → Mem → Prop} {P a1 a2 a3 a4 : Int} (hd : 3 ≤ d) (hK : 64 ≤ K) (hP : isP K P) (h : zC K 0 mX8_within [zI a1, zI 0, zI 5] mu (fun v_ nu2 => ∃ r1, v_ = zI r1 ∧ (zin r1 ∧ ((r1 = 0 → Q (zI 0) nu2) ∧ (¬ r1 = 0 → (zin (nu2 P 4) ∧ (((nu2 P 4) < 6 → zC K 2 mX2_noteSign [zR P, zI a2] nu2 (fun v_ nu6 => ∃ r5, v_ = zI r5 ∧ (zin r5 ∧ ((r5 = 0 → Q (zI 0) nu6) ∧ (¬ r5 = 0 → zC K 2 mX2_noteSign [zR P, zI a3] nu6 (fun v_ nu9 => ∃ r8, v_ = zI r8 ∧ (zin r8 ∧ ((r8 = 0 → Q (zI 0) nu9) ∧ (¬ r8 = 0 → zC K 2 mX2_noteSign [zR P, zI a4] nu9 (fun v_ nu12 => ∃ r11, v_ = zI r11 ∧ (zin r11 ∧ ((¬ r11 = 0 → (0 ≤ (nu12 P 4) ∧ (nu12 P 4) < 6 ∧ 0 ≤ ((zup nu12 (P + 5) (nu12 P 4) a1) P 4) ∧ ((zup nu12 (P + 5) (nu12 P 4) a1) P 4) < 6 ∧ 0 ≤ ((zup (zup nu12 (P + 5) (nu12 P 4) a1) (P + 6) ((zup nu12 (P + 5) (nu12 P 4) a1) P 4) a2) P 4) ∧ ((zup (zup nu12 (P + 5) (nu12 P 4) a1) (P + 6) ((zup nu12 (P + 5) (nu12 P 4) a1) P 4) a2) P 4) < 6 ∧ 0 ≤ ((zup (zup (zup nu12 (P + 5) (nu12 P 4) a1) (P + 6) ((zup nu12 (P + 5) (nu12 P 4) a1) P 4) a2) (P + 7) ((zup (zup nu12 (P + 5) (nu12 P 4) a1) (P + 6) ((zup nu12 (P + 5) (nu12 P 4) a1) P 4) a2) P 4) a3) P 4) ∧ ((zup (zup (zup nu12 (P + 5) (nu12 P 4) a1) (P + 6) ((zup nu12 (P + 5) (nu12 P 4) a1) P 4) a2) (P + 7) ((zup (zup nu12 (P + 5) (nu12 P 4) a1) (P + 6) ((zup nu12 (P + 5) (nu12 P 4) a1) P 4) a2) P 4) a3) P 4) < 6 ∧ zin ((zup (zup (zup (zup (zup nu12 (P + 5) (nu12 P 4) a1) (P + 6) ((zup nu12 (P + 5) (nu12 P 4) a1) P 4) a2) (P + 7) ((zup (zup nu12 (P + 5) (nu12 P 4) a1) (P + 6) ((zup nu12 (P + 5) (nu12 P 4) a1) P 4) a2) P 4) a3) (P + 8) ((zup (zup (zup nu12 (P + 5) (nu12 P 4) a1) (P + 6) ((zup nu12 (P + 5) (nu12 P 4) a1) P 4) a2) (P + 7) ((zup (zup nu12 (P + 5) (nu12 P 4) a1) (P + 6) ((zup nu12 (P + 5) (nu12 P 4) a1) P 4) a2) P 4) a3) P 4) a4) P 4 (((zup (zup (zup (zup nu12 (P + 5) (nu12 P 4) a1) (P + 6) ((zup nu12 (P + 5) (nu12 P 4) a1) P 4) a2) (P + 7) ((zup (zup nu12 (P + 5) (nu12 P 4) a1) (P + 6) ((zup nu12 (P + 5) (nu12 P 4) a1) P 4) a2) P 4) a3) (P + 8) ((zup (zup (zup nu12 (P + 5) (nu12 P 4) a1) (P + 6) ((zup nu12 (P + 5) (nu12 P 4) a1) P 4) a2) (P + 7) ((zup (zup nu12 (P + 5) (nu12 P 4) a1) (P + 6) ((zup nu12 (P + 5) (nu12 P 4) a1) P 4) a2) P 4) a3) P 4) a4) P 4) + 1)) P 14) ∧ zin a1 ∧ Q (zI 1) (zup (zup (zup (zup (zup (zup nu12 (P + 5) (nu12 P 4) a1) (P + 6) ((zup nu12 (P + 5) (nu12 P 4) a1) P 4) a2) (P + 7) ((zup (zup nu12 (P + 5) (nu12 P 4) a1) (P + 6) ((zup nu12 (P + 5) (nu12 P 4) a1) P 4) a2) P 4) a3) (P + 8) ((zup (zup (zup nu12 (P + 5) (nu12 P 4) a1) (P + 6) ((zup nu12 (P + 5) (nu12 P 4) a1) P 4) a2) (P + 7) ((zup (zup nu12 (P + 5) (nu12 P 4) a1) (P + 6) ((zup nu12 (P + 5) (nu12 P 4) a1) P 4) a2) P 4) a3) P 4) a4) P 4 (((zup (zup (zup (zup nu12 (P + 5) (nu12 P 4) a1) (P + 6) ((zup nu12 (P + 5) (nu12 P 4) a1) P 4) a2) (P + 7) ((zup (zup nu12 (P + 5) (nu12 P 4) a1) (P + 6) ((zup nu12 (P + 5) (nu12 P 4) a1) P 4) a2) P 4) a3) (P + 8) ((zup (zup (zup nu12 (P + 5) (nu12 P 4) a1) (P + 6) ((zup nu12 (P + 5) (nu12 P 4) a1) P 4) a2) (P + 7) ((zup (zup nu12 (P + 5) (nu12 P 4) a1) (P + 6) ((zup nu12 (P + 5) (nu12 P 4) a1) P 4) a2) P 4) a3) P 4) a4) P 4) + 1)) P 14 (max ((zup (zup (zup (zup (zup nu12 (P + 5) (nu12 P 4) a1) (P + 6) ((zup nu12 (P + 5) (nu12 P 4) a1) P 4) a2) (P + 7) ((zup (zup nu12 (P + 5) (nu12 P 4) a1) (P + 6) ((zup nu12 (P + 5) (nu12 P 4) a1) P 4) a2) P 4) a3) (P + 8) ((zup (zup (zup nu12 (P + 5) (nu12 P 4) a1) (P + 6) ((zup nu12 (P + 5) (nu12 P 4) a1) P 4) a2) (P + 7) ((zup (zup nu12 (P + 5) (nu12 P 4) a1) (P + 6) ((zup nu12 (P + 5) (nu12 P 4) a1) P 4) a2) P 4) a3) P 4) a4) P 4 (((zup (zup (zup (zup nu12 (P + 5) (nu12 P 4) a1) (P + 6) ((zup nu12 (P + 5) (nu12 P 4) a1) P 4) a2) (P + 7) ((zup (zup nu12 (P + 5) (nu12 P 4) a1) (P + 6) ((zup nu12 (P + 5) (nu12 P 4) a1) P 4) a2) P 4) a3) (P + 8) ((zup (zup (zup nu12 (P + 5) (nu12 P 4) a1) (P + 6) ((zup nu12 (P + 5) (nu12 P 4) a1) P 4) a2) (P + 7) ((zup (zup nu12 (P + 5) (nu12 P 4) a1) (P + 6) ((zup nu12 (P + 5) (nu12 P 4) a1) P 4) a2) P 4) a3) P 4) a4) P 4) + 1)) P 14) a1)))) ∧ (r11 = 0 → Q (zI 0) nu12))))))))))))) ∧ (¬ (nu2 P 4) < 6 → Q (zI 0) nu2)))))))) : zG K d mX2_addPost 0 [zR P, zI a1, zI a2, zI a3, zI a4] [] mu Q := by
  refine g_iload_n dX2_addPost_0 rfl ?_
  refine g_iconst dX2_addPost_1 ?_
  refine g_iconst dX2_addPost_2 ?_
  refine g_callN (Y' := mX8_within) (d' := 0) (As := [zI a1, zI 0, zI 5]) (rest := []) (host := RX8) dX2_addPost_3 (by decide) vX8_within (by omega) rfl (Nat.le_of_ble_eq_true rfl) rfl (zC_i h (fun r1 nu2 h => ?_))
  obtain ⟨q3, h⟩ := h
  refine g_if_eq (tgt := 18) dX2_addPost_6 (by decide) q3 (fun c_ => ?_) (fun c_ => ?_)
  · have h := h.1 c_
    refine g_iconst dX2_addPost_18 ?_
    exact g_zreturn dX2_addPost_19 rfl (by decide) h
  · have h := h.2 c_
    refine g_aload_n dX2_addPost_9 rfl ?_
    refine g_getI' (jj := 4) dX2_addPost_10 (hP).ob fX2_49 rfl rfl ?_
    refine g_bipush dX2_addPost_13 rfl ?_
    obtain ⟨q4, h⟩ := h
    refine g_icmp_lt (tgt := 20) dX2_addPost_15 (by decide) q4 (zin_d rfl) (fun c_ => ?_) (fun c_ => ?_)
    · have h := h.1 c_
      refine g_aload_n dX2_addPost_20 rfl ?_
      refine g_iload_n dX2_addPost_21 rfl ?_
      refine g_callV (Y' := mX2_noteSign) (d' := 2) (As := [zI a2]) (rest := []) dX2_addPost_22 lX2_76 vX2_noteSign (by omega) (hP).ob rfl rfl (Nat.le_of_ble_eq_true rfl) rfl (zC_i h (fun r5 nu6 h => ?_))
      obtain ⟨q7, h⟩ := h
      refine g_if_eq (tgt := 45) dX2_addPost_25 (by decide) q7 (fun c_ => ?_) (fun c_ => ?_)
      · have h := h.1 c_
        refine g_iconst dX2_addPost_45 ?_
        exact g_zreturn dX2_addPost_46 rfl (by decide) h
      · have h := h.2 c_
        refine g_aload_n dX2_addPost_28 rfl ?_
        refine g_iload_n dX2_addPost_29 rfl ?_
        refine g_callV (Y' := mX2_noteSign) (d' := 2) (As := [zI a3]) (rest := []) dX2_addPost_30 lX2_76 vX2_noteSign (by omega) (hP).ob rfl rfl (Nat.le_of_ble_eq_true rfl) rfl (zC_i h (fun r8 nu9 h => ?_))
        obtain ⟨q10, h⟩ := h
        refine g_if_eq (tgt := 45) dX2_addPost_33 (by decide) q10 (fun c_ => ?_) (fun c_ => ?_)
        · have h := h.1 c_
          refine g_iconst dX2_addPost_45 ?_
          exact g_zreturn dX2_addPost_46 rfl (by decide) h
        · have h := h.2 c_
          refine g_aload_n dX2_addPost_36 rfl ?_
          refine g_iload dX2_addPost_37 rfl ?_
          refine g_callV (Y' := mX2_noteSign) (d' := 2) (As := [zI a4]) (rest := []) dX2_addPost_39 lX2_76 vX2_noteSign (by omega) (hP).ob rfl rfl (Nat.le_of_ble_eq_true rfl) rfl (zC_i h (fun r11 nu12 h => ?_))
          obtain ⟨q13, h⟩ := h
          refine g_if_ne (tgt := 47) dX2_addPost_42 (by decide) q13 (fun c_ => ?_) (fun c_ => ?_)
          · have h := h.1 c_
            refine g_aload_n dX2_addPost_47 rfl ?_
            refine g_getR (k' := (P + 5)) dX2_addPost_48 (hP).ob fX2_24 (by decide) rfl ?_
            refine g_aload_n dX2_addPost_51 rfl ?_
            refine g_getI' (jj := 4) dX2_addPost_52 (hP).ob fX2_49 rfl rfl ?_
            refine g_iload_n dX2_addPost_55 rfl ?_
            obtain ⟨q14, h⟩ := h
            obtain ⟨q15, h⟩ := h
            refine g_iast' (nn := 6) dX2_addPost_56 (hP).a5 rfl q14 q15 ?_
            refine g_aload_n dX2_addPost_57 rfl ?_
            refine g_getR (k' := (P + 6)) dX2_addPost_58 (hP).ob fX2_27 (by decide) rfl ?_
            refine g_aload_n dX2_addPost_61 rfl ?_
            refine g_getI' (jj := 4) dX2_addPost_62 (hP).ob fX2_49 rfl rfl ?_
            refine g_iload_n dX2_addPost_65 rfl ?_
            obtain ⟨q16, h⟩ := h
            obtain ⟨q17, h⟩ := h
            refine g_iast' (nn := 6) dX2_addPost_66 (hP).a6 rfl q16 q17 ?_
            refine g_aload_n dX2_addPost_67 rfl ?_
            refine g_getR (k' := (P + 7)) dX2_addPost_68 (hP).ob fX2_30 (by decide) rfl ?_
            refine g_aload_n dX2_addPost_71 rfl ?_
            refine g_getI' (jj := 4) dX2_addPost_72 (hP).ob fX2_49 rfl rfl ?_
            refine g_iload_n dX2_addPost_75 rfl ?_
            obtain ⟨q18, h⟩ := h
            obtain ⟨q19, h⟩ := h
            refine g_iast' (nn := 6) dX2_addPost_76 (hP).a7 rfl q18 q19 ?_
            refine g_aload_n dX2_addPost_77 rfl ?_
            refine g_getR (k' := (P + 8)) dX2_addPost_78 (hP).ob fX2_33 (by decide) rfl ?_
            refine g_aload_n dX2_addPost_81 rfl ?_
            refine g_getI' (jj := 4) dX2_addPost_82 (hP).ob fX2_49 rfl rfl ?_
            refine g_iload dX2_addPost_85 rfl ?_
            obtain ⟨q20, h⟩ := h
            obtain ⟨q21, h⟩ := h
            refine g_iast' (nn := 6) dX2_addPost_87 (hP).a8 rfl q20 q21 ?_
            refine g_aload_n dX2_addPost_88 rfl ?_
            refine g_dup dX2_addPost_89 (by simp) ?_
            refine g_getI' (jj := 4) dX2_addPost_90 (hP).ob fX2_49 rfl rfl ?_
            refine g_iconst dX2_addPost_93 ?_
            refine g_iadd dX2_addPost_94 ?_
            refine g_putI' (jj := 4) dX2_addPost_95 (hP).ob pX2_49 rfl rfl ?_
            refine g_aload_n dX2_addPost_98 rfl ?_
            refine g_aload_n dX2_addPost_99 rfl ?_
            refine g_getI' (jj := 14) dX2_addPost_100 (hP).ob fX2_55 rfl rfl ?_
            refine g_iload_n dX2_addPost_103 rfl ?_
            obtain ⟨q22, h⟩ := h
            obtain ⟨q23, h⟩ := h
            refine g_max dX2_addPost_104 lX2_79 (by omega) (Nat.le_of_ble_eq_true rfl) q22 q23 ?_
            refine g_putI' (jj := 14) dX2_addPost_107 (hP).ob pX2_55 rfl rfl ?_
            refine g_iconst dX2_addPost_110 ?_
            exact g_zreturn dX2_addPost_111 rfl (by decide) h
          · have h := h.2 c_
            refine g_iconst dX2_addPost_45 ?_
            exact g_zreturn dX2_addPost_46 rfl (by decide) h
    · have h := h.2 c_
      refine g_iconst dX2_addPost_18 ?_
      exact g_zreturn dX2_addPost_19 rfl (by decide) h
theorem sg_X2_addWish_0 {K d : Nat} {mu : Mem} {Q : AV → Mem → Prop} {P a1 : Int} (hd : 2 ≤ d) (hK : 64 ≤ K) (hP : isP K P) (h : zC K 1 mX2_noteThing [zR P, zI a1] mu (fun v_ nu2 => ∃ r1, v_ = zI r1 ∧ (zin r1 ∧ ((r1 = 0 → Q (zI 0) nu2) ∧ (¬ r1 = 0 → (zin (nu2 P 3) ∧ (((nu2 P 3) < 10 → (0 ≤ (nu2 P 3) ∧ (nu2 P 3) < 10 ∧ Q (zI 1) (zup (zup nu2 (P + 2) (nu2 P 3) a1) P 3 (((zup nu2 (P + 2) (nu2 P 3) a1) P 3) + 1)))) ∧ (¬ (nu2 P 3) < 10 → Q (zI 0) nu2)))))))) : zG K d mX2_addWish 0 [zR P, zI a1] [] mu Q := by
  refine g_aload_n dX2_addWish_0 rfl ?_
  refine g_iload_n dX2_addWish_1 rfl ?_
  refine g_callV (Y' := mX2_noteThing) (d' := 1) (As := [zI a1]) (rest := []) dX2_addWish_2 lX2_72 vX2_noteThing (by omega) (hP).ob rfl rfl (Nat.le_of_ble_eq_true rfl) rfl (zC_i h (fun r1 nu2 h => ?_))
  obtain ⟨q3, h⟩ := h
  refine g_if_eq (tgt := 17) dX2_addWish_5 (by decide) q3 (fun c_ => ?_) (fun c_ => ?_)
  · have h := h.1 c_
    refine g_iconst dX2_addWish_17 ?_
    exact g_zreturn dX2_addWish_18 rfl (by decide) h
  · have h := h.2 c_
    refine g_aload_n dX2_addWish_8 rfl ?_
    refine g_getI' (jj := 3) dX2_addWish_9 (hP).ob fX2_46 rfl rfl ?_
    refine g_bipush dX2_addWish_12 rfl ?_
    obtain ⟨q4, h⟩ := h
    refine g_icmp_lt (tgt := 19) dX2_addWish_14 (by decide) q4 (zin_d rfl) (fun c_ => ?_) (fun c_ => ?_)
    · have h := h.1 c_
      refine g_aload_n dX2_addWish_19 rfl ?_
      refine g_getR (k' := (P + 2)) dX2_addWish_20 (hP).ob fX2_15 (by decide) rfl ?_
      refine g_aload_n dX2_addWish_23 rfl ?_
      refine g_getI' (jj := 3) dX2_addWish_24 (hP).ob fX2_46 rfl rfl ?_
      refine g_iload_n dX2_addWish_27 rfl ?_
      obtain ⟨q5, h⟩ := h
      obtain ⟨q6, h⟩ := h
      refine g_iast' (nn := 10) dX2_addWish_28 (hP).a2 rfl q5 q6 ?_
      refine g_aload_n dX2_addWish_29 rfl ?_
      refine g_dup dX2_addWish_30 (by simp) ?_
      refine g_getI' (jj := 3) dX2_addWish_31 (hP).ob fX2_46 rfl rfl ?_
      refine g_iconst dX2_addWish_34 ?_
      refine g_iadd dX2_addWish_35 ?_
      refine g_putI' (jj := 3) dX2_addWish_36 (hP).ob pX2_46 rfl rfl ?_
      refine g_iconst dX2_addWish_39 ?_
      exact g_zreturn dX2_addWish_40 rfl (by decide) h
    · have h := h.2 c_
      refine g_iconst dX2_addWish_17 ?_
      exact g_zreturn dX2_addWish_18 rfl (by decide) h
theorem sg_X2_askedBack_0 {K d : Nat} {mu : Mem} {Q : AV → Mem → Prop} {P a1 : Int} (hd : 0 ≤ d) (hK : 64 ≤ K) (hP : isP K P) (h : (zin ((mu P 2) - a1) ∧ ((((mu P 2) - a1) < 0 → Q (zI 6) mu) ∧ (¬ ((mu P 2) - a1) < 0 → (zin (mu P 2) ∧ (((mu P 2) ≤ ((mu P 2) - a1) → Q (zI 6) mu) ∧ (¬ (mu P 2) ≤ ((mu P 2) - a1) → (0 ≤ ((mu P 2) - a1) ∧ ((mu P 2) - a1) < 6 ∧ Q (zI (mu (P + 1) ((mu P 2) - a1))) mu)))))))) : zG K d mX2_askedBack 0 [zR P, zI a1, zU] [] mu Q := by
  refine g_aload_n dX2_askedBack_0 rfl ?_
  refine g_getI' (jj := 2) dX2_askedBack_1 (hP).ob fX2_43 rfl rfl ?_
  refine g_iload_n dX2_askedBack_4 rfl ?_
  refine g_isub dX2_askedBack_5 ?_
  refine g_istore_n dX2_askedBack_6 (by decide) rfl ?_
  refine g_iload_n dX2_askedBack_7 rfl ?_
  obtain ⟨q1, h⟩ := h
  refine g_if_lt (tgt := 28) dX2_askedBack_8 (by decide) q1 (fun c_ => ?_) (fun c_ => ?_)
  · have h := h.1 c_
    refine g_bipush dX2_askedBack_28 rfl ?_
    exact g_ireturn dX2_askedBack_30 rfl h
  · have h := h.2 c_
    refine g_iload_n dX2_askedBack_11 rfl ?_
    refine g_aload_n dX2_askedBack_12 rfl ?_
    refine g_getI' (jj := 2) dX2_askedBack_13 (hP).ob fX2_43 rfl rfl ?_
    obtain ⟨q2, h⟩ := h
    refine g_icmp_ge (tgt := 28) dX2_askedBack_16 (by decide) q1 q2 (fun c_ => ?_) (fun c_ => ?_)
    · have h := h.1 c_
      refine g_bipush dX2_askedBack_28 rfl ?_
      exact g_ireturn dX2_askedBack_30 rfl h
    · have h := h.2 c_
      refine g_aload_n dX2_askedBack_19 rfl ?_
      refine g_getR (k' := (P + 1)) dX2_askedBack_20 (hP).ob fX2_9 (by decide) rfl ?_
      refine g_iload_n dX2_askedBack_23 rfl ?_
      obtain ⟨q3, h⟩ := h
      obtain ⟨q4, h⟩ := h
      refine g_iald' (nn := 6) dX2_askedBack_24 (hP).a1 rfl q3 q4 ?_
      refine g_goto (tgt := 30) dX2_askedBack_25 (by decide) ?_
      exact g_ireturn dX2_askedBack_30 rfl h
theorem sg_X2_clear_0 {K d : Nat} {mu : Mem} {Q : AV → Mem → Prop} {P : Int} (hd : 1 ≤ d) (hK : 64 ≤ K) (hP : isP K P) (h : zC K 0 mJ7_fill_53178 [zR (P + 4), zI 1] (zup (zup (zup (zup (zup (zup (zup mu P 0 4) P 1 0) P 2 0) P 3 0) P 4 0) P 13 (-1)) P 14 (-1)) (fun v_ nu2 => v_ = zV ∧ zC K 0 mJ7_fill_53178 [zR (P + 3), zI 0] nu2 (fun v_ nu4 => v_ = zV ∧ zG K d mX2_clear 53 [zR P, zI 0] [] nu4 Q))) : zG K d mX2_clear 0 [zR P, zU] [] mu Q := by
  refine g_aload_n dX2_clear_0 rfl ?_
  refine g_iconst dX2_clear_1 ?_
  refine g_putI' (jj := 0) dX2_clear_2 (hP).ob pX2_36 rfl rfl ?_
  refine g_aload_n dX2_clear_5 rfl ?_
  refine g_iconst dX2_clear_6 ?_
  refine g_putI' (jj := 1) dX2_clear_7 (hP).ob pX2_40 rfl rfl ?_
  refine g_aload_n dX2_clear_10 rfl ?_
  refine g_iconst dX2_clear_11 ?_
  refine g_putI' (jj := 2) dX2_clear_12 (hP).ob pX2_43 rfl rfl ?_
  refine g_aload_n dX2_clear_15 rfl ?_
  refine g_iconst dX2_clear_16 ?_
  refine g_putI' (jj := 3) dX2_clear_17 (hP).ob pX2_46 rfl rfl ?_
  refine g_aload_n dX2_clear_20 rfl ?_
  refine g_iconst dX2_clear_21 ?_
  refine g_putI' (jj := 4) dX2_clear_22 (hP).ob pX2_49 rfl rfl ?_
  refine g_aload_n dX2_clear_25 rfl ?_
  refine g_iconst dX2_clear_26 ?_
  refine g_putI' (jj := 13) dX2_clear_27 (hP).ob pX2_52 rfl rfl ?_
  refine g_aload_n dX2_clear_30 rfl ?_
  refine g_iconst dX2_clear_31 ?_
  refine g_putI' (jj := 14) dX2_clear_32 (hP).ob pX2_55 rfl rfl ?_
  refine g_aload_n dX2_clear_35 rfl ?_
  refine g_getR (k' := (P + 4)) dX2_clear_36 (hP).ob fX2_21 (by decide) rfl ?_
  refine g_iconst dX2_clear_39 ?_
  refine g_callS (Y' := mJ7_fill_53178) (d' := 0) (As := [zR (P + 4), zI 1]) (rest := []) dX2_clear_40 lX2_58 vJ7_fill_53178 (by omega) rfl (Nat.le_of_ble_eq_true rfl) rfl (zC_v h (fun nu2 h => ?_))
  refine g_aload_n dX2_clear_43 rfl ?_
  refine g_getR (k' := (P + 3)) dX2_clear_44 (hP).ob fX2_18 (by decide) rfl ?_
  refine g_iconst dX2_clear_47 ?_
  refine g_callS (Y' := mJ7_fill_53178) (d' := 0) (As := [zR (P + 3), zI 0]) (rest := []) dX2_clear_48 lX2_58 vJ7_fill_53178 (by omega) rfl (Nat.le_of_ble_eq_true rfl) rfl (zC_v h (fun nu4 h => ?_))
  refine g_iconst dX2_clear_51 ?_
  refine g_istore_n dX2_clear_52 (by decide) rfl ?_
  exact g_wk (zwk_s (zwk_s zwk_n)) h
theorem sg_X2_clear_53 {K d : Nat} {mu : Mem} {Q : AV → Mem → Prop} {P a1 : Int} (hd : 1 ≤ d) (hK : 64 ≤ K) (hP : isP K P) (h : (zin a1 ∧ ((6 ≤ a1 → Q zV mu) ∧ (¬ 6 ≤ a1 → (0 ≤ ((a1 * 7) + a1) ∧ ((a1 * 7) + a1) < 42 ∧ zG K d mX2_clear 53 [zR P, zI (a1 + 1)] [] (zup mu (P + 3) ((a1 * 7) + a1) 9) Q))))) : zG K d mX2_clear 53 [zR P, zI a1] [] mu Q := by
  refine g_iload_n dX2_clear_53 rfl ?_
  refine g_bipush dX2_clear_54 rfl ?_
  obtain ⟨q1, h⟩ := h
  refine g_icmp_ge (tgt := 78) dX2_clear_56 (by decide) q1 (zin_d rfl) (fun c_ => ?_) (fun c_ => ?_)
  · have h := h.1 c_
    exact g_return dX2_clear_78 rfl h
  · have h := h.2 c_
    refine g_aload_n dX2_clear_59 rfl ?_
    refine g_getR (k' := (P + 3)) dX2_clear_60 (hP).ob fX2_18 (by decide) rfl ?_
    refine g_iload_n dX2_clear_63 rfl ?_
    refine g_bipush dX2_clear_64 rfl ?_
    refine g_imul dX2_clear_66 ?_
    refine g_iload_n dX2_clear_67 rfl ?_
    refine g_iadd dX2_clear_68 ?_
    refine g_bipush dX2_clear_69 rfl ?_
    obtain ⟨q2, h⟩ := h
    obtain ⟨q3, h⟩ := h
    refine g_iast' (nn := 42) dX2_clear_71 (hP).a3 rfl q2 q3 ?_
    refine g_iinc dX2_clear_72 rfl (by decide) rfl ?_
    refine g_goto (tgt := 53) dX2_clear_75 (by decide) ?_
    exact g_wk (zwk_s (zwk_s zwk_n)) h
theorem sg_X2_hasBehind_0 {K d : Nat} {mu : Mem} {Q : AV → Mem → Prop} {P a1 a2 : Int} (hd : 2 ≤ d) (hK : 64 ≤ K) (hP : isP K P) (h : (0 ≤ a2 ∧ a2 < 10 ∧ zin a1 ∧ zin (a1.tmod 7) ∧ zin (mu (P + 2) a2) ∧ (((a1.tmod 7) = (mu (P + 2) a2) → Q (zI 1) mu) ∧ (¬ (a1.tmod 7) = (mu (P + 2) a2) → (zin (mu P 1) ∧ ((¬ (mu P 1) = 0 → Q (zI 0) mu) ∧ ((mu P 1) = 0 → (zin (a1.tdiv 7) ∧ ((¬ (a1.tdiv 7) = (mu (P + 2) a2) → Q (zI 0) mu) ∧ ((a1.tdiv 7) = (mu (P + 2) a2) → Q (zI 1) mu)))))))))) : zG K d mX2_hasBehind 0 [zR P, zI a1, zI a2, zU] [] mu Q := by
  refine g_aload_n dX2_hasBehind_0 rfl ?_
  refine g_getR (k' := (P + 2)) dX2_hasBehind_1 (hP).ob fX2_15 (by decide) rfl ?_
  refine g_iload_n dX2_hasBehind_4 rfl ?_
  obtain ⟨q1, h⟩ := h
  obtain ⟨q2, h⟩ := h
  refine g_iald' (nn := 10) dX2_hasBehind_5 (hP).a2 rfl q1 q2 ?_
  refine g_istore_n dX2_hasBehind_6 (by decide) rfl ?_
  refine g_iload_n dX2_hasBehind_7 rfl ?_
  refine g_bipush dX2_hasBehind_8 rfl ?_
  obtain ⟨q3, h⟩ := h
  refine g_irem dX2_hasBehind_10 q3 (zin_d rfl) (by decide) ?_
  refine g_iload_n dX2_hasBehind_11 rfl ?_
  obtain ⟨q4, h⟩ := h
  obtain ⟨q5, h⟩ := h
  refine g_icmp_eq (tgt := 30) dX2_hasBehind_12 (by decide) q4 q5 (fun c_ => ?_) (fun c_ => ?_)
  · have h := h.1 c_
    refine g_iconst dX2_hasBehind_30 ?_
    refine g_goto (tgt := 35) dX2_hasBehind_31 (by decide) ?_
    exact g_zreturn dX2_hasBehind_35 rfl (by decide) h
  · have h := h.2 c_
    refine g_aload_n dX2_hasBehind_15 rfl ?_
    refine g_getI' (jj := 1) dX2_hasBehind_16 (hP).ob fX2_40 rfl rfl ?_
    obtain ⟨q6, h⟩ := h
    refine g_if_ne (tgt := 34) dX2_hasBehind_19 (by decide) q6 (fun c_ => ?_) (fun c_ => ?_)
    · have h := h.1 c_
      refine g_iconst dX2_hasBehind_34 ?_
      exact g_zreturn dX2_hasBehind_35 rfl (by decide) h
    · have h := h.2 c_
      refine g_iload_n dX2_hasBehind_22 rfl ?_
      refine g_bipush dX2_hasBehind_23 rfl ?_
      refine g_idiv dX2_hasBehind_25 q3 (zin_d rfl) (by decide) ?_
      refine g_iload_n dX2_hasBehind_26 rfl ?_
      obtain ⟨q7, h⟩ := h
      refine g_icmp_ne (tgt := 34) dX2_hasBehind_27 (by decide) q7 q5 (fun c_ => ?_) (fun c_ => ?_)
      · have h := h.1 c_
        refine g_iconst dX2_hasBehind_34 ?_
        exact g_zreturn dX2_hasBehind_35 rfl (by decide) h
      · have h := h.2 c_
        refine g_iconst dX2_hasBehind_30 ?_
        refine g_goto (tgt := 35) dX2_hasBehind_31 (by decide) ?_
        exact g_zreturn dX2_hasBehind_35 rfl (by decide) h
theorem sg_X2_holdsTogether_0 {K d : Nat} {mu : Mem} {Q : AV → Mem → Prop} {P : Int} (hd : 0 ≤ d) (hK : 64 ≤ K) (hP : isP K P) (h : (zin (mu P 3) ∧ (((mu P 3) ≤ 0 → Q (zI 0) mu) ∧ (¬ (mu P 3) ≤ 0 → (zin (mu P 13) ∧ zin (mu P 0) ∧ (((mu P 0) ≤ (mu P 13) → Q (zI 0) mu) ∧ (¬ (mu P 0) ≤ (mu P 13) → (zin (mu P 14) ∧ zin (mu P 4) ∧ (((mu P 4) ≤ (mu P 14) → Q (zI 0) mu) ∧ (¬ (mu P 4) ≤ (mu P 14) → Q (zI 1) mu)))))))))) : zG K d mX2_holdsTogether 0 [zR P] [] mu Q := by
  refine g_aload_n dX2_holdsTogether_0 rfl ?_
  refine g_getI' (jj := 3) dX2_holdsTogether_1 (hP).ob fX2_46 rfl rfl ?_
  obtain ⟨q1, h⟩ := h
  refine g_if_le (tgt := 33) dX2_holdsTogether_4 (by decide) q1 (fun c_ => ?_) (fun c_ => ?_)
  · have h := h.1 c_
    refine g_iconst dX2_holdsTogether_33 ?_
    exact g_zreturn dX2_holdsTogether_34 rfl (by decide) h
  · have h := h.2 c_
    refine g_aload_n dX2_holdsTogether_7 rfl ?_
    refine g_getI' (jj := 13) dX2_holdsTogether_8 (hP).ob fX2_52 rfl rfl ?_
    refine g_aload_n dX2_holdsTogether_11 rfl ?_
    refine g_getI' (jj := 0) dX2_holdsTogether_12 (hP).ob fX2_36 rfl rfl ?_
    obtain ⟨q2, h⟩ := h
    obtain ⟨q3, h⟩ := h
    refine g_icmp_ge (tgt := 33) dX2_holdsTogether_15 (by decide) q2 q3 (fun c_ => ?_) (fun c_ => ?_)
    · have h := h.1 c_
      refine g_iconst dX2_holdsTogether_33 ?_
      exact g_zreturn dX2_holdsTogether_34 rfl (by decide) h
    · have h := h.2 c_
      refine g_aload_n dX2_holdsTogether_18 rfl ?_
      refine g_getI' (jj := 14) dX2_holdsTogether_19 (hP).ob fX2_55 rfl rfl ?_
      refine g_aload_n dX2_holdsTogether_22 rfl ?_
      refine g_getI' (jj := 4) dX2_holdsTogether_23 (hP).ob fX2_49 rfl rfl ?_
      obtain ⟨q4, h⟩ := h
      obtain ⟨q5, h⟩ := h
      refine g_icmp_ge (tgt := 33) dX2_holdsTogether_26 (by decide) q4 q5 (fun c_ => ?_) (fun c_ => ?_)
      · have h := h.1 c_
        refine g_iconst dX2_holdsTogether_33 ?_
        exact g_zreturn dX2_holdsTogether_34 rfl (by decide) h
      · have h := h.2 c_
        refine g_iconst dX2_holdsTogether_29 ?_
        refine g_goto (tgt := 34) dX2_holdsTogether_30 (by decide) ?_
        exact g_zreturn dX2_holdsTogether_34 rfl (by decide) h
theorem sg_X2_isIn_0 {K d : Nat} {mu : Mem} {Q : AV → Mem → Prop} {P a1 a2 : Int} (hd : 0 ≤ d) (hK : 64 ≤ K) (hP : isP K P) (h : (zin (zand (zshr a1 a2) 1) ∧ (((zand (zshr a1 a2) 1) = 0 → Q (zI 0) mu) ∧ (¬ (zand (zshr a1 a2) 1) = 0 → Q (zI 1) mu)))) : zG K d mX2_isIn 0 [zR P, zI a1, zI a2] [] mu Q := by
  refine g_iload_n dX2_isIn_0 rfl ?_
  refine g_iload_n dX2_isIn_1 rfl ?_
  refine g_ishr dX2_isIn_2 (zshr_ok _ _) ?_
  refine g_iconst dX2_isIn_3 ?_
  refine g_iand dX2_isIn_4 (zand_ok _ _) ?_
  obtain ⟨q1, h⟩ := h
  refine g_if_eq (tgt := 12) dX2_isIn_5 (by decide) q1 (fun c_ => ?_) (fun c_ => ?_)
  · have h := h.1 c_
    refine g_iconst dX2_isIn_12 ?_
    exact g_zreturn dX2_isIn_13 rfl (by decide) h
  · have h := h.2 c_
    refine g_iconst dX2_isIn_8 ?_
    refine g_goto (tgt := 13) dX2_isIn_9 (by decide) ?_
    exact g_zreturn dX2_isIn_13 rfl (by decide) h
theorem sg_X2_noteSign_0 {K d : Nat} {mu : Mem} {Q : AV → Mem → Prop} {P a1 : Int} (hd : 2 ≤ d) (hK : 64 ≤ K) (hP : isP K P) (h : (zin a1 ∧ ((a1 = 6 → Q (zI 1) mu) ∧ (¬ a1 = 6 → zC K 1 mX2_noteThing [zR P, zI a1] mu (fun v_ nu3 => ∃ r2, v_ = zI r2 ∧ (zin r2 ∧ ((r2 = 0 → Q (zI 0) nu3) ∧ (¬ r2 = 0 → Q (zI 1) nu3)))))))) : zG K d mX2_noteSign 0 [zR P, zI a1] [] mu Q := by
  refine g_iload_n dX2_noteSign_0 rfl ?_
  refine g_bipush dX2_noteSign_1 rfl ?_
  obtain ⟨q1, h⟩ := h
  refine g_icmp_eq (tgt := 14) dX2_noteSign_3 (by decide) q1 (zin_d rfl) (fun c_ => ?_) (fun c_ => ?_)
  · have h := h.1 c_
    refine g_iconst dX2_noteSign_14 ?_
    refine g_goto (tgt := 19) dX2_noteSign_15 (by decide) ?_
    exact g_zreturn dX2_noteSign_19 rfl (by decide) h
  · have h := h.2 c_
    refine g_aload_n dX2_noteSign_6 rfl ?_
    refine g_iload_n dX2_noteSign_7 rfl ?_
    refine g_callV (Y' := mX2_noteThing) (d' := 1) (As := [zI a1]) (rest := []) dX2_noteSign_8 lX2_72 vX2_noteThing (by omega) (hP).ob rfl rfl (Nat.le_of_ble_eq_true rfl) rfl (zC_i h (fun r2 nu3 h => ?_))
    obtain ⟨q4, h⟩ := h
    refine g_if_eq (tgt := 18) dX2_noteSign_11 (by decide) q4 (fun c_ => ?_) (fun c_ => ?_)
    · have h := h.1 c_
      refine g_iconst dX2_noteSign_18 ?_
      exact g_zreturn dX2_noteSign_19 rfl (by decide) h
    · have h := h.2 c_
      refine g_iconst dX2_noteSign_14 ?_
      refine g_goto (tgt := 19) dX2_noteSign_15 (by decide) ?_
      exact g_zreturn dX2_noteSign_19 rfl (by decide) h
theorem sg_X2_noteThing_0 {K d : Nat} {mu : Mem} {Q : AV → Mem → Prop} {P a1 : Int} (hd : 1 ≤ d) (hK : 64 ≤ K) (hP : isP K P) (h : zC K 0 mX8_within [zI a1, zI 0, zI 5] mu (fun v_ nu2 => ∃ r1, v_ = zI r1 ∧ (zin r1 ∧ ((¬ r1 = 0 → (zin (nu2 P 13) ∧ zin a1 ∧ Q (zI 1) (zup nu2 P 13 (max (nu2 P 13) a1)))) ∧ (r1 = 0 → Q (zI 0) nu2))))) : zG K d mX2_noteThing 0 [zR P, zI a1] [] mu Q := by
  refine g_iload_n dX2_noteThing_0 rfl ?_
  refine g_iconst dX2_noteThing_1 ?_
  refine g_iconst dX2_noteThing_2 ?_
  refine g_callN (Y' := mX8_within) (d' := 0) (As := [zI a1, zI 0, zI 5]) (rest := []) (host := RX8) dX2_noteThing_3 (by decide) vX8_within (by omega) rfl (Nat.le_of_ble_eq_true rfl) rfl (zC_i h (fun r1 nu2 h => ?_))
  obtain ⟨q3, h⟩ := h
  refine g_if_ne (tgt := 11) dX2_noteThing_6 (by decide) q3 (fun c_ => ?_) (fun c_ => ?_)
  · have h := h.1 c_
    refine g_aload_n dX2_noteThing_11 rfl ?_
    refine g_aload_n dX2_noteThing_12 rfl ?_
    refine g_getI' (jj := 13) dX2_noteThing_13 (hP).ob fX2_52 rfl rfl ?_
    refine g_iload_n dX2_noteThing_16 rfl ?_
    obtain ⟨q4, h⟩ := h
    obtain ⟨q5, h⟩ := h
    refine g_max dX2_noteThing_17 lX2_79 (by omega) (Nat.le_of_ble_eq_true rfl) q4 q5 ?_
    refine g_putI' (jj := 13) dX2_noteThing_20 (hP).ob pX2_52 rfl rfl ?_
    refine g_iconst dX2_noteThing_23 ?_
    exact g_zreturn dX2_noteThing_24 rfl (by decide) h
  · have h := h.2 c_
    refine g_iconst dX2_noteThing_9 ?_
    exact g_zreturn dX2_noteThing_10 rfl (by decide) h
theorem sg_X2_pairAhead_0 {K d : Nat} {mu : Mem} {Q : AV → Mem → Prop} {P : Int} (hd : 1 ≤ d) (hK : 64 ≤ K) (hP : isP K P) (h : zC K 0 mX2_askedBack [zR P, zI 2] mu (fun v_ nu2 => ∃ r1, v_ = zI r1 ∧ zC K 0 mX2_askedBack [zR P, zI 1] nu2 (fun v_ nu4 => ∃ r3, v_ = zI r3 ∧ Q (zI ((r1 * 7) + r3)) nu4))) : zG K d mX2_pairAhead 0 [zR P] [] mu Q := by
  refine g_aload_n dX2_pairAhead_0 rfl ?_
  refine g_iconst dX2_pairAhead_1 ?_
  refine g_callV (Y' := mX2_askedBack) (d' := 0) (As := [zI 2]) (rest := []) dX2_pairAhead_2 lX2_64 vX2_askedBack (by omega) (hP).ob rfl rfl (Nat.le_of_ble_eq_true rfl) rfl (zC_i h (fun r1 nu2 h => ?_))
  refine g_bipush dX2_pairAhead_5 rfl ?_
  refine g_imul dX2_pairAhead_7 ?_
  refine g_aload_n dX2_pairAhead_8 rfl ?_
  refine g_iconst dX2_pairAhead_9 ?_
  refine g_callV (Y' := mX2_askedBack) (d' := 0) (As := [zI 1]) (rest := [zI (r1 * 7)]) dX2_pairAhead_10 lX2_64 vX2_askedBack (by omega) (hP).ob rfl rfl (Nat.le_of_ble_eq_true rfl) rfl (zC_i h (fun r3 nu4 h => ?_))
  refine g_iadd dX2_pairAhead_13 ?_
  exact g_ireturn dX2_pairAhead_14 rfl h
theorem sg_X2_remembersTwo_0 {K d : Nat} {mu : Mem} {Q : AV → Mem → Prop} {P : Int} (hd : 0 ≤ d) (hK : 64 ≤ K) (hP : isP K P) (h : (zin (mu P 1) ∧ (((mu P 1) = 0 → Q (zI 1) mu) ∧ (¬ (mu P 1) = 0 → ((¬ (mu P 1) = 3 → Q (zI 0) mu) ∧ ((mu P 1) = 3 → Q (zI 1) mu)))))) : zG K d mX2_remembersTwo 0 [zR P] [] mu Q := by
  refine g_aload_n dX2_remembersTwo_0 rfl ?_
  refine g_getI' (jj := 1) dX2_remembersTwo_1 (hP).ob fX2_40 rfl rfl ?_
  obtain ⟨q1, h⟩ := h
  refine g_if_eq (tgt := 15) dX2_remembersTwo_4 (by decide) q1 (fun c_ => ?_) (fun c_ => ?_)
  · have h := h.1 c_
    refine g_iconst dX2_remembersTwo_15 ?_
    refine g_goto (tgt := 20) dX2_remembersTwo_16 (by decide) ?_
    exact g_zreturn dX2_remembersTwo_20 rfl (by decide) h
  · have h := h.2 c_
    refine g_aload_n dX2_remembersTwo_7 rfl ?_
    refine g_getI' (jj := 1) dX2_remembersTwo_8 (hP).ob fX2_40 rfl rfl ?_
    refine g_iconst dX2_remembersTwo_11 ?_
    refine g_icmp_ne (tgt := 19) dX2_remembersTwo_12 (by decide) q1 (zin_d rfl) (fun c_ => ?_) (fun c_ => ?_)
    · have h := h.1 c_
      refine g_iconst dX2_remembersTwo_19 ?_
      exact g_zreturn dX2_remembersTwo_20 rfl (by decide) h
    · have h := h.2 c_
      refine g_iconst dX2_remembersTwo_15 ?_
      refine g_goto (tgt := 20) dX2_remembersTwo_16 (by decide) ?_
      exact g_zreturn dX2_remembersTwo_20 rfl (by decide) h
theorem sg_X2_setKind_0 {K d : Nat} {mu : Mem} {Q : AV → Mem → Prop} {P a1 : Int} (hd : 1 ≤ d) (hK : 64 ≤ K) (hP : isP K P) (h : zC K 0 mX8_within [zI a1, zI 0, zI 3] (zup mu P 1 a1) (fun v_ nu2 => ∃ r1, v_ = zI r1 ∧ ((r1 = 0 ∨ r1 = 1) ∧ Q (zI r1) nu2))) : zG K d mX2_setKind 0 [zR P, zI a1] [] mu Q := by
  refine g_aload_n dX2_setKind_0 rfl ?_
  refine g_iload_n dX2_setKind_1 rfl ?_
  refine g_putI' (jj := 1) dX2_setKind_2 (hP).ob pX2_40 rfl rfl ?_
  refine g_iload_n dX2_setKind_5 rfl ?_
  refine g_iconst dX2_setKind_6 ?_
  refine g_iconst dX2_setKind_7 ?_
  refine g_callN (Y' := mX8_within) (d' := 0) (As := [zI a1, zI 0, zI 3]) (rest := []) (host := RX8) dX2_setKind_8 (by decide) vX8_within (by omega) rfl (Nat.le_of_ble_eq_true rfl) rfl (zC_i h (fun r1 nu2 h => ?_))
  obtain ⟨q3, h⟩ := h
  exact g_zreturn dX2_setKind_11 rfl q3 h
theorem sg_X2_setParts_0 {K d : Nat} {mu : Mem} {Q : AV → Mem → Prop} {P a1 a2 : Int} (hd : 2 ≤ d) (hK : 64 ≤ K) (hP : isP K P) (h : zC K 1 mX2_noteThing [zR P, zI a1] mu (fun v_ nu2 => ∃ r1, v_ = zI r1 ∧ (zin r1 ∧ ((r1 = 0 → Q (zI 0) nu2) ∧ (¬ r1 = 0 → zC K 0 mX8_within [zI a2, zI 0, zI 9] nu2 (fun v_ nu5 => ∃ r4, v_ = zI r4 ∧ (zin r4 ∧ ((¬ r4 = 0 → (0 ≤ a1 ∧ a1 < 6 ∧ Q (zI 1) (zup nu5 (P + 4) a1 a2))) ∧ (r4 = 0 → Q (zI 0) nu5))))))))) : zG K d mX2_setParts 0 [zR P, zI a1, zI a2] [] mu Q := by
  refine g_aload_n dX2_setParts_0 rfl ?_
  refine g_iload_n dX2_setParts_1 rfl ?_
  refine g_callV (Y' := mX2_noteThing) (d' := 1) (As := [zI a1]) (rest := []) dX2_setParts_2 lX2_72 vX2_noteThing (by omega) (hP).ob rfl rfl (Nat.le_of_ble_eq_true rfl) rfl (zC_i h (fun r1 nu2 h => ?_))
  obtain ⟨q3, h⟩ := h
  refine g_if_eq (tgt := 18) dX2_setParts_5 (by decide) q3 (fun c_ => ?_) (fun c_ => ?_)
  · have h := h.1 c_
    refine g_iconst dX2_setParts_18 ?_
    exact g_zreturn dX2_setParts_19 rfl (by decide) h
  · have h := h.2 c_
    refine g_iload_n dX2_setParts_8 rfl ?_
    refine g_iconst dX2_setParts_9 ?_
    refine g_bipush dX2_setParts_10 rfl ?_
    refine g_callN (Y' := mX8_within) (d' := 0) (As := [zI a2, zI 0, zI 9]) (rest := []) (host := RX8) dX2_setParts_12 (by decide) vX8_within (by omega) rfl (Nat.le_of_ble_eq_true rfl) rfl (zC_i h (fun r4 nu5 h => ?_))
    obtain ⟨q6, h⟩ := h
    refine g_if_ne (tgt := 20) dX2_setParts_15 (by decide) q6 (fun c_ => ?_) (fun c_ => ?_)
    · have h := h.1 c_
      refine g_aload_n dX2_setParts_20 rfl ?_
      refine g_getR (k' := (P + 4)) dX2_setParts_21 (hP).ob fX2_21 (by decide) rfl ?_
      refine g_iload_n dX2_setParts_24 rfl ?_
      refine g_iload_n dX2_setParts_25 rfl ?_
      obtain ⟨q7, h⟩ := h
      obtain ⟨q8, h⟩ := h
      refine g_iast' (nn := 6) dX2_setParts_26 (hP).a4 rfl q7 q8 ?_
      refine g_iconst dX2_setParts_27 ?_
      exact g_zreturn dX2_setParts_28 rfl (by decide) h
    · have h := h.2 c_
      refine g_iconst dX2_setParts_18 ?_
      exact g_zreturn dX2_setParts_19 rfl (by decide) h
theorem sg_X2_setThings_0 {K d : Nat} {mu : Mem} {Q : AV → Mem → Prop} {P a1 : Int} (hd : 1 ≤ d) (hK : 64 ≤ K) (hP : isP K P) (h : zC K 0 mX8_within [zI a1, zI 2, zI 6] (zup mu P 0 a1) (fun v_ nu2 => ∃ r1, v_ = zI r1 ∧ ((r1 = 0 ∨ r1 = 1) ∧ Q (zI r1) nu2))) : zG K d mX2_setThings 0 [zR P, zI a1] [] mu Q := by
  refine g_aload_n dX2_setThings_0 rfl ?_
  refine g_iload_n dX2_setThings_1 rfl ?_
  refine g_putI' (jj := 0) dX2_setThings_2 (hP).ob pX2_36 rfl rfl ?_
  refine g_iload_n dX2_setThings_5 rfl ?_
  refine g_iconst dX2_setThings_6 ?_
  refine g_bipush dX2_setThings_7 rfl ?_
  refine g_callN (Y' := mX8_within) (d' := 0) (As := [zI a1, zI 2, zI 6]) (rest := []) (host := RX8) dX2_setThings_9 (by decide) vX8_within (by omega) rfl (Nat.le_of_ble_eq_true rfl) rfl (zC_i h (fun r1 nu2 h => ?_))
  obtain ⟨q3, h⟩ := h
  exact g_zreturn dX2_setThings_12 rfl q3 h
theorem sg_X2_setWorth_0 {K d : Nat} {mu : Mem} {Q : AV → Mem → Prop} {P a1 a2 a3 : Int} (hd : 3 ≤ d) (hK : 64 ≤ K) (hP : isP K P) (h : zC K 1 mX2_noteThing [zR P, zI a1] mu (fun v_ nu2 => ∃ r1, v_ = zI r1 ∧ (zin r1 ∧ ((r1 = 0 → Q (zI 0) nu2) ∧ (¬ r1 = 0 → zC K 2 mX2_noteSign [zR P, zI a2] nu2 (fun v_ nu5 => ∃ r4, v_ = zI r4 ∧ (zin r4 ∧ ((r4 = 0 → Q (zI 0) nu5) ∧ (¬ r4 = 0 → zC K 0 mX8_within [zI a3, zI 0, zI 9] nu5 (fun v_ nu8 => ∃ r7, v_ = zI r7 ∧ (zin r7 ∧ ((¬ r7 = 0 → (0 ≤ ((a1 * 7) + a2) ∧ ((a1 * 7) + a2) < 42 ∧ Q (zI 1) (zup nu8 (P + 3) ((a1 * 7) + a2) a3))) ∧ (r7 = 0 → Q (zI 0) nu8))))))))))))) : zG K d mX2_setWorth 0 [zR P, zI a1, zI a2, zI a3] [] mu Q := by
  refine g_aload_n dX2_setWorth_0 rfl ?_
  refine g_iload_n dX2_setWorth_1 rfl ?_
  refine g_callV (Y' := mX2_noteThing) (d' := 1) (As := [zI a1]) (rest := []) dX2_setWorth_2 lX2_72 vX2_noteThing (by omega) (hP).ob rfl rfl (Nat.le_of_ble_eq_true rfl) rfl (zC_i h (fun r1 nu2 h => ?_))
  obtain ⟨q3, h⟩ := h
  refine g_if_eq (tgt := 26) dX2_setWorth_5 (by decide) q3 (fun c_ => ?_) (fun c_ => ?_)
  · have h := h.1 c_
    refine g_iconst dX2_setWorth_26 ?_
    exact g_zreturn dX2_setWorth_27 rfl (by decide) h
  · have h := h.2 c_
    refine g_aload_n dX2_setWorth_8 rfl ?_
    refine g_iload_n dX2_setWorth_9 rfl ?_
    refine g_callV (Y' := mX2_noteSign) (d' := 2) (As := [zI a2]) (rest := []) dX2_setWorth_10 lX2_76 vX2_noteSign (by omega) (hP).ob rfl rfl (Nat.le_of_ble_eq_true rfl) rfl (zC_i h (fun r4 nu5 h => ?_))
    obtain ⟨q6, h⟩ := h
    refine g_if_eq (tgt := 26) dX2_setWorth_13 (by decide) q6 (fun c_ => ?_) (fun c_ => ?_)
    · have h := h.1 c_
      refine g_iconst dX2_setWorth_26 ?_
      exact g_zreturn dX2_setWorth_27 rfl (by decide) h
    · have h := h.2 c_
      refine g_iload_n dX2_setWorth_16 rfl ?_
      refine g_iconst dX2_setWorth_17 ?_
      refine g_bipush dX2_setWorth_18 rfl ?_
      refine g_callN (Y' := mX8_within) (d' := 0) (As := [zI a3, zI 0, zI 9]) (rest := []) (host := RX8) dX2_setWorth_20 (by decide) vX8_within (by omega) rfl (Nat.le_of_ble_eq_true rfl) rfl (zC_i h (fun r7 nu8 h => ?_))
      obtain ⟨q9, h⟩ := h
      refine g_if_ne (tgt := 28) dX2_setWorth_23 (by decide) q9 (fun c_ => ?_) (fun c_ => ?_)
      · have h := h.1 c_
        refine g_aload_n dX2_setWorth_28 rfl ?_
        refine g_getR (k' := (P + 3)) dX2_setWorth_29 (hP).ob fX2_18 (by decide) rfl ?_
        refine g_iload_n dX2_setWorth_32 rfl ?_
        refine g_bipush dX2_setWorth_33 rfl ?_
        refine g_imul dX2_setWorth_35 ?_
        refine g_iload_n dX2_setWorth_36 rfl ?_
        refine g_iadd dX2_setWorth_37 ?_
        refine g_iload_n dX2_setWorth_38 rfl ?_
        obtain ⟨q10, h⟩ := h
        obtain ⟨q11, h⟩ := h
        refine g_iast' (nn := 42) dX2_setWorth_39 (hP).a3 rfl q10 q11 ?_
        refine g_iconst dX2_setWorth_40 ?_
        exact g_zreturn dX2_setWorth_41 rfl (by decide) h
      · have h := h.2 c_
        refine g_iconst dX2_setWorth_26 ?_
        exact g_zreturn dX2_setWorth_27 rfl (by decide) h
theorem sg_X2_worthOf_0 {K d : Nat} {mu : Mem} {Q : AV → Mem → Prop} {P a1 a2 : Int} (hd : 0 ≤ d) (hK : 64 ≤ K) (hP : isP K P) (h : (0 ≤ ((a1 * 7) + a2) ∧ ((a1 * 7) + a2) < 42 ∧ Q (zI (mu (P + 3) ((a1 * 7) + a2))) mu)) : zG K d mX2_worthOf 0 [zR P, zI a1, zI a2] [] mu Q := by
  refine g_aload_n dX2_worthOf_0 rfl ?_
  refine g_getR (k' := (P + 3)) dX2_worthOf_1 (hP).ob fX2_18 (by decide) rfl ?_
  refine g_iload_n dX2_worthOf_4 rfl ?_
  refine g_bipush dX2_worthOf_5 rfl ?_
  refine g_imul dX2_worthOf_7 ?_
  refine g_iload_n dX2_worthOf_8 rfl ?_
  refine g_iadd dX2_worthOf_9 ?_
  obtain ⟨q1, h⟩ := h
  obtain ⟨q2, h⟩ := h
  refine g_iald' (nn := 42) dX2_worthOf_10 (hP).a3 rfl q1 q2 ?_
  exact g_ireturn dX2_worthOf_11 rfl h
