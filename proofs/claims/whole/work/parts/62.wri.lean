/-! write -/
theorem zb_gen (x c : Int64) (cu : UInt64) (s : Nat) (hs : s = 0 ∨ s = 8 ∨ s = 16 ∨ s = 24 ∨ s = 32 ∨ s = 40 ∨ s = 48 ∨ s = 56) (hc : (c.toBitVec.smod 64).toNat = s) (hcu : cu.toNat % 64 = s) : ((x.toUInt64 >>> cu).toInt64.toInt).bmod 256 = ((x >>> c) &&& 255).toInt.bmod 256 ∧ 0 ≤ ((x >>> c) &&& 255).toInt ∧ ((x >>> c) &&& 255).toInt < 256 := by
  have e1 : ((x >>> c) &&& 255).toBitVec.toNat = (x >>> c).toBitVec.toNat % 256 := by
    rw [Int64.toBitVec_and, BitVec.toNat_and]
    exact Nat.and_two_pow_sub_one_eq_mod _ 8
  have e2 : (x >>> c).toBitVec.toInt = x.toBitVec.toInt >>> s := by
    rw [Int64.toBitVec_shiftRight, BitVec.sshiftRight', BitVec.toInt_sshiftRight, hc]
  have e3 : (x.toUInt64 >>> cu).toNat = x.toBitVec.toNat >>> s := by
    rw [UInt64.toNat_shiftRight, hcu]
    rfl
  have e4 : (x.toUInt64 >>> cu).toInt64.toBitVec.toNat = x.toBitVec.toNat >>> s := e3
  rw [Int.shiftRight_eq_div_pow] at e2
  rw [Nat.shiftRight_eq_div_pow] at e4
  have f1 := BitVec.toInt_eq_toNat_cond x.toBitVec
  have f2 := BitVec.toInt_eq_toNat_cond (x >>> c).toBitVec
  have f3 := BitVec.toInt_eq_toNat_cond ((x >>> c) &&& 255).toBitVec
  have f4 := BitVec.toInt_eq_toNat_cond (x.toUInt64 >>> cu).toInt64.toBitVec
  have n1 := x.toBitVec.isLt
  have n2 := (x >>> c).toBitVec.isLt
  have g3 : ((x >>> c) &&& 255).toInt = ((x >>> c) &&& 255).toBitVec.toInt := rfl
  have g4 : (x.toUInt64 >>> cu).toInt64.toInt = (x.toUInt64 >>> cu).toInt64.toBitVec.toInt := rfl
  rw [g3, g4]
  generalize ((x >>> c) &&& 255).toBitVec.toInt = A at *
  generalize ((x >>> c) &&& 255).toBitVec.toNat = An at *
  generalize (x.toUInt64 >>> cu).toInt64.toBitVec.toInt = B at *
  generalize (x.toUInt64 >>> cu).toInt64.toBitVec.toNat = Bn at *
  generalize (x >>> c).toBitVec.toInt = C at *
  generalize (x >>> c).toBitVec.toNat = Cn at *
  generalize x.toBitVec.toInt = D at *
  generalize x.toBitVec.toNat = Dn at *
  have hm : B % 256 = A % 256 ∧ 0 ≤ A ∧ A < 256 := by
    rcases hs with rfl | rfl | rfl | rfl | rfl | rfl | rfl | rfl <;> simp only [Nat.reducePow, Int.reducePow] at * <;> split at f1 <;> split at f2 <;> split at f3 <;> split at f4 <;> omega
  refine ⟨?_, hm.2⟩
  rw [Int.bmod_def, Int.bmod_def, show B % ((256 : Nat) : Int) = B % 256 from rfl, show A % ((256 : Nat) : Int) = A % 256 from rfl, hm.1]
theorem zwb {a k : Int} (hk : 0 ≤ k ∧ k ≤ 7) : (((zlus a (8 * k)).bmod 256).bmod 256) = (zlan (zlsr a (8 * k)) 255).bmod 256 ∧ 0 ≤ zlan (zlsr a (8 * k)) 255 ∧ zlan (zlsr a (8 * k)) 255 < 256 := by
  rw [Int.bmod_bmod]
  have q : k = 0 ∨ k = 1 ∨ k = 2 ∨ k = 3 ∨ k = 4 ∨ k = 5 ∨ k = 6 ∨ k = 7 := by omega
  have e : ∀ s : Int, zlan (zlsr a s) 255 = ((z64 a >>> ((z32 s).toInt64 &&& 63)) &&& 255).toInt := fun s => by
    unfold zlan
    rw [← zlsr_ok]
    rfl
  rw [e]
  unfold zlus
  rcases q with rfl | rfl | rfl | rfl | rfl | rfl | rfl | rfl
  · exact zb_gen _ _ _ 0 (by omega) (by decide) (by decide)
  · exact zb_gen _ _ _ 8 (by omega) (by decide) (by decide)
  · exact zb_gen _ _ _ 16 (by omega) (by decide) (by decide)
  · exact zb_gen _ _ _ 24 (by omega) (by decide) (by decide)
  · exact zb_gen _ _ _ 32 (by omega) (by decide) (by decide)
  · exact zb_gen _ _ _ 40 (by omega) (by decide) (by decide)
  · exact zb_gen _ _ _ 48 (by omega) (by decide) (by decide)
  · exact zb_gen _ _ _ 56 (by omega) (by decide) (by decide)
/-- the bytes of a number from byte r down -/
def zby (a : Int) (r : Int) (i : Int) : Int := zlan (zlsr a (8 * (r - i))) 255
theorem op_write (a1 a2 : Int) (ha : zin a1) (hb : zil a2) : zOp 1 1 mX8_write mX9_write [zI a1, zJ a2] := by
  intro mu P hJ
  have hK : 64 ≤ 93 := by decide
  have hK' : 93 ≤ 93 := by decide
  have hJ0 := hJ
  obtain ⟨h1, h2, h3, h4, h5, h6, h7⟩ := hJ
  obtain ⟨⟨x1, x2, x3⟩, x4⟩ := h4
  have bad : ¬ (1 ≤ a1 ∧ a1 ≤ 8) → zC 93 1 mX9_write [zR 64, zI a1, zJ a2] mu (fun v' nu' => v' = zI (-1) ∧ ∃ P', jJ nu' P') := fun w =>
    ce_X9_write (sg_X9_write_0 (by omega) hK' ⟨ha, s_in hK' (zil_of ha) ⟨by omega, by omega⟩ ⟨by omega, by omega⟩ ⟨_, rfl, zbin _, fun c => by exfalso; split at c <;> omega, fun c => ⟨rfl, _, hJ0⟩⟩⟩)
  refine ce_X8_write (sg_X8_write_0 (by omega) hK (s_within hK ha ⟨by omega, by omega⟩ ⟨by omega, by omega⟩ ⟨_, rfl, zbin _, fun c => ?_, fun c => ⟨_, ⟨by omega, by omega⟩, rfl, bad (by split at c <;> omega)⟩⟩))
  have w : 1 ≤ a1 ∧ a1 ≤ 8 := by split at c <;> omega
  refine ⟨⟨by omega, by omega⟩, fun c2 => ?_, fun c2 => ?_⟩
  rotate_left
  · refine ⟨_, ⟨by omega, by omega⟩, rfl, ?_⟩
    exact ce_X9_write (sg_X9_write_0 (by omega) hK' ⟨ha, s_in hK' (zil_of ha) ⟨by omega, by omega⟩ ⟨by omega, by omega⟩ ⟨_, rfl, zbin _, fun c3 => ⟨⟨by omega, by omega⟩, fun c4 => absurd c4 (by omega), fun c4 => ⟨rfl, _, hJ0⟩⟩, fun c3 => by exfalso; split at c3 <;> omega⟩⟩)
  -- the class writes
  have lx : ∀ (n : Nat) (r : Int) (nu : Mem), r + 1 = n → r < a1 → zsm [0, 1] mu nu → nu 0 1 = mu 0 1 + (a1 - 1 - r) → (∀ j, j ≠ 1 → nu 0 j = mu 0 j) → (∀ i, 0 ≤ i → i < mu 0 1 → nu 1 i = mu 1 i) → (∀ i, 0 ≤ i → i < a1 - 1 - r → nu 1 (mu 0 1 + i) = (zby a2 (a1 - 1) i).bmod 256) →
      zG 93 1 mX8_write 32 [zR 0, zU, zJ a2, zU, zI r] [] nu (fun v nu => ∃ r, zin r ∧ v = zI r ∧ zC 93 1 mX9_write [zR 64, zI a1, zJ a2] nu (fun v' nu' => v' = zI r ∧ ∃ P', jJ nu' P')) := by
    intro n
    induction n with
    | zero =>
      intro r nu r0 r1 hz hl hj ho hn
      have e : r = -1 := by omega
      subst e
      refine sg_X8_write_32 (by omega) hK ⟨⟨by omega, by omega⟩, fun _ => ⟨_, ?_, rfl, ?_⟩, fun q => absurd (by omega) q⟩
      · rw [hl]
        exact ⟨by omega, by omega⟩
      rw [hl]
      have em : ∀ k : Int, k ≠ 0 → k ≠ 1 → nu k = mu k := fun k q1 q2 => hz k (by simp only [List.mem_cons, List.not_mem_nil, or_false]; omega)
      have e64 := em 64 (by decide) (by decide)
      have e65 := em 65 (by decide) (by decide)
      -- the reference writes
      have ly : ∀ (m : Nat) (s : Int) (xi : Mem), s + 1 = m → s < a1 → zsm [64, 65] nu xi → xi 64 0 = mu 0 1 + (a1 - 1 - s) → (∀ j, j ≠ 0 → xi 64 j = nu 64 j) → (∀ i, 0 ≤ i → i < mu 0 1 → xi 65 i = mu 65 i) → (∀ i, 0 ≤ i → i < a1 - 1 - s → xi 65 (mu 0 1 + i) = zby a2 (a1 - 1) i) →
          zG 93 1 mX9_write 34 [zR 64, zU, zJ a2, zU, zI s] [] xi (fun v' nu' => v' = zI (mu 0 1 + (a1 - 1 - -1)) ∧ ∃ P', jJ nu' P') := by
        intro m
        induction m with
        | zero =>
          intro s xi s0 s1 hzx hlx hjx hox hnx
          have e : s = -1 := by omega
          subst e
          refine sg_X9_write_34 (by omega) hK' ⟨⟨by omega, by omega⟩, fun _ => ⟨by rw [hlx], P, ?_⟩, fun q => absurd (by omega) q⟩
          have ex : ∀ k : Int, k ≠ 0 → k ≠ 1 → k ≠ 64 → k ≠ 65 → xi k = mu k := fun k q1 q2 q3 q4 => (hzx k (by simp only [List.mem_cons, List.not_mem_nil, or_false]; omega)).trans (em k q1 q2)
          have x0 : xi 0 = nu 0 := hzx 0 (by decide)
          have x1' : xi 1 = nu 1 := hzx 1 (by decide)
          have j0 : ∀ j, j ≠ 1 → xi 0 j = mu 0 j := fun j hjj => by rw [x0]; exact hj j hjj
          have hP : P = 4 ∨ P = 13 := by rcases h1.2 with h | h <;> omega
          have hm := h2.2.2.2.2.1.2.2
          obtain ⟨g1, g2, g3⟩ := jst (nu := xi) hP ⟨h2, h6, h7⟩ (fun k hk => ex k (by omega) (by omega) (by omega) (by omega))
          have pp : xi P = mu P := ex P (by omega) (by omega) (by omega) (by omega)
          refine ⟨h1.c (j0 3 (by decide)) (j0 4 (by decide)), g1, ?_, ⟨⟨?_, ?_, ?_⟩, fun i i0 i1 => ?_⟩, ?_, g2, g3⟩
          · rw [pp]
            exact h3.c hm (by rw [ex 22 (by decide) (by decide) (by decide) (by decide)]) (ex _ (by decide) (by decide) (by decide) (by decide)) (ex _ (by decide) (by decide) (by decide) (by decide)) (ex _ (by decide) (by decide) (by decide) (by decide)) (ex _ (by decide) (by decide) (by decide) (by decide)) (fun i _ _ => by rw [ex 77 (by decide) (by decide) (by decide) (by decide)]) (by rw [ex 78 (by decide) (by decide) (by decide) (by decide)]) (fun i _ _ => by rw [ex 79 (by decide) (by decide) (by decide) (by decide)])
          · rw [x0, hl, hlx]
          · rw [x0, hl]
            omega
          · rw [x0, hl]
            omega
          · rw [x0, hl] at i1
            rw [x1']
            by_cases q : i < mu 0 1
            · rw [ho i i0 q, hox i i0 q]
              exact x4 i i0 q
            · have n1 := hn (i - mu 0 1) (by omega) (by omega)
              have n2 := hnx (i - mu 0 1) (by omega) (by omega)
              rw [show mu 0 1 + (i - mu 0 1) = i by omega] at n1 n2
              rw [n1, n2]
              have zb := zwb (a := a2) (k := a1 - 1 - (i - mu 0 1)) (by omega)
              exact ⟨rfl, zb.2⟩
          · rw [pp]
            exact h5.c hm (j0 7 (by decide)) (by rw [hjx 16 (by decide), e64]) (fun k q1 q2 => ex k (by omega) (by omega) (by omega) (by omega)) (fun i _ => by rw [ex 77 (by decide) (by decide) (by decide) (by decide)]) (fun i _ => by rw [ex 78 (by decide) (by decide) (by decide) (by decide)]) (fun i _ => by rw [ex 79 (by decide) (by decide) (by decide) (by decide)])
        | succ m ih =>
          intro s xi s0 s1 hzx hlx hjx hox hnx
          refine sg_X9_write_34 (by omega) hK' ⟨⟨by omega, by omega⟩, fun q => absurd q (by omega), fun _ => ⟨by omega, by omega, ?_⟩⟩
          rw [hlx, zup_cell _ (by decide), hlx]
          refine ih (s + (-1)) _ (by omega) (by omega) ((hzx.up (by simp)).up (by simp)) (by rw [zup_same]; omega) (fun j hjj => by rw [zup_slot _ hjj, zup_cell _ (by decide)]; exact hjx j hjj) (fun i i0 i1 => by rw [zup_cell _ (by decide), zup_slot _ (by omega)]; exact hox i i0 i1) (fun i i0 i1 => ?_)
          rw [zup_cell _ (by decide)]
          by_cases q : i = a1 - 1 - s
          · rw [q, zup_same]
            unfold zby
            rw [show a1 - 1 - (a1 - 1 - s) = s by omega]
          · rw [zup_slot _ (by omega)]
            exact hnx i i0 (by omega)
      refine ce_X9_write (sg_X9_write_0 (by omega) hK' ⟨ha, s_in hK' (zil_of ha) ⟨by omega, by omega⟩ ⟨by omega, by omega⟩ ⟨_, rfl, zbin _, fun c3 => ⟨by rw [e64]; exact ⟨by omega, by omega⟩, fun c4 => ?_, fun c4 => by exfalso; rw [e64] at c4; omega⟩, fun c3 => by exfalso; split at c3 <;> omega⟩⟩)
      exact ly a1.toNat (a1 - 1) nu (by omega) (by omega) zsm.rf (by rw [e64]; omega) (fun _ _ => rfl) (fun i _ _ => by rw [e65]) (fun i i0 i1 => absurd i1 (by omega))
    | succ n ih =>
      intro r nu r0 r1 hz hl hj ho hn
      refine sg_X8_write_32 (by omega) hK ⟨⟨by omega, by omega⟩, fun q => absurd q (by omega), fun _ => ⟨by omega, by omega, ?_⟩⟩
      rw [hl, zup_cell _ (by decide), hl, (zwb (a := a2) (k := r) (by omega)).1]
      refine ih (r + (-1)) _ (by omega) (by omega) ((hz.up (by simp)).up (by simp)) (by rw [zup_same]; omega) (fun j hjj => by rw [zup_slot _ hjj, zup_cell _ (by decide)]; exact hj j hjj) (fun i i0 i1 => by rw [zup_cell _ (by decide), zup_slot _ (by omega)]; exact ho i i0 i1) (fun i i0 i1 => ?_)
      rw [zup_cell _ (by decide)]
      by_cases q : i = a1 - 1 - r
      · rw [q, zup_same]
        unfold zby
        rw [show a1 - 1 - (a1 - 1 - r) = r by omega]
      · rw [zup_slot _ (by omega)]
        exact hn i i0 (by omega)
  exact lx a1.toNat (a1 - 1) mu (by omega) (by omega) zsm.rf (by omega) (fun _ _ => rfl) (fun _ _ _ => rfl) (fun i i0 i1 => absurd i1 (by omega))
