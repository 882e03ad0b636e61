/-! the operation swaps -/
theorem zsum_z : ∀ m : Nat, zsum (fun _ => 0) m = 0 := by
  intro m
  induction m with
  | zero => rfl
  | succ m ih => unfold zsum; omega
theorem zph_nn {W w h : Int → Int} {n : Int} (hc : zWw W w n) (hh : zhb h n) : 0 ≤ zph W w h n := by
  unfold zph
  have := zsum_le (f := fun _ => 0) (g := fun k => W (w k * 7 + h k)) n.toNat (fun i i0 i1 => by
    have h1 := hc.1
    have a := hc.2.2 i i0 (by omega)
    have b := hh i i0 (by omega)
    exact (hc.2.1 _ (by omega) (by omega)).1)
  rw [zsum_z] at this
  exact this
theorem m_swaps {W w : Int → Int} {K d : Nat} {mu : Mem} {Q : AV → Mem → Prop} {n a1 : Int} (hd : 3 ≤ d) (hK : 93 ≤ K) (ho : zMO mu) (hc : zWw W w n) (hi : zin a1) (en : mu 70 0 = n) (eW : ∀ q, 0 ≤ q → q < 42 → mu 72 q = W q) (ew : ∀ q, 0 ≤ q → q < n → mu 71 q = w q) {h : Int → Int} (hh : zhb h n) (eh : ∀ q, 0 ≤ q → q < n → zgf (mu 67 0) (zmrow mu) (mu 68 0 + q + 1) = h q)
    (h0 : ¬ (a1 = -1 ∨ (0 ≤ a1 ∧ a1 < n)) → Q (zI (-1)) mu) (k : (a1 = -1 ∨ (0 ≤ a1 ∧ a1 < n)) → ∀ xi, zsm' [81, 86] mu xi → Q (zI (if a1 = -1 then (zit W w n 45 h 0).1 else (zit W w n 45 h 0).2 a1)) xi) : zC K d mX9_swaps [zR 64, zI a1] mu Q := by
  have h10 := hc.1
  have h45 : 90 - zph W w h n ≤ 2 * (45 : Nat) := by
    have := zph_nn hc hh
    omega
  have l : (a1 = -1 ∨ (0 ≤ a1 ∧ a1 < n)) → ∀ (m : Nat) (q : Int) (nu : Mem), 0 ≤ q → q + m = n → zsm' [81, 86] mu nu → (∀ j, 0 ≤ j → j < q → nu 86 j = h j) → zG K d mX9_swaps 17 [zR 64, zI a1, zI q] [] nu Q := by
    intro ha m
    induction m with
    | zero =>
      intro q nu q0 q1 hz h1
      have e : q = n := by omega
      subst e
      have e70 := hz.1 70 (by decide) (by decide)
      exact sg_X9_swaps_17 hd hK ⟨⟨by omega, by omega⟩, ⟨by rw [e70]; omega, by rw [e70]; omega⟩, fun _ => m_swapsLoop hd hK hc ha en eW ew 45 h 0 nu hh h45 hz h1 (k ha), fun c => absurd (by rw [e70]; omega) c⟩
    | succ m ih =>
      intro q nu q0 q1 hz h1
      have e70 := hz.1 70 (by decide) (by decide)
      have mo : zMO nu := by
        unfold zMO at ho ⊢
        rw [hz.1 66 (by decide) (by decide), hz.1 67 (by decide) (by decide), hz.1 68 (by decide) (by decide), hz.1 69 (by decide) (by decide), hz.1 70 (by decide) (by decide), hz.1 71 (by decide) (by decide), hz.1 72 (by decide) (by decide)]
        exact ho
      have er : zmrow nu = zmrow mu := by
        funext j
        unfold zmrow
        rw [hz.1 68 (by decide) (by decide), hz.1 69 (by decide) (by decide), hz.1 71 (by decide) (by decide)]
      refine sg_X9_swaps_17 hd hK ⟨⟨by omega, by omega⟩, ⟨by rw [e70]; omega, by rw [e70]; omega⟩, fun c => absurd c (by rw [e70]; omega), fun _ => ?_⟩
      refine m_givenBy (by omega) hK mo mo.2.1 (by rw [e70]; omega) (fun xi hx => ⟨_, rfl, q0, by omega, ?_⟩)
      rw [er, hz.1 67 (by decide) (by decide), hz.1 68 (by decide) (by decide), eh q q0 (by omega)]
      have hx2 : zsm' [81, 86] mu xi := hz.tr (hx.wk (by simp))
      refine ih (q + 1) _ (by omega) (by omega) (hx2.up (by simp) (by decide)) (fun j j0 j1 => ?_)
      by_cases hj : j = q
      · rw [hj, zup_same]
      · rw [zup_slot _ hj, hx.1 86 (by decide) (by decide)]
        exact h1 j j0 (by omega)
  refine ce_X9_swaps (sg_X9_swaps_0 hd hK ⟨hi, fun c => l (Or.inl c) n.toNat 0 mu (by omega) (by omega) zsm'.rf (fun j j0 j1 => absurd j1 (by omega)), fun c => m_isWish (by omega) hK hi (by omega) ⟨_, rfl, zbin _, fun c2 => ?_, fun c2 => ?_⟩⟩)
  · exact l (Or.inr (by split at c2 <;> omega)) n.toNat 0 mu (by omega) (by omega) zsm'.rf (fun j j0 j1 => absurd j1 (by omega))
  · exact h0 (by split at c2 <;> omega)
theorem op_swaps (a1 : Int) (ha : zin a1) : zOp 4 3 mX8_swaps mX9_swaps [zI a1] := by
  intro mu P hJ
  have hK : 64 ≤ 93 := by decide
  have hK' : 93 ≤ 93 := by decide
  have hJ0 := hJ
  obtain ⟨h1, h2, -⟩ := hJ
  have hPi := h1.isP hK
  have hP2 := hPi.2
  obtain ⟨rfl, -⟩ := h1
  have hpo := h2.po
  have hmo := h2.mo
  have hrow := h2.row
  have hrb := zrow_bd hpo
  have ht := hpo.1
  obtain ⟨-, ⟨k1, k2, k3⟩, ⟨b1, b2, b3⟩, ⟨n1, n2, n3⟩, -, -, hw, hv, -⟩ := h2
  have hc : zWw (mu (mu 0 3 + 3)) (mu (mu 0 3 + 2)) (mu (mu 0 3) 3) := ⟨⟨n2, n3⟩, hpo.2.2.2.2.2.2, fun i i0 i1 => by have := hpo.2.2.2.2.2.1 i i0 i1; omega⟩
  have hh : zhb (fun q => zgf (mu (mu 0 3) 1) (zrow mu (mu 0 3)) (mu (mu 0 3) 2 + q + 1)) (mu (mu 0 3) 3) := fun i i0 i1 => zgf_bd (fun j j0 j1 => hrb j j0 (by omega))
  have h45 : 90 - zph (mu (mu 0 3 + 3)) (mu (mu 0 3 + 2)) (fun q => zgf (mu (mu 0 3) 1) (zrow mu (mu 0 3)) (mu (mu 0 3) 2 + q + 1)) (mu (mu 0 3) 3) ≤ 2 * (45 : Nat) := by
    have := zph_nn hc hh
    omega
  have fin : (a1 = -1 ∨ (0 ≤ a1 ∧ a1 < mu (mu 0 3) 3)) → zC 93 2 mX3_comeAsWished [zR 38, zR (mu 0 3), zI (mu (mu 0 3) 1)] mu (fun v_ nu4 => v_ = zV ∧ zC 93 3 mX3_swapTillNobodyGains [zR 38, zR (nu4 0 3)] nu4 (fun v_ nu6 => ∃ r5, v_ = zI r5 ∧ ((¬ a1 = (-1) → (0 ≤ a1 ∧ a1 < 10 ∧ ∃ r, zin r ∧ zI (nu6 40 a1) = zI r ∧ zC 93 3 mX9_swaps [zR 64, zI a1] nu6 (fun v' nu' => v' = zI r ∧ ∃ P', jJ nu' P'))) ∧ (a1 = (-1) → ∃ r, zin r ∧ zI r5 = zI r ∧ zC 93 3 mX9_swaps [zR 64, zI a1] nu6 (fun v' nu' => v' = zI r ∧ ∃ P', jJ nu' P'))))) := fun hi => by
    refine s_comeAsWished (by omega) hK hPi hpo ⟨k2, k3⟩ (fun nu hz w1 w2 => ⟨rfl, ?_⟩)
    have e : ∀ k : Int, k ≠ 39 → k ≠ 40 → k ≠ 41 → nu k = mu k := fun k q1 q2 q3 => hz k (by simp only [List.mem_cons, List.not_mem_nil, or_false]; omega)
    rw [e 0 (by decide) (by decide) (by decide)]
    refine ce_X3_swapTillNobodyGains (sg_X3_swapTillNobodyGains_0 (by omega) hK hPi ?_)
    refine s_swapTill (mu := nu) (by omega) hK hPi hc (by rw [e _ (by omega) (by omega) (by omega)]) (fun q _ _ => by rw [e (mu 0 3 + 3) (by omega) (by omega) (by omega)]) (fun q _ _ => by rw [e (mu 0 3 + 2) (by omega) (by omega) (by omega)]) 45 (fun q => zgf (mu (mu 0 3) 1) (zrow mu (mu 0 3)) (mu (mu 0 3) 2 + q + 1)) 0 nu hh (by omega) (by omega) h45 zsm.rf (fun q q0 q1 => (w1 q q0 q1).2) (fun xi hx x1 x2 x3 x4 => ⟨_, rfl, ?_⟩)
    have hz2 : zsm [39, 40, 41] mu xi := hz.tr (hx.wk (by simp))
    have hJ1 := hJ0.same (hz2.J (by decide))
    have ex : ∀ k : Int, 64 ≤ k → xi k = mu k := fun k hk => hz2 k (by simp only [List.mem_cons, List.not_mem_nil, or_false]; omega)
    have em : ∀ r : Int, r = (if a1 = -1 then (zit (mu (mu 0 3 + 3)) (mu (mu 0 3 + 2)) (mu (mu 0 3) 3) 45 (fun q => zgf (mu (mu 0 3) 1) (zrow mu (mu 0 3)) (mu (mu 0 3) 2 + q + 1)) 0).1 else (zit (mu (mu 0 3 + 3)) (mu (mu 0 3 + 2)) (mu (mu 0 3) 3) 45 (fun q => zgf (mu (mu 0 3) 1) (zrow mu (mu 0 3)) (mu (mu 0 3) 2 + q + 1)) 0).2 a1) → zC 93 3 mX9_swaps [zR 64, zI a1] xi (fun v' nu' => v' = zI r ∧ ∃ P', jJ nu' P') := fun r hr => by
      refine m_swaps (by omega) hK' hJ1.2.1.mo hc ha (by rw [ex 70 (by omega), n1]) (fun q q0 q1 => by rw [ex 72 (by omega)]; exact (hv q q0 q1).1.symm) (fun q q0 q1 => by rw [ex 71 (by omega)]; exact (hw q q0 q1).1.symm) hh (fun q q0 q1 => ?_) (fun c => absurd hi c) (fun _ om hom => ⟨by rw [hr], _, hJ1.same (hom.J (by decide))⟩)
      have er : zmrow xi = zmrow mu := by
        funext j
        unfold zmrow
        rw [ex 68 (by omega), ex 69 (by omega), ex 71 (by omega)]
      rw [er, ex 67 (by omega), ex 68 (by omega), ← k1, ← b1, zgf_congr (row := zmrow mu) (fun j j0 j1 => (hrow j j0 (by omega)).symm)]
    refine ⟨fun c => ⟨by omega, by omega, _, ?_, rfl, em _ (by rw [if_neg c, x1 a1 (by omega) (by omega)])⟩, fun c => ⟨_, ⟨by omega, by omega⟩, rfl, em _ (by rw [if_pos c])⟩⟩
    rw [x1 a1 (by omega) (by omega)]
    have := x4 a1 (by omega) (by omega)
    exact ⟨by omega, by omega⟩
  refine ce_X8_swaps (sg_X8_swaps_0 (by omega) hK ⟨ha, fun c => ⟨hPi, fin (Or.inl c)⟩, fun c => s_isQueued (by omega) hK hPi ha ⟨n2, n3⟩ ⟨_, rfl, zbin _, fun c2 => ⟨hPi, fin (Or.inr (by split at c2 <;> omega))⟩, fun c2 => ?_⟩⟩)
  refine ⟨_, ⟨by omega, by omega⟩, rfl, ?_⟩
  refine m_swaps (by omega) hK' hmo hc ha (by rw [n1]) (fun q q0 q1 => (hv q q0 q1).1.symm) (fun q q0 q1 => (hw q q0 q1).1.symm) hh (fun q q0 q1 => ?_) (fun _ => ⟨rfl, _, hJ0⟩) (fun w => ?_)
  · rw [← k1, ← b1, zgf_congr (row := zmrow mu) (fun j j0 j1 => (hrow j j0 (by omega)).symm)]
  · split at c2 <;> omega
