/-! have, other -/
theorem zmrow_s {mu nu : Mem} {X : List Int} (hs : zsm X mu nu) (h1 : (68 : Int) ∉ X) (h2 : (69 : Int) ∉ X) (h3 : (71 : Int) ∉ X) : zmrow nu = zmrow mu := by
  funext j
  unfold zmrow
  rw [hs 68 h1, hs 69 h2, hs 71 h3]
section S50
variable {K d : Nat} {mu : Mem} {Q : AV → Mem → Prop}
theorem m_have (hd : 3 ≤ d) (hK : 93 ≤ K) (ho : zMO mu) (h : ∀ nu, zsm' [81] mu nu → Q (zI (zsum (fun i => if zgf (mu 67 0) (zmrow mu) (mu 68 0 + i + 1) = mu 71 i then 1 else 0) (mu 70 0).toNat)) nu) : zC K d mX9_have [zR 64] mu Q := by
  have hrb := zmrow_bd ho
  have l : ∀ (n : Nat) (i c : Int) (nu : Mem), 0 ≤ i → i + n = mu 70 0 → zsm' [81] mu nu → c = zsum (fun i => if zgf (mu 67 0) (zmrow mu) (mu 68 0 + i + 1) = mu 71 i then 1 else 0) i.toNat → zG K d mX9_have 4 [zR 64, zI c, zI i] [] nu Q := by
    intro n
    have hn := ho.2.2.2.1
    induction n with
    | zero =>
      intro i c nu i0 i1 hz hc
      have e : i = mu 70 0 := by omega
      subst e
      have e70 := hz.1 70 (by decide) (by decide)
      rw [hc]
      exact sg_X9_have_4 hd hK ⟨⟨by omega, by omega⟩, ⟨by rw [e70]; omega, by rw [e70]; omega⟩, fun _ => h nu hz, fun w => absurd (by rw [e70]; omega) w⟩
    | succ n ih =>
      intro i c nu i0 i1 hz hc
      have e70 := hz.1 70 (by decide) (by decide)
      have e67 := hz.1 67 (by decide) (by decide)
      have e68 := hz.1 68 (by decide) (by decide)
      have e71 := hz.1 71 (by decide) (by decide)
      have en : (i + 1).toNat = i.toNat + 1 := by omega
      have ex : ((i.toNat : Nat) : Int) = i := by omega
      have bd := zgf_bd (kind := mu 67 0) (row := zmrow mu) (many := mu 68 0 + i + 1) (fun j j0 j1 => hrb j j0 (by omega))
      have w1 := ho.2.2.2.2.2.1 i i0 (by omega)
      have hk := ho.2.1
      have ht := ho.1
      refine sg_X9_have_4 hd hK ⟨⟨by omega, by omega⟩, ⟨by rw [e70]; omega, by rw [e70]; omega⟩, fun w => absurd w (by rw [e70]; omega), fun _ => ?_⟩
      refine m_givenBy (by omega) hK (ho.c hz) (by rw [e67]; exact hk) (by rw [e70]; omega) (fun xi hx => ⟨_, rfl, ?_⟩)
      have hz2 := hz.tr hx
      rw [hz2.1 71 (by decide) (by decide), zmrow_c hz, e67, e68]
      refine ⟨i0, by omega, ⟨by omega, by omega⟩, ⟨by omega, by omega⟩, fun c1 => ?_, fun c1 => ?_⟩
      · refine ih (i + 1) (c + 0) xi (by omega) (by omega) hz2 ?_
        rw [en, zsum, ex, if_neg c1, ← hc]
      · refine ih (i + 1) (c + 1) xi (by omega) (by omega) hz2 ?_
        rw [en, zsum, ex, if_pos c1, ← hc]
  exact ce_X9_have (sg_X9_have_0 hd hK (l (mu 70 0).toNat 0 0 mu (by omega) (by have := ho.2.2.2.1; omega) zsm'.rf rfl))
theorem m_other {k : Int} (hd : 3 ≤ d) (hK : 93 ≤ K) (ho : zMO mu) (hk : zin k) (h0 : ¬ (0 ≤ k ∧ k ≤ 3) → Q (zI (-1)) mu) (h : (0 ≤ k ∧ k ≤ 3) → ∀ nu, zsm' [81] mu nu → Q (zI (zsum (fun i => if zgf (mu 67 0) (zmrow mu) (mu 68 0 + i + 1) = zgf k (zmrow mu) (mu 68 0 + i + 1) then 0 else 1) (mu 70 0).toNat)) nu) : zC K d mX9_other [zR 64, zI k] mu Q := by
  have hrb := zmrow_bd ho
  have l : (0 ≤ k ∧ k ≤ 3) → ∀ (n : Nat) (i c : Int) (nu : Mem), 0 ≤ i → i + n = mu 70 0 → zsm' [81] mu nu → c = zsum (fun i => if zgf (mu 67 0) (zmrow mu) (mu 68 0 + i + 1) = zgf k (zmrow mu) (mu 68 0 + i + 1) then 0 else 1) i.toNat → zG K d mX9_other 18 [zR 64, zI k, zI c, zI i] [] nu Q := by
    intro hk3 n
    have hn := ho.2.2.2.1
    induction n with
    | zero =>
      intro i c nu i0 i1 hz hc
      have e : i = mu 70 0 := by omega
      subst e
      have e70 := hz.1 70 (by decide) (by decide)
      rw [hc]
      exact sg_X9_other_18 hd hK ⟨⟨by omega, by omega⟩, ⟨by rw [e70]; omega, by rw [e70]; omega⟩, fun _ => h hk3 nu hz, fun w => absurd (by rw [e70]; omega) w⟩
    | succ n ih =>
      intro i c nu i0 i1 hz hc
      have e70 := hz.1 70 (by decide) (by decide)
      have e67 := hz.1 67 (by decide) (by decide)
      have e68 := hz.1 68 (by decide) (by decide)
      have en : (i + 1).toNat = i.toNat + 1 := by omega
      have ex : ((i.toNat : Nat) : Int) = i := by omega
      have bd := zgf_bd (kind := mu 67 0) (row := zmrow mu) (many := mu 68 0 + i + 1) (fun j j0 j1 => hrb j j0 (by omega))
      have bd2 := zgf_bd (kind := k) (row := zmrow mu) (many := mu 68 0 + i + 1) (fun j j0 j1 => hrb j j0 (by omega))
      refine sg_X9_other_18 hd hK ⟨⟨by omega, by omega⟩, ⟨by rw [e70]; omega, by rw [e70]; omega⟩, fun w => absurd w (by rw [e70]; omega), fun _ => ?_⟩
      refine m_givenBy (by omega) hK (ho.c hz) (by rw [e67]; exact ho.2.1) (by rw [e70]; omega) (fun xi hx => ⟨_, rfl, ?_⟩)
      have hz2 := hz.tr hx
      refine m_givenBy (by omega) hK (ho.c hz2) hk3 (by rw [hz2.1 70 (by decide) (by decide)]; omega) (fun om hy => ⟨_, rfl, ?_⟩)
      have hz3 := hz2.tr hy
      rw [zmrow_c hz, zmrow_c hz2, e67, e68, hz2.1 68 (by decide) (by decide)]
      refine ⟨⟨by omega, by omega⟩, ⟨by omega, by omega⟩, fun c1 => ?_, fun c1 => ?_⟩
      · refine ih (i + 1) (c + 0) om (by omega) (by omega) hz3 ?_
        rw [en, zsum, ex, if_pos c1, ← hc]
      · refine ih (i + 1) (c + 1) om (by omega) (by omega) hz3 ?_
        rw [en, zsum, ex, if_neg c1, ← hc]
  refine ce_X9_other (sg_X9_other_0 hd hK ⟨hk, s_in hK (zil_of hk) ⟨by omega, by omega⟩ ⟨by omega, by omega⟩ ⟨_, rfl, zbin _, fun c => ?_, fun c => ?_⟩⟩)
  · exact l (by split at c <;> omega) (mu 70 0).toNat 0 0 mu (by omega) (by have := ho.2.2.2.1; omega) zsm'.rf rfl
  · exact h0 (by split at c <;> omega)
theorem s_differing {P k : Int} (hd : 3 ≤ d) (hK : 64 ≤ K) (hP : isP K P) (ho : zPO mu P) (hk : 0 ≤ k ∧ k ≤ 3) (h : ∀ nu, zsm [39, 40, 41] mu nu → Q (zI (zsum (fun i => if zgf (mu P 1) (zrow mu P) (mu P 2 + i + 1) = zgf k (zrow mu P) (mu P 2 + i + 1) then 0 else 1) (mu P 3).toNat)) nu) : zC K d mX3_differing [zR 38, zR P, zI k] mu Q := by
  have hP2 := hP.2
  have hrb := zrow_bd ho
  have hn := ho.2.2.2.1
  have hb := ho.2.2.1
  refine ce_X3_differing (sg_X3_differing_0 hd hK hP (s_comeAsWished (by omega) hK hP ho ho.2.1 (fun nu hz w1 w2 => ⟨rfl, ?_⟩)))
  have eP : nu P = mu P := hz P (by simp only [List.mem_cons, List.not_mem_nil, or_false]; omega)
  have l : ∀ (n : Nat) (i c : Int), 0 ≤ i → i + n = mu P 3 → c = zsum (fun i => if zgf (mu P 1) (zrow mu P) (mu P 2 + i + 1) = zgf k (zrow mu P) (mu P 2 + i + 1) then 0 else 1) i.toNat → zG K d mX3_differing 14 [zR 38, zR P, zI k, zI c, zI i] [] nu Q := by
    intro n
    induction n with
    | zero =>
      intro i c i0 i1 hc
      have e : i = mu P 3 := by omega
      subst e
      rw [hc]
      exact sg_X3_differing_14 hd hK hP ⟨⟨by omega, by omega⟩, ⟨by rw [eP]; omega, by rw [eP]; omega⟩, fun _ => h nu hz, fun w => absurd (by rw [eP]; omega) w⟩
    | succ n ih =>
      intro i c i0 i1 hc
      have en : (i + 1).toNat = i.toNat + 1 := by omega
      have ex : ((i.toNat : Nat) : Int) = i := by omega
      have bd := zgf_bd (kind := mu P 1) (row := zrow mu P) (many := mu P 2 + i + 1) (fun j j0 j1 => hrb j j0 (by omega))
      have bd2 := zgf_bd (kind := k) (row := zrow mu P) (many := mu P 2 + i + 1) (fun j j0 j1 => hrb j j0 (by omega))
      refine sg_X3_differing_14 hd hK hP ⟨⟨by omega, by omega⟩, ⟨by rw [eP]; omega, by rw [eP]; omega⟩, fun w => absurd w (by rw [eP]; omega), fun _ => ?_⟩
      rw [eP]
      refine s_givesFor (n := 16) (by omega) hK (r41 hK) hk (by omega) (fun j j0 j1 => by
        rw [w2 j j0 (by omega)]
        have := hrb j j0 (by omega)
        exact ⟨by omega, by omega⟩) ⟨_, rfl, ?_⟩
      rw [zgf_congr (fun j j0 j1 => w2 j j0 (by omega)), (w1 i i0 (by omega)).2]
      refine ⟨i0, by omega, ⟨by omega, by omega⟩, ⟨by omega, by omega⟩, fun c1 => ?_, fun c1 => ?_⟩
      · refine ih (i + 1) c (by omega) (by omega) ?_
        rw [en, zsum, ex, if_pos c1.symm, ← hc]
        omega
      · refine ih (i + 1) (c + 1) (by omega) (by omega) ?_
        rw [en, zsum, ex, if_neg (fun q => c1 q.symm), ← hc]
  exact l (mu P 3).toNat 0 0 (by omega) (by omega) rfl
end S50
theorem op_have : zOp 3 3 mX8_have mX9_have [] := by
  intro mu P hJ
  have hK : 64 ≤ 93 := by decide
  have hK' : 93 ≤ 93 := by decide
  have hJ0 := hJ
  obtain ⟨h1, h2, -⟩ := hJ
  have hPi := h1.isP hK
  have hP2 := hPi.2
  obtain ⟨rfl, -⟩ := h1
  have hpo := h2.po
  have hrow := h2.row
  have hrb := zrow_bd hpo
  obtain ⟨-, ⟨k1, k2, k3⟩, ⟨b1, b2, b3⟩, ⟨n1, n2, n3⟩, -, -, hw, -⟩ := h2
  refine ce_X8_have (sg_X8_have_0 (by omega) hK ⟨hPi, s_comeAsWished (by omega) hK hPi hpo ⟨k2, k3⟩ (fun nu hz w1 w2 => ⟨rfl, ?_⟩)⟩)
  have hJ1 := hJ0.same (hz.J (by decide))
  have e : ∀ k : Int, k ≠ 39 → k ≠ 40 → k ≠ 41 → nu k = mu k := fun k q1 q2 q3 => hz k (by simp only [List.mem_cons, List.not_mem_nil, or_false]; omega)
  have e0 : nu 0 = mu 0 := e 0 (by decide) (by decide) (by decide)
  have eP : nu (mu 0 3) = mu (mu 0 3) := e _ (by omega) (by omega) (by omega)
  have e2 : nu (mu 0 3 + 2) = mu (mu 0 3 + 2) := e _ (by omega) (by omega) (by omega)
  have l : ∀ (n : Nat) (i c : Int), 0 ≤ i → i + n = mu (mu 0 3) 3 → c = zsum (fun i => if zgf (mu (mu 0 3) 1) (zrow mu (mu 0 3)) (mu (mu 0 3) 2 + i + 1) = mu (mu 0 3 + 2) i then 1 else 0) i.toNat → zG 93 3 mX8_have 22 [zR 0, zI c, zI i] [] nu (fun v nu => ∃ r, zin r ∧ v = zI r ∧ zC 93 3 mX9_have [zR 64] nu (fun v' nu' => v' = zI r ∧ ∃ P', jJ nu' P')) := by
    intro n
    induction n with
    | zero =>
      intro i c i0 i1 hc
      have ei : i = mu (mu 0 3) 3 := by omega
      subst ei
      refine sg_X8_have_22 (by omega) hK ?_
      rw [e0, eP]
      refine ⟨hPi, ⟨by omega, by omega⟩, ⟨by omega, by omega⟩, fun _ => ?_, fun w => absurd (Int.le_refl _) w⟩
      have cb := zsum_01 (f := fun i => if zgf (mu (mu 0 3) 1) (zrow mu (mu 0 3)) (mu (mu 0 3) 2 + i + 1) = mu (mu 0 3 + 2) i then 1 else 0) (fun i => by split <;> constructor <;> omega) (mu (mu 0 3) 3).toNat
      refine ⟨_, ⟨by omega, by omega⟩, rfl, ?_⟩
      refine m_have (by omega) hK' hJ1.2.1.mo (fun xi hx => ⟨?_, _, hJ1.same (hx.J (by decide))⟩)
      rw [hc, zmrow_s hz (by decide) (by decide) (by decide), e 67 (by decide) (by decide) (by decide), e 68 (by decide) (by decide) (by decide), e 70 (by decide) (by decide) (by decide), e 71 (by decide) (by decide) (by decide), ← k1, ← b1, ← n1]
      congr 1
      apply zsum_congr
      intro q q0 q1
      rw [zgf_congr (row := zmrow mu) (fun j j0 j1 => (hrow j j0 (by omega)).symm), (hw q q0 (by omega)).1]
    | succ n ih =>
      intro i c i0 i1 hc
      have en : (i + 1).toNat = i.toNat + 1 := by omega
      have ex : ((i.toNat : Nat) : Int) = i := by omega
      have bd := zgf_bd (kind := mu (mu 0 3) 1) (row := zrow mu (mu 0 3)) (many := mu (mu 0 3) 2 + i + 1) (fun j j0 j1 => hrb j j0 (by omega))
      have ww := hw i i0 (by omega)
      have wt := hpo.1
      refine sg_X8_have_22 (by omega) hK ?_
      rw [e0, eP, e2, (w1 i i0 (by omega)).2]
      refine ⟨hPi, ⟨by omega, by omega⟩, ⟨by omega, by omega⟩, fun w => absurd w (by omega), fun _ => ⟨i0, by omega, ⟨by omega, by omega⟩, ⟨by omega, by omega⟩, fun c1 => ?_, fun c1 => ?_⟩⟩
      · refine ih (i + 1) c (by omega) (by omega) ?_
        rw [en, zsum, ex, if_neg c1, ← hc]
        omega
      · refine ih (i + 1) (c + 1) (by omega) (by omega) ?_
        rw [en, zsum, ex, if_pos c1, ← hc]
  exact l (mu (mu 0 3) 3).toNat 0 0 (by omega) (by omega) rfl
theorem op_other (a1 : Int) (ha : zin a1) : zOp 4 3 mX8_other mX9_other [zI a1] := by
  intro mu P hJ
  have hK : 64 ≤ 93 := by decide
  have hK' : 93 ≤ 93 := by decide
  have hJ0 := hJ
  obtain ⟨h1, h2, -⟩ := hJ
  have hPi := h1.isP hK
  obtain ⟨rfl, -⟩ := h1
  have hpo := h2.po
  have hmo := h2.mo
  have hrow := h2.row
  obtain ⟨-, ⟨k1, k2, k3⟩, ⟨b1, b2, b3⟩, ⟨n1, n2, n3⟩, -⟩ := h2
  refine ce_X8_other (sg_X8_other_0 (by omega) hK (s_within hK ha ⟨by omega, by omega⟩ ⟨by omega, by omega⟩ ⟨_, rfl, zbin _, fun c => ?_, fun c => ?_⟩))
  · have hk3 : 0 ≤ a1 ∧ a1 ≤ 3 := by split at c <;> omega
    refine s_differing (by omega) hK hPi hpo hk3 (fun nu hz => ⟨_, rfl, _, ?_, rfl, ?_⟩)
    · have cb := zsum_01 (f := fun i => if zgf (mu (mu 0 3) 1) (zrow mu (mu 0 3)) (mu (mu 0 3) 2 + i + 1) = zgf a1 (zrow mu (mu 0 3)) (mu (mu 0 3) 2 + i + 1) then 0 else 1) (fun i => by split <;> constructor <;> omega) (mu (mu 0 3) 3).toNat
      exact ⟨by omega, by omega⟩
    · have hJ1 := hJ0.same (hz.J (by decide))
      have e : ∀ k : Int, k ≠ 39 → k ≠ 40 → k ≠ 41 → nu k = mu k := fun k q1 q2 q3 => hz k (by simp only [List.mem_cons, List.not_mem_nil, or_false]; omega)
      refine m_other (by omega) hK' hJ1.2.1.mo ha (fun w => absurd hk3 w) (fun _ xi hx => ⟨?_, _, hJ1.same (hx.J (by decide))⟩)
      rw [zmrow_s hz (by decide) (by decide) (by decide), e 67 (by decide) (by decide) (by decide), e 68 (by decide) (by decide) (by decide), e 70 (by decide) (by decide) (by decide), ← k1, ← b1, ← n1]
      congr 1
      apply zsum_congr
      intro q q0 q1
      rw [zgf_congr (kind := mu (mu 0 3) 1) (row := zmrow mu) (fun j j0 j1 => (hrow j j0 (by omega)).symm), zgf_congr (kind := a1) (row := zmrow mu) (fun j j0 j1 => (hrow j j0 (by omega)).symm)]
  · refine ⟨_, ⟨by omega, by omega⟩, rfl, ?_⟩
    exact m_other (by omega) hK' hmo ha (fun _ => ⟨rfl, _, hJ0⟩) (fun w => by split at c <;> omega)
