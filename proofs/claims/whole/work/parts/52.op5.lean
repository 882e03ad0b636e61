/-! the operations asks, otherwise -/
/-- class's and reference's rows are the same -/
theorem zar_eq {kind : Int} {N : Nat} {W W' w w' R0 R0' : Int → Int} {ac n : Int} (hac : 0 ≤ ac) (hN : N ≤ 6) (hR : ∀ j, 0 ≤ j → j < ac + n → 0 ≤ R0 j ∧ R0 j < 6) (hw : ∀ i, 0 ≤ i → i < n → 0 ≤ w i ∧ w i < N) (eR : ∀ j, 0 ≤ j → j < ac + n → R0 j = R0' j) (ew : ∀ i, 0 ≤ i → i < n → w i = w' i) (eW : ∀ i, 0 ≤ i → i < 42 → W i = W' i) :
    ∀ i : Nat, i ≤ n → ∀ j, 0 ≤ j → j < ac + n → zar kind N W w R0 ac i j = zar kind N W' w' R0' ac i j
  | 0, _ => eR
  | i + 1, hi => fun j j0 j1 => by
    have ih := zar_eq (kind := kind) hac hN hR hw eR ew eW i (by omega)
    have hb := zar_bd (kind := kind) (N := N) (W := W) (w := w) (R0 := R0) (ac := ac) (n := n) hN hR hw i (by omega)
    have w0 := hw i (by omega) (by omega)
    have key : ∀ x : Int, 0 ≤ x → x < N → zbv kind W (zar kind N W w R0 ac i) (ac + i) (w i) x = zbv kind W' (zar kind N W' w' R0' ac i) (ac + i) (w i) x := fun x x0 x1 => by
      unfold zbv
      have c : zgf kind (zup1 (zar kind N W w R0 ac i) (ac + i) x) (ac + i + 1) = zgf kind (zup1 (zar kind N W' w' R0' ac i) (ac + i) x) (ac + i + 1) := zgf_congr (fun q q0 q1 => by
        unfold zup1
        split
        · rfl
        · exact ih q q0 (by omega))
      have g := zgf_bd (kind := kind) (row := zup1 (zar kind N W w R0 ac i) (ac + i) x) (many := ac + i + 1) (zup1_bd (fun q q0 q1 => hb q q0 (by omega)) (by omega) (Int.le_refl _))
      rw [← c]
      exact eW _ (by omega) (by omega)
    unfold zar
    rw [← ew i (by omega) (by omega), zba_congr (key (w i) w0.1 w0.2) N key]
    unfold zup1
    split
    · rfl
    · exact ih j j0 j1
section S52
variable {K d : Nat} {mu : Mem} {Q : AV → Mem → Prop}
/-- the reference's row behind i of the queue -/
def zma (mu : Mem) (i : Nat) : Int → Int := zar (mu 67 0) (mu 66 0).toNat (mu 72) (mu 71) (zmrow mu) (mu 68 0) i
theorem zma_bd {mu : Mem} (ho : zMO mu) : ∀ i : Nat, i ≤ mu 70 0 → ∀ j, 0 ≤ j → j < mu 68 0 + mu 70 0 → 0 ≤ zma mu i j ∧ zma mu i j < 6 := by
  have ht := ho.1
  exact zar_bd (by omega) (zmrow_bd ho) (fun i i0 i1 => by have := ho.2.2.2.2.2.1 i i0 i1; omega)
theorem zma_c {mu nu : Mem} (hs : zsm' [81] mu nu) (i : Nat) : zma nu i = zma mu i := by
  unfold zma
  rw [zmrow_c hs, hs.1 66 (by decide) (by decide), hs.1 67 (by decide) (by decide), hs.1 68 (by decide) (by decide), hs.1 71 (by decide) (by decide), hs.1 72 (by decide) (by decide)]
/-- one step of the reference -/
theorem m_askNext {i : Int} (hd : 2 ≤ d) (hK : 93 ≤ K) {nu : Mem} (ho : zMO mu) (hz : zsm' [81] mu nu) (hi : 0 ≤ i ∧ i < mu 70 0) (h22 : nu 64 22 = mu 68 0 + i) (h81 : ∀ j, 0 ≤ j → j < mu 68 0 + i → nu 81 j = zma mu i.toNat j)
    (h : ∀ xi, zsm' [81] mu xi → xi 64 22 = mu 68 0 + (i + 1) → (∀ j, 0 ≤ j → j < mu 68 0 + (i + 1) → xi 81 j = zma mu (i.toNat + 1) j) → Q (zI (zma mu (i.toNat + 1) (mu 68 0 + i))) xi) : zC K d mX9_askFor [zR 64, zI (mu 71 i)] nu Q := by
  have hb := ho.2.2.1
  have hn := ho.2.2.2.1
  have ex : ((i.toNat : Nat) : Int) = i := by omega
  have est : zma mu (i.toNat + 1) = zup1 (zma mu i.toNat) (mu 68 0 + i) (zba (zbv (mu 67 0) (mu 72) (zma mu i.toNat) (mu 68 0 + i) (mu 71 i)) (mu 71 i) (mu 66 0).toNat).1 := by
    unfold zma
    rw [zar, ex]
  refine m_askFor (a := mu 68 0 + i) (R := zma mu i.toNat) hd hK (ho.c hz) (by omega) h22 (by rw [hz.1 66 (by decide) (by decide)]; exact ho.2.2.2.2.2.1 i hi.1 hi.2) (fun j j0 j1 => zma_bd ho i.toNat (by omega) j j0 (by omega)) h81 (fun xi hx h1 h2 => ?_)
  rw [hz.1 66 (by decide) (by decide), hz.1 67 (by decide) (by decide), hz.1 72 (by decide) (by decide)] at h2 ⊢
  have h3 := h xi (hz.tr hx) (by omega) (fun j j0 j1 => by rw [h2 j j0 (by omega), est])
  rw [est] at h3
  unfold zup1 at h3
  rw [if_pos rfl] at h3
  exact h3
theorem m_asks {i what : Int} (hd : 3 ≤ d) (hK : 93 ≤ K) (ho : zMO mu) (hi : zin i) (hw : zin what) (h0 : ¬ ((0 ≤ i ∧ i ≤ mu 70 0 - 1) ∧ (0 ≤ what ∧ what ≤ 1)) → Q (zI (-1)) mu)
    (h : 0 ≤ i → i < mu 70 0 → 0 ≤ what → what ≤ 1 → ∀ nu, zsm' [81] mu nu → Q (zI (if what = 0 then zma mu (i.toNat + 1) (mu 68 0 + i) else zgf (mu 67 0) (zma mu (i.toNat + 1)) (mu 68 0 + i + 1))) nu) : zC K d mX9_asks [zR 64, zI i, zI what] mu Q := by
  have hb := ho.2.2.1
  have hn := ho.2.2.2.1
  have l : 0 ≤ i → i < mu 70 0 → 0 ≤ what → what ≤ 1 → ∀ (n : Nat) (q x : Int) (nu : Mem), 0 ≤ q → q + n = i + 1 → (1 ≤ q → x = zma mu q.toNat (mu 68 0 + (q - 1))) → zsm' [81] mu nu → nu 64 22 = mu 68 0 + q → (∀ j, 0 ≤ j → j < mu 68 0 + q → nu 81 j = zma mu q.toNat j) → zG K d mX9_asks 29 [zR 64, zI i, zI what, zI x, zI q] [] nu Q := by
    intro i0 i1 w0 w1 n
    induction n with
    | zero =>
      intro q x nu q0 q1 hx hz h22 h81
      have e : q = i + 1 := by omega
      subst e
      have en : (i + 1).toNat = i.toNat + 1 := by omega
      have hx := hx (by omega)
      rw [en, show i + 1 - 1 = i by omega] at hx
      rw [en] at h81
      have hh := h i0 i1 w0 w1
      refine sg_X9_asks_29 hd hK ⟨⟨by omega, by omega⟩, hi, fun _ => ⟨hw, fun c => ?_, fun c => ?_⟩, fun c => absurd (by omega) c⟩
      · rw [if_neg c] at hh
        rw [hz.1 67 (by decide) (by decide)]
        refine s_gives (by omega) hK (by omega) ho.2.1 (fun j j0 j1 => by
          rw [h81 j j0 (by omega)]
          have := zma_bd ho (i.toNat + 1) (by omega) j j0 (by omega)
          exact ⟨by omega, by omega⟩) ⟨_, rfl, ?_⟩
        rw [h22, zgf_congr (fun j j0 j1 => h81 j j0 (by omega)), show mu 68 0 + (i + 1) = mu 68 0 + i + 1 by omega]
        exact hh nu hz
      · rw [if_pos c] at hh
        rw [hx]
        exact hh nu hz
    | succ n ih =>
      intro q x nu q0 q1 hx hz h22 h81
      refine sg_X9_asks_29 hd hK ⟨⟨by omega, by omega⟩, hi, fun c => absurd c (by omega), fun _ => ⟨q0, by omega, ?_⟩⟩
      rw [hz.1 71 (by decide) (by decide)]
      refine m_askNext (by omega) hK ho hz ⟨q0, by omega⟩ h22 h81 (fun xi hx1 hx2 hx3 => ⟨_, rfl, ?_⟩)
      have en : (q + 1).toNat = q.toNat + 1 := by omega
      exact ih (q + 1) _ xi (by omega) (by omega) (fun _ => by rw [en, show q + 1 - 1 = q by omega]) hx1 hx2 (by rw [en]; exact hx3)
  refine ce_X9_asks (sg_X9_asks_0 hd hK (m_isWish (by omega) hK hi (by omega) ⟨_, rfl, zbin _, fun c => h0 (fun w => by split at c <;> omega), fun c => ⟨hw, s_in hK (zil_of hw) ⟨by omega, by omega⟩ ⟨by omega, by omega⟩ ⟨_, rfl, zbin _, fun c2 => ?_, fun c2 => h0 (fun w => by split at c2 <;> omega)⟩⟩⟩))
  have ci : 0 ≤ i ∧ i < mu 70 0 := by split at c <;> omega
  have cw : 0 ≤ what ∧ what ≤ 1 := by split at c2 <;> omega
  refine m_beginRow hK (by omega) (fun nu hz h22 h1 => ⟨rfl, ?_⟩)
  refine l ci.1 ci.2 cw.1 cw.2 (i + 1).toNat 0 0 nu (by omega) (by omega) (fun w => absurd w (by omega)) hz (by omega) (fun j j0 j1 => ?_)
  rw [h1 j j0 (by omega)]
  show _ = zmrow mu j
  unfold zmrow
  rw [if_pos (by omega)]
theorem m_otherwise (hd : 3 ≤ d) (hK : 93 ≤ K) (ho : zMO mu) (h : ∀ nu, zsm' [81] mu nu → Q (zI (zsum (fun i => if zma mu (i.toNat + 1) (mu 68 0 + i) = mu 71 i then 0 else 1) (mu 70 0).toNat)) nu) : zC K d mX9_otherwise [zR 64] mu Q := by
  have hb := ho.2.2.1
  have hn := ho.2.2.2.1
  have ht := ho.1
  have l : ∀ (n : Nat) (q c : Int) (nu : Mem), 0 ≤ q → q + n = mu 70 0 → c = zsum (fun i => if zma mu (i.toNat + 1) (mu 68 0 + i) = mu 71 i then 0 else 1) q.toNat → zsm' [81] mu nu → nu 64 22 = mu 68 0 + q → (∀ j, 0 ≤ j → j < mu 68 0 + q → nu 81 j = zma mu q.toNat j) → zG K d mX9_otherwise 8 [zR 64, zI c, zI q] [] nu Q := by
    intro n
    induction n with
    | zero =>
      intro q c nu q0 q1 hc hz h22 h81
      have e : q = mu 70 0 := by omega
      subst e
      have e70 := hz.1 70 (by decide) (by decide)
      rw [hc]
      exact sg_X9_otherwise_8 hd hK ⟨⟨by omega, by omega⟩, ⟨by rw [e70]; omega, by rw [e70]; omega⟩, fun _ => h nu hz, fun w => absurd (by rw [e70]; omega) w⟩
    | succ n ih =>
      intro q c nu q0 q1 hc hz h22 h81
      have e70 := hz.1 70 (by decide) (by decide)
      have en : (q + 1).toNat = q.toNat + 1 := by omega
      have ex : ((q.toNat : Nat) : Int) = q := by omega
      have w0 := ho.2.2.2.2.2.1 q q0 (by omega)
      have bb := zma_bd ho (q.toNat + 1) (by omega) (mu 68 0 + q) (by omega) (by omega)
      refine sg_X9_otherwise_8 hd hK ⟨⟨by omega, by omega⟩, ⟨by rw [e70]; omega, by rw [e70]; omega⟩, fun w => absurd w (by rw [e70]; omega), fun _ => ⟨q0, by omega, ?_⟩⟩
      rw [hz.1 71 (by decide) (by decide)]
      refine m_askNext (by omega) hK ho hz ⟨q0, by omega⟩ h22 h81 (fun xi hx1 hx2 hx3 => ⟨_, rfl, ?_⟩)
      rw [hx1.1 71 (by decide) (by decide)]
      refine ⟨⟨by omega, by omega⟩, ⟨by omega, by omega⟩, fun c1 => ?_, fun c1 => ?_⟩
      · refine ih (q + 1) (c + 0) xi (by omega) (by omega) ?_ hx1 hx2 (by rw [en]; exact hx3)
        rw [en, zsum, ex, if_pos c1, ← hc]
      · refine ih (q + 1) (c + 1) xi (by omega) (by omega) ?_ hx1 hx2 (by rw [en]; exact hx3)
        rw [en, zsum, ex, if_neg c1, ← hc]
  refine ce_X9_otherwise (sg_X9_otherwise_0 hd hK (m_beginRow hK (by omega) (fun nu hz h22 h1 => ⟨rfl, ?_⟩)))
  refine l (mu 70 0).toNat 0 0 nu (by omega) (by omega) rfl hz (by omega) (fun j j0 j1 => ?_)
  rw [h1 j j0 (by omega)]
  show _ = zmrow mu j
  unfold zmrow
  rw [if_pos (by omega)]
end S52
/-- the class's row is the reference's -/
theorem jPl.ar {mu : Mem} {P : Int} (h : jPl mu P) : ∀ i : Nat, i ≤ mu P 3 → ∀ j, 0 ≤ j → j < mu P 2 + mu P 3 → zar (mu P 1) (mu P 0).toNat (mu (P + 3)) (mu (P + 2)) (zrow mu P) (mu P 2) i j = zma mu i j := by
  have hpo := h.po
  have hrow := h.row
  have ht := hpo.1
  obtain ⟨⟨t1, -, -⟩, ⟨k1, k2, k3⟩, ⟨b1, b2, b3⟩, ⟨n1, n2, n3⟩, -, -, hw, hv, -⟩ := h
  unfold zma
  rw [← t1, ← k1, ← b1]
  exact zar_eq b2 (by omega) (zrow_bd hpo) (fun i i0 i1 => by have := hpo.2.2.2.2.2.1 i i0 i1; omega) hrow (fun i i0 i1 => (hw i i0 i1).1) (fun i i0 i1 => (hv i i0 i1).1)
theorem zma_s {mu nu : Mem} {X : List Int} (hs : zsm X mu nu) (hX : ∀ k ∈ X, k < 64) (i : Nat) : zma nu i = zma mu i := by
  have e : ∀ k : Int, 64 ≤ k → nu k = mu k := fun k hk => hs k (fun q => by have := hX k q; omega)
  unfold zma zmrow
  rw [e 66 (by omega), e 67 (by omega), e 68 (by omega), e 69 (by omega), e 71 (by omega), e 72 (by omega)]
theorem op_asks (a1 a2 : Int) (ha : zin a1) (hb : zin a2) : zOp 5 3 mX8_asks mX9_asks [zI a1, zI a2] := by
  intro mu P hJ
  have hK : 64 ≤ 93 := by decide
  have hK' : 93 ≤ 93 := by decide
  have hJ0 := hJ
  obtain ⟨h1, h2, -⟩ := hJ
  have hPi := h1.isP hK
  obtain ⟨rfl, -⟩ := h1
  have hpo := h2.po
  have hmo := h2.mo
  have har := h2.ar
  obtain ⟨-, ⟨k1, k2, k3⟩, ⟨b1, b2, b3⟩, ⟨n1, n2, n3⟩, -⟩ := h2
  refine ce_X8_asks (sg_X8_asks_0 (by omega) hK (s_isQueued (by omega) hK hPi ha ⟨n2, n3⟩ ⟨_, rfl, zbin _, fun c => ?_, fun c => s_within hK hb ⟨by omega, by omega⟩ ⟨by omega, by omega⟩ ⟨_, rfl, zbin _, fun c2 => ?_, fun c2 => ?_⟩⟩))
  · refine ⟨_, ⟨by omega, by omega⟩, rfl, m_asks (by omega) hK' hmo ha hb (fun _ => ⟨rfl, _, hJ0⟩) (fun w1 w2 => ?_)⟩
    split at c <;> omega
  · have ci : 0 ≤ a1 ∧ a1 < mu (mu 0 3) 3 := by split at c <;> omega
    have cw : 0 ≤ a2 ∧ a2 ≤ 1 := by split at c2 <;> omega
    refine s_comeForThemselves (by omega) hK hPi hpo (fun nu hz w1 => ⟨rfl, hb, ?_⟩)
    have hJ1 := hJ0.same (hz.J (by decide))
    have e : ∀ k : Int, 64 ≤ k → nu k = mu k := fun k hk => hz k (by simp only [List.mem_cons, List.not_mem_nil, or_false]; omega)
    obtain ⟨v1, v2⟩ := w1 a1 ci.1 ci.2
    have bb := zma_bd hmo (a1.toNat + 1) (by omega) (mu 68 0 + a1) (by omega) (by omega)
    have gb := zgf_bd (kind := mu 67 0) (row := zma mu (a1.toNat + 1)) (many := mu 68 0 + a1 + 1) (fun j j0 j1 => zma_bd hmo (a1.toNat + 1) (by omega) j j0 (by omega))
    rw [har _ (by omega) _ (by omega) (by omega), b1] at v1
    rw [zgf_congr (row' := zma mu (a1.toNat + 1)) (fun j j0 j1 => har (a1.toNat + 1) (by omega) j j0 (by omega)), k1, b1] at v2
    have fin : ∀ r : Int, r = (if a2 = 0 then zma mu (a1.toNat + 1) (mu 68 0 + a1) else zgf (mu 67 0) (zma mu (a1.toNat + 1)) (mu 68 0 + a1 + 1)) → zC 93 3 mX9_asks [zR 64, zI a1, zI a2] nu (fun v' nu' => v' = zI r ∧ ∃ P', jJ nu' P') := fun r hr => by
      refine m_asks (by omega) hK' hJ1.2.1.mo ha hb (fun w => absurd ?_ w) (fun w1 w2 w3 w4 xi hx => ⟨?_, _, hJ1.same (hx.J (by decide))⟩)
      · rw [e 70 (by omega)]
        omega
      · rw [zma_s hz (by decide), e 67 (by omega), e 68 (by omega), hr]
    refine ⟨fun c3 => ⟨ci.1, by omega, ?_⟩, fun c3 => ⟨ci.1, by omega, ?_⟩⟩
    · rw [v2]
      exact ⟨_, ⟨by omega, by omega⟩, rfl, fin _ (by rw [if_neg c3])⟩
    · rw [v1]
      exact ⟨_, ⟨by omega, by omega⟩, rfl, fin _ (by rw [if_pos c3])⟩
  · refine ⟨_, ⟨by omega, by omega⟩, rfl, m_asks (by omega) hK' hmo ha hb (fun _ => ⟨rfl, _, hJ0⟩) (fun w1 w2 w3 w4 => ?_)⟩
    split at c2 <;> omega
theorem op_otherwise : zOp 5 3 mX8_otherwise mX9_otherwise [] := by
  intro mu P hJ
  have hK : 64 ≤ 93 := by decide
  have hK' : 93 ≤ 93 := by decide
  have hJ0 := hJ
  obtain ⟨h1, h2, -⟩ := hJ
  have hPi := h1.isP hK
  have hP2 := hPi.2
  obtain ⟨rfl, -⟩ := h1
  have hpo := h2.po
  have hmo := h2.mo
  have har := h2.ar
  have ht := hpo.1
  obtain ⟨-, ⟨k1, k2, k3⟩, ⟨b1, b2, b3⟩, ⟨n1, n2, n3⟩, -, -, hw, -⟩ := h2
  refine ce_X8_otherwise (sg_X8_otherwise_0 (by omega) hK (s_comeForThemselves (by omega) hK hPi hpo (fun nu hz w1 => ⟨rfl, ?_⟩)))
  have hJ1 := hJ0.same (hz.J (by decide))
  have e : ∀ k : Int, k ≠ 39 → k ≠ 40 → k ≠ 41 → nu k = mu k := fun k q1 q2 q3 => hz k (by simp only [List.mem_cons, List.not_mem_nil, or_false]; omega)
  have e0 : nu 0 = mu 0 := e 0 (by decide) (by decide) (by decide)
  have eP : nu (mu 0 3) = mu (mu 0 3) := e _ (by omega) (by omega) (by omega)
  have e2 : nu (mu 0 3 + 2) = mu (mu 0 3 + 2) := e _ (by omega) (by omega) (by omega)
  have v1 : ∀ i, 0 ≤ i → i < mu (mu 0 3) 3 → nu 39 i = zma mu (i.toNat + 1) (mu 68 0 + i) := fun i i0 i1 => by
    rw [(w1 i i0 i1).1, har _ (by omega) _ (by omega) (by omega), b1]
  have l : ∀ (n : Nat) (i c : Int), 0 ≤ i → i + n = mu (mu 0 3) 3 → c = zsum (fun i => if zma mu (i.toNat + 1) (mu 68 0 + i) = mu 71 i then 0 else 1) i.toNat → zG 93 5 mX8_otherwise 15 [zR 0, zI c, zI i] [] nu (fun v nu => ∃ r, zin r ∧ v = zI r ∧ zC 93 3 mX9_otherwise [zR 64] nu (fun v' nu' => v' = zI r ∧ ∃ P', jJ nu' P')) := by
    intro n
    induction n with
    | zero =>
      intro i c i0 i1 hc
      have ei : i = mu (mu 0 3) 3 := by omega
      subst ei
      refine sg_X8_otherwise_15 (by omega) hK ?_
      rw [e0, eP]
      refine ⟨hPi, ⟨by omega, by omega⟩, ⟨by omega, by omega⟩, fun _ => ?_, fun w => absurd (Int.le_refl _) w⟩
      have cb := zsum_01 (f := fun i => if zma mu (i.toNat + 1) (mu 68 0 + i) = mu 71 i then 0 else 1) (fun i => by split <;> constructor <;> omega) (mu (mu 0 3) 3).toNat
      refine ⟨_, ⟨by omega, by omega⟩, rfl, ?_⟩
      refine m_otherwise (by omega) hK' hJ1.2.1.mo (fun xi hx => ⟨?_, _, hJ1.same (hx.J (by decide))⟩)
      have em : ∀ i, zma nu i = zma mu i := zma_s hz (by decide)
      simp only [em]
      rw [hc, e 68 (by decide) (by decide) (by decide), e 70 (by decide) (by decide) (by decide), e 71 (by decide) (by decide) (by decide), n1]
    | succ n ih =>
      intro i c i0 i1 hc
      have en : (i + 1).toNat = i.toNat + 1 := by omega
      have ex : ((i.toNat : Nat) : Int) = i := by omega
      have ww := hw i i0 (by omega)
      have bb := zma_bd hmo (i.toNat + 1) (by omega) (mu 68 0 + i) (by omega) (by omega)
      refine sg_X8_otherwise_15 (by omega) hK ?_
      rw [e0, eP, e2, v1 i i0 (by omega), ww.1]
      refine ⟨hPi, ⟨by omega, by omega⟩, ⟨by omega, by omega⟩, fun w => absurd w (by omega), fun _ => ⟨i0, by omega, ⟨by omega, by omega⟩, ⟨by omega, by omega⟩, fun c1 => ?_, fun c1 => ?_⟩⟩
      · refine ih (i + 1) c (by omega) (by omega) ?_
        rw [en, zsum, ex, if_pos c1, ← hc]
        omega
      · refine ih (i + 1) (c + 1) (by omega) (by omega) ?_
        rw [en, zsum, ex, if_neg c1, ← hc]
  exact l (mu (mu 0 3) 3).toNat 0 0 (by omega) (by omega) rfl
