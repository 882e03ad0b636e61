/-! looking to himself: asks, otherwise -/
def zup1 (R : Int → Int) (at_ x : Int) : Int → Int := fun j => if j = at_ then x else R j
def zba (val : Int → Int) (w : Int) : Nat → Int × Int
  | 0 => (w, val w)
  | n + 1 => if (zba val w n).2 < val n then ((n : Int), val n) else zba val w n
def zbv (kind : Int) (W R : Int → Int) (at_ w x : Int) : Int := W (w * 7 + zgf kind (zup1 R at_ x) (at_ + 1))
def zar (kind : Int) (N : Nat) (W w R0 : Int → Int) (ac : Int) : Nat → (Int → Int)
  | 0 => R0
  | i + 1 => zup1 (zar kind N W w R0 ac i) (ac + i) (zba (zbv kind W (zar kind N W w R0 ac i) (ac + i) (w i)) (w i) N).1
theorem zba_bd {val : Int → Int} {w M : Int} (hw : 0 ≤ w ∧ w < M) : ∀ n : Nat, n ≤ M → 0 ≤ (zba val w n).1 ∧ (zba val w n).1 < M
  | 0, _ => hw
  | n + 1, h => by
    unfold zba
    split
    · exact ⟨by dsimp only; omega, by dsimp only; omega⟩
    · exact zba_bd hw n (by omega)
theorem zba_2 {val : Int → Int} {w : Int} : ∀ n : Nat, (zba val w n).2 = val (zba val w n).1
  | 0 => rfl
  | n + 1 => by
    unfold zba
    split
    · rfl
    · exact zba_2 n
theorem zba_congr {f g : Int → Int} {w : Int} (hw : f w = g w) : ∀ n : Nat, (∀ x : Int, 0 ≤ x → x < n → f x = g x) → zba f w n = zba g w n
  | 0, _ => by unfold zba; rw [hw]
  | n + 1, h => by
    unfold zba
    rw [zba_congr hw n (fun x h0 h1 => h x h0 (by omega)), h n (by omega) (by omega)]
theorem zup1_bd {R : Int → Int} {at_ x m : Int} (hR : ∀ j, 0 ≤ j → j < at_ → 0 ≤ R j ∧ R j < 6) (hx : 0 ≤ x ∧ x < 6) (hm : m ≤ at_ + 1) : ∀ j, 0 ≤ j → j < m → 0 ≤ zup1 R at_ x j ∧ zup1 R at_ x j < 6 := by
  intro j j0 j1
  unfold zup1
  split
  · exact hx
  · exact hR j j0 (by omega)
theorem zbv_bd {kind : Int} {W R : Int → Int} {at_ w x : Int} (hW : ∀ i, 0 ≤ i → i < 42 → 0 ≤ W i ∧ W i ≤ 9) (hR : ∀ j, 0 ≤ j → j < at_ → 0 ≤ R j ∧ R j < 6) (hx : 0 ≤ x ∧ x < 6) (hw : 0 ≤ w ∧ w < 6) : 0 ≤ zbv kind W R at_ w x ∧ zbv kind W R at_ w x ≤ 9 := by
  have := zgf_bd (kind := kind) (row := zup1 R at_ x) (many := at_ + 1) (zup1_bd hR hx (Int.le_refl _))
  exact hW _ (by omega) (by omega)
section S51
variable {K d : Nat} {mu : Mem} {Q : AV → Mem → Prop}
theorem s_worthOfAsk {P a w x : Int} {R : Int → Int} (hd : 2 ≤ d) (hK : 64 ≤ K) (hP : isP K P) (ho : zPO mu P) (ha : 0 ≤ a ∧ a < 16) (hw : 0 ≤ w ∧ w < 6) (hx : 0 ≤ x ∧ x < 6) (hR : ∀ j, 0 ≤ j → j < a → 0 ≤ R j ∧ R j < 6) (h41 : ∀ j, 0 ≤ j → j < a → mu 41 j = R j) (h : Q (zI (zbv (mu P 1) (mu (P + 3)) R a w x)) (zup mu 41 a x)) : zC K d mX3_worthOfAsk [zR 38, zR P, zI a, zI w, zI x] mu Q := by
  have hP2 := hP.2
  have e : ∀ j, 0 ≤ j → j < a + 1 → (zup mu 41 a x) 41 j = zup1 R a x j := fun j j0 j1 => by
    unfold zup1
    by_cases hj : j = a
    · rw [hj, zup_same, if_pos rfl]
    · rw [zup_slot _ hj, if_neg hj]
      exact h41 j j0 (by omega)
  have hb := zup1_bd (m := a + 1) hR hx (Int.le_refl _)
  refine ce_X3_worthOfAsk (sg_X3_worthOfAsk_0 hd hK hP ⟨ha.1, ha.2, ?_⟩)
  rw [zup_cell (a := P) mu (by omega)]
  refine s_givesFor (n := 16) (by omega) hK (r41 hK) ho.2.1 (by omega) (fun j j0 j1 => by
    rw [e j j0 j1]
    have := hb j j0 j1
    exact ⟨by omega, by omega⟩) ⟨_, rfl, ?_⟩
  rw [zgf_congr (fun j j0 j1 => e j j0 j1)]
  have bd := zgf_bd (kind := mu P 1) (row := zup1 R a x) (many := a + 1) hb
  refine s_worthOf hK hP hw (by omega) ⟨_, rfl, ?_⟩
  rw [zup_cell (a := P + 3) mu (by omega)]
  exact h
theorem s_bestAsk {P a w : Int} {R : Int → Int} (hd : 3 ≤ d) (hK : 64 ≤ K) (hP : isP K P) (ho : zPO mu P) (ha : 0 ≤ a ∧ a < 16) (hw : 0 ≤ w ∧ w < mu P 0) (hR : ∀ j, 0 ≤ j → j < a → 0 ≤ R j ∧ R j < 6) (h41 : ∀ j, 0 ≤ j → j < a → mu 41 j = R j)
    (h : ∀ nu, zsm [41] mu nu → (∀ j, 0 ≤ j → j < a → nu 41 j = R j) → Q (zI (zba (zbv (mu P 1) (mu (P + 3)) R a w) w (mu P 0).toNat).1) nu) : zC K d mX3_bestAsk [zR 38, zR P, zI a, zI w] mu Q := by
  have hP2 := hP.2
  have ht := ho.1
  have poc : ∀ nu, zsm [41] mu nu → zPO nu P ∧ nu P = mu P ∧ nu (P + 3) = mu (P + 3) := fun nu hz => by
    have e : ∀ k : Int, k ≠ 41 → nu k = mu k := fun k q => hz k (by simp only [List.mem_cons, List.not_mem_nil, or_false]; exact q)
    have p0 := e P (by omega)
    have p1 := e (P + 1) (by omega)
    have p2 := e (P + 2) (by omega)
    have p3 := e (P + 3) (by omega)
    refine ⟨?_, p0, p3⟩
    unfold zPO at ho ⊢
    rw [p0, p1, p2, p3]
    exact ho
  have hvb : ∀ x, 0 ≤ x ∧ x < 6 → 0 ≤ zbv (mu P 1) (mu (P + 3)) R a w x ∧ zbv (mu P 1) (mu (P + 3)) R a w x ≤ 9 := fun x hx => zbv_bd ho.2.2.2.2.2.2 hR hx (by omega)
  have st : ∀ nu, zsm [41] mu nu → (∀ j, 0 ≤ j → j < a → nu 41 j = R j) → ∀ x, zsm [41] mu (zup nu 41 a x) ∧ ∀ j, 0 ≤ j → j < a → (zup nu 41 a x) 41 j = R j := fun nu hz hr x => ⟨hz.up (by simp), fun j j0 j1 => by rw [zup_slot _ (by omega)]; exact hr j j0 j1⟩
  have l : ∀ (n : Nat) (t : Int) (nu : Mem), 0 ≤ t → t + n = mu P 0 → zsm [41] mu nu → (∀ j, 0 ≤ j → j < a → nu 41 j = R j) → zG K d mX3_bestAsk 16 [zR 38, zR P, zI a, zI w, zI (zba (zbv (mu P 1) (mu (P + 3)) R a w) w t.toNat).1, zI (zba (zbv (mu P 1) (mu (P + 3)) R a w) w t.toNat).2, zI t, zU] [] nu Q := by
    intro n
    induction n with
    | zero =>
      intro t nu t0 t1 hz hr
      have e : t = mu P 0 := by omega
      subst e
      obtain ⟨-, p0, -⟩ := poc nu hz
      exact sg_X3_bestAsk_16 hd hK hP ⟨⟨by omega, by omega⟩, ⟨by rw [p0]; omega, by rw [p0]; omega⟩, fun _ => h nu hz hr, fun q => absurd (by rw [p0]; omega) q⟩
    | succ n ih =>
      intro t nu t0 t1 hz hr
      obtain ⟨po, p0, p3⟩ := poc nu hz
      have en : (t + 1).toNat = t.toNat + 1 := by omega
      have ex : ((t.toNat : Nat) : Int) = t := by omega
      have v1 := hvb t (by omega)
      have bb := zba_bd (val := zbv (mu P 1) (mu (P + 3)) R a w) (w := w) (M := mu P 0) hw t.toNat (by omega)
      have v2 := hvb _ ⟨bb.1, by omega⟩
      rw [← zba_2 (val := zbv (mu P 1) (mu (P + 3)) R a w) (w := w) t.toNat] at v2
      obtain ⟨z1, z2⟩ := st nu hz hr t
      have ih' := ih (t + 1) _ (by omega) (by omega) z1 z2
      rw [en, zba, ex] at ih'
      refine sg_X3_bestAsk_16 hd hK hP ⟨⟨by omega, by omega⟩, ⟨by rw [p0]; omega, by rw [p0]; omega⟩, fun q => absurd q (by rw [p0]; omega), fun _ => ?_⟩
      refine s_worthOfAsk (R := R) (by omega) hK hP po ha (by omega) (by omega) hR hr ⟨_, rfl, ?_⟩
      rw [p0, p3]
      refine ⟨⟨by omega, by omega⟩, ⟨by omega, by omega⟩, fun c => ?_, fun c => ?_⟩
      · rw [if_neg (by omega)] at ih'
        exact ih'
      · rw [if_pos (by omega)] at ih'
        exact ih'
  refine ce_X3_bestAsk (sg_X3_bestAsk_0 hd hK hP ?_)
  refine s_worthOfAsk (R := R) (by omega) hK hP ho ha (by omega) (by omega) hR h41 ⟨_, rfl, ?_⟩
  obtain ⟨z1, z2⟩ := st mu zsm.rf h41 w
  exact l (mu P 0).toNat 0 _ (by omega) (by omega) z1 z2
/-- the rows stay within the things -/
theorem zar_bd {kind : Int} {N : Nat} {W w R0 : Int → Int} {ac n : Int} (hN : N ≤ 6) (hR : ∀ j, 0 ≤ j → j < ac + n → 0 ≤ R0 j ∧ R0 j < 6) (hw : ∀ i, 0 ≤ i → i < n → 0 ≤ w i ∧ w i < N) : ∀ i : Nat, i ≤ n → ∀ j, 0 ≤ j → j < ac + n → 0 ≤ zar kind N W w R0 ac i j ∧ zar kind N W w R0 ac i j < 6
  | 0, _ => hR
  | i + 1, hi => fun j j0 j1 => by
    unfold zar zup1
    split
    · have := zba_bd (val := zbv kind W (zar kind N W w R0 ac i) (ac + i) (w i)) (w := w i) (M := N) (hw i (by omega) (by omega)) N (by omega)
      omega
    · exact zar_bd hN hR hw i (by omega) j j0 j1
theorem s_comeForThemselves {P : Int} (hd : 4 ≤ d) (hK : 64 ≤ K) (hP : isP K P) (ho : zPO mu P)
    (h : ∀ nu, zsm [39, 40, 41] mu nu → (∀ i, 0 ≤ i → i < mu P 3 → nu 39 i = zar (mu P 1) (mu P 0).toNat (mu (P + 3)) (mu (P + 2)) (zrow mu P) (mu P 2) (i.toNat + 1) (mu P 2 + i) ∧ nu 40 i = zgf (mu P 1) (zar (mu P 1) (mu P 0).toNat (mu (P + 3)) (mu (P + 2)) (zrow mu P) (mu P 2) (i.toNat + 1)) (mu P 2 + i + 1)) → Q zV nu) : zC K d mX3_comeForThemselves [zR 38, zR P] mu Q := by
  have hP2 := hP.2
  have hrb := zrow_bd ho
  have ho0 := ho
  obtain ⟨ht, hkk, hb, hn, ha, hw, hwo⟩ := ho
  have arb := zar_bd (kind := mu P 1) (N := (mu P 0).toNat) (W := mu (P + 3)) (w := mu (P + 2)) (R0 := zrow mu P) (ac := mu P 2) (n := mu P 3) (by omega) hrb (fun i i0 i1 => by have := hw i i0 i1; omega)
  have l : ∀ (n : Nat) (i : Int) (nu : Mem), 0 ≤ i → i + n = mu P 3 → zsm [39, 40, 41] mu nu → (∀ q, 0 ≤ q → q < i → nu 39 q = zar (mu P 1) (mu P 0).toNat (mu (P + 3)) (mu (P + 2)) (zrow mu P) (mu P 2) (q.toNat + 1) (mu P 2 + q) ∧ nu 40 q = zgf (mu P 1) (zar (mu P 1) (mu P 0).toNat (mu (P + 3)) (mu (P + 2)) (zrow mu P) (mu P 2) (q.toNat + 1)) (mu P 2 + q + 1)) → (∀ j, 0 ≤ j → j < mu P 2 + i → nu 41 j = zar (mu P 1) (mu P 0).toNat (mu (P + 3)) (mu (P + 2)) (zrow mu P) (mu P 2) i.toNat j) → zG K d mX3_comeForThemselves 7 [zR 38, zR P, zI i, zU] [] nu Q := by
    intro n
    induction n with
    | zero =>
      intro i nu i0 i1 hz h1 h2
      have e : i = mu P 3 := by omega
      subst e
      have eP : nu P = mu P := hz P (by simp only [List.mem_cons, List.not_mem_nil, or_false]; omega)
      exact sg_X3_comeForThemselves_7 hd hK hP ⟨⟨by omega, by omega⟩, ⟨by rw [eP]; omega, by rw [eP]; omega⟩, fun _ => h nu hz h1, fun w => absurd (by rw [eP]; omega) w⟩
    | succ n ih =>
      intro i nu i0 i1 hz h1 h2
      have e : ∀ k : Int, k ≠ 39 → k ≠ 40 → k ≠ 41 → nu k = mu k := fun k q1 q2 q3 => hz k (by simp only [List.mem_cons, List.not_mem_nil, or_false]; omega)
      have eP : nu P = mu P := e P (by omega) (by omega) (by omega)
      have e1 : nu (P + 1) = mu (P + 1) := e _ (by omega) (by omega) (by omega)
      have e2 : nu (P + 2) = mu (P + 2) := e _ (by omega) (by omega) (by omega)
      have e3 : nu (P + 3) = mu (P + 3) := e _ (by omega) (by omega) (by omega)
      have po : zPO nu P := by
        unfold zPO at ho0 ⊢
        rw [eP, e1, e2, e3]
        exact ho0
      have w0 := hw i i0 (by omega)
      have ex : ((i.toNat : Nat) : Int) = i := by omega
      have en : (i + 1).toNat = i.toNat + 1 := by omega
      refine sg_X3_comeForThemselves_7 hd hK hP ⟨⟨by omega, by omega⟩, ⟨by rw [eP]; omega, by rw [eP]; omega⟩, fun w => absurd w (by rw [eP]; omega), fun _ => ⟨i0, by omega, ?_⟩⟩
      rw [eP, e2]
      refine s_bestAsk (R := zar (mu P 1) (mu P 0).toNat (mu (P + 3)) (mu (P + 2)) (zrow mu P) (mu P 2) i.toNat) (by omega) hK hP po (by omega) (by rw [eP]; exact w0) (fun j j0 j1 => arb i.toNat (by omega) j j0 (by omega)) h2 (fun xi hx hr => ⟨_, rfl, by omega, by omega, ?_⟩)
      rw [eP, e3, zup_same]
      generalize hbest : (zba (zbv (mu P 1) (mu (P + 3)) (zar (mu P 1) (mu P 0).toNat (mu (P + 3)) (mu (P + 2)) (zrow mu P) (mu P 2) i.toNat) (mu P 2 + i) (mu (P + 2) i)) (mu (P + 2) i) (mu P 0).toNat).1 = best
      have hzx : zsm [39, 40, 41] mu xi := hz.tr (hx.wk (by simp))
      have est : zar (mu P 1) (mu P 0).toNat (mu (P + 3)) (mu (P + 2)) (zrow mu P) (mu P 2) (i.toNat + 1) = zup1 (zar (mu P 1) (mu P 0).toNat (mu (P + 3)) (mu (P + 2)) (zrow mu P) (mu P 2) i.toNat) (mu P 2 + i) best := by
        rw [zar, ex, hbest]
      have h41 : ∀ j, 0 ≤ j → j < mu P 2 + i + 1 → (zup (zup xi 39 i best) 41 (mu P 2 + i) best) 41 j = zar (mu P 1) (mu P 0).toNat (mu (P + 3)) (mu (P + 2)) (zrow mu P) (mu P 2) (i.toNat + 1) j := fun j j0 j1 => by
        rw [est]
        unfold zup1
        by_cases hj : j = mu P 2 + i
        · rw [hj, zup_same, if_pos rfl]
        · rw [zup_slot _ hj, zup_cell _ (by decide), if_neg hj]
          exact hr j j0 (by omega)
      have eP1 : (zup (zup xi 39 i best) 41 (mu P 2 + i) best) P 1 = mu P 1 := by rw [zup_cell _ (by omega), zup_cell _ (by omega), hzx P (by simp only [List.mem_cons, List.not_mem_nil, or_false]; omega)]
      rw [eP1]
      refine s_givesFor (n := 16) (by omega) hK (r41 hK) hkk (by omega) (fun j j0 j1 => by
        rw [h41 j j0 j1]
        have := arb (i.toNat + 1) (by omega) j j0 (by omega)
        exact ⟨by omega, by omega⟩) ⟨_, rfl, ?_⟩
      rw [zgf_congr (fun j j0 j1 => h41 j j0 j1)]
      refine ih (i + 1) _ (by omega) (by omega) (((hzx.up (by simp)).up (by simp)).up (by simp)) (fun q q0 q1 => ?_) (fun j j0 j1 => ?_)
      · by_cases hq : q = i
        · rw [hq]
          refine ⟨?_, ?_⟩
          · rw [zup_cell _ (by decide), zup_cell _ (by decide), zup_same, est]
            unfold zup1
            rw [if_pos rfl]
          · rw [zup_same]
        · have w := h1 q q0 (by omega)
          refine ⟨?_, ?_⟩
          · rw [zup_cell _ (by decide), zup_cell _ (by decide), zup_slot _ hq, hx 39 (by decide)]
            exact w.1
          · rw [zup_slot _ hq, zup_cell _ (by decide), zup_cell _ (by decide), hx 40 (by decide)]
            exact w.2
      · rw [zup_cell _ (by decide), en]
        exact h41 j j0 (by omega)
  refine ce_X3_comeForThemselves (sg_X3_comeForThemselves_0 hd hK hP (ce_X3_startRow (sg_X3_startRow_0 (by omega) hK hP ⟨rfl, ?_⟩)))
  refine l (mu P 3).toNat 0 _ (by omega) (by omega) (zsm.cp zsm.rf (by simp)) (fun q q0 q1 => absurd q1 (by omega)) (fun j j0 j1 => ?_)
  rw [zcp_in _ j0 (by omega)]
  show _ = zrow mu P j
  unfold zrow
  rw [if_pos (by omega)]
/-! the reference's -/
theorem m_askFor {a w : Int} {R : Int → Int} (hd : 2 ≤ d) (hK : 93 ≤ K) (ho : zMO mu) (ha : 0 ≤ a ∧ a < 16) (h22 : mu 64 22 = a) (hw : 0 ≤ w ∧ w < mu 66 0) (hR : ∀ j, 0 ≤ j → j < a → 0 ≤ R j ∧ R j < 6) (h81 : ∀ j, 0 ≤ j → j < a → mu 81 j = R j)
    (h : ∀ nu, zsm' [81] mu nu → nu 64 22 = a + 1 → (∀ j, 0 ≤ j → j < a + 1 → nu 81 j = zup1 R a (zba (zbv (mu 67 0) (mu 72) R a w) w (mu 66 0).toNat).1 j) → Q (zI (zba (zbv (mu 67 0) (mu 72) R a w) w (mu 66 0).toNat).1) nu) : zC K d mX9_askFor [zR 64, zI w] mu Q := by
  have ht := ho.1
  have hvb : ∀ x, 0 ≤ x ∧ x < 6 → 0 ≤ zbv (mu 67 0) (mu 72) R a w x ∧ zbv (mu 67 0) (mu 72) R a w x ≤ 9 := fun x hx => zbv_bd ho.2.2.2.2.2.2 hR hx (by omega)
  have tryx : ∀ (x : Int) (nu : Mem) (Q' : AV → Mem → Prop), (0 ≤ x ∧ x < 6) → zsm' [81] mu nu → nu 64 22 = a + 1 → (∀ j, 0 ≤ j → j < a → nu 81 j = R j) → Q' (zI (zgf (mu 67 0) (zup1 R a x) (a + 1))) (zup nu 81 a x) → zC K 1 mX9_gives [zR 64, zI (mu 67 0)] (zup nu 81 a x) Q' := fun x nu Q' hx hz hn hr q => by
    have e : ∀ j, 0 ≤ j → j < a + 1 → (zup nu 81 a x) 81 j = zup1 R a x j := fun j j0 j1 => by
      unfold zup1
      by_cases hj : j = a
      · rw [hj, zup_same, if_pos rfl]
      · rw [zup_slot _ hj, if_neg hj]
        exact hr j j0 (by omega)
    have hb := zup1_bd (m := a + 1) hR hx (Int.le_refl _)
    have e22 : (zup nu 81 a x) 64 22 = a + 1 := by rw [zup_cell _ (by decide), hn]
    refine s_gives (by omega) hK (by omega) ho.2.1 (fun j j0 j1 => by
      rw [e j j0 (by omega)]
      have := hb j j0 (by omega)
      exact ⟨by omega, by omega⟩) ?_
    rw [e22, zgf_congr (fun j j0 j1 => e j j0 j1)]
    exact q
  have gb : ∀ x, (0 ≤ x ∧ x < 6) → 0 ≤ zgf (mu 67 0) (zup1 R a x) (a + 1) ∧ zgf (mu 67 0) (zup1 R a x) (a + 1) ≤ 6 := fun x hx => zgf_bd (zup1_bd hR hx (Int.le_refl _))
  have l : ∀ (n : Nat) (t : Int) (nu : Mem), 0 ≤ t → t + n = mu 66 0 → zsm' [81] mu nu → nu 64 22 = a + 1 → (∀ j, 0 ≤ j → j < a → nu 81 j = R j) → zG K d mX9_askFor 13 [zR 64, zI w, zI (zba (zbv (mu 67 0) (mu 72) R a w) w t.toNat).1, zI (zba (zbv (mu 67 0) (mu 72) R a w) w t.toNat).2, zI t, zU, zU] [] nu Q := by
    intro n
    induction n with
    | zero =>
      intro t nu t0 t1 hz hn hr
      have e : t = mu 66 0 := by omega
      subst e
      have e66 := hz.1 66 (by decide) (by decide)
      refine sg_X9_askFor_13 hd hK ⟨⟨by omega, by omega⟩, ⟨by rw [e66]; omega, by rw [e66]; omega⟩, fun _ => ?_, fun q => absurd (by rw [e66]; omega) q⟩
      rw [hn, show a + 1 - 1 = a by omega]
      refine ⟨ha.1, ha.2, h _ (hz.up (by simp) (by decide)) (by rw [zup_cell _ (by decide), hn]) (fun j j0 j1 => ?_)⟩
      unfold zup1
      by_cases hj : j = a
      · rw [hj, zup_same, if_pos rfl]
      · rw [zup_slot _ hj, if_neg hj]
        exact hr j j0 (by omega)
    | succ n ih =>
      intro t nu t0 t1 hz hn hr
      have e66 := hz.1 66 (by decide) (by decide)
      have e67 := hz.1 67 (by decide) (by decide)
      have e72 := hz.1 72 (by decide) (by decide)
      have en : (t + 1).toNat = t.toNat + 1 := by omega
      have ex : ((t.toNat : Nat) : Int) = t := by omega
      have v1 := hvb t (by omega)
      have bb := zba_bd (val := zbv (mu 67 0) (mu 72) R a w) (w := w) (M := mu 66 0) hw t.toNat (by omega)
      have v2 := hvb _ ⟨bb.1, by omega⟩
      rw [← zba_2 (val := zbv (mu 67 0) (mu 72) R a w) (w := w) t.toNat] at v2
      have g1 := gb t (by omega)
      refine sg_X9_askFor_13 hd hK ⟨⟨by omega, by omega⟩, ⟨by rw [e66]; omega, by rw [e66]; omega⟩, fun q => absurd q (by rw [e66]; omega), fun _ => ⟨fun _ => ?_, fun c => absurd t0 c⟩⟩
      rw [hn, show a + 1 - 1 = a by omega, zup_cell (a := 67) _ (by decide), e67]
      refine ⟨ha.1, ha.2, tryx t nu _ (by omega) hz hn hr ⟨_, rfl, by omega, by omega, ?_⟩⟩
      have z1 : zsm' [81] mu (zup nu 81 a t) := hz.up (by simp) (by decide)
      have ih' := ih (t + 1) (zup nu 81 a t) (by omega) (by omega) z1 (by rw [zup_cell _ (by decide), hn]) (fun j j0 j1 => by rw [zup_slot _ (by omega)]; exact hr j j0 j1)
      rw [en, zba, ex] at ih'
      have ev : (zup nu 81 a t) 72 (7 * w + zgf (mu 67 0) (zup1 R a t) (a + 1)) = zbv (mu 67 0) (mu 72) R a w t := by
        rw [zup_cell _ (by decide), e72, zbv, show 7 * w + zgf (mu 67 0) (zup1 R a t) (a + 1) = w * 7 + zgf (mu 67 0) (zup1 R a t) (a + 1) by omega]
      rw [ev]
      refine ⟨⟨by omega, by omega⟩, ⟨by omega, by omega⟩, fun c => ?_, fun c => ?_⟩
      · rw [if_neg (by omega)] at ih'
        exact ih'
      · rw [if_pos (by omega)] at ih'
        exact ih'
  refine ce_X9_askFor (sg_X9_askFor_0 hd hK (m_askNow hK (by omega) ⟨rfl, ?_⟩))
  rw [h22]
  have z0 : zsm' [81] mu (zup (zup mu 81 a 0) 64 22 (a + 1)) := (zsm'.rf.up (by simp) (by decide)).up64 (by decide) (by decide)
  generalize hnu : zup (zup mu 81 a 0) 64 22 (a + 1) = nu at z0
  have n22 : nu 64 22 = a + 1 := by rw [← hnu, zup_same]
  have nr : ∀ j, 0 ≤ j → j < a → nu 81 j = R j := fun j j0 j1 => by
    rw [← hnu, zup_cell _ (by decide), zup_slot _ (by omega)]
    exact h81 j j0 j1
  have e66 := z0.1 66 (by decide) (by decide)
  have e67 := z0.1 67 (by decide) (by decide)
  have e72 := z0.1 72 (by decide) (by decide)
  have v1 := hvb w (by omega)
  have g1 := gb w (by omega)
  refine sg_X9_askFor_13 hd hK ⟨⟨by omega, by omega⟩, ⟨by rw [e66]; omega, by rw [e66]; omega⟩, fun q => absurd q (by rw [e66]; omega), fun _ => ⟨fun c => absurd c (by omega), fun _ => ?_⟩⟩
  rw [n22, show a + 1 - 1 = a by omega, zup_cell (a := 67) _ (by decide), e67]
  refine ⟨ha.1, ha.2, tryx w nu _ (by omega) z0 n22 nr ⟨_, rfl, by omega, by omega, ?_⟩⟩
  have ev : (zup nu 81 a w) 72 (7 * w + zgf (mu 67 0) (zup1 R a w) (a + 1)) = zbv (mu 67 0) (mu 72) R a w w := by
    rw [zup_cell _ (by decide), e72, zbv, show 7 * w + zgf (mu 67 0) (zup1 R a w) (a + 1) = w * 7 + zgf (mu 67 0) (zup1 R a w) (a + 1) by omega]
  rw [ev]
  refine ⟨⟨by omega, by omega⟩, ⟨by omega, by omega⟩, fun c => absurd c (by omega), fun c => ?_⟩
  exact l (mu 66 0).toNat 0 (zup nu 81 a w) (by omega) (by omega) (z0.up (by simp) (by decide)) (by rw [zup_cell _ (by decide), n22]) (fun j j0 j1 => by rw [zup_slot _ (by omega)]; exact nr j j0 j1)
end S51
