/-! order -/
theorem zOl_bd {kind : Int} {n : Nat} {w : Int → Int} {set : Nat} : ∀ (m c : Nat) (a b : Int) (i : Nat), 0 ≤ (zOl kind n w set m c a b).getD i 0 ∧ (zOl kind n w set m c a b).getD i 0 ≤ n
  | 0, _, _, _, i => by
    rw [zOl, List.getD_nil]
    omega
  | m + 1, c, a, b, i => by
    rw [zOl]
    have := zfirst_bd (fun i : Int => !c.testBit i.toNat && decide (zbr kind w set (zOv kind n w set m (c ||| 2 ^ i.toNat) b (w i)) a b i.toNat = zOv kind n w set (m + 1) c a b)) n 0
    match i with
    | 0 =>
      rw [List.getD_cons_zero]
      unfold zpk
      omega
    | i + 1 =>
      rw [List.getD_cons_succ]
      exact zOl_bd m _ _ _ i
section S68
variable {K d : Nat} {mu : Mem} {Q : AV → Mem → Prop}
theorem m_ord97 {S : Nat} {a2 : Int} {nu : Mem} (hd : 4 ≤ d) (hK : 93 ≤ K) (hM : zRQ mu S) (ha2 : 0 ≤ a2 ∧ a2 < mu 70 0) (hz : zsm [82] mu nu) (hT : zTo mu nu S (-1) 0) : ∀ (j m c : Nat) (k a b p : Int), c < 2 ^ (mu 70 0).toNat → zcmn c (mu 70 0).toNat + m = (mu 70 0).toNat → 0 ≤ k → k + j = a2 + 1 → k + m = mu 70 0 → (0 ≤ a ∧ a ≤ 7) → (0 ≤ b ∧ b ≤ 7) → 0 ≤ zOv (mu 67 0) (mu 70 0).toNat (mu 71) S m c (ze a) (ze b) → Q (zI (if j = 0 then p else (zOl (mu 67 0) (mu 70 0).toNat (mu 71) S m c (ze a) (ze b)).getD (j - 1) 0)) nu → zG K d mX9_order 97 [zR 64, zI S, zI a2, zI a, zI b, zI c, zU, zI p, zI k, zU] [] nu Q := by
  have hMn := hM.c hz
  obtain ⟨ht, hk, hn, hw, hS⟩ := hM
  have e67 := hz 67 (by decide)
  have e70 := hz 70 (by decide)
  have e71 := hz 71 (by decide)
  intro j
  induction j with
  | zero =>
    intro m c k a b p hc hm k0 k1 k2 ha hb hv hq
    rw [if_pos rfl] at hq
    exact sg_X9_order_97 hd hK ⟨⟨by omega, by omega⟩, ⟨by omega, by omega⟩, fun _ => hq, fun w => absurd w (by omega)⟩
  | succ j ih =>
    intro m c k a b p hc hm k0 k1 k2 ha hb hv hq
    obtain ⟨s, rfl⟩ : ∃ s, m = s + 1 := ⟨m - 1, by omega⟩
    have c10 := zc10 hc (by omega)
    obtain ⟨I, I1, I2, I3, I4, I5⟩ := zpk_ok hv
    rw [if_neg (by omega), zOl, I1, show ((I : Nat) : Int).toNat = I by omega, show j + 1 - 1 = j by omega] at hq
    have vb := zOv_bd (kind := mu 67 0) (n := (mu 70 0).toNat) (w := mu 71) (set := S) (s + 1) c (ze a) (ze b)
    have T0 := hT c a b hc ha hb (Or.inl (by omega))
    rw [show (mu 70 0).toNat - zcmn c (mu 70 0).toNat = s + 1 by omega] at T0
    have enn : znn (zOv (mu 67 0) (mu 70 0).toNat (mu 71) S (s + 1) c (ze a) (ze b)) = zOv (mu 67 0) (mu 70 0).toNat (mu 71) S (s + 1) c (ze a) (ze b) := by
      unfold znn
      rw [if_neg (by omega)]
    rw [enn] at T0
    refine sg_X9_order_97 hd hK ⟨⟨by omega, by omega⟩, ⟨by omega, by omega⟩, fun w => absurd w (by omega), fun _ => m_spot hK ⟨_, rfl, by omega, by omega, ?_⟩⟩
    rw [T0]
    generalize hV : zOv (mu 67 0) (mu 70 0).toNat (mu 71) S (s + 1) c (ze a) (ze b) = V at *
    have br : ∀ (i : Nat) (Q' : AV → Mem → Prop), i < (mu 70 0).toNat → ¬ c.testBit i = true → Q' (zI (znn (zbr (mu 67 0) (mu 71) S (zOv (mu 67 0) (mu 70 0).toNat (mu 71) S s (c ||| 2 ^ i) (ze b) (mu 71 i)) (ze a) (ze b) i))) nu → zC K 2 mX9_bring [zR 64, zI S, zI c, zI a, zI b, zI i] nu Q' := fun i Q' hi hci q => by
      have w := hw i (by omega) (by omega)
      have T := hT (c ||| 2 ^ i) b (mu 71 i) (zor_lt hc hi) hb (by omega) (Or.inl (by omega))
      have cm := zcmn_or hci (mu 70 0).toNat
      rw [if_pos hi] at cm
      rw [ze_s (show mu 71 i < 6 by omega), show (mu 70 0).toNat - zcmn (c ||| 2 ^ i) (mu 70 0).toNat = s by omega] at T
      exact m_bring (m := s) (by omega) hK hMn (by rw [e70]; exact hc) (by rw [e70]; exact hi) ha hb (by rw [e67, e70, e71]; exact T) (by omega) (by rw [e67, e70, e71]; exact q)
    have l : ∀ (q x : Nat), x + q = I → zG K d mX9_order 121 [zR 64, zI S, zI a2, zI a, zI b, zI c, zU, zI x, zI k, zI V] [] nu Q := by
      intro q
      induction q with
      | zero =>
        intro x hx
        have ex : x = I := by omega
        subst ex
        have w := hw x (by omega) (by omega)
        refine sg_X9_order_121 hd hK (m_has hK (by omega) (by omega) ⟨_, rfl, zbin _, ?_⟩)
        rw [show ((x : Nat) : Int).toNat = x by omega, if_neg I3.1]
        refine ⟨fun u => absurd rfl u, fun _ => br x _ I2 I3.1 ⟨_, rfl, ?_⟩⟩
        rw [I4, enn]
        refine ⟨⟨by omega, by omega⟩, ⟨by omega, by omega⟩, fun _ => ⟨by omega, by omega, ?_⟩, fun u => absurd rfl u⟩
        rw [e71, zor_c hc (by omega) (by omega) (by omega), show ((x : Nat) : Int).toNat = x by omega]
        have cm := zcmn_or I3.1 (mu 70 0).toNat
        rw [if_pos I2] at cm
        have ez := ze_s (show mu 71 x < 6 by omega)
        refine ih s (c ||| 2 ^ x) (k + 1) b (mu 71 x) x (zor_lt hc I2) (by omega) (by omega) (by omega) (by omega) hb (by omega) ?_ ?_
        · rw [ez]
          exact zbr_pos (kind := mu 67 0) (w := mu 71) (set := S) (i := x) (a := ze a) (b := ze b) (by rw [I4]; exact hv)
        · rw [ez]
          by_cases hj : j = 0
          · subst hj
            rw [if_pos rfl]
            exact hq
          · rw [if_neg hj]
            obtain ⟨i, rfl⟩ : ∃ i, j = i + 1 := ⟨j - 1, by omega⟩
            exact hq
      | succ q ihq =>
        intro x hx
        have nx := ihq (x + 1) (by omega)
        refine sg_X9_order_121 hd hK (m_has hK (by omega) (by omega) ⟨_, rfl, zbin _, ?_⟩)
        rw [show ((x : Nat) : Int).toNat = x by omega]
        refine ⟨fun _ => nx, fun u => ?_⟩
        have ub : ¬ c.testBit x = true := fun z => by rw [if_pos z] at u; exact absurd u (by decide)
        have bb := zbr_bd (kind := mu 67 0) (w := mu 71) (set := S) (i := x) (a := ze a) (b := ze b) (zOv_bd (kind := mu 67 0) (n := (mu 70 0).toNat) (w := mu 71) (set := S) s (c ||| 2 ^ x) (ze b) (mu 71 x)).2 (by omega)
        refine br x _ (by omega) ub ⟨_, rfl, ?_, ⟨by omega, by omega⟩, fun q => ?_, fun _ => nx⟩
        · unfold znn
          split <;> exact ⟨by omega, by omega⟩
        · exfalso
          refine I5 x (by omega) ub ?_
          unfold znn at q
          split at q
          · omega
          · exact q
    exact l I 0 (by omega)
end S68
theorem op_order (a1 a2 : Int) (ha : zin a1) (hb : zin a2) : zOp 34 4 mX8_order mX9_order [zI a1, zI a2] := by
  intro mu P hJ
  have hK : 64 ≤ 93 := by decide
  have hK' : 93 ≤ 93 := by decide
  have hJ0 := hJ
  obtain ⟨h1, h2, h3, h4, h5, h6, h7⟩ := hJ
  have hPi := h1.isP hK
  have hP2 := hPi.2
  obtain ⟨rfl, -⟩ := h1
  have hpo := h2.po
  have hmo := h2.mo
  have hlb := h2.lb
  obtain ⟨⟨t1, t2, t3⟩, ⟨k1, k2, k3⟩, ⟨b1, b2, b3⟩, ⟨n1, n2, n3⟩, -, -, hwi, -⟩ := h2
  obtain ⟨l1, l0, lb1, lb0⟩ := hlb
  have pb := zpow_bd (n := mu (mu 0 3) 3) (by omega) (by omega)
  have pe : ((2 ^ (mu (mu 0 3) 3).toNat : Nat) : Int) = 2 ^ (mu (mu 0 3) 3).toNat := by rw [Int.natCast_pow]; rfl
  have ww : ∀ i : Nat, i < (mu (mu 0 3) 3).toNat → mu (mu 0 3 + 2) i = mu 71 i := fun i hi => (hwi i (by omega) (by omega)).1
  -- the reference, from the memory that the class left
  have fin : ∀ (nu : Mem) (r : Int), zsm [42, 43, 44, 45] mu nu → jOr nu (mu 0 3) → nu 42 2 = a1 → (0 ≤ a1 ∧ a1 < 2 ^ (mu (mu 0 3) 3).toNat) → (a2 = -1 ∨ (0 ≤ a2 ∧ a2 < mu (mu 0 3) 3)) → (mu 67 0 = 0 ∨ mu 67 0 = 3) → r = (if 0 ≤ nu 42 1 then (if a2 = -1 then nu 42 1 else nu 43 a2) else -4) → zC 93 4 mX9_order [zR 64, zI a1, zI a2] nu (fun v' nu' => v' = zI r ∧ ∃ P', jJ nu' P') := fun nu r hz hor h42 w1 w2 hsh hr => by
    have e : ∀ k : Int, k < 42 ∨ 46 ≤ k → nu k = mu k := fun k q => hz k (by simp only [List.mem_cons, List.not_mem_nil, or_false]; omega)
    have eP := e (mu 0 3) (by omega)
    have eP1 := e (mu 0 3 + 1) (by omega)
    have eP2 := e (mu 0 3 + 2) (by omega)
    have e66 := e 66 (by omega)
    have e67 := e 67 (by omega)
    have e68 := e 68 (by omega)
    have e69 := e 69 (by omega)
    have e70 := e 70 (by omega)
    have e71 := e 71 (by omega)
    obtain ⟨S, hS⟩ : ∃ S : Nat, a1 = S := ⟨a1.toNat, by omega⟩
    subst hS
    have hRQ : zRQ nu S := by
      unfold zRQ
      rw [e66, e67, e70, e71]
      exact ⟨by omega, hsh, by omega, fun i i0 i1 => by
        have q := (hwi i i0 (by omega)).2
        omega, by rw [← n1]; omega⟩
    have go : ∀ xi, zsm [82] nu xi → jJ xi (mu 0 3) := fun xi hx => by
      have ex : ∀ k : Int, k ≠ 82 → xi k = nu k := fun k q => hx k (by simp only [List.mem_cons, List.not_mem_nil, or_false]; omega)
      refine hJ0.fnd ⟨fun k hk h64 => ?_, by rw [ex 64 (by decide), e 64 (by omega)], by rw [ex 64 (by decide), e 64 (by omega)]⟩ (hor.c (ex _ (by omega)) (ex _ (by omega)) (ex _ (by omega)) (ex _ (by decide)) (ex _ (by decide))) (h7.c ((ex _ (by omega)).trans eP) ((ex _ (by omega)).trans eP1) ((ex _ (by omega)).trans eP2) ((ex _ (by decide)).trans (e _ (by omega))) ((ex _ (by decide)).trans (e _ (by omega))) ((ex _ (by decide)).trans (e _ (by omega))))
      have q1 : k ≠ 82 := fun q => hk (by rw [q]; decide)
      have q2 : k ≠ 42 := fun q => hk (by rw [q]; decide)
      have q3 : k ≠ 43 := fun q => hk (by rw [q]; decide)
      have q4 : k ≠ 44 := fun q => hk (by rw [q]; decide)
      have q5 : k ≠ 45 := fun q => hk (by rw [q]; decide)
      rw [ex k q1, hz k (by simp only [List.mem_cons, List.not_mem_nil, or_false]; omega)]
    have hV : nu 42 1 = zOv (mu 67 0) (mu 70 0).toNat (mu 71) S (mu 70 0).toNat 0 (ze (zlb mu 1)) (ze (zlb mu 0)) ∧ (0 ≤ nu 42 1 → ∀ i, 0 ≤ i → i < mu (mu 0 3) 3 → nu 43 i = (zOl (mu 67 0) (mu 70 0).toNat (mu 71) S (mu 70 0).toNat 0 (ze (zlb mu 1)) (ze (zlb mu 0))).getD i.toNat 0) := by
      rcases hor with q | ⟨q1, q2, q3, q4⟩
      · rw [h42] at q
        omega
      · rw [h42, eP, eP2, zab_congr eP eP1, zab_congr eP eP1, show ((S : Nat) : Int).toNat = S by omega] at q3 q4
        have q5 := q3
        rw [zOv_congr ww, k1, n1, ← l1, ← l0] at q5
        refine ⟨q5, fun w i i0 i1 => ?_⟩
        rw [q4 w i i0 i1, zOl_congr ww _ _ _ _ (by rw [← q3]; exact w), k1, n1, ← l1, ← l0]
    obtain ⟨hV1, hV2⟩ := hV
    have vb := zOv_bd (kind := mu 67 0) (n := (mu 70 0).toNat) (w := mu 71) (set := S) (mu 70 0).toNat 0 (ze (zlb mu 1)) (ze (zlb mu 0))
    have w2' : 0 ≤ (S : Int) ∧ (S : Int) ≤ 2 ^ (nu 70 0).toNat - 1 := by rw [e70, ← n1]; omega
    refine ce_X9_order (sg_X9_order_0 (by omega) hK' (m_isQueue (by omega) hK' ha (by rw [e70]; omega) ⟨_, rfl, zbin _, fun c => by exfalso; rw [if_pos w2'] at c; omega, fun c => ⟨hb, fun c3 => ?_, fun c3 => ?_⟩⟩))
    · refine m_isShort hK' (by rw [e67]; exact ⟨by omega, by omega⟩) ⟨_, rfl, zbin _, fun c2 => ?_, fun c2 => by exfalso; rw [e67, if_pos hsh] at c2; omega⟩
      refine m_layOrders (by omega) hK' hRQ (fun xi hx hT => ⟨rfl, ?_⟩)
      have ex : ∀ k : Int, k ≠ 82 → xi k = nu k := fun k q => hx k (by simp only [List.mem_cons, List.not_mem_nil, or_false]; omega)
      have el : ∀ k, zlb xi k = zlb mu k := fun k => by
        unfold zlb
        rw [ex 68 (by decide), ex 69 (by decide), e68, e69]
      refine m_lastBut hK' (Or.inr rfl) (by rw [ex 68 (by decide), e68]; omega) ⟨_, rfl, ?_⟩
      refine m_lastBut hK' (Or.inl rfl) (by rw [ex 68 (by decide), e68]; omega) ⟨_, rfl, ?_⟩
      rw [el, el]
      have T := hT 0 (zlb mu 1) (zlb mu 0) (Nat.two_pow_pos _) lb1 lb0 (Or.inl (by omega))
      rw [e67, e70, e71, zcmn_0, Nat.sub_zero, ← hV1] at T
      have T2 : xi 82 (64 * 0 + 8 * zlb mu 1 + zlb mu 0) = znn (nu 42 1) := T
      refine m_spot hK' ⟨_, rfl, by omega, by omega, ?_⟩
      rw [T2]
      have jx := go xi hx
      have nb : zin (znn (nu 42 1)) := by
        unfold znn
        split <;> exact ⟨by omega, by omega⟩
      refine ⟨fun q => ⟨nb, fun q2 => ⟨?_, _, jx⟩, fun q2 => ⟨?_, _, jx⟩⟩, fun q => absurd (by omega) q⟩
      · rw [hr]
        unfold znn at q2 ⊢
        split at q2
        · omega
        · rename_i q3
          rw [if_neg q3, if_pos (by omega), if_pos c3]
      · rw [hr]
        unfold znn at q2
        split at q2
        · rw [if_neg (by omega)]
        · omega
    · refine m_isWish (by omega) hK' hb (by rw [e70]; omega) ⟨_, rfl, zbin _, fun c5 => ?_, fun c5 => by exfalso; rw [e70, if_pos (by omega)] at c5; omega⟩
      refine m_isShort hK' (by rw [e67]; exact ⟨by omega, by omega⟩) ⟨_, rfl, zbin _, fun c2 => ?_, fun c2 => by exfalso; rw [e67, if_pos hsh] at c2; omega⟩
      refine m_layOrders (by omega) hK' hRQ (fun xi hx hT => ⟨rfl, ?_⟩)
      have ex : ∀ k : Int, k ≠ 82 → xi k = nu k := fun k q => hx k (by simp only [List.mem_cons, List.not_mem_nil, or_false]; omega)
      have el : ∀ k, zlb xi k = zlb mu k := fun k => by
        unfold zlb
        rw [ex 68 (by decide), ex 69 (by decide), e68, e69]
      refine m_lastBut hK' (Or.inr rfl) (by rw [ex 68 (by decide), e68]; omega) ⟨_, rfl, ?_⟩
      refine m_lastBut hK' (Or.inl rfl) (by rw [ex 68 (by decide), e68]; omega) ⟨_, rfl, ?_⟩
      rw [el, el]
      have T := hT 0 (zlb mu 1) (zlb mu 0) (Nat.two_pow_pos _) lb1 lb0 (Or.inl (by omega))
      rw [e67, e70, e71, zcmn_0, Nat.sub_zero, ← hV1] at T
      have T2 : xi 82 (64 * 0 + 8 * zlb mu 1 + zlb mu 0) = znn (nu 42 1) := T
      refine m_spot hK' ⟨_, rfl, by omega, by omega, ?_⟩
      rw [T2]
      have jx := go xi hx
      have nb : zin (znn (nu 42 1)) := by
        unfold znn
        split <;> exact ⟨by omega, by omega⟩
      refine ⟨fun q => absurd q (by omega), fun q => ⟨nb, fun q2 => ?_, fun q2 => ⟨fun q3 => absurd q3 q2, fun _ => ⟨?_, _, jx⟩⟩⟩⟩
      · have q3 : 0 ≤ nu 42 1 := by
          unfold znn at q2
          split at q2 <;> omega
        refine m_ord97 (mu := nu) (by omega) hK' hRQ (by rw [e70]; omega) hx hT (a2 + 1).toNat (mu 70 0).toNat 0 0 _ _ (-4) (Nat.two_pow_pos _) (by rw [zcmn_0, e70]; omega) (by omega) (by omega) (by rw [e70]; omega) lb1 lb0 (by rw [e67, e70, e71, ← hV1]; exact q3) ⟨?_, _, jx⟩
        rw [e67, e70, e71, if_neg (by omega), hr, if_pos q3, if_neg c3, hV2 q3 a2 (by omega) (by omega), show (a2 + 1).toNat - 1 = a2.toNat by omega]
      · rw [hr]
        unfold znn at q2
        split at q2
        · rw [if_neg (by omega)]
        · omega
  have bad : (¬ (0 ≤ a1 ∧ a1 < 2 ^ (mu (mu 0 3) 3).toNat) ∨ ¬ (a2 = -1 ∨ (0 ≤ a2 ∧ a2 < mu (mu 0 3) 3))) → zC 93 4 mX9_order [zR 64, zI a1, zI a2] mu (fun v' nu' => v' = zI (-1) ∧ ∃ P', jJ nu' P') := fun w => by
    refine ce_X9_order (sg_X9_order_0 (by omega) hK' (m_isQueue (by omega) hK' ha (by omega) ⟨_, rfl, zbin _, fun c => ⟨rfl, _, hJ0⟩, fun c => ⟨hb, fun c3 => ?_, fun c3 => ?_⟩⟩))
    · exfalso
      rw [← n1] at c
      split at c <;> omega
    · refine m_isWish (by omega) hK' hb (by omega) ⟨_, rfl, zbin _, fun c5 => ?_, fun c5 => ⟨rfl, _, hJ0⟩⟩
      exfalso
      rw [← n1] at c
      split at c <;> split at c5 <;> omega
  have no : (0 ≤ a1 ∧ a1 < 2 ^ (mu (mu 0 3) 3).toNat) → (a2 = -1 ∨ (0 ≤ a2 ∧ a2 < mu (mu 0 3) 3)) → ¬ (mu 67 0 = 0 ∨ mu 67 0 = 3) → zC 93 4 mX9_order [zR 64, zI a1, zI a2] mu (fun v' nu' => v' = zI (-2) ∧ ∃ P', jJ nu' P') := fun w1 w2 hsh => by
    refine ce_X9_order (sg_X9_order_0 (by omega) hK' (m_isQueue (by omega) hK' ha (by omega) ⟨_, rfl, zbin _, fun c => by exfalso; rw [← n1, if_pos (by omega)] at c; omega, fun c => ⟨hb, fun c3 => ?_, fun c3 => ?_⟩⟩))
    · exact m_isShort hK' ⟨by omega, by omega⟩ ⟨_, rfl, zbin _, fun c2 => by exfalso; rw [if_neg hsh] at c2; omega, fun c2 => ⟨rfl, _, hJ0⟩⟩
    · refine m_isWish (by omega) hK' hb (by omega) ⟨_, rfl, zbin _, fun c5 => ?_, fun c5 => by exfalso; rw [if_pos (by omega)] at c5; omega⟩
      exact m_isShort hK' ⟨by omega, by omega⟩ ⟨_, rfl, zbin _, fun c2 => by exfalso; rw [if_neg hsh] at c2; omega, fun c2 => ⟨rfl, _, hJ0⟩⟩
  have ob : ∀ nu : Mem, zsm [42, 43, 44, 45] mu nu → jOr nu (mu 0 3) → nu 42 2 = a1 → 0 ≤ a1 → (zin (nu 42 1)) ∧ (0 ≤ nu 42 1 → 0 ≤ a2 → a2 < mu (mu 0 3) 3 → zin (nu 43 a2)) := fun nu hz hor h42 w => by
    have e : ∀ k : Int, k < 42 ∨ 46 ≤ k → nu k = mu k := fun k q => hz k (by simp only [List.mem_cons, List.not_mem_nil, or_false]; omega)
    have eP := e (mu 0 3) (by omega)
    rcases hor with q | ⟨q1, q2, q3, q4⟩
    · omega
    · have vb := zOv_bd (kind := nu (mu 0 3) 1) (n := (nu (mu 0 3) 3).toNat) (w := nu (mu 0 3 + 2)) (set := (nu 42 2).toNat) (nu (mu 0 3) 3).toNat 0 (zab nu (mu 0 3) 2) (zab nu (mu 0 3) 1)
      rw [eP] at vb q3 q4
      refine ⟨by rw [q3]; exact ⟨by omega, by omega⟩, fun u1 u2 u3 => ?_⟩
      rw [q4 u1 a2 u2 u3]
      have := zOl_bd (kind := mu (mu 0 3) 1) (n := (mu (mu 0 3) 3).toNat) (w := nu (mu 0 3 + 2)) (set := (nu 42 2).toNat) (mu (mu 0 3) 3).toNat 0 (zab nu (mu 0 3) 2) (zab nu (mu 0 3) 1) a2.toNat
      exact ⟨by omega, by omega⟩
  refine ce_X8_order (sg_X8_order_0 (by omega) hK (s_isSet (by omega) hK hPi ha ⟨n2, n3⟩ ⟨_, rfl, zbin _, fun c => ⟨_, ⟨by omega, by omega⟩, rfl, bad (Or.inl (by split at c <;> omega))⟩, fun c => ⟨hb, fun c3 => ⟨hPi, ?_⟩, fun c3 => ?_⟩⟩))
  · have w1 : 0 ≤ a1 ∧ a1 < 2 ^ (mu (mu 0 3) 3).toNat := by split at c <;> omega
    refine s_remembersTwo hK hPi ⟨by omega, by omega⟩ ⟨_, rfl, zbin _, fun c4 => ?_, fun c4 => ⟨_, ⟨by omega, by omega⟩, rfl, no w1 (Or.inl c3) (by split at c4 <;> omega)⟩⟩
    have csh : mu 67 0 = 0 ∨ mu 67 0 = 3 := by split at c4 <;> omega
    obtain ⟨S, hS⟩ : ∃ S : Nat, a1 = S := ⟨a1.toNat, by omega⟩
    have fo := s_findO (K := 93) (d := 33) (mu := mu) (P := mu 0 3) (S := S) (Q := fun v_ nu10 => v_ = zV ∧ (zin (nu10 42 1) ∧ ((0 ≤ (nu10 42 1) → ((¬ a2 = (-1) → (0 ≤ a2 ∧ a2 < 10 ∧ (∃ r, zin r ∧ zI (nu10 43 a2) = zI r ∧ zC 93 4 mX9_order [zR 64, zI a1, zI a2] nu10 (fun v' nu' => v' = zI r ∧ ∃ P', jJ nu' P')))) ∧ (a2 = (-1) → (∃ r, zin r ∧ zI (nu10 42 1) = zI r ∧ zC 93 4 mX9_order [zR 64, zI a1, zI a2] nu10 (fun v' nu' => v' = zI r ∧ ∃ P', jJ nu' P'))))) ∧ (¬ 0 ≤ (nu10 42 1) → (∃ r, zin r ∧ zI (-4) = zI r ∧ zC 93 4 mX9_order [zR 64, zI a1, zI a2] nu10 (fun v' nu' => v' = zI r ∧ ∃ P', jJ nu' P')))))) (by omega) hK hPi hpo (by omega) (by omega) h6 (fun nu hz hor h42 => ?_)
    · rw [← hS] at fo
      exact fo
    rw [← hS] at h42
    have o := ob nu hz hor h42 w1.1
    refine ⟨rfl, o.1, fun q => ⟨fun q2 => absurd c3 q2, fun _ => ⟨_, o.1, rfl, fin nu _ hz hor h42 w1 (Or.inl c3) csh (by rw [if_pos q, if_pos c3])⟩⟩, fun q => ⟨_, ⟨by omega, by omega⟩, rfl, fin nu _ hz hor h42 w1 (Or.inl c3) csh (by rw [if_neg q])⟩⟩
  · have w1 : 0 ≤ a1 ∧ a1 < 2 ^ (mu (mu 0 3) 3).toNat := by split at c <;> omega
    refine s_isQueued (by omega) hK hPi hb ⟨n2, n3⟩ ⟨_, rfl, zbin _, fun c5 => ⟨hPi, ?_⟩, fun c5 => ⟨_, ⟨by omega, by omega⟩, rfl, bad (Or.inr (by split at c5 <;> omega))⟩⟩
    have w2 : 0 ≤ a2 ∧ a2 < mu (mu 0 3) 3 := by split at c5 <;> omega
    refine s_remembersTwo hK hPi ⟨by omega, by omega⟩ ⟨_, rfl, zbin _, fun c4 => ?_, fun c4 => ⟨_, ⟨by omega, by omega⟩, rfl, no w1 (Or.inr w2) (by split at c4 <;> omega)⟩⟩
    have csh : mu 67 0 = 0 ∨ mu 67 0 = 3 := by split at c4 <;> omega
    obtain ⟨S, hS⟩ : ∃ S : Nat, a1 = S := ⟨a1.toNat, by omega⟩
    have fo := s_findO (K := 93) (d := 33) (mu := mu) (P := mu 0 3) (S := S) (Q := fun v_ nu10 => v_ = zV ∧ (zin (nu10 42 1) ∧ ((0 ≤ (nu10 42 1) → ((¬ a2 = (-1) → (0 ≤ a2 ∧ a2 < 10 ∧ (∃ r, zin r ∧ zI (nu10 43 a2) = zI r ∧ zC 93 4 mX9_order [zR 64, zI a1, zI a2] nu10 (fun v' nu' => v' = zI r ∧ ∃ P', jJ nu' P')))) ∧ (a2 = (-1) → (∃ r, zin r ∧ zI (nu10 42 1) = zI r ∧ zC 93 4 mX9_order [zR 64, zI a1, zI a2] nu10 (fun v' nu' => v' = zI r ∧ ∃ P', jJ nu' P'))))) ∧ (¬ 0 ≤ (nu10 42 1) → (∃ r, zin r ∧ zI (-4) = zI r ∧ zC 93 4 mX9_order [zR 64, zI a1, zI a2] nu10 (fun v' nu' => v' = zI r ∧ ∃ P', jJ nu' P')))))) (by omega) hK hPi hpo (by omega) (by omega) h6 (fun nu hz hor h42 => ?_)
    · rw [← hS] at fo
      exact fo
    rw [← hS] at h42
    have o := ob nu hz hor h42 w1.1
    refine ⟨rfl, o.1, fun q => ⟨fun q2 => ⟨w2.1, by omega, _, o.2 q w2.1 w2.2, rfl, fin nu _ hz hor h42 w1 (Or.inr w2) csh (by rw [if_pos q, if_neg q2])⟩, fun q2 => absurd q2 c3⟩, fun q => ⟨_, ⟨by omega, by omega⟩, rfl, fin nu _ hz hor h42 w1 (Or.inr w2) csh (by rw [if_neg q])⟩⟩
