/-! orders: the class's finder -/
theorem zFO.c {mu nu : Mem} {P : Int} (h : zFO mu P) (h0 : nu P = mu P) (h1 : nu (P + 1) = mu (P + 1)) (h2 : nu (P + 2) = mu (P + 2)) (h3 : nu (P + 3) = mu (P + 3)) (h4 : nu 42 2 = mu 42 2) (h5 : nu 44 = mu 44) : zFO nu P := by
  unfold zFO zPO zAl at *
  rw [h0, h1, h2, h3, h4, h5]
  exact h
theorem zKn.c {mu nu M N : Mem} {P : Int} (h : zKn mu nu P) (h0 : M P = mu P) (h2 : M (P + 2) = mu (P + 2)) (h4 : M 42 2 = mu 42 2) (h5 : N 45 = nu 45) : zKn M N P := by
  unfold zKn zVo at *
  rw [h0, h2, h4, h5]
  exact h
section S66
variable {K d : Nat} {mu : Mem} {Q : AV → Mem → Prop}
theorem s_firstOfMost {P : Int} {m c : Nat} {a b dep : Int} {nu : Mem} (hd : 31 ≤ d) (hK : 64 ≤ K) (hP : isP K P) (hf : zFO mu P) (hc : c < 2 ^ (mu P 3).toNat) (hm : zcmn c (mu P 3).toNat + (m + 1) = (mu P 3).toNat) (hdep : dep + (m + 1) = mu P 3) (ha : 0 ≤ a ∧ a ≤ 6) (hb : 0 ≤ b ∧ b ≤ 6) (hz : zsm [43, 45] mu nu) (hk : zKn mu nu P) (hv : 0 ≤ zVo mu P (m + 1) c a b)
    (h : ∀ xi, zsm [45] nu xi → zKn mu xi P → Q (zI (zpk (mu P 1) (mu P 3).toNat (mu (P + 2)) (mu 42 2).toNat m c a b)) xi) : zC K d mX1_firstOfMost [zR 42, zR P, zI c, zI (a * 7 + b), zI dep] nu Q := by
  have hP2 := hP.2
  have hn := hf.1.2.2.2.1
  obtain ⟨I, I1, I2, I3, I4, I5⟩ := zpk_ok hv
  have vb : -1 ≤ zVo mu P (m + 1) c a b ∧ zVo mu P (m + 1) c a b ≤ ((m + 1 : Nat) : Int) := zOv_bd (kind := mu P 1) (n := (mu P 3).toNat) (w := mu (P + 2)) (set := (mu 42 2).toNat) (m + 1) c a b
  have l : ∀ (q i : Nat) (xi : Mem), i + q = I → zsm [45] nu xi → zKn mu xi P → zG K d mX1_firstOfMost 14 [zR 42, zR P, zI c, zI (a * 7 + b), zI dep, zI (zVo mu P (m + 1) c a b), zI i] [] xi Q := by
    intro q
    induction q with
    | zero =>
      intro i xi hi hx hkx
      have ei : i = I := by omega
      subst ei
      have hxz : zsm [43, 45] mu xi := hz.tr (hx.wk (by simp))
      have xe : ∀ k : Int, k ≠ 43 → k ≠ 45 → xi k = mu k := fun k q q2 => hxz k (by simp only [List.mem_cons, List.not_mem_nil, or_false]; omega)
      have xP := xe P (by omega) (by omega)
      have hf' : zFO xi P := hf.c xP (xe _ (by omega) (by omega)) (xe _ (by omega) (by omega)) (xe _ (by omega) (by omega)) (by rw [xe 42 (by omega) (by omega)]) (xe _ (by omega) (by omega))
      have xm : zMy xi P c = zMy mu P c := by
        unfold zMy
        rw [xe (P + 2) (by omega) (by omega), xe 42 (by omega) (by omega)]
      refine sg_X1_firstOfMost_14 hd hK hP ⟨⟨by omega, by omega⟩, by rw [xP]; exact ⟨by omega, by omega⟩, fun w => absurd w (by rw [xP]; omega), fun _ => ?_⟩
      refine s_mayCome (by omega) hK hP hf' (by rw [xP]; exact hc) (by rw [xP]; omega) (fun y => ⟨_, rfl, ⟨by omega, by omega⟩, fun w => absurd w (by omega), fun _ => ?_⟩) (fun y => ?_)
      · refine l_ifComes hK hP hf (s_mostLeft hK hP hf m) (by omega) hc hm (by omega) ha hb hxz hkx I2 I3.1 (fun om hom hko => ⟨_, rfl, ?_⟩)
        have e : zBo mu P m c a b i = zVo mu P (m + 1) c a b := I4
        rw [e]
        refine ⟨⟨by omega, by omega⟩, ⟨by omega, by omega⟩, fun w => absurd rfl w, fun _ => ?_⟩
        have := h om (hx.tr hom) hko
        rw [I1] at this
        exact this
      · rw [xm, show ((i : Nat) : Int).toNat = i by omega] at y
        exact absurd I3 y
    | succ q ihq =>
      intro i xi hi hx hkx
      have hxz : zsm [43, 45] mu xi := hz.tr (hx.wk (by simp))
      have xe : ∀ k : Int, k ≠ 43 → k ≠ 45 → xi k = mu k := fun k q q2 => hxz k (by simp only [List.mem_cons, List.not_mem_nil, or_false]; omega)
      have xP := xe P (by omega) (by omega)
      have hf' : zFO xi P := hf.c xP (xe _ (by omega) (by omega)) (xe _ (by omega) (by omega)) (xe _ (by omega) (by omega)) (by rw [xe 42 (by omega) (by omega)]) (xe _ (by omega) (by omega))
      have xm : zMy xi P c = zMy mu P c := by
        unfold zMy
        rw [xe (P + 2) (by omega) (by omega), xe 42 (by omega) (by omega)]
      refine sg_X1_firstOfMost_14 hd hK hP ⟨⟨by omega, by omega⟩, by rw [xP]; exact ⟨by omega, by omega⟩, fun w => absurd w (by rw [xP]; omega), fun _ => ?_⟩
      refine s_mayCome (by omega) hK hP hf' (by rw [xP]; exact hc) (by rw [xP]; omega) (fun y => ⟨_, rfl, ⟨by omega, by omega⟩, fun w => absurd w (by omega), fun _ => ?_⟩) (fun y => ⟨_, rfl, ⟨by omega, by omega⟩, fun _ => ?_, fun w => absurd rfl w⟩)
      · rw [xm, show ((i : Nat) : Int).toNat = i by omega] at y
        have bb : -1 ≤ zBo mu P m c a b i ∧ zBo mu P m c a b i ≤ m + 1 := zbr_bd (kind := mu P 1) (w := mu (P + 2)) (set := (mu 42 2).toNat) (i := i) (a := a) (b := b) (zOv_bd (kind := mu P 1) (n := (mu P 3).toNat) (w := mu (P + 2)) (set := (mu 42 2).toNat) m (c ||| 2 ^ i) b (mu (P + 2) i)).2 (by omega)
        refine l_ifComes hK hP hf (s_mostLeft hK hP hf m) (by omega) hc hm (by omega) ha hb hxz hkx (by omega) y.1 (fun om hom hko => ⟨_, rfl, ⟨by omega, by omega⟩, ⟨by omega, by omega⟩, fun w => ?_, fun w => absurd w (I5 i (by omega) y.1)⟩)
        have := ihq (i + 1) om (by omega) (hx.tr hom) hko
        exact this
      · have := ihq (i + 1) xi (by omega) hx hkx
        exact this
  refine ce_X1_firstOfMost (sg_X1_firstOfMost_0 hd hK hP (s_mostLeft hK hP hf (m + 1) 30 c a b dep nu _ (by omega) hc hm (by omega) ha hb hz hk (fun xi hx hkx => ⟨_, rfl, ?_⟩)))
  exact l I 0 xi (by omega) hx hkx
theorem s_followMost {P : Int} {nu : Mem} (hd : 32 ≤ d) (hK : 64 ≤ K) (hP : isP K P) (hf : zFO mu P) (hz : zsm [43, 45] mu nu) (hk : zKn mu nu P) (hv : 0 ≤ zVo mu P (mu P 3).toNat 0 (zab mu P 2) (zab mu P 1))
    (h : ∀ xi, zsm [43, 45] mu xi → (∀ i : Nat, i < (mu P 3).toNat → xi 43 i = (zOl (mu P 1) (mu P 3).toNat (mu (P + 2)) (mu 42 2).toNat (mu P 3).toNat 0 (zab mu P 2) (zab mu P 1)).getD i 0) → Q zV xi) : zC K d mX1_followMost [zR 42, zR P] nu Q := by
  have hP2 := hP.2
  have hn := hf.1.2.2.2.1
  have hw := hf.1.2.2.2.2.2.1
  have ht := hf.1.1
  have hA := hf.1.2.2.2.2.1
  have h2 := hf.1.2.2.1
  have ab : ∀ b, (b = 1 ∨ b = 2) → 0 ≤ zab mu P b ∧ zab mu P b ≤ 6 := fun b hb2 => by
    unfold zab
    split
    · have := hA (mu P 2 - b) (by omega) (by omega)
      omega
    · omega
  have l : ∀ (m c : Nat) (a b dep : Int) (xi : Mem), c < 2 ^ (mu P 3).toNat → zcmn c (mu P 3).toNat + m = (mu P 3).toNat → dep + m = mu P 3 → (0 ≤ a ∧ a ≤ 6) → (0 ≤ b ∧ b ≤ 6) → zsm [43, 45] mu xi → zKn mu xi P → 0 ≤ zVo mu P m c a b → (∀ om, zsm [43, 45] mu om → (∀ j : Int, 0 ≤ j → j < dep → om 43 j = xi 43 j) → (∀ j : Nat, j < m → om 43 (dep + j) = (zOl (mu P 1) (mu P 3).toNat (mu (P + 2)) (mu 42 2).toNat m c a b).getD j 0) → Q zV om) → zG K d mX1_followMost 10 [zR 42, zR P, zI c, zI (a * 7 + b), zI dep, zU] [] xi Q := by
    intro m
    induction m with
    | zero =>
      intro c a b dep xi hc hm hdep ha hb hx hkx hv k
      have xP : xi P = mu P := hx _ (by simp only [List.mem_cons, List.not_mem_nil, or_false]; omega)
      exact sg_X1_followMost_10 hd hK hP ⟨⟨by omega, by omega⟩, by rw [xP]; exact ⟨by omega, by omega⟩, fun _ => k xi hx (fun _ _ _ => rfl) (fun j hj => absurd hj (by omega)), fun w => absurd (by rw [xP]; omega) w⟩
    | succ m ih =>
      intro c a b dep xi hc hm hdep ha hb hx hkx hv k
      have xP : xi P = mu P := hx _ (by simp only [List.mem_cons, List.not_mem_nil, or_false]; omega)
      obtain ⟨I, I1, I2, I3, I4, I5⟩ := zpk_ok hv
      have wI := hw I (by omega) (by omega)
      refine sg_X1_followMost_10 hd hK hP ⟨⟨by omega, by omega⟩, by rw [xP]; exact ⟨by omega, by omega⟩, fun w => absurd w (by rw [xP]; omega), fun _ => ?_⟩
      refine s_firstOfMost (by omega) hK hP hf hc hm (by omega) ha hb hx hkx hv (fun om hom hko => ⟨_, rfl, by omega, by omega, ?_⟩)
      rw [I1]
      have hoz : zsm [43, 45] mu (zup om 43 dep I) := (hx.tr (hom.wk (by simp))).up (by simp)
      have oe : ∀ k : Int, k ≠ 43 → k ≠ 45 → zup om 43 dep I k = mu k := fun k q q2 => hoz k (by simp only [List.mem_cons, List.not_mem_nil, or_false]; omega)
      have ho' : zPO (zup om 43 dep I) P := by
        have ho := hf.1
        unfold zPO at ho ⊢
        rw [oe P (by omega) (by omega), oe (P + 2) (by omega) (by omega), oe (P + 1) (by omega) (by omega), oe (P + 3) (by omega) (by omega)]
        exact ho
      refine s_pairBehind hK hP ho' ha hb (by rw [oe P (by omega) (by omega)]; omega) ⟨_, rfl, ?_⟩
      rw [oe (P + 2) (by omega) (by omega), zor_c hc (by omega) (by omega) (by omega), show ((I : Nat) : Int).toNat = I by omega]
      have cm := zcmn_or I3.1 (mu P 3).toNat
      rw [if_pos I2] at cm
      refine ih (c ||| 2 ^ I) b (mu (P + 2) I) (dep + 1) _ (zor_lt hc I2) (by omega) (by omega) hb (by omega) hoz (hko.c rfl rfl rfl (zup_row _ (by decide))) ?_ (fun zt hzt k1 k2 => ?_)
      · exact zbr_pos (kind := mu P 1) (w := mu (P + 2)) (set := (mu 42 2).toNat) (i := I) (a := a) (b := b) (by rw [I4]; exact hv)
      · refine k zt hzt (fun j j0 j1 => ?_) (fun j hj => ?_)
        · rw [k1 j j0 (by omega), zup_slot _ (by omega), hom 43 (by decide)]
        · rw [zOl, I1, show ((I : Nat) : Int).toNat = I by omega]
          match j, hj with
          | 0, _ =>
            have := k1 dep (by omega) (by omega)
            rw [zup_same] at this
            rw [show dep + ((0 : Nat) : Int) = dep by omega, this]
            rfl
          | j + 1, hj =>
            have := k2 j (by omega)
            rw [show dep + ((j + 1 : Nat) : Int) = dep + 1 + (j : Int) by omega, this]
            rfl
  have xP : nu P = mu P := hz _ (by simp only [List.mem_cons, List.not_mem_nil, or_false]; omega)
  have xP1 : nu (P + 1) = mu (P + 1) := hz _ (by simp only [List.mem_cons, List.not_mem_nil, or_false]; omega)
  refine ce_X1_followMost (sg_X1_followMost_0 hd hK hP (s_pairAhead (by omega) hK hP (by rw [xP]; exact h2) ⟨_, rfl, ?_⟩))
  unfold zpa
  rw [zab_congr xP xP1, zab_congr xP xP1]
  have := l (mu P 3).toNat 0 (zab mu P 2) (zab mu P 1) 0 nu (Nat.two_pow_pos _) (by rw [zcmn_0]; omega) (by omega) (ab 2 (Or.inr rfl)) (ab 1 (Or.inl rfl)) hz hk hv (fun om hom k1 k2 => h om hom (fun i hi => by
    have := k2 i hi
    rw [show (0 : Int) + (i : Int) = i by omega] at this
    exact this))
  exact this
theorem s_findAlike {P : Int} (hd : 1 ≤ d) (hK : 64 ≤ K) (hP : isP K P) (ho : zPO mu P) (hs : 0 ≤ mu 42 2 ∧ mu 42 2 < 2 ^ (mu P 3).toNat) (h : ∀ nu, zsm [44] mu nu → (∀ i : Nat, i < (mu P 3).toNat → ∃ A : Nat, nu 44 i = A ∧ A < 1024 ∧ ∀ j, A.testBit j = true ↔ (j < i ∧ zal (mu (P + 2)) (mu 42 2).toNat j i)) → Q zV nu) : zC K d mX1_findAlike [zR 42, zR P] mu Q := by
  have hP2 := hP.2
  have hn := ho.2.2.2.1
  have hw := ho.2.2.2.2.2.1
  have ht := ho.1
  have pb := zpow_bd (n := mu P 3) (by omega) (by omega)
  have l19 : ∀ (i : Nat), i < (mu P 3).toNat → (∀ xi, zsm [44] mu xi → (∀ i' : Nat, i' < i + 1 → ∃ A : Nat, xi 44 i' = A ∧ A < 1024 ∧ ∀ j, A.testBit j = true ↔ (j < i' ∧ zal (mu (P + 2)) (mu 42 2).toNat j i')) → zG K d mX1_findAlike 2 [zR 42, zR P, zI (i + 1), zU] [] xi Q) → ∀ (q j : Nat) (nu : Mem) (A : Nat), j + q = i → zsm [44] mu nu → (∀ i' : Nat, i' < i → ∃ A : Nat, nu 44 i' = A ∧ A < 1024 ∧ ∀ j, A.testBit j = true ↔ (j < i' ∧ zal (mu (P + 2)) (mu 42 2).toNat j i')) → nu 44 i = A → A < 2 ^ (mu P 3).toNat → (∀ k, A.testBit k = true ↔ (k < j ∧ zal (mu (P + 2)) (mu 42 2).toNat k i)) → zG K d mX1_findAlike 19 [zR 42, zR P, zI i, zI j] [] nu Q := by
    intro i hi kk q
    induction q with
    | zero =>
      intro j nu A hj hz hb hA hA2 hAb
      have e : j = i := by omega
      subst e
      refine sg_X1_findAlike_19 hd hK hP ⟨⟨by omega, by omega⟩, ⟨by omega, by omega⟩, fun _ => kk nu hz (fun i' hi' => ?_), fun w => absurd (Int.le_refl _) w⟩
      by_cases q : i' = j
      · subst q
        exact ⟨A, hA, zc10 hA2 (by omega), hAb⟩
      · exact hb i' (by omega)
    | succ q ih =>
      intro j nu A hj hz hb hA hA2 hAb
      have e42 : nu 42 = mu 42 := hz 42 (by decide)
      have eP2 : nu (P + 2) = mu (P + 2) := hz _ (by simp only [List.mem_cons, List.not_mem_nil, or_false]; omega)
      have wi := hw i (by omega) (by omega)
      have wj := hw j (by omega) (by omega)
      have se : mu 42 2 = (((mu 42 2).toNat : Nat) : Int) := by omega
      have no : ¬ zal (mu (P + 2)) (mu 42 2).toNat j i → zG K d mX1_findAlike 19 [zR 42, zR P, zI i, zI (j + 1)] [] nu Q := fun w => by
        have := ih (j + 1) nu A (by omega) hz hb hA hA2 (fun k => by
          rw [hAb k]
          constructor
          · exact fun u => ⟨by omega, u.2⟩
          · intro u
            refine ⟨?_, u.2⟩
            by_cases z : k = j
            · rw [z] at u
              exact absurd u.2 w
            · omega)
        exact this
      refine sg_X1_findAlike_19 hd hK hP ⟨⟨by omega, by omega⟩, ⟨by omega, by omega⟩, fun w => absurd w (by omega), fun _ => ⟨by omega, by omega, by omega, by omega, ?_⟩⟩
      rw [eP2]
      refine ⟨⟨by omega, by omega⟩, ⟨by omega, by omega⟩, fun w => no (fun u => w u.1), fun w => ?_⟩
      rw [e42, se]
      refine s_isIn hK hP (by omega) (by omega) ⟨_, rfl, ?_⟩
      rw [e42, se]
      refine s_isIn hK hP (by omega) (by omega) ⟨_, rfl, zbin _, zbin _, ?_⟩
      rw [show ((i : Nat) : Int).toNat = i by omega, show ((j : Nat) : Int).toNat = j by omega, show (((mu 42 2).toNat : Nat) : Int).toNat = (mu 42 2).toNat by omega]
      refine ⟨fun u => no (fun z => u ?_), fun u => ?_⟩
      · rw [z.2]
      · have hb2 : (mu 42 2).toNat.testBit j = (mu 42 2).toNat.testBit i := by
          generalize (mu 42 2).toNat.testBit j = x at u ⊢
          generalize (mu 42 2).toNat.testBit i = y at u ⊢
          cases x <;> cases y <;> simp at u ⊢
        rw [hA, zor_c hA2 (by omega) (by omega) (by omega), show ((j : Nat) : Int).toNat = j by omega]
        have := ih (j + 1) _ (A ||| 2 ^ j) (by omega) (hz.up (by simp)) (fun i' hi' => ?_) (zup_same _ _ _ _) (zor_lt hA2 (by omega)) (fun k => ?_)
        · exact this
        · rw [zup_slot _ (by omega)]
          exact hb i' hi'
        · rw [zor_bit]
          by_cases z : j = k
          · subst z
            simp
            exact ⟨w, hb2⟩
          · simp only [z, decide_false, Bool.or_false]
            rw [hAb k]
            constructor
            · exact fun u => ⟨by omega, u.2⟩
            · exact fun u => ⟨by omega, u.2⟩
  have l2 : ∀ (q i : Nat) (nu : Mem), i + q = (mu P 3).toNat → zsm [44] mu nu → (∀ i' : Nat, i' < i → ∃ A : Nat, nu 44 i' = A ∧ A < 1024 ∧ ∀ j, A.testBit j = true ↔ (j < i' ∧ zal (mu (P + 2)) (mu 42 2).toNat j i')) → zG K d mX1_findAlike 2 [zR 42, zR P, zI i, zU] [] nu Q := by
    intro q
    induction q with
    | zero =>
      intro i nu hi hz hb
      have e : i = (mu P 3).toNat := by omega
      subst e
      have eP : nu P = mu P := hz _ (by simp only [List.mem_cons, List.not_mem_nil, or_false]; omega)
      exact sg_X1_findAlike_2 hd hK hP ⟨⟨by omega, by omega⟩, by rw [eP]; exact ⟨by omega, by omega⟩, fun _ => h nu hz hb, fun w => absurd (by rw [eP]; omega) w⟩
    | succ q ih =>
      intro i nu hi hz hb
      have eP : nu P = mu P := hz _ (by simp only [List.mem_cons, List.not_mem_nil, or_false]; omega)
      refine sg_X1_findAlike_2 hd hK hP ⟨⟨by omega, by omega⟩, by rw [eP]; exact ⟨by omega, by omega⟩, fun w => absurd w (by rw [eP]; omega), fun _ => ⟨by omega, by omega, ?_⟩⟩
      refine l19 i (by omega) (fun xi hx hX => ?_) i 0 _ 0 (by omega) (hz.up (by simp)) (fun i' hi' => ?_) (zup_same _ _ _ _) (Nat.two_pow_pos _) (fun k => ?_)
      · have := ih (i + 1) xi (by omega) hx hX
        exact this
      · rw [zup_slot _ (by omega)]
        exact hb i' hi'
      · simp
  exact ce_X1_findAlike (sg_X1_findAlike_0 hd hK hP (l2 (mu P 3).toNat 0 mu (by omega) zsm.rf (fun i hi => absurd hi (by omega))))
theorem s_findO {P : Int} {S : Nat} (hd : 33 ≤ d) (hK : 64 ≤ K) (hP : isP K P) (ho : zPO mu P) (hkd : mu P 1 = 0 ∨ mu P 1 = 3) (hS : S < 2 ^ (mu P 3).toNat) (hor : jOr mu P)
    (h : ∀ nu, zsm [42, 43, 44, 45] mu nu → jOr nu P → nu 42 2 = S → Q zV nu) : zC K d mX1_find [zR 42, zR P, zI S] mu Q := by
  have hP2 := hP.2
  have hn := ho.2.2.2.1
  have ht := ho.1
  have hA := ho.2.2.2.2.1
  have h2 := ho.2.2.1
  have c10 := zc10 hS (by omega)
  have pb := zpow_bd (n := mu P 3) (by omega) (by omega)
  have sb : (S : Int) < 2 ^ (mu P 3).toNat := by
    have : ((S : Nat) : Int) < ((2 ^ (mu P 3).toNat : Nat) : Int) := by omega
    rw [Int.natCast_pow] at this
    exact this
  have ab : ∀ b, (b = 1 ∨ b = 2) → 0 ≤ zab mu P b ∧ zab mu P b ≤ 6 := fun b hb2 => by
    unfold zab
    split
    · have := hA (mu P 2 - b) (by omega) (by omega)
      omega
    · omega
  refine ce_X1_find (sg_X1_find_0 hd hK hP ⟨?_, ⟨by omega, by omega⟩, fun w => ?_, fun w => h mu zsm.rf hor w⟩)
  · rcases hor with q | q
    · exact ⟨by omega, by omega⟩
    · exact ⟨by omega, by omega⟩
  · refine s_fillI (n := 7168) hK (r45 hK) (fun n1 z1 f1 => ⟨rfl, ?_⟩)
    have e1 : ∀ k : Int, k ≠ 42 → k ≠ 45 → n1 k = mu k := fun k q1 q2 => by rw [z1 k (by simp only [List.mem_cons, List.not_mem_nil, or_false]; omega), zup_row _ q1]
    have p42 : n1 42 2 = S := by rw [z1 42 (by decide), zup_same]
    have ho1 : zPO n1 P := by
      unfold zPO at ho ⊢
      rw [e1 P (by omega) (by omega), e1 (P + 2) (by omega) (by omega), e1 (P + 1) (by omega) (by omega), e1 (P + 3) (by omega) (by omega)]
      exact ho
    refine s_findAlike (by omega) hK hP ho1 (by rw [p42, e1 P (by omega) (by omega)]; omega) (fun n2 z2 f2 => ⟨rfl, ?_⟩)
    have e2 : ∀ k : Int, k ≠ 42 → k ≠ 44 → k ≠ 45 → n2 k = mu k := fun k q1 q2 q3 => by rw [z2 k (by simp only [List.mem_cons, List.not_mem_nil, or_false]; omega), e1 k q1 q3]
    have g42 : n2 42 = n1 42 := z2 42 (by decide)
    have eP := e2 P (by omega) (by omega) (by omega)
    have eP1 := e2 (P + 1) (by omega) (by omega) (by omega)
    have eP2 := e2 (P + 2) (by omega) (by omega) (by omega)
    have hf : zFO n2 P := by
      refine ⟨?_, ⟨by rw [g42, p42, eP]; omega, by rw [eP]; exact hkd⟩, ?_⟩
      · unfold zPO at ho ⊢
        rw [eP, eP1, eP2, e2 (P + 3) (by omega) (by omega) (by omega)]
        exact ho
      · unfold zAl
        rw [eP, eP2, g42]
        rw [e1 P (by omega) (by omega), e1 (P + 2) (by omega) (by omega)] at f2
        exact f2
    have hk : zKn n2 n2 P := fun c a hc a0 a1 => by
      have z : n2 45 (c * 7 + a) = 0 := by
        rw [eP] at hc
        have := zc10 hc (by omega)
        rw [z2 45 (by decide)]
        exact f1 _ (by omega) (by omega)
      rw [z]
      refine ⟨⟨by omega, by omega⟩, fun b hb => Or.inl ?_⟩
      unfold zfd
      rw [show (0 : Int).toNat = 0 from rfl, Nat.zero_div]
    refine s_pairAhead (by omega) hK hP (by rw [eP]; exact h2) ⟨_, rfl, ?_⟩
    unfold zpa
    rw [zab_congr eP eP1, zab_congr eP eP1]
    have ml := s_mostLeft (K := K) (mu := n2) hK hP hf (n2 P 3).toNat 30 0 (zab mu P 2) (zab mu P 1) 0 n2 (fun v_ nu10 => ∃ r9, v_ = zI r9 ∧ (zin ((zup nu10 42 1 r9) 42 1) ∧ ((((zup nu10 42 1 r9) 42 1) < 0 → Q zV (zup nu10 42 1 r9)) ∧ (¬ ((zup nu10 42 1 r9) 42 1) < 0 → zC K 32 mX1_followMost [zR 42, zR P] (zup nu10 42 1 r9) (fun v_ nu13 => v_ = zV ∧ Q zV nu13))))) (by rw [eP]; omega) (Nat.two_pow_pos _) (by rw [zcmn_0]; omega) (by rw [eP]; omega) (ab 2 (Or.inr rfl)) (ab 1 (Or.inl rfl)) zsm.rf hk (fun n3 z3 k3 => ⟨_, rfl, ?_⟩)
    · exact ml
    rw [zup_same]
    have vb : -1 ≤ zVo n2 P (n2 P 3).toNat 0 (zab mu P 2) (zab mu P 1) ∧ zVo n2 P (n2 P 3).toNat 0 (zab mu P 2) (zab mu P 1) ≤ (((n2 P 3).toNat : Nat) : Int) := zOv_bd (kind := n2 P 1) (n := (n2 P 3).toNat) (w := n2 (P + 2)) (set := (n2 42 2).toNat) (n2 P 3).toNat 0 (zab mu P 2) (zab mu P 1)
    rw [eP] at vb
    generalize hr : zVo n2 P (n2 P 3).toNat 0 (zab mu P 2) (zab mu P 1) = r at vb ⊢
    rw [eP] at hr
    rw [hr] at vb
    generalize hM : zup n3 42 1 r = M
    have zM : zsm [42, 43, 44, 45] mu M := by
      rw [← hM]
      exact (((zsm.rf.up (by simp)).tr (z1.wk (by simp))).tr (z2.wk (by simp))).tr (z3.wk (by simp)) |>.up (by simp)
    have eM : ∀ k : Int, k ≠ 42 → k ≠ 43 → k ≠ 44 → k ≠ 45 → M k = mu k := fun k q1 q2 q3 q4 => zM k (by simp only [List.mem_cons, List.not_mem_nil, or_false]; omega)
    have M1 : M 42 1 = r := by rw [← hM, zup_same]
    have M2 : M 42 2 = S := by rw [← hM, zup_slot _ (by decide), z3 42 (by decide), g42, p42]
    have MP := eM P (by omega) (by omega) (by omega) (by omega)
    have MP1 := eM (P + 1) (by omega) (by omega) (by omega) (by omega)
    have MP2 := eM (P + 2) (by omega) (by omega) (by omega) (by omega)
    have hr' : r = zVo M P (mu P 3).toNat 0 (zab mu P 2) (zab mu P 1) := by
      rw [← hr]
      unfold zVo
      rw [eP, eP2, g42, p42, MP, MP2, M2]
    refine ⟨⟨by omega, by omega⟩, fun q => h M zM (Or.inr ?_) M2, fun q => ?_⟩
    · rw [M1, M2, MP, MP2, zab_congr MP MP1, zab_congr MP MP1]
      refine ⟨by omega, by omega, ?_, fun w => absurd q (by omega)⟩
      rw [hr']
      unfold zVo
      rw [MP, MP2, M2]
    · have hfM : zFO M P := hf.c (by rw [MP, eP]) (by rw [MP1, eP1]) (by rw [MP2, eP2]) (by rw [eM (P + 3) (by omega) (by omega) (by omega) (by omega), e2 (P + 3) (by omega) (by omega) (by omega)]) (by rw [M2, g42, p42]) (by rw [← hM, zup_row _ (by decide), z3 44 (by decide)])
      refine s_followMost (by omega) hK hP hfM zsm.rf (k3.c (by rw [MP, eP]) (by rw [MP2, eP2]) (by rw [M2, g42, p42]) (by rw [← hM, zup_row _ (by decide)])) (by rw [zab_congr MP MP1, zab_congr MP MP1, MP, ← hr']; omega) (fun n4 z4 f4 => ⟨rfl, ?_⟩)
      have z5 : zsm [42, 43, 44, 45] mu n4 := zM.tr (z4.wk (by simp))
      have e5 : ∀ k : Int, k ≠ 42 → k ≠ 43 → k ≠ 44 → k ≠ 45 → n4 k = mu k := fun k q1 q2 q3 q4 => z5 k (by simp only [List.mem_cons, List.not_mem_nil, or_false]; omega)
      have n42 : n4 42 = M 42 := z4 42 (by decide)
      have nP := e5 P (by omega) (by omega) (by omega) (by omega)
      have nP1 := e5 (P + 1) (by omega) (by omega) (by omega) (by omega)
      have nP2 := e5 (P + 2) (by omega) (by omega) (by omega) (by omega)
      refine h n4 z5 (Or.inr ?_) (by rw [n42, M2])
      rw [n42, M1, M2, nP, nP2, zab_congr nP nP1, zab_congr nP nP1]
      refine ⟨by omega, by omega, ?_, fun w i i0 i1 => ?_⟩
      · rw [hr']
        unfold zVo
        rw [MP, MP2, M2]
      · have := f4 i.toNat (by rw [MP]; omega)
        rw [MP, MP2, M2, zab_congr MP MP1, zab_congr MP MP1, show ((i.toNat : Nat) : Int) = i by omega] at this
        exact this
end S66
