/-! orders: the class -/
def zfd (x : Int) (b : Nat) : Nat := x.toNat / 16 ^ b % 16
theorem z16 (b : Nat) : (16 : Nat) ^ b = 2 ^ (4 * b) := by
  rw [Nat.pow_mul]
theorem zfd_rd {x : Int} {b : Nat} (h0 : 0 ≤ x) (h1 : x < 268435456) (hb : b ≤ 6) : zand (zshr x (4 * (b : Int))) 15 = zfd x b := by
  obtain ⟨n, rfl⟩ : ∃ n : Nat, x = n := ⟨x.toNat, by omega⟩
  rw [show 4 * (b : Int) = ((4 * b : Nat) : Int) by omega, zshr_n (by omega) (by omega), show (15 : Int) = ((15 : Nat) : Int) from rfl, zand_n (Nat.lt_of_le_of_lt (Nat.div_le_self _ _) (by omega)) (by decide)]
  unfold zfd
  rw [z16]
  congr 1
  exact Nat.and_two_pow_sub_one_eq_mod _ 4
theorem zfd_wr {x : Int} {b v : Nat} (h0 : 0 ≤ x) (h1 : x < 268435456) (hb : b ≤ 6) (hv : v ≤ 15) : (0 ≤ zor x (zshl v (4 * (b : Int))) ∧ zor x (zshl v (4 * (b : Int))) < 268435456) ∧ ∀ b', b' ≤ 6 → zfd (zor x (zshl v (4 * (b : Int)))) b' = zfd x b' ||| (if b' = b then v else 0) := by
  obtain ⟨n, rfl⟩ : ∃ n : Nat, x = n := ⟨x.toNat, by omega⟩
  have hv2 : v * 2 ^ (4 * b) < 268435456 := by
    have : b = 0 ∨ b = 1 ∨ b = 2 ∨ b = 3 ∨ b = 4 ∨ b = 5 ∨ b = 6 := by omega
    rcases this with rfl | rfl | rfl | rfl | rfl | rfl | rfl <;> simp only [Nat.reduceMul, Nat.reducePow] <;> omega
  rw [show 4 * (b : Int) = ((4 * b : Nat) : Int) by omega, zshl_n (by omega) (by omega), zor_n (by omega) (by omega)]
  have hlt : n ||| v * 2 ^ (4 * b) < 2 ^ 28 := Nat.or_lt_two_pow (by omega) hv2
  refine ⟨⟨by omega, by omega⟩, fun b' hb' => ?_⟩
  unfold zfd
  rw [show (((n ||| v * 2 ^ (4 * b) : Nat) : Int)).toNat = n ||| v * 2 ^ (4 * b) by omega, show ((n : Nat) : Int).toNat = n by omega, z16, Nat.or_div_two_pow, show (16 : Nat) = 2 ^ 4 from rfl, Nat.or_mod_two_pow]
  congr 1
  have q : b = 0 ∨ b = 1 ∨ b = 2 ∨ b = 3 ∨ b = 4 ∨ b = 5 ∨ b = 6 := by omega
  have q' : b' = 0 ∨ b' = 1 ∨ b' = 2 ∨ b' = 3 ∨ b' = 4 ∨ b' = 5 ∨ b' = 6 := by omega
  rcases q with rfl | rfl | rfl | rfl | rfl | rfl | rfl <;> rcases q' with rfl | rfl | rfl | rfl | rfl | rfl | rfl <;> simp only [Nat.reduceMul, Nat.reducePow, Nat.reduceEqDiff, if_true, if_false, reduceIte] <;> omega
abbrev zVo (mu : Mem) (P : Int) (m c : Nat) (a b : Int) : Int := zOv (mu P 1) (mu P 3).toNat (mu (P + 2)) (mu 42 2).toNat m c a b
abbrev zBo (mu : Mem) (P : Int) (m c : Nat) (a b : Int) (i : Nat) : Int := zbr (mu P 1) (mu (P + 2)) (mu 42 2).toNat (zVo mu P m (c ||| 2 ^ i) b (mu (P + 2) i)) a b i
abbrev zMy (mu : Mem) (P : Int) (c i : Nat) : Prop := zmay (mu (P + 2)) (mu 42 2).toNat c i
def zKn (mu nu : Mem) (P : Int) : Prop := ∀ (c : Nat) (a : Int), c < 2 ^ (mu P 3).toNat → 0 ≤ a → a ≤ 6 → (0 ≤ nu 45 (c * 7 + a) ∧ nu 45 (c * 7 + a) < 268435456) ∧ ∀ b : Nat, b ≤ 6 → zfd (nu 45 (c * 7 + a)) b = 0 ∨ (zfd (nu 45 (c * 7 + a)) b : Int) = zVo mu P ((mu P 3).toNat - zcmn c (mu P 3).toNat) c a b + 2
def zAl (mu : Mem) (P : Int) : Prop := ∀ i : Nat, i < (mu P 3).toNat → ∃ A : Nat, mu 44 i = A ∧ A < 1024 ∧ ∀ j, A.testBit j = true ↔ (j < i ∧ zal (mu (P + 2)) (mu 42 2).toNat j i)
/-- what the finder needs -/
def zFO (mu : Mem) (P : Int) : Prop := zPO mu P ∧ ((0 ≤ mu 42 2 ∧ mu 42 2 < 2 ^ (mu P 3).toNat) ∧ (mu P 1 = 0 ∨ mu P 1 = 3)) ∧ zAl mu P
theorem zFO.lt {mu : Mem} {P : Int} (h : zFO mu P) : (mu 42 2).toNat < 1024 ∧ ((mu 42 2).toNat : Int) = mu 42 2 := by
  obtain ⟨ho, hs, -⟩ := h
  have := zpow_bd (n := mu P 3) (by have := ho.2.2.2.1; omega) (by have := ho.2.2.2.1; omega)
  exact ⟨by omega, by omega⟩
section S65
variable {K d : Nat} {mu : Mem} {Q : AV → Mem → Prop}
theorem s_fillI {A v : Int} {n : Nat} (hK : 64 ≤ K) (hA : zAr K 11 A n) (h : ∀ nu, zsm [A] mu nu → (∀ j : Int, 0 ≤ j → j < n → nu A j = v) → Q zV nu) : zC K d mJ7_fill_53178 [zR A, zI v] mu Q := by
  have hn := hA.le
  have l : ∀ (m : Nat) (i : Int) (nu : Mem), 0 ≤ i → i + m = n → zsm [A] mu nu → (∀ j, 0 ≤ j → j < i → nu A j = v) → zG K d mJ7_fill_53178 5 [zR A, zI v, zI i, zI n] [] nu Q := by
    intro m
    induction m with
    | zero =>
      intro i nu i0 i1 hz hj
      have e : i = n := by omega
      subst e
      exact sg_J7_fill_53178_5 (by omega) hK hA ⟨⟨by omega, by omega⟩, ⟨by omega, by omega⟩, fun _ => h nu hz hj, fun c => absurd (Int.le_refl _) c⟩
    | succ m ih =>
      intro i nu i0 i1 hz hj
      refine sg_J7_fill_53178_5 (by omega) hK hA ⟨⟨by omega, by omega⟩, ⟨by omega, by omega⟩, fun c => absurd c (by omega), fun _ => ⟨by omega, by omega, ih (i + 1) _ (by omega) (by omega) (hz.up (by simp)) (fun j j0 j1 => ?_)⟩⟩
      by_cases q : j = i
      · rw [q, zup_same]
      · rw [zup_slot _ q]
        exact hj j j0 (by omega)
  exact ce_J7_fill_53178 (sg_J7_fill_53178_0 (by omega) hK hA (l n 0 mu (by omega) (by omega) zsm.rf (fun j j0 j1 => absurd j1 (by omega))))
theorem s_hasBeh2 {P a b : Int} {i : Int} (hd : 2 ≤ d) (hK : 64 ≤ K) (hP : isP K P) (ho : zPO mu P) (hkd : mu P 1 = 0 ∨ mu P 1 = 3) (ha : 0 ≤ a ∧ a ≤ 6) (hb : 0 ≤ b ∧ b ≤ 6) (hi : 0 ≤ i ∧ i < mu P 3) (h : Q (zI (if zgb (mu P 1) a b (mu (P + 2) i) = mu (P + 2) i then 1 else 0)) mu) : zC K d mX2_hasBehind [zR P, zI (a * 7 + b), zI i] mu Q := by
  obtain ⟨ht, hk, -, hn, -, hw, -⟩ := ho
  have w := hw i hi.1 hi.2
  refine s_hasBehind hd hK hP ⟨by omega, by omega⟩ ⟨hi.1, by omega⟩ hkd ⟨by omega, by omega⟩ ?_
  rw [show (a * 7 + b) / 7 = a by omega, show (a * 7 + b) % 7 = b by omega]
  exact h
theorem s_pairBehind {P a b i : Int} (hK : 64 ≤ K) (hP : isP K P) (ho : zPO mu P) (ha : 0 ≤ a ∧ a ≤ 6) (hb : 0 ≤ b ∧ b ≤ 6) (hi : 0 ≤ i ∧ i < mu P 3) (h : Q (zI (b * 7 + mu (P + 2) i)) mu) : zC K d mX1_pairBehind [zR 42, zR P, zI (a * 7 + b), zI i] mu Q := by
  obtain ⟨ht, hk, -, hn, -, hw, -⟩ := ho
  have em : (a * 7 + b).tmod 7 = b := by rw [Int.tmod_eq_emod_of_nonneg (by omega)]; omega
  refine ce_X1_pairBehind (sg_X1_pairBehind_0 (by omega) hK hP ⟨⟨by omega, by omega⟩, hi.1, by omega, ?_⟩)
  rw [em]
  exact h
theorem s_mayCome {P i : Int} {c : Nat} (hd : 1 ≤ d) (hK : 64 ≤ K) (hP : isP K P) (hf : zFO mu P) (hc : c < 2 ^ (mu P 3).toNat) (hi : 0 ≤ i ∧ i < mu P 3) (h1 : zMy mu P c i.toNat → Q (zI 1) mu) (h0 : ¬ zMy mu P c i.toNat → Q (zI 0) mu) : zC K d mX1_mayCome [zR 42, zR P, zI i, zI c] mu Q := by
  obtain ⟨ho, hs, ha⟩ := hf
  have hn := ho.2.2.2.1
  have c10 := zc10 hc (by omega)
  obtain ⟨A, A1, A2, A3⟩ := ha i.toNat (by omega)
  rw [show ((i.toNat : Nat) : Int) = i by omega] at A1
  refine ce_X1_mayCome (sg_X1_mayCome_0 hd hK hP (s_isIn hK hP (by omega) (by omega) ⟨_, rfl, zbin _, fun q => ?_, fun q => ⟨hi.1, by omega, ?_⟩⟩))
  · refine h0 (fun w => w.1 ?_)
    by_cases z : c.testBit i.toNat = true
    · exact z
    · rw [if_neg z] at q
      exact absurd rfl q
  · have hb : ¬ c.testBit i.toNat = true := fun z => by
      rw [if_pos z] at q
      exact absurd q (by decide)
    rw [A1]
    have zn := znot (a := A) (c := c) (by omega) (by omega)
    refine ⟨?_, fun w => h0 (fun m => w (zn.mpr (fun j hj => ?_))), fun w => h1 ⟨hb, fun j hj hal => zn.mp w j ((A3 j).mpr ⟨hj, hal⟩)⟩⟩
    · unfold zand
      exact ⟨Int32.le_toInt _, Int32.toInt_lt _⟩
    · have := (A3 j).mp hj
      exact m.2 j this.1 this.2
theorem l_ifComes {P : Int} {m : Nat} (hK : 64 ≤ K) (hP : isP K P) (hf : zFO mu P)
    (ih : ∀ (d : Nat) (c : Nat) (a b dep : Int) (nu : Mem) (Q : AV → Mem → Prop), 2 * m + 2 ≤ d → c < 2 ^ (mu P 3).toNat → zcmn c (mu P 3).toNat + m = (mu P 3).toNat → dep + m = mu P 3 → (0 ≤ a ∧ a ≤ 6) → (0 ≤ b ∧ b ≤ 6) → zsm [43, 45] mu nu → zKn mu nu P → (∀ xi, zsm [45] nu xi → zKn mu xi P → Q (zI (zVo mu P m c a b)) xi) → zC K d mX1_mostLeft [zR 42, zR P, zI c, zI (a * 7 + b), zI dep] nu Q)
    {c i : Nat} {a b dep : Int} {nu : Mem} (hd : 2 * m + 3 ≤ d) (hc : c < 2 ^ (mu P 3).toNat) (hm : zcmn c (mu P 3).toNat + (m + 1) = (mu P 3).toNat) (hdep : dep + (m + 1) = mu P 3) (ha : 0 ≤ a ∧ a ≤ 6) (hb : 0 ≤ b ∧ b ≤ 6) (hz : zsm [43, 45] mu nu) (hk : zKn mu nu P) (hi : i < (mu P 3).toNat) (hci : ¬ c.testBit i = true)
    (h : ∀ xi, zsm [45] nu xi → zKn mu xi P → Q (zI (zBo mu P m c a b i)) xi) : zC K d mX1_mostIfComes [zR 42, zR P, zI i, zI c, zI (a * 7 + b), zI dep] nu Q := by
  have hP2 := hP.2
  have hf0 := hf
  obtain ⟨ho, hs, hA⟩ := hf
  have hn := ho.2.2.2.1
  have e : ∀ k : Int, k ≠ 43 → k ≠ 45 → nu k = mu k := fun k q q2 => hz k (by simp only [List.mem_cons, List.not_mem_nil, or_false]; omega)
  have eP := e P (by omega) (by omega)
  have eP2 := e (P + 2) (by omega) (by omega)
  have e42 := e 42 (by omega) (by omega)
  have ho' : zPO nu P := by
    unfold zPO at ho ⊢
    rw [eP, eP2, e (P + 1) (by omega) (by omega), e (P + 3) (by omega) (by omega)]
    exact ho
  have w := ho.2.2.2.2.2.1 i (by omega) (by omega)
  have cm := zcmn_or hci (mu P 3).toNat
  rw [if_pos hi] at cm
  have hcs := zor_lt hc hi
  have vb : -1 ≤ zVo mu P m (c ||| 2 ^ i) b (mu (P + 2) i) ∧ zVo mu P m (c ||| 2 ^ i) b (mu (P + 2) i) ≤ m := zOv_bd (kind := mu P 1) (n := (mu P 3).toNat) (w := mu (P + 2)) (set := (mu 42 2).toNat) m (c ||| 2 ^ i) b (mu (P + 2) i)
  have ht := ho.1
  obtain ⟨sl, se⟩ := hf0.lt
  have go : ∀ (r1 : Int) (Q' : AV → Mem → Prop), (∀ xi, zsm [45] nu xi → zKn mu xi P → Q' (zI (zVo mu P m (c ||| 2 ^ i) b (mu (P + 2) i))) xi) → zC K (2 * m + 2) mX1_mostLeft [zR 42, zR P, zI (zor c (zshl 1 i)), zI (b * 7 + mu (P + 2) i), zI (dep + 1)] nu Q' := fun r1 Q' k => by
    rw [zor_c hc (by omega) (by omega) (by omega), show ((i : Nat) : Int).toNat = i by omega]
    exact ih (2 * m + 2) (c ||| 2 ^ i) b (mu (P + 2) i) (dep + 1) nu Q' (Nat.le_refl _) hcs (by omega) (by omega) hb (by omega) hz hk k
  refine ce_X1_mostIfComes (sg_X1_mostIfComes_0 (d1 := 2 * m + 2) (by omega) (by omega) hK hP (s_hasBeh2 (by omega) hK hP ho' (by rw [eP]; exact hs.2) ha hb (by rw [eP]; omega) ⟨_, rfl, zbin _, ?_⟩))
  rw [eP, eP2]
  refine ⟨fun c1 => ?_, fun c1 => ?_⟩
  · have g : zgb (mu P 1) a b (mu (P + 2) i) = mu (P + 2) i := by
      by_cases z : zgb (mu P 1) a b (mu (P + 2) i) = mu (P + 2) i
      · exact z
      · rw [if_neg z] at c1; exact absurd rfl c1
    refine s_pairBehind hK hP ho' ha hb (by rw [eP]; omega) ⟨_, rfl, ?_⟩
    rw [eP2]
    refine go 1 _ (fun xi hx hkx => ⟨_, rfl, fun q => absurd q c1, fun _ => ⟨⟨by omega, by omega⟩, fun q => ?_, fun q => ?_⟩⟩)
    · have := h xi hx hkx
      unfold zBo zbr at this
      rw [if_pos (Or.inl q)] at this
      rwa [show zVo mu P m (c ||| 2 ^ i) b (mu (P + 2) i) = -1 by omega]
    · have := h xi hx hkx
      unfold zBo zbr at this
      rw [if_neg (fun z => by rcases z with z | z; exact q z; exact z.2 g), if_pos g] at this
      exact this
  · have g : ¬ zgb (mu P 1) a b (mu (P + 2) i) = mu (P + 2) i := fun z => by
      rw [if_pos z] at c1; exact absurd c1 (by decide)
    rw [e42, ← se]
    refine s_isIn hK hP (by omega) (by omega) ⟨_, rfl, zbin _, ?_⟩
    rw [show ((i : Nat) : Int).toNat = i by omega]
    refine ⟨fun c2 => ?_, fun c2 => ?_⟩
    · have gb : ¬ (mu 42 2).toNat.testBit i = true := fun z => by
        rw [if_pos z] at c2; exact absurd c2 (by decide)
      refine s_pairBehind hK hP ho' ha hb (by rw [eP]; omega) ⟨_, rfl, ?_⟩
      rw [eP2]
      refine go 0 _ (fun xi hx hkx => ⟨_, rfl, fun _ => ?_, fun q => absurd c1 q⟩)
      have := h xi hx hkx
      unfold zBo zbr at this
      by_cases q : zVo mu P m (c ||| 2 ^ i) b (mu (P + 2) i) < 0
      · rw [if_pos (Or.inl q)] at this
        rwa [show zVo mu P m (c ||| 2 ^ i) b (mu (P + 2) i) = -1 by omega]
      · rw [if_neg (fun z => by rcases z with z | z; exact q z; exact gb z.1), if_neg g, Int.add_zero] at this
        exact this
    · have gb : (mu 42 2).toNat.testBit i = true := by
        by_cases z : (mu 42 2).toNat.testBit i = true
        · exact z
        · rw [if_neg z] at c2; exact absurd rfl c2
      have := h nu zsm.rf hk
      unfold zBo zbr at this
      rw [if_pos (Or.inr ⟨gb, g⟩)] at this
      exact this
theorem s_mostLeft {P : Int} (hK : 64 ≤ K) (hP : isP K P) (hf : zFO mu P) : ∀ (m d : Nat) (c : Nat) (a b dep : Int) (nu : Mem) (Q : AV → Mem → Prop), 2 * m + 2 ≤ d → c < 2 ^ (mu P 3).toNat → zcmn c (mu P 3).toNat + m = (mu P 3).toNat → dep + m = mu P 3 → (0 ≤ a ∧ a ≤ 6) → (0 ≤ b ∧ b ≤ 6) → zsm [43, 45] mu nu → zKn mu nu P → (∀ xi, zsm [45] nu xi → zKn mu xi P → Q (zI (zVo mu P m c a b)) xi) → zC K d mX1_mostLeft [zR 42, zR P, zI c, zI (a * 7 + b), zI dep] nu Q := by
  have hP2 := hP.2
  have hn := hf.1.2.2.2.1
  intro m
  induction m with
  | zero =>
    intro d c a b dep nu Q hd hc hm hdep ha hb hz hk h
    have eP : nu P = mu P := hz _ (by simp only [List.mem_cons, List.not_mem_nil, or_false]; omega)
    refine ce_X1_mostLeft (sg_X1_mostLeft_0 (d1 := 0) (by omega) (by omega) hK hP ⟨⟨by omega, by omega⟩, by rw [eP]; exact ⟨by omega, by omega⟩, fun q => absurd q (by rw [eP]; omega), fun _ => ?_⟩)
    have := h nu zsm.rf hk
    unfold zVo at this
    rw [zOv] at this
    exact this
  | succ m ih =>
    intro d c a b dep nu Q hd hc hm hdep ha hb hz hk h
    have eP : nu P = mu P := hz _ (by simp only [List.mem_cons, List.not_mem_nil, or_false]; omega)
    have c10 := zc10 hc (by omega)
    have em : (a * 7 + b).tmod 7 = b := by rw [Int.tmod_eq_emod_of_nonneg (by omega)]; omega
    have ed : (a * 7 + b).tdiv 7 = a := by rw [Int.tdiv_eq_ediv_of_nonneg (by omega)]; omega
    have kk := hk c a hc ha.1 ha.2
    have bn : ((b.toNat : Nat) : Int) = b := by omega
    have k2 := kk.2 b.toNat (by omega)
    have rd := zfd_rd (x := nu 45 (c * 7 + a)) (b := b.toNat) kk.1.1 kk.1.2 (by omega)
    rw [bn] at rd k2
    rw [show (mu P 3).toNat - zcmn c (mu P 3).toNat = m + 1 by omega] at k2
    have vb : -1 ≤ zVo mu P (m + 1) c a b ∧ zVo mu P (m + 1) c a b ≤ ((m + 1 : Nat) : Int) := zOv_bd (kind := mu P 1) (n := (mu P 3).toNat) (w := mu (P + 2)) (set := (mu 42 2).toNat) (m + 1) c a b
    have f16 : zfd (nu 45 (c * 7 + a)) b.toNat < 16 := Nat.mod_lt _ (by decide)
    haveI : DecidablePred (zMy mu P c) := fun _ => Classical.propDecidable _
    have l : ∀ (q : Nat) (i : Nat) (xi : Mem), i + q = (mu P 3).toNat → zsm [45] nu xi → zKn mu xi P → zG K d mX1_mostLeft 61 [zR 42, zR P, zI c, zI (a * 7 + b), zI dep, zI (c * 7 + a), zI (4 * b), zU, zI (zmx (fun i => if zMy mu P c i then zBo mu P m c a b i else -1) i), zI i] [] xi Q := by
      intro q
      induction q with
      | zero =>
        intro i xi hi hx hkx
        have ei : i = (mu P 3).toNat := by omega
        subst ei
        have xP : xi P = mu P := (hx _ (by simp only [List.mem_cons, List.not_mem_nil, or_false]; omega)).trans eP
        have ev : zmx (fun i => if zMy mu P c i then zBo mu P m c a b i else -1) (mu P 3).toNat = zVo mu P (m + 1) c a b := zmx_may
        rw [ev]
        refine sg_X1_mostLeft_61 (d1 := 0) (by omega) (by omega) hK hP ⟨⟨by omega, by omega⟩, by rw [xP]; exact ⟨by omega, by omega⟩, fun _ => ⟨by omega, by omega, ?_⟩, fun w => absurd (by rw [xP]; omega) w⟩
        have kx := hkx c a hc ha.1 ha.2
        obtain ⟨v, hv⟩ : ∃ v : Nat, zVo mu P (m + 1) c a b + 2 = v := ⟨(zVo mu P (m + 1) c a b + 2).toNat, by omega⟩
        have wr := zfd_wr (x := xi 45 (c * 7 + a)) (b := b.toNat) (v := v) kx.1.1 kx.1.2 (by omega) (by omega)
        rw [bn, ← hv] at wr
        refine h _ (hx.up (by simp)) (fun c' a' hc' ha0 ha1 => ?_)
        by_cases same : (c' : Int) * 7 + a' = c * 7 + a
        · have e1 : c' = c := by omega
          have e2 : a' = a := by omega
          subst e1 e2
          rw [zup_same]
          refine ⟨wr.1, fun b' hb' => ?_⟩
          rw [wr.2 b' hb']
          have kb := kx.2 b' hb'
          by_cases q : b' = b.toNat
          · rw [if_pos q]
            right
            rw [q] at kb ⊢
            rw [bn] at kb ⊢
            rw [show (mu P 3).toNat - zcmn c' (mu P 3).toNat = m + 1 by omega] at kb ⊢
            rcases kb with kb | kb
            · rw [kb, Nat.zero_or]
              omega
            · rw [show zfd (xi 45 (c' * 7 + a')) b.toNat = v by omega, Nat.or_self]
              omega
          · rw [if_neg q, Nat.or_zero]
            exact kb
        · rw [zup_slot _ same]
          exact hkx c' a' hc' ha0 ha1
      | succ q ihq =>
        intro i xi hi hx hkx
        have hxz : zsm [43, 45] mu xi := hz.tr (hx.wk (by simp))
        have xe : ∀ k : Int, k ≠ 43 → k ≠ 45 → xi k = mu k := fun k q q2 => hxz k (by simp only [List.mem_cons, List.not_mem_nil, or_false]; omega)
        have xP := xe P (by omega) (by omega)
        have hf' : zFO xi P := by
          obtain ⟨o1, o2, o3⟩ := hf
          unfold zFO zPO zAl at *
          rw [xP, xe (P + 2) (by omega) (by omega), xe (P + 1) (by omega) (by omega), xe (P + 3) (by omega) (by omega), xe 42 (by omega) (by omega), xe 44 (by omega) (by omega)]
          exact ⟨o1, o2, o3⟩
        have xm : zMy xi P c = zMy mu P c := by
          unfold zMy
          rw [xe (P + 2) (by omega) (by omega), xe 42 (by omega) (by omega)]
        have zmb := zmx_m1 (f := fun i => if zMy mu P c i then zBo mu P m c a b i else -1) i
        have zmb2 : zmx (fun i => if zMy mu P c i then zBo mu P m c a b i else -1) i ≤ 11 := zmx_le (by omega) i (fun k hk => by
          split
          · have bb : -1 ≤ zBo mu P m c a b k ∧ zBo mu P m c a b k ≤ m + 1 := zbr_bd (kind := mu P 1) (w := mu (P + 2)) (set := (mu 42 2).toNat) (i := k) (a := a) (b := b) (zOv_bd (kind := mu P 1) (n := (mu P 3).toNat) (w := mu (P + 2)) (set := (mu 42 2).toNat) m (c ||| 2 ^ k) b (mu (P + 2) k)).2 (by omega)
            omega
          · omega)
        refine sg_X1_mostLeft_61 (d1 := d - 1) (by omega) (by omega) hK hP ⟨⟨by omega, by omega⟩, by rw [xP]; exact ⟨by omega, by omega⟩, fun w => absurd w (by rw [xP]; omega), fun _ => ?_⟩
        refine s_mayCome (by omega) hK hP hf' (by rw [xP]; exact hc) (by rw [xP]; omega) (fun y => ⟨_, rfl, ⟨by omega, by omega⟩, fun w => absurd w (by omega), fun _ => ?_⟩) (fun y => ⟨_, rfl, ⟨by omega, by omega⟩, fun _ => ?_, fun w => absurd rfl w⟩)
        · rw [xm, show ((i : Nat) : Int).toNat = i by omega] at y
          have bb : -1 ≤ zBo mu P m c a b i ∧ zBo mu P m c a b i ≤ m + 1 := zbr_bd (kind := mu P 1) (w := mu (P + 2)) (set := (mu 42 2).toNat) (i := i) (a := a) (b := b) (zOv_bd (kind := mu P 1) (n := (mu P 3).toNat) (w := mu (P + 2)) (set := (mu 42 2).toNat) m (c ||| 2 ^ i) b (mu (P + 2) i)).2 (by omega)
          refine l_ifComes hK hP hf ih (by omega) hc hm (by omega) ha hb hxz hkx (by omega) y.1 (fun om hom hko => ⟨_, rfl, ⟨by omega, by omega⟩, ⟨by omega, by omega⟩, ?_⟩)
          have := ihq (i + 1) om (by omega) (hx.tr hom) hko
          rw [zmx, if_pos y] at this
          exact this
        · rw [xm, show ((i : Nat) : Int).toNat = i by omega] at y
          have := ihq (i + 1) xi (by omega) hx hkx
          rw [zmx, if_neg y, show max (zmx (fun i => if zMy mu P c i then zBo mu P m c a b i else -1) i) (-1) = zmx (fun i => if zMy mu P c i then zBo mu P m c a b i else -1) i by omega] at this
          exact this
    refine ce_X1_mostLeft (sg_X1_mostLeft_0 (d1 := 0) (by omega) (by omega) hK hP ⟨⟨by omega, by omega⟩, by rw [eP]; exact ⟨by omega, by omega⟩, fun _ => ?_, fun w => absurd (by rw [eP]; omega) w⟩)
    rw [em, ed, rd]
    refine ⟨⟨by omega, by omega⟩, by omega, by omega, ⟨by omega, by omega⟩, fun _ => l (mu P 3).toNat 0 nu (by omega) zsm.rf hk, fun q => ?_⟩
    have := h nu zsm.rf hk
    rw [show ((zfd (nu 45 (c * 7 + a)) b.toNat : Nat) : Int) - 2 = zVo mu P (m + 1) c a b by omega]
    exact this
end S65
