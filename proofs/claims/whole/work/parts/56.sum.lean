/-! rows: the class's sums -/
theorem zsum_s (f : Int → Int) (n : Nat) : zsum f (n + 1) = zsum f n + f n := rfl
theorem zsum_upd {f f' Z : Int → Int} {c δ : Int} (h2 : f' c = f c + δ) (hc : 0 ≤ c) : ∀ n : Nat, (∀ q : Int, 0 ≤ q → q < n → q ≠ c → f' q = f q) → zsum (fun q => f' q * Z q) n = zsum (fun q => f q * Z q) n + (if c < n then δ * Z c else 0)
  | 0, _ => by
    rw [if_neg (by omega)]
    rfl
  | n + 1, h1 => by
    rw [zsum_s, zsum_s, zsum_upd h2 hc n (fun q q0 q1 => h1 q q0 (by omega))]
    by_cases h : c < n
    · rw [if_pos h, if_pos (by omega), h1 n (by omega) (by omega) (by omega)]
      omega
    · rw [if_neg h]
      by_cases h3 : c = n
      · rw [if_pos (by omega), ← h3, h2, Int.add_mul]
        omega
      · rw [if_neg (by omega), h1 n (by omega) (by omega) (fun q => h3 q.symm)]
        omega
theorem zsum_swap (F : Int → Int → Int) (n : Nat) : ∀ t : Nat, zsum (fun x => zsum (fun p => F x p) n) t = zsum (fun p => zsum (fun x => F x p) t) n
  | 0 => by
    show (0 : Int) = zsum (fun _ => 0) n
    exact (zsum_z n).symm
  | t + 1 => by
    have : (fun p => zsum (fun x => F x p) (t + 1)) = fun p => zsum (fun x => F x p) t + F t p := by
      funext p
      rfl
    rw [zsum_s, zsum_swap F n t, this, zsum_add]
theorem zsum_mul (f : Int → Int) (c : Int) : ∀ t : Nat, zsum (fun x => c * f x) t = c * zsum f t
  | 0 => by simp [zsum]
  | t + 1 => by
    unfold zsum
    rw [zsum_mul f c t, Int.mul_add]
section S56
variable {K d : Nat} {mu : Mem} {Q : AV → Mem → Prop}
theorem s_fillJ {A v : Int} {n : Nat} (hK : 64 ≤ K) (hA : zAr K 12 A n) (h : ∀ nu, zsm [A] mu nu → (∀ j : Int, 0 ≤ j → j < n → nu A j = v) → Q zV nu) : zC K d mJ7_fill_d0a16 [zR A, zJ v] mu Q := by
  have hn := hA.le
  have l : ∀ (m : Nat) (i : Int) (nu : Mem), 0 ≤ i → i + m = n → zsm [A] mu nu → (∀ j, 0 ≤ j → j < i → nu A j = v) → zG K d mJ7_fill_d0a16 6 [zR A, zJ v, zU, zI i, zI n] [] nu Q := by
    intro m
    induction m with
    | zero =>
      intro i nu i0 i1 hz h1
      have e : i = n := by omega
      subst e
      exact sg_J7_fill_d0a16_6 (by omega) hK hA ⟨⟨by omega, by omega⟩, ⟨by omega, by omega⟩, fun _ => h nu hz h1, fun c => absurd (Int.le_refl _) c⟩
    | succ m ih =>
      intro i nu i0 i1 hz h1
      refine sg_J7_fill_d0a16_6 (by omega) hK hA ⟨⟨by omega, by omega⟩, ⟨by omega, by omega⟩, fun c => absurd c (by omega), fun _ => ⟨i0, by omega, ih (i + 1) _ (by omega) (by omega) (hz.up (by simp)) (fun j j0 j1 => ?_)⟩⟩
      by_cases hj : j = i
      · rw [hj, zup_same]
      · rw [zup_slot _ hj]
        exact h1 j j0 (by omega)
  exact ce_J7_fill_d0a16 (sg_J7_fill_d0a16_0 (by omega) hK hA (l n 0 mu (by omega) (by omega) zsm.rf (fun j j0 j1 => absurd j1 (by omega))))
theorem zgb_bd {k a b c : Int} (ha : 0 ≤ a ∧ a ≤ 6) (hb : 0 ≤ b ∧ b ≤ 6) (hc : 0 ≤ c ∧ c ≤ 6) : 0 ≤ zgb k a b c ∧ zgb k a b c ≤ 6 := by
  unfold zgb
  split
  · exact hb
  · exact zmaj_bd ha hb hc
theorem s_sumOver {P i g x : Int} {Z : Int → Int} (hd : 2 ≤ d) (hK : 64 ≤ K) (hP : isP K P) (hk : 0 ≤ mu P 1 ∧ mu P 1 ≤ 3) (hi : 0 ≤ i ∧ i < 10) (hg : 0 ≤ g ∧ g ≤ 6) (hx : 0 ≤ x ∧ x < 6)
    (h : ∀ nu, zsm [54] mu nu → (∀ j, j < 49 * (i + 1) ∨ 49 * (i + 2) ≤ j → nu 54 j = mu 54 j) → zsum (fun q => nu 54 (49 * (i + 1) + q) * Z q) 49 = zsum (fun q => mu 54 (49 * (i + 1) + q) * Z q) 49 + zsum (fun p => if zgb (mu P 1) (p / 7) (p % 7) x = g then mu 54 (49 * i + p) * (mu 55 x * Z (7 * (p % 7) + x)) else 0) 49 → Q zV nu) : zC K d mX5_sumOver [zR 51, zR P, zI i, zI g, zI x] mu Q := by
  have hP2 := hP.2
  have l : ∀ (n : Nat) (p : Int) (nu : Mem), 0 ≤ p → p + n = 49 → zsm [54] mu nu → (∀ j, j < 49 * (i + 1) ∨ 49 * (i + 2) ≤ j → nu 54 j = mu 54 j) → zsum (fun q => nu 54 (49 * (i + 1) + q) * Z q) 49 = zsum (fun q => mu 54 (49 * (i + 1) + q) * Z q) 49 + zsum (fun p => if zgb (mu P 1) (p / 7) (p % 7) x = g then mu 54 (49 * i + p) * (mu 55 x * Z (7 * (p % 7) + x)) else 0) p.toNat → zG K d mX5_sumOver 3 [zR 51, zR P, zI i, zI g, zI x, zI p, zU] [] nu Q := by
    intro n
    induction n with
    | zero =>
      intro p nu p0 p1 hz h1 h2
      have e : p = 49 := by omega
      subst e
      exact sg_X5_sumOver_3 hd hK hP ⟨⟨by omega, by omega⟩, fun _ => h nu hz h1 h2, fun c => absurd c (by omega)⟩
    | succ n ih =>
      intro p nu p0 p1 hz h1 h2
      have eP : nu P = mu P := hz P (by simp only [List.mem_cons, List.not_mem_nil, or_false]; omega)
      have e55 : nu 55 = mu 55 := hz 55 (by decide)
      have em : p.tmod 7 = p % 7 := Int.tmod_eq_emod_of_nonneg p0
      have ed : p.tdiv 7 = p / 7 := Int.tdiv_eq_ediv_of_nonneg p0
      have en : (p + 1).toNat = p.toNat + 1 := by omega
      have ex : ((p.toNat : Nat) : Int) = p := by omega
      have zb := zgb_bd (k := mu P 1) (a := p / 7) (b := p % 7) (c := x) (by omega) (by omega) (by omega)
      refine sg_X5_sumOver_3 hd hK hP ⟨⟨by omega, by omega⟩, fun c => absurd c (by omega), fun _ => ?_⟩
      rw [em, ed, eP]
      refine s_givesBehind (by omega) hK ⟨by omega, by omega⟩ ⟨by omega, by omega⟩ ⟨by omega, by omega⟩ ⟨by omega, by omega⟩ ⟨_, rfl, ⟨by omega, by omega⟩, ⟨by omega, by omega⟩, fun c => ?_, fun c => ⟨by omega, by omega, by omega, by omega, by omega, by omega, ?_⟩⟩
      · refine ih (p + 1) nu (by omega) (by omega) hz h1 ?_
        rw [en, zsum_s _ p.toNat, ex, if_neg c, h2]
        omega
      · rw [e55, show i * 49 + p = 49 * i + p by omega, h1 (49 * i + p) (by omega), show (i + 1) * 49 + p % 7 * 7 + x = 49 * (i + 1) + (7 * (p % 7) + x) by omega]
        refine ih (p + 1) _ (by omega) (by omega) (hz.up (by simp)) (fun j hj => ?_) ?_
        · rw [zup_slot _ (by omega)]
          exact h1 j hj
        · rw [en, zsum_s _ p.toNat, ex, if_pos c, zsum_upd (f := fun q => nu 54 (49 * (i + 1) + q)) (f' := fun q => zup nu 54 (49 * (i + 1) + (7 * (p % 7) + x)) (nu 54 (49 * (i + 1) + (7 * (p % 7) + x)) + mu 54 (49 * i + p) * mu 55 x) 54 (49 * (i + 1) + q)) (Z := Z) (c := 7 * (p % 7) + x) (δ := mu 54 (49 * i + p) * mu 55 x) (zup_same _ _ _ _) (by omega) 49 (fun q q0 q1 hq => zup_slot _ (by omega)), if_pos (by omega), h2, Int.mul_assoc]
          omega
  exact ce_X5_sumOver (sg_X5_sumOver_0 hd hK hP (l 49 0 mu (by omega) (by omega) zsm.rf (fun _ _ => rfl) (by simp [zsum])))
theorem s_sumUp {P S pl tl : Int} {sh : Int → Int} (hd : 3 ≤ d) (hK : 64 ≤ K) (hP : isP K P) (hS : isS K S) (ho : zPO mu P) (hm : 0 ≤ mu S 4 ∧ mu S 4 ≤ 10) (hg : ∀ i, 0 ≤ i → i < mu S 4 → 0 ≤ mu (S + 4) i ∧ mu (S + 4) i ≤ 6) (hsh : ∀ x, 0 ≤ x → x < 6 → mu 55 x = sh x) (hpl : zin pl) (htl : zin tl)
    (h : ∀ nu, zsm [54] mu nu → Q (zJ (zB (mu P 1) (mu P 0).toNat (mu (S + 4)) sh (mu S 4) pl tl (mu S 4).toNat (zab mu P 2) (zab mu P 1))) nu) : zC K d mX5_sumUp [zR 51, zR P, zR S, zI pl, zI tl] mu Q := by
  have hP2 := hP.2
  have hS2 := hS.2
  have ht := ho.1
  have hb := ho.2.2.1
  have hA := ho.2.2.2.2.1
  have ab : ∀ b, (b = 1 ∨ b = 2) → 0 ≤ zab mu P b ∧ zab mu P b ≤ 6 := fun b hb2 => by
    unfold zab
    split
    · have := hA (mu P 2 - b) (by omega) (by omega)
      omega
    · omega
  have a2 := ab 2 (Or.inr rfl)
  have a1 := ab 1 (Or.inl rfl)
  generalize hT : zB (mu P 1) (mu P 0).toNat (mu (S + 4)) sh (mu S 4) pl tl (mu S 4).toNat (zab mu P 2) (zab mu P 1) = T at h
  have ec : ∀ nu, zsm [54] mu nu → nu P = mu P ∧ nu S = mu S ∧ nu (S + 4) = mu (S + 4) ∧ nu 55 = mu 55 := fun nu hz => ⟨hz _ (by simp only [List.mem_cons, List.not_mem_nil, or_false]; omega), hz _ (by simp only [List.mem_cons, List.not_mem_nil, or_false]; omega), hz _ (by simp only [List.mem_cons, List.not_mem_nil, or_false]; omega), hz _ (by decide)⟩
  -- the last sum
  have l89 : ∀ (n : Nat) (q c : Int) (nu : Mem), 0 ≤ q → q + n = 49 → zsm [54] mu nu → c = zsum (fun q => nu 54 (49 * mu S 4 + q)) q.toNat → zsum (fun q => nu 54 (49 * mu S 4 + q)) 49 = T → zG K d mX5_sumUp 89 [zR 51, zU, zR S, zU, zU, zJ c, zU, zI q] [] nu Q := by
    intro n
    induction n with
    | zero =>
      intro q c nu q0 q1 hz hc hT2
      have e : q = 49 := by omega
      subst e
      rw [hc]
      exact sg_X5_sumUp_89 (P := P) hd hK hP hS ⟨⟨by omega, by omega⟩, fun _ => by
        show Q (zJ (zsum (fun q => nu 54 (49 * mu S 4 + q)) 49)) nu
        rw [hT2]
        exact h nu hz, fun c => absurd c (by omega)⟩
    | succ n ih =>
      intro q c nu q0 q1 hz hc hT2
      obtain ⟨eP, eS, eS4, e55⟩ := ec nu hz
      have en : (q + 1).toNat = q.toNat + 1 := by omega
      have ex : ((q.toNat : Nat) : Int) = q := by omega
      refine sg_X5_sumUp_89 (P := P) hd hK hP hS ?_
      rw [eS, show mu S 4 * 49 + q = 49 * mu S 4 + q by omega]
      refine ⟨⟨by omega, by omega⟩, fun c => absurd c (by omega), fun _ => ⟨by omega, by omega, ih (q + 1) _ nu (by omega) (by omega) hz ?_ hT2⟩⟩
      rw [en, zsum, ex, ← hc]
  -- a level
  have l33 : ∀ (i : Int), 0 ≤ i → i < mu S 4 → ∀ (nu0 : Mem), zsm [54] mu nu0 → zsum (fun q => nu0 54 (49 * i + q) * zB (mu P 1) (mu P 0).toNat (mu (S + 4)) sh (mu S 4) pl tl (mu S 4 - i).toNat (q / 7) (q % 7)) 49 = T → (∀ nu, zsm [54] mu nu → zsum (fun q => nu 54 (49 * (i + 1) + q) * zB (mu P 1) (mu P 0).toNat (mu (S + 4)) sh (mu S 4) pl tl (mu S 4 - (i + 1)).toNat (q / 7) (q % 7)) 49 = T → (∀ j, 49 * (i + 2) ≤ j → j < 539 → nu 54 j = 0) → zG K d mX5_sumUp 21 [zR 51, zR P, zR S, zI pl, zI tl, zI (i + 1), zU, zU] [] nu Q) →
      ∀ (n : Nat) (x : Int) (nu : Mem), 0 ≤ x → x + n = mu P 0 → zsm [54] mu nu → (∀ j, 49 * i ≤ j → j < 49 * (i + 1) → nu 54 j = nu0 54 j) → (∀ j, 49 * (i + 2) ≤ j → j < 539 → nu 54 j = 0) →
        zsum (fun q => nu 54 (49 * (i + 1) + q) * zB (mu P 1) (mu P 0).toNat (mu (S + 4)) sh (mu S 4) pl tl (mu S 4 - (i + 1)).toNat (q / 7) (q % 7)) 49 = zsum (fun x => zsum (fun p => if (i ≠ pl ∨ x = tl) ∧ zgb (mu P 1) (p / 7) (p % 7) x = mu (S + 4) i then nu0 54 (49 * i + p) * (sh x * zB (mu P 1) (mu P 0).toNat (mu (S + 4)) sh (mu S 4) pl tl (mu S 4 - (i + 1)).toNat (p % 7) x) else 0) 49) x.toNat →
        zG K d mX5_sumUp 33 [zR 51, zR P, zR S, zI pl, zI tl, zI i, zI x, zU] [] nu Q := by
    intro i i0 i1 nu0 hz0 hPsi kk n
    have er : (mu S 4 - i).toNat = (mu S 4 - (i + 1)).toNat + 1 := by omega
    have ei : mu S 4 - (((mu S 4 - (i + 1)).toNat : Nat) + 1 : Int) = i := by omega
    induction n with
    | zero =>
      intro x nu x0 x1 hz hl hz2 hs
      have e : x = mu P 0 := by omega
      subst e
      obtain ⟨eP, eS, eS4, e55⟩ := ec nu hz
      refine sg_X5_sumUp_33 hd hK hP hS ?_
      rw [eP]
      refine ⟨⟨by omega, by omega⟩, ⟨by omega, by omega⟩, fun _ => kk nu hz ?_ hz2, fun c => absurd (Int.le_refl _) c⟩
      rw [hs, zsum_swap, ← hPsi]
      apply zsum_congr
      intro p p0 p1
      rw [er, zB, ei, ← zsum_mul]
      apply zsum_congr
      intro y y0 y1
      by_cases hc : (i ≠ pl ∨ y = tl) ∧ zgb (mu P 1) (p / 7) (p % 7) y = mu (S + 4) i
      · rw [if_pos hc, if_pos hc]
      · rw [if_neg hc, if_neg hc, Int.mul_zero]
    | succ n ih =>
      intro x nu x0 x1 hz hl hz2 hs
      obtain ⟨eP, eS, eS4, e55⟩ := ec nu hz
      have en : (x + 1).toNat = x.toNat + 1 := by omega
      have ex : ((x.toNat : Nat) : Int) = x := by omega
      have gg := hg i i0 i1
      have call : (i ≠ pl ∨ x = tl) → zC K 2 mX5_sumOver [zR 51, zR P, zI i, zI (mu (S + 4) i), zI x] nu (fun v_ nu8 => v_ = zV ∧ zG K d mX5_sumUp 33 [zR 51, zR P, zR S, zI pl, zI tl, zI i, zI (x + 1), zU] [] nu8 Q) := fun hok => by
        refine s_sumOver (Z := fun q => zB (mu P 1) (mu P 0).toNat (mu (S + 4)) sh (mu S 4) pl tl (mu S 4 - (i + 1)).toNat (q / 7) (q % 7)) (by omega) hK hP (by rw [eP]; exact ho.2.1) (by omega) gg (by omega) (fun xi hx h1 h2 => ⟨rfl, ?_⟩)
        have hz3 : zsm [54] mu xi := hz.tr hx
        refine ih (x + 1) xi (by omega) (by omega) hz3 (fun j j0 j1 => by rw [h1 j (by omega)]; exact hl j j0 j1) (fun j j0 j1 => by rw [h1 j (by omega)]; exact hz2 j j0 j1) ?_
        rw [h2, hs, en, zsum_s _ x.toNat, ex]
        congr 1
        apply zsum_congr
        intro p p0 p1
        rw [eP, e55, hsh x x0 (by omega), hl (49 * i + p) (by omega) (by omega), show (7 * (p % 7) + x) / 7 = p % 7 by omega, show (7 * (p % 7) + x) % 7 = x by omega]
        by_cases hc : zgb (mu P 1) (p / 7) (p % 7) x = mu (S + 4) i
        · rw [if_pos hc, if_pos ⟨hok, hc⟩]
        · rw [if_neg hc, if_neg (fun q => hc q.2)]
      refine sg_X5_sumUp_33 hd hK hP hS ?_
      rw [eP, eS4]
      refine ⟨⟨by omega, by omega⟩, ⟨by omega, by omega⟩, fun c => absurd c (by omega), fun _ => ⟨⟨by omega, by omega⟩, hpl, fun c => ⟨i0, by omega, call (Or.inl c)⟩, fun c => ⟨htl, fun c2 => ?_, fun c2 => ⟨i0, by omega, call (Or.inr c2)⟩⟩⟩⟩
      refine ih (x + 1) nu (by omega) (by omega) hz hl hz2 ?_
      rw [hs, en, zsum_s _ x.toNat, ex]
      have : zsum (fun p => if (i ≠ pl ∨ x = tl) ∧ zgb (mu P 1) (p / 7) (p % 7) x = mu (S + 4) i then nu0 54 (49 * i + p) * (sh x * zB (mu P 1) (mu P 0).toNat (mu (S + 4)) sh (mu S 4) pl tl (mu S 4 - (i + 1)).toNat (p % 7) x) else 0) 49 = 0 := by
        refine Eq.trans (zsum_congr (g := fun _ => 0) 49 (fun p _ _ => if_neg (fun q => ?_))) (zsum_z 49)
        rcases q.1 with q | q
        · exact q c
        · exact c2 q
      rw [this]
      omega
  have l21 : ∀ (n : Nat) (i : Int) (nu : Mem), 0 ≤ i → i + n = mu S 4 → zsm [54] mu nu → zsum (fun q => nu 54 (49 * i + q) * zB (mu P 1) (mu P 0).toNat (mu (S + 4)) sh (mu S 4) pl tl (mu S 4 - i).toNat (q / 7) (q % 7)) 49 = T → (∀ j, 49 * (i + 1) ≤ j → j < 539 → nu 54 j = 0) → zG K d mX5_sumUp 21 [zR 51, zR P, zR S, zI pl, zI tl, zI i, zU, zU] [] nu Q := by
    intro n
    induction n with
    | zero =>
      intro i nu i0 i1 hz hPsi hz2
      have e : i = mu S 4 := by omega
      subst e
      obtain ⟨eP, eS, eS4, e55⟩ := ec nu hz
      refine sg_X5_sumUp_21 hd hK hP hS ?_
      rw [eS]
      refine ⟨⟨by omega, by omega⟩, ⟨by omega, by omega⟩, fun _ => l89 49 0 0 nu (by omega) (by omega) hz rfl ?_, fun c => absurd (Int.le_refl _) c⟩
      rw [← hPsi]
      apply zsum_congr
      intro q _ _
      rw [show (mu S 4 - mu S 4).toNat = 0 by omega, zB, Int.mul_one]
    | succ n ih =>
      intro i nu i0 i1 hz hPsi hz2
      obtain ⟨eP, eS, eS4, e55⟩ := ec nu hz
      refine sg_X5_sumUp_21 hd hK hP hS ?_
      rw [eS]
      refine ⟨⟨by omega, by omega⟩, ⟨by omega, by omega⟩, fun c => absurd c (by omega), fun _ => ?_⟩
      refine l33 i i0 (by omega) nu hz hPsi (fun xi hx h1 h2 => ih (i + 1) xi (by omega) (by omega) hx h1 (fun j j0 j1 => h2 j (by omega) j1)) (mu P 0).toNat 0 nu (by omega) (by omega) hz (fun _ _ _ => rfl) (fun j j0 j1 => hz2 j (by omega) j1) ?_
      refine Eq.trans (zsum_congr (g := fun _ => 0) 49 (fun q q0 q1 => ?_)) (zsum_z 49)
      rw [hz2 _ (by omega) (by omega), Int.zero_mul]
  refine ce_X5_sumUp (sg_X5_sumUp_0 hd hK hP hS (s_fillJ (n := 539) hK (r54 hK) (fun nu hz hf => ⟨rfl, ?_⟩)))
  have eP : nu P = mu P := hz _ (by simp only [List.mem_cons, List.not_mem_nil, or_false]; omega)
  have eP1 : nu (P + 1) = mu (P + 1) := hz _ (by simp only [List.mem_cons, List.not_mem_nil, or_false]; omega)
  refine s_pairAhead (by omega) hK hP (by rw [eP]; exact hb) ⟨_, rfl, ?_⟩
  have epa : zpa nu P = zab mu P 2 * 7 + zab mu P 1 := by
    unfold zpa
    rw [zab_congr eP eP1, zab_congr eP eP1]
  rw [epa]
  refine ⟨by omega, by omega, l21 (mu S 4).toNat 0 _ (by omega) (by omega) (hz.up (by simp)) ?_ (fun j j0 j1 => ?_)⟩
  · have u := zsum_upd (f := fun _ => 0) (f' := fun q => (zup nu 54 (zab mu P 2 * 7 + zab mu P 1) 1) 54 (49 * 0 + q)) (Z := fun q => zB (mu P 1) (mu P 0).toNat (mu (S + 4)) sh (mu S 4) pl tl (mu S 4 - 0).toNat (q / 7) (q % 7)) (c := zab mu P 2 * 7 + zab mu P 1) (δ := 1) (by
      rw [show 49 * 0 + (zab mu P 2 * 7 + zab mu P 1) = zab mu P 2 * 7 + zab mu P 1 by omega, zup_same]
      omega) (by omega) 49 (fun q q0 q1 hq => by
      rw [zup_slot _ (by omega), hf _ (by omega) (by omega)])
    rw [if_pos (by omega)] at u
    refine u.trans ?_
    have z : zsum (fun q => 0 * zB (mu P 1) (mu P 0).toNat (mu (S + 4)) sh (mu S 4) pl tl (mu S 4 - 0).toNat (q / 7) (q % 7)) 49 = 0 := Eq.trans (zsum_congr (g := fun _ => 0) 49 (fun q _ _ => Int.zero_mul _)) (zsum_z 49)
    rw [z, show (zab mu P 2 * 7 + zab mu P 1) / 7 = zab mu P 2 by omega, show (zab mu P 2 * 7 + zab mu P 1) % 7 = zab mu P 1 by omega, show (mu S 4 - 0).toNat = (mu S 4).toNat by omega, hT]
    omega
  · rw [zup_slot _ (by omega), hf j (by omega) (by omega)]
end S56
