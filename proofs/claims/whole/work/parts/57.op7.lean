/-! the operations rows, odds -/
section S57
variable {K d : Nat} {mu : Mem} {Q : AV → Mem → Prop}
/-- gifts of a standing, parts of a plan -/
def zGP (mu : Mem) (P S : Int) : Prop := (0 ≤ mu S 4 ∧ mu S 4 ≤ 10) ∧ (∀ i, 0 ≤ i → i < mu S 4 → 0 ≤ mu (S + 4) i ∧ mu (S + 4) i ≤ 6) ∧ zshb (mu (P + 4))
theorem zPO.c5 {mu nu : Mem} {P : Int} (ho : zPO mu P) (hP : P = 4 ∨ P = 13) (hz : ∀ k, k < 54 → nu k = mu k) : zPO nu P := by
  unfold zPO at ho ⊢
  rw [hz P (by omega), hz (P + 1) (by omega), hz (P + 2) (by omega), hz (P + 3) (by omega)]
  exact ho
theorem s_weightWith {P S pl tl : Int} (hd : 4 ≤ d) (hK : 64 ≤ K) (hP : isP K P) (hS : isS K S) (hS22 : S = 22) (ho : zPO mu P) (hgp : zGP mu P S) (hpl : zin pl) (htl : zin tl)
    (h : ∀ nu, zsm [54, 55] mu nu → Q (zJ (zB (mu P 1) (mu P 0).toNat (mu (S + 4)) (mu (P + 4)) (mu S 4) pl tl (mu S 4).toNat (zab mu P 2) (zab mu P 1))) nu) : zC K d mX5_weightWith [zR 51, zR P, zR S, zI pl, zI tl] mu Q := by
  have hP2 := hP.2
  obtain ⟨hm, hg, hs⟩ := hgp
  have l : ∀ (n : Nat) (x : Int) (nu : Mem), 0 ≤ x → x + n = 6 → zsm [55] mu nu → (∀ y, 0 ≤ y → y < x → nu 55 y = mu (P + 4) y) → zG K d mX5_weightWith 3 [zR 51, zR P, zR S, zI pl, zI tl, zI x] [] nu Q := by
    intro n
    induction n with
    | zero =>
      intro x nu x0 x1 hz h1
      have e : x = 6 := by omega
      subst e
      have ec : ∀ k : Int, k ≠ 55 → nu k = mu k := fun k hk => hz k (by simp only [List.mem_cons, List.not_mem_nil, or_false]; exact hk)
      refine sg_X5_weightWith_3 hd hK hP hS ⟨⟨by omega, by omega⟩, fun _ => ?_, fun c => absurd c (by omega)⟩
      refine s_sumUp (sh := mu (P + 4)) (by omega) hK hP hS (ho.c5 hP2 (fun k hk => ec k (by omega))) (by rw [ec S (by omega)]; exact hm) (by rw [ec S (by omega), ec (S + 4) (by omega)]; exact hg) h1 hpl htl (fun xi hx => ⟨_, rfl, ?_⟩)
      rw [ec P (by omega), ec S (by omega), ec (S + 4) (by omega), zab_congr (ec P (by omega)) (ec (P + 1) (by omega)), zab_congr (ec P (by omega)) (ec (P + 1) (by omega))]
      exact h xi ((hz.wk (by simp)).tr (hx.wk (by simp)))
    | succ n ih =>
      intro x nu x0 x1 hz h1
      have e4 : nu (P + 4) = mu (P + 4) := hz _ (by simp only [List.mem_cons, List.not_mem_nil, or_false]; omega)
      have b := hs x x0 (by omega)
      refine sg_X5_weightWith_3 hd hK hP hS ?_
      rw [e4]
      refine ⟨⟨by omega, by omega⟩, fun c => absurd c (by omega), fun _ => ⟨x0, by omega, ⟨by omega, by omega⟩, ih (x + 1) _ (by omega) (by omega) (hz.up (by simp)) (fun y y0 y1 => ?_)⟩⟩
      by_cases hy : y = x
      · rw [hy, zup_same]
      · rw [zup_slot _ hy]
        exact h1 y y0 (by omega)
  exact ce_X5_weightWith (sg_X5_weightWith_0 hd hK hP hS (l 6 0 mu (by omega) (by omega) zsm.rf (fun y y0 y1 => absurd y1 (by omega))))
theorem s_number {P S : Int} (hd : 4 ≤ d) (hK : 64 ≤ K) (hP : isP K P) (hS : isS K S) (hS22 : S = 22) (ho : zPO mu P) (hgp : zGP mu P S)
    (h : ∀ nu, zsm [54, 55] mu nu → Q (zJ (zB (mu P 1) (mu P 0).toNat (mu (S + 4)) (zs1 (mu (P + 4))) (mu S 4) (-1) (-1) (mu S 4).toNat (zab mu P 2) (zab mu P 1))) nu) : zC K d mX5_number [zR 51, zR P, zR S] mu Q := by
  have hP2 := hP.2
  obtain ⟨hm, hg, hs⟩ := hgp
  have l : ∀ (n : Nat) (x : Int) (nu : Mem), 0 ≤ x → x + n = 6 → zsm [55] mu nu → (∀ y, 0 ≤ y → y < x → nu 55 y = zs1 (mu (P + 4)) y) → zG K d mX5_number 2 [zR 51, zR P, zR S, zI x] [] nu Q := by
    intro n
    induction n with
    | zero =>
      intro x nu x0 x1 hz h1
      have e : x = 6 := by omega
      subst e
      have ec : ∀ k : Int, k ≠ 55 → nu k = mu k := fun k hk => hz k (by simp only [List.mem_cons, List.not_mem_nil, or_false]; exact hk)
      refine sg_X5_number_2 hd hK hP hS ⟨⟨by omega, by omega⟩, fun _ => ?_, fun c => absurd c (by omega)⟩
      refine s_sumUp (sh := zs1 (mu (P + 4))) (by omega) hK hP hS (ho.c5 hP2 (fun k hk => ec k (by omega))) (by rw [ec S (by omega)]; exact hm) (by rw [ec S (by omega), ec (S + 4) (by omega)]; exact hg) h1 ⟨by omega, by omega⟩ ⟨by omega, by omega⟩ (fun xi hx => ⟨_, rfl, ?_⟩)
      rw [ec P (by omega), ec S (by omega), ec (S + 4) (by omega), zab_congr (ec P (by omega)) (ec (P + 1) (by omega)), zab_congr (ec P (by omega)) (ec (P + 1) (by omega))]
      exact h xi ((hz.wk (by simp)).tr (hx.wk (by simp)))
    | succ n ih =>
      intro x nu x0 x1 hz h1
      have e4 : nu (P + 4) = mu (P + 4) := hz _ (by simp only [List.mem_cons, List.not_mem_nil, or_false]; omega)
      have b := hs x x0 (by omega)
      have nx : ∀ v : Int, v = zs1 (mu (P + 4)) x → zG K d mX5_number 2 [zR 51, zR P, zR S, zI (x + 1)] [] (zup nu 55 x v) Q := fun v hv => ih (x + 1) _ (by omega) (by omega) (hz.up (by simp)) (fun y y0 y1 => by
        by_cases hy : y = x
        · rw [hy, zup_same, hv]
        · rw [zup_slot _ hy]
          exact h1 y y0 (by omega))
      refine sg_X5_number_2 hd hK hP hS ?_
      rw [e4]
      refine ⟨⟨by omega, by omega⟩, fun c => absurd c (by omega), fun _ => ⟨x0, by omega, ⟨by omega, by omega⟩, fun c => nx 0 (by unfold zs1; rw [if_pos c]), fun c => nx 1 (by unfold zs1; rw [if_neg c])⟩⟩
  exact ce_X5_number (sg_X5_number_0 hd hK hP hS (l 6 0 mu (by omega) (by omega) zsm.rf (fun y y0 y1 => absurd y1 (by omega))))
theorem s_weight {P S : Int} (hd : 5 ≤ d) (hK : 64 ≤ K) (hP : isP K P) (hS : isS K S) (hS22 : S = 22) (ho : zPO mu P) (hgp : zGP mu P S)
    (h : ∀ nu, zsm [54, 55] mu nu → Q (zJ (zB (mu P 1) (mu P 0).toNat (mu (S + 4)) (mu (P + 4)) (mu S 4) (-1) (-1) (mu S 4).toNat (zab mu P 2) (zab mu P 1))) nu) : zC K d mX5_weight [zR 51, zR P, zR S] mu Q :=
  ce_X5_weight (sg_X5_weight_0 hd hK hP hS (s_weightWith (by omega) hK hP hS hS22 ho hgp ⟨by omega, by omega⟩ ⟨by omega, by omega⟩ (fun nu hz => ⟨_, rfl, h nu hz⟩)))
end S57
/-- counts do not feel how 'nowhere' is told, nor what lies outside -/
theorem zB_congr {kind : Int} {t : Nat} {g g' sh sh' : Int → Int} {m pl tl pl' : Int} (hg : ∀ i, 0 ≤ i → i < m → g i = g' i) (hs : ∀ x : Int, 0 ≤ x → x < t → sh x = sh' x) (hp : pl = pl' ∨ (pl < 0 ∧ pl' < 0)) : ∀ (r : Nat), r ≤ m → ∀ a b tl', (tl = tl' ∨ (pl < 0 ∧ pl' < 0)) → zB kind t g sh m pl tl r a b = zB kind t g' sh' m pl' tl' r a b
  | 0, _, _, _, _, _ => rfl
  | r + 1, hr, a, b, tl', htl => by
    unfold zB
    apply zsum_congr
    intro x x0 x1
    rw [hg (m - (r + 1)) (by omega) (by omega), hs x x0 x1, zB_congr hg hs hp r (by omega) b x tl' htl]
    have : (m - ((r : Int) + 1) ≠ pl ∨ x = tl) ↔ (m - ((r : Int) + 1) ≠ pl' ∨ x = tl') := by
      rcases hp with hp | hp
      · rcases htl with htl | htl
        · rw [hp, htl]
        · exact ⟨fun _ => Or.inl (by omega), fun _ => Or.inl (by omega)⟩
      · exact ⟨fun _ => Or.inl (by omega), fun _ => Or.inl (by omega)⟩
    by_cases hc : (m - ((r : Int) + 1) ≠ pl ∨ x = tl) ∧ zgb kind a b x = g' (m - (r + 1))
    · rw [if_pos hc, if_pos ⟨this.mp hc.1, hc.2⟩]
    · rw [if_neg hc, if_neg (fun q => hc ⟨this.mpr q.1, q.2⟩)]
theorem jPl.gp {mu : Mem} {P : Int} (h : jPl mu P) (h3 : jSt mu (mu P 0) (mu P 4) 22 0) : zGP mu P 22 := by
  obtain ⟨⟨t1, t2, t3⟩, -, -, -, -, -, -, -, hp, -⟩ := h
  refine ⟨h3.2.1.2, fun i i0 i1 => ?_, fun x x0 x1 => ?_⟩
  · have := h3.2.2 i i0 i1
    rw [this.1]
    have q := this.2
    unfold zsg at q
    omega
  · rw [(hp x x0 x1).1]
    exact (hp x x0 x1).2
theorem jPl.lb {mu : Mem} {P : Int} (h : jPl mu P) : ze (zlb mu 1) = zab mu P 2 ∧ ze (zlb mu 0) = zab mu P 1 ∧ (0 ≤ zlb mu 1 ∧ zlb mu 1 ≤ 7) ∧ (0 ≤ zlb mu 0 ∧ zlb mu 0 ≤ 7) := by
  obtain ⟨⟨t1, t2, t3⟩, -, ⟨b1, b2, b3⟩, -, -, ha, -⟩ := h
  have key : ∀ k b : Int, b = k + 1 → 0 ≤ k → k ≤ 1 → ze (zlb mu k) = zab mu P b ∧ 0 ≤ zlb mu k ∧ zlb mu k ≤ 7 := fun k b hb k0 k1 => by
    unfold zlb zab
    rw [← b1]
    by_cases hc : mu P 2 ≤ k
    · rw [if_pos hc, if_neg (by omega)]
      exact ⟨rfl, by omega, by omega⟩
    · have z := ha (mu P 2 - b) (by omega) (by omega)
      rw [if_neg hc, if_pos (by omega), show mu P 2 - 1 - k = mu P 2 - b by omega, z.1]
      refine ⟨?_, by omega, by omega⟩
      unfold ze
      rw [if_neg (by omega)]
  have k1 := key 1 2 (by omega) (by omega) (by omega)
  have k0 := key 0 1 (by omega) (by omega) (by omega)
  exact ⟨k1.1, k0.1, k1.2, k0.2⟩
theorem op_rows (a1 : Int) (ha : zin a1) : zOpJ 6 3 mX8_rows mX9_rows [zI a1] := by
  intro mu P hJ
  have hK : 64 ≤ 93 := by decide
  have hK' : 93 ≤ 93 := by decide
  have hJ0 := hJ
  obtain ⟨h1, h2, h3, -⟩ := hJ
  have hPi := h1.isP hK
  obtain ⟨rfl, -⟩ := h1
  have hpo := h2.po
  have hmo := h2.mo
  have hgp := h2.gp h3
  have hlb := h2.lb
  have h20 := h2
  obtain ⟨⟨t1, t2, t3⟩, ⟨k1, k2, k3⟩, ⟨b1, b2, b3⟩, -, -, -, -, -, hp, -⟩ := h2
  obtain ⟨-, ⟨g1, g2, g3⟩, g4⟩ := h3
  have hS : isS 93 22 := ⟨by omega, by omega⟩
  have hs73 : zshb (mu 73) := fun x x0 x1 => (hp x x0 x1).2
  have hg79 : ∀ i, 0 ≤ i → i < mu 78 0 → 0 ≤ mu 79 i ∧ mu 79 i ≤ 6 := fun i i0 i1 => by
    have q := (g4 i i0 (by omega)).2
    rw [show 10 * (0 : Int) + i = i by omega] at q
    unfold zsg at q
    omega
  -- the reference
  have fin : ∀ (nu : Mem) (r : Int), zsm [54, 55] mu nu → (a1 = 0 ∨ a1 = 1) → (mu 67 0 = 0 ∨ mu 67 0 = 3) → r = (if a1 = 0 then zB (mu (mu 0 3) 1) (mu (mu 0 3) 0).toNat (mu (22 + 4)) (zs1 (mu (mu 0 3 + 4))) (mu 22 4) (-1) (-1) (mu 22 4).toNat (zab mu (mu 0 3) 2) (zab mu (mu 0 3) 1) else zB (mu (mu 0 3) 1) (mu (mu 0 3) 0).toNat (mu (22 + 4)) (mu (mu 0 3 + 4)) (mu 22 4) (-1) (-1) (mu 22 4).toNat (zab mu (mu 0 3) 2) (zab mu (mu 0 3) 1)) → zC 93 3 mX9_rows [zR 64, zI a1] nu (fun v' nu' => v' = zJ r ∧ ∃ P', jJ nu' P') := fun nu r hz hw hsh hr => by
    have hJ1 := hJ0.same (hz.J (by decide))
    have e : ∀ k : Int, 64 ≤ k → nu k = mu k := fun k hk => hz k (by simp only [List.mem_cons, List.not_mem_nil, or_false]; omega)
    refine ce_X9_rows (sg_X9_rows_0 (by omega) hK' ⟨ha, s_in hK' (zil_of ha) ⟨by omega, by omega⟩ ⟨by omega, by omega⟩ ⟨_, rfl, zbin _, fun c => ?_, fun c => by exfalso; split at c <;> omega⟩⟩)
    refine m_isShort hK' (by rw [e 67 (by omega)]; exact ⟨by omega, by omega⟩) ⟨_, rfl, zbin _, fun c2 => ?_, fun c2 => by exfalso; rw [e 67 (by omega), if_pos hsh] at c2; omega⟩
    refine m_layRows (by omega) hK' (by rw [e 66 (by omega)]; omega) (by rw [e 67 (by omega)]; exact hsh) (by rw [e 78 (by omega)]; omega) (by rw [e 78 (by omega), e 79 (by omega)]; exact hg79) (by rw [e 73 (by omega)]; exact hs73) ⟨by omega, by omega⟩ ⟨by omega, by omega⟩ (fun xi hx hT => ⟨rfl, ?_⟩)
    have ex : ∀ k : Int, 64 ≤ k → k ≠ 87 → k ≠ 88 → k ≠ 89 → xi k = mu k := fun k hk q1 q2 q3 => (hx k (by simp only [List.mem_cons, List.not_mem_nil, or_false]; omega)).trans (e k hk)
    have el : ∀ k, zlb xi k = zlb mu k := fun k => by
      unfold zlb
      rw [ex 68 (by omega) (by omega) (by omega) (by omega), ex 69 (by omega) (by omega) (by omega) (by omega)]
    refine m_lastBut hK' (Or.inr rfl) (by rw [ex 68 (by omega) (by omega) (by omega) (by omega)]; omega) ⟨_, rfl, ?_⟩
    refine m_lastBut hK' (Or.inl rfl) (by rw [ex 68 (by omega) (by omega) (by omega) (by omega)]; omega) ⟨_, rfl, ?_⟩
    rw [el, el]
    obtain ⟨l1, l0, lb1, lb0⟩ := hlb
    refine m_stand hK' ⟨_, rfl, ?_⟩
    have hJ2 := hJ1.same (hx.J (by decide))
    obtain ⟨T1, T2, -⟩ := hT 0 (8 * zlb mu 1 + zlb mu 0) (by omega) (by rw [e 78 (by omega)]; omega) (by omega) (by omega) (Or.inl (by omega))
    rw [e 66 (by omega), e 67 (by omega), e 73 (by omega), e 78 (by omega), e 79 (by omega), show (8 * zlb mu 1 + zlb mu 0) / 8 = zlb mu 1 by omega, show (8 * zlb mu 1 + zlb mu 0) % 8 = zlb mu 0 by omega, l1, l0, show (mu 78 0 - 0).toNat = (mu 78 0).toNat by omega, show 64 * 0 + (8 * zlb mu 1 + zlb mu 0) = 64 * 0 + 8 * zlb mu 1 + zlb mu 0 by omega, ← t1, ← k1, ← g1] at T1 T2
    have gg : ∀ i, 0 ≤ i → i < mu 22 4 → mu 79 i = mu (22 + 4) i := fun i i0 i1 => by
      have q := (g4 i i0 i1).1
      rw [show 10 * (0 : Int) + i = i by omega] at q
      exact q.symm
    have ss : ∀ x, 0 ≤ x → x < ((mu (mu 0 3) 0).toNat : Int) → mu 73 x = mu (mu 0 3 + 4) x := fun x x0 x1 => (hp x x0 (by omega)).1.symm
    refine ⟨fun c3 => ⟨by omega, by omega, ?_, _, hJ2⟩, fun c3 => ⟨by omega, by omega, ?_, _, hJ2⟩⟩
    · rw [T2, hr, if_neg c3, zB_congr (pl' := -1) gg ss (Or.inr (by omega)) _ (by omega) _ _ (-1) (Or.inr (by omega))]
    · rw [T1, hr, if_pos c3, zB_congr (pl' := -1) (sh' := zs1 (mu (mu 0 3 + 4))) gg (fun x x0 x1 => by unfold zs1; rw [ss x x0 x1]) (Or.inr (by omega)) _ (by omega) _ _ (-1) (Or.inr (by omega))]
  have bdB : ∀ sh, zshb sh → zil (zB (mu (mu 0 3) 1) (mu (mu 0 3) 0).toNat (mu (22 + 4)) sh (mu 22 4) (-1) (-1) (mu 22 4).toNat (zab mu (mu 0 3) 2) (zab mu (mu 0 3) 1)) := fun sh hsh => by
    have b := zB_bd (kind := mu (mu 0 3) 1) (t := (mu (mu 0 3) 0).toNat) (g := mu (22 + 4)) (sh := sh) (m := mu 22 4) (pl := -1) (tl := -1) (by omega) hsh (mu 22 4).toNat (zab mu (mu 0 3) 2) (zab mu (mu 0 3) 1)
    have c := z54 (r := (mu 22 4).toNat) (by omega)
    exact ⟨by omega, by omega⟩
  refine ce_X8_rows (sg_X8_rows_0 (by omega) hK (s_within hK ha ⟨by omega, by omega⟩ ⟨by omega, by omega⟩ ⟨_, rfl, zbin _, fun c => ⟨hPi, s_remembersTwo hK hPi ⟨by omega, by omega⟩ ⟨_, rfl, zbin _, fun c2 => ⟨ha, fun c3 => ?_, fun c3 => ?_⟩, fun c2 => ?_⟩⟩, fun c => ?_⟩))
  · have cw : a1 = 0 ∨ a1 = 1 := by split at c <;> omega
    have csh : mu 67 0 = 0 ∨ mu 67 0 = 3 := by split at c2 <;> omega
    exact s_weight (by omega) hK hPi hS rfl hpo hgp (fun nu hz => ⟨_, rfl, _, bdB _ hgp.2.2, rfl, fin nu _ hz cw csh (by rw [if_neg c3])⟩)
  · have cw : a1 = 0 ∨ a1 = 1 := by split at c <;> omega
    have csh : mu 67 0 = 0 ∨ mu 67 0 = 3 := by split at c2 <;> omega
    exact s_number (by omega) hK hPi hS rfl hpo hgp (fun nu hz => ⟨_, rfl, _, bdB _ zs1_b, rfl, fin nu _ hz cw csh (by rw [if_pos c3])⟩)
  · refine ⟨_, ⟨by omega, by omega⟩, rfl, ?_⟩
    refine ce_X9_rows (sg_X9_rows_0 (by omega) hK' ⟨ha, s_in hK' (zil_of ha) ⟨by omega, by omega⟩ ⟨by omega, by omega⟩ ⟨_, rfl, zbin _, fun c3 => m_isShort hK' ⟨by omega, by omega⟩ ⟨_, rfl, zbin _, fun c4 => ?_, fun c4 => ⟨rfl, _, hJ0⟩⟩, fun c3 => absurd c3 c⟩⟩)
    exfalso
    rw [← k1] at c4
    exact c4 c2
  · refine ⟨_, ⟨by omega, by omega⟩, rfl, ?_⟩
    exact ce_X9_rows (sg_X9_rows_0 (by omega) hK' ⟨ha, s_in hK' (zil_of ha) ⟨by omega, by omega⟩ ⟨by omega, by omega⟩ ⟨_, rfl, zbin _, fun c3 => absurd c c3, fun c3 => ⟨rfl, _, hJ0⟩⟩⟩)
