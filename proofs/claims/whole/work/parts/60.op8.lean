/-! likeliest: the reference, the operation -/
theorem zmx0_congr {f g : Int → Int} : ∀ n : Nat, (∀ x : Int, 0 ≤ x → x < n → f x = g x) → zmx0 f n = zmx0 g n
  | 0, _ => rfl
  | n + 1, h => by
    rw [zmx0, zmx0, zmx0_congr n (fun x x0 x1 => h x x0 (by omega)), h n (by omega) (by omega)]
theorem zWt_congr {kind : Int} {t : Nat} {g g' sh sh' : Int → Int} {m pl tl : Int} (hg : ∀ i, 0 ≤ i → i < m → g i = g' i) (hs : ∀ x : Int, 0 ≤ x → x < t → sh x = sh' x) : ∀ (r : Nat), r ≤ m → ∀ a b, zWt kind t g sh m pl tl r a b = zWt kind t g' sh' m pl tl r a b
  | 0, _, _, _ => rfl
  | r + 1, hr, a, b => by
    rw [zWt, zWt]
    apply zmx0_congr
    intro x x0 x1
    rw [hg (m - (r + 1)) (by omega) (by omega), hs x x0 x1, zWt_congr hg hs r (by omega) b x]
theorem zlx_congr {kind : Int} {t : Nat} {g g' sh sh' : Int → Int} {m : Int} (hg : ∀ i, 0 ≤ i → i < m → g i = g' i) (hs : ∀ x : Int, 0 ≤ x → x < t → sh x = sh' x) {r : Nat} (hr : (r : Int) + 1 ≤ m) (a b : Int) : zlx kind t g sh m r a b = zlx kind t g' sh' m r a b := by
  unfold zlx
  apply zfirst_congr
  intro x x0 x1
  rw [hg (m - (r + 1)) (by omega) (by omega), hs x x0 (by omega), zWt_congr hg hs r (by omega) b x, zWt_congr hg hs (r + 1) (by omega) a b]
theorem zlp_congr {kind : Int} {t : Nat} {g g' sh sh' : Int → Int} {m : Int} (hg : ∀ i, 0 ≤ i → i < m → g i = g' i) (hs : ∀ x : Int, 0 ≤ x → x < t → sh x = sh' x) : ∀ (r : Nat), r ≤ m → ∀ a b, zlp kind t g sh m r a b = zlp kind t g' sh' m r a b
  | 0, _, _, _ => rfl
  | r + 1, hr, a, b => by
    rw [zlp, zlp, zlx_congr hg hs (by omega), zlp_congr hg hs r (by omega)]
theorem zlp_bd {kind : Int} {t : Nat} {g sh : Int → Int} {m : Int} : ∀ (r : Nat) (a b : Int) (i : Nat), 0 ≤ (zlp kind t g sh m r a b).getD i 0 ∧ (zlp kind t g sh m r a b).getD i 0 ≤ t
  | 0, _, _, i => by
    rw [zlp, List.getD_nil]
    omega
  | r + 1, a, b, i => by
    rw [zlp]
    have := zfirst_bd (fun x => decide ((if zgb kind a b x = g (m - (r + 1)) then sh x * zWt kind t g sh m (-4) (-4) r b x else 0) = zWt kind t g sh m (-4) (-4) (r + 1) a b)) t 0
    match i with
    | 0 =>
      rw [List.getD_cons_zero]
      unfold zlx
      omega
    | i + 1 =>
      rw [List.getD_cons_succ]
      exact zlp_bd r _ _ i
section S60
variable {K d : Nat} {mu : Mem} {Q : AV → Mem → Prop}
theorem ze_s {x : Int} (h : x < 6) : ze x = x := by
  unfold ze
  rw [if_neg (by omega)]
theorem m_lik75 {a1 : Int} {nu : Mem} (hd : 3 ≤ d) (hK : 93 ≤ K) (hN : 2 ≤ mu 66 0 ∧ mu 66 0 ≤ 6) (hk : mu 67 0 = 0 ∨ mu 67 0 = 3) (hm : 0 ≤ mu 78 0 ∧ mu 78 0 ≤ 10) (hg : ∀ i, 0 ≤ i → i < mu 78 0 → 0 ≤ mu 79 i ∧ mu 79 i ≤ 6) (hs : zshb (mu 73)) (ha : 0 ≤ a1 ∧ a1 < mu 78 0)
    (hz : zsm [87, 88, 89] mu nu) (hT : zT mu nu (-4) (-4) (-1) 0) : ∀ (j : Nat) (r : Nat) (k a b p : Int), 0 ≤ k → k + j = a1 + 1 → k + r = mu 78 0 → (0 ≤ a ∧ a ≤ 7) → (0 ≤ b ∧ b ≤ 7) → zin p → 0 < zWt (mu 67 0) (mu 66 0).toNat (mu 79) (mu 73) (mu 78 0) (-4) (-4) r (ze a) (ze b) → Q (zI (if j = 0 then p else (zlp (mu 67 0) (mu 66 0).toNat (mu 79) (mu 73) (mu 78 0) r (ze a) (ze b)).getD (j - 1) 0)) nu → zG K d mX9_likeliest 75 [zR 64, zI a1, zI a, zI b, zI p, zI k, zU, zU] [] nu Q := by
  have e : ∀ c : Int, c ≠ 87 → c ≠ 88 → c ≠ 89 → nu c = mu c := fun c q1 q2 q3 => hz c (by simp only [List.mem_cons, List.not_mem_nil, or_false]; omega)
  have e66 := e 66 (by decide) (by decide) (by decide)
  have e67 := e 67 (by decide) (by decide) (by decide)
  have e73 := e 73 (by decide) (by decide) (by decide)
  have e78 := e 78 (by decide) (by decide) (by decide)
  have e79 := e 79 (by decide) (by decide) (by decide)
  intro j
  induction j with
  | zero =>
    intro r k a b p k0 k1 k2 ha' hb' hp hw hq
    rw [if_pos rfl] at hq
    exact sg_X9_likeliest_75 hd hK ⟨⟨by omega, by omega⟩, ⟨by omega, by omega⟩, fun _ => hq, fun c => absurd c (by omega)⟩
  | succ j ih =>
    intro r k a b p k0 k1 k2 ha' hb' hp hw hq
    obtain ⟨s, rfl⟩ : ∃ s, r = s + 1 := ⟨r - 1, by omega⟩
    have ei : mu 78 0 - ((s : Int) + 1) = k := by omega
    obtain ⟨x0, x1, x2, x3, x4, x5⟩ := zlx_ok (kind := mu 67 0) (t := (mu 66 0).toNat) (g := mu 79) (sh := mu 73) (m := mu 78 0) (r := s) (a := ze a) (b := ze b) (by omega) hs (by omega) hw
    have hmiss : ∀ x : Int, 0 ≤ x → x < zlx (mu 67 0) (mu 66 0).toNat (mu 79) (mu 73) (mu 78 0) s (ze a) (ze b) → zgb (mu 67 0) (ze a) (ze b) x = mu 79 k → ¬ mu 73 x * zWt (mu 67 0) (mu 66 0).toNat (mu 79) (mu 73) (mu 78 0) (-4) (-4) s (ze b) x = zWt (mu 67 0) (mu 66 0).toNat (mu 79) (mu 73) (mu 78 0) (-4) (-4) (s + 1) (ze a) (ze b) := fun x u0 u1 ug uw => by
      have := zfirst_le (p := fun x => decide ((if zgb (mu 67 0) (ze a) (ze b) x = mu 79 (mu 78 0 - (s + 1)) then mu 73 x * zWt (mu 67 0) (mu 66 0).toNat (mu 79) (mu 73) (mu 78 0) (-4) (-4) s (ze b) x else 0) = zWt (mu 67 0) (mu 66 0).toNat (mu 79) (mu 73) (mu 78 0) (-4) (-4) (s + 1) (ze a) (ze b))) (x := x) (decide_eq_true (by rw [ei, if_pos ug]; exact uw)) (mu 66 0).toNat 0 u0 (by omega)
      unfold zlx at u1
      omega
    rw [ei] at x2
    rw [if_neg (by omega), zlp, show j + 1 - 1 = j by omega] at hq
    generalize hX : zlx (mu 67 0) (mu 66 0).toNat (mu 79) (mu 73) (mu 78 0) s (ze a) (ze b) = X at *
    have T0 := (hT k (8 * a + b) k0 (by omega) (by omega) (by omega) (Or.inl (by omega))).2.2
    rw [show (8 * a + b) / 8 = a by omega, show (8 * a + b) % 8 = b by omega, show (mu 78 0 - k).toNat = s + 1 by omega, show 64 * k + (8 * a + b) = 64 * k + 8 * a + b by omega] at T0
    have T1 : ∀ x : Int, 0 ≤ x → x < 6 → nu 89 (64 * (k + 1) + 8 * b + x) = zWt (mu 67 0) (mu 66 0).toNat (mu 79) (mu 73) (mu 78 0) (-4) (-4) s (ze b) x := fun x u0 u1 => by
      have T := (hT (k + 1) (8 * b + x) (by omega) (by omega) (by omega) (by omega) (Or.inl (by omega))).2.2
      rw [show (8 * b + x) / 8 = b by omega, show (8 * b + x) % 8 = x by omega, show (mu 78 0 - (k + 1)).toNat = s by omega, show 64 * (k + 1) + (8 * b + x) = 64 * (k + 1) + 8 * b + x by omega, ze_s u1] at T
      exact T
    have bd : ∀ (r : Nat) (a b : Int), r ≤ 10 → 0 ≤ zWt (mu 67 0) (mu 66 0).toNat (mu 79) (mu 73) (mu 78 0) (-4) (-4) r a b ∧ zWt (mu 67 0) (mu 66 0).toNat (mu 79) (mu 73) (mu 78 0) (-4) (-4) r a b ≤ 3486784401 := fun r a b hr => by
      have u := zWt_bd (kind := mu 67 0) (t := (mu 66 0).toNat) (g := mu 79) (sh := mu 73) (m := mu 78 0) (pl := -4) (tl := -4) (by omega) hs r a b
      have v := z9p hr
      omega
    refine sg_X9_likeliest_75 hd hK ⟨⟨by omega, by omega⟩, ⟨by omega, by omega⟩, fun c => absurd c (by omega), fun _ => m_stand hK ⟨_, rfl, by omega, by omega, ?_⟩⟩
    rw [T0]
    have bW := bd (s + 1) (ze a) (ze b) (by omega)
    have l : ∀ (q : Nat) (x : Int), 0 ≤ x → x + q = X → zG K d mX9_likeliest 98 [zR 64, zI a1, zI a, zI b, zI x, zI k, zJ (zWt (mu 67 0) (mu 66 0).toNat (mu 79) (mu 73) (mu 78 0) (-4) (-4) (s + 1) (ze a) (ze b)), zU] [] nu Q := by
      intro q
      induction q with
      | zero =>
        intro x u0 u1
        have ex : x = X := by omega
        subst ex
        refine sg_X9_likeliest_98 hd hK ?_
        rw [e73]
        have b73 := hs x u0 (by omega)
        have bw := bd s (ze b) x (by omega)
        have mb := zmul_bd b73 bw
        refine ⟨u0, by omega, ⟨by omega, by omega⟩, fun c => absurd c (by omega), fun c => m_shortly (by omega) hK (by rw [e67]; exact hk) ha' ⟨hb'.1, hb'.2, fun _ => Or.inr trivial⟩ ⟨u0, by omega⟩ ⟨_, rfl, k0, by omega, ?_⟩⟩
        rw [e67, e79, e73, x2]
        have g1 := hg k k0 (by omega)
        refine ⟨⟨by omega, by omega⟩, ⟨by omega, by omega⟩, fun c => absurd rfl c, fun _ => ⟨⟨by omega, by omega⟩, m_stand hK ⟨_, rfl, by omega, by omega, ?_⟩⟩⟩
        rw [T1 x u0 (by omega)]
        refine ⟨⟨by omega, by omega⟩, ⟨by omega, by omega⟩, fun _ => ?_, fun c => absurd x4 c⟩
        refine ih s (k + 1) b x x (by omega) (by omega) (by omega) hb' ⟨by omega, by omega⟩ ⟨by omega, by omega⟩ (by rw [ze_s (show x < 6 by omega)]; exact x5) ?_
        rw [ze_s (show x < 6 by omega)]
        by_cases hj : j = 0
        · subst hj
          rw [if_pos rfl]
          exact hq
        · rw [if_neg hj]
          obtain ⟨i, rfl⟩ : ∃ i, j = i + 1 := ⟨j - 1, by omega⟩
          exact hq
      | succ q ihq =>
        intro x u0 u1
        refine sg_X9_likeliest_98 hd hK ?_
        rw [e73]
        have b73 := hs x u0 (by omega)
        have bw := bd s (ze b) x (by omega)
        have mb := zmul_bd b73 bw
        have nx := ihq (x + 1) (by omega) (by omega)
        refine ⟨u0, by omega, ⟨by omega, by omega⟩, fun _ => nx, fun c => m_shortly (by omega) hK (by rw [e67]; exact hk) ha' ⟨hb'.1, hb'.2, fun _ => Or.inr trivial⟩ ⟨u0, by omega⟩ ⟨_, rfl, k0, by omega, ?_⟩⟩
        rw [e67, e79, e73]
        have g1 := hg k k0 (by omega)
        have zb := zgb_bd (k := mu 67 0) (a := ze a) (b := ze b) (c := x) (by unfold ze; split <;> omega) (by unfold ze; split <;> omega) (by omega)
        refine ⟨⟨by omega, by omega⟩, ⟨by omega, by omega⟩, fun _ => nx, fun cg => ⟨⟨by omega, by omega⟩, m_stand hK ⟨_, rfl, by omega, by omega, ?_⟩⟩⟩
        rw [T1 x u0 (by omega)]
        exact ⟨⟨by omega, by omega⟩, ⟨by omega, by omega⟩, fun cw => absurd cw (hmiss x u0 (by omega) cg), fun _ => nx⟩
    exact l X.toNat 0 (by omega) (by omega)
end S60
theorem op_likeliest (a1 : Int) (ha : zin a1) : zOp 5 3 mX8_likeliest mX9_likeliest [zI a1] := by
  intro mu P hJ
  have hK : 64 ≤ 93 := by decide
  have hK' : 93 ≤ 93 := by decide
  have hJ0 := hJ
  obtain ⟨h1, h2, h3, -⟩ := hJ
  have hPi := h1.isP hK
  have hP2 := hPi.2
  obtain ⟨rfl, -⟩ := h1
  have hpo := h2.po
  have hgp := h2.gp h3
  have hlb := h2.lb
  obtain ⟨⟨t1, t2, t3⟩, ⟨k1, k2, k3⟩, ⟨b1, b2, b3⟩, -, -, -, -, -, hp, -⟩ := h2
  obtain ⟨-, ⟨g1, g2, g3⟩, g4⟩ := h3
  have hS : isS 93 22 := ⟨by omega, by omega⟩
  have hs73 : zshb (mu 73) := fun x x0 x1 => (hp x x0 x1).2
  have hg79 : ∀ i, 0 ≤ i → i < mu 78 0 → 0 ≤ mu 79 i ∧ mu 79 i ≤ 6 := fun i i0 i1 => by
    have q := (g4 i i0 (by omega)).2
    rw [show 10 * (0 : Int) + i = i by omega] at q
    unfold zsg at q
    omega
  have gg : ∀ i, 0 ≤ i → i < mu 22 4 → mu 79 i = mu (22 + 4) i := fun i i0 i1 => by
    have q := (g4 i i0 i1).1
    rw [show 10 * (0 : Int) + i = i by omega] at q
    exact q.symm
  have ss : ∀ x : Int, 0 ≤ x → x < ((mu (mu 0 3) 0).toNat : Int) → mu 73 x = mu (mu 0 3 + 4) x := fun x x0 x1 => (hp x x0 (by omega)).1.symm
  obtain ⟨l1, l0, lb1, lb0⟩ := hlb
  have wbd := zWt_bd (kind := mu (mu 0 3) 1) (t := (mu (mu 0 3) 0).toNat) (g := mu (22 + 4)) (sh := mu (mu 0 3 + 4)) (m := mu 22 4) (pl := -4) (tl := -4) (by omega) hgp.2.2
  -- the reference
  have fin : ∀ (nu : Mem) (r : Int), zsm [52, 53] mu nu → (0 ≤ a1 ∧ a1 < mu 22 4) → (mu 67 0 = 0 ∨ mu 67 0 = 3) → r = (if zWt (mu (mu 0 3) 1) (mu (mu 0 3) 0).toNat (mu (22 + 4)) (mu (mu 0 3 + 4)) (mu 22 4) (-4) (-4) (mu 22 4).toNat (zab mu (mu 0 3) 2) (zab mu (mu 0 3) 1) = 0 then -4 else (zlp (mu (mu 0 3) 1) (mu (mu 0 3) 0).toNat (mu (22 + 4)) (mu (mu 0 3 + 4)) (mu 22 4) (mu 22 4).toNat (zab mu (mu 0 3) 2) (zab mu (mu 0 3) 1)).getD a1.toNat 0) → zC 93 3 mX9_likeliest [zR 64, zI a1] nu (fun v' nu' => v' = zI r ∧ ∃ P', jJ nu' P') := fun nu r hz w1 hsh hr => by
    have hJ1 := hJ0.same (hz.J (by decide))
    have e : ∀ k : Int, 64 ≤ k → nu k = mu k := fun k hk => hz k (by simp only [List.mem_cons, List.not_mem_nil, or_false]; omega)
    refine ce_X9_likeliest (sg_X9_likeliest_0 (by omega) hK' ⟨ha, by rw [e 78 (by omega)]; exact ⟨by omega, by omega⟩, s_in hK' (zil_of ha) ⟨by omega, by omega⟩ (by rw [e 78 (by omega)]; exact ⟨by omega, by omega⟩) ⟨_, rfl, zbin _, fun c => ?_, fun c => by exfalso; rw [e 78 (by omega)] at c; split at c <;> omega⟩⟩)
    refine m_isShort hK' (by rw [e 67 (by omega)]; exact ⟨by omega, by omega⟩) ⟨_, rfl, zbin _, fun c2 => ?_, fun c2 => by exfalso; rw [e 67 (by omega), if_pos hsh] at c2; omega⟩
    refine m_layRows (by omega) hK' (by rw [e 66 (by omega)]; omega) (by rw [e 67 (by omega)]; exact hsh) (by rw [e 78 (by omega)]; omega) (by rw [e 78 (by omega), e 79 (by omega)]; exact hg79) (by rw [e 73 (by omega)]; exact hs73) ⟨by omega, by omega⟩ ⟨by omega, by omega⟩ (fun xi hx hT => ⟨rfl, ?_⟩)
    have ex : ∀ k : Int, 64 ≤ k → k ≠ 87 → k ≠ 88 → k ≠ 89 → xi k = mu k := fun k hk q1 q2 q3 => (hx k (by simp only [List.mem_cons, List.not_mem_nil, or_false]; omega)).trans (e k hk)
    have el : ∀ k, zlb xi k = zlb mu k := fun k => by
      unfold zlb
      rw [ex 68 (by omega) (by omega) (by omega) (by omega), ex 69 (by omega) (by omega) (by omega) (by omega)]
    refine m_lastBut hK' (Or.inr rfl) (by rw [ex 68 (by omega) (by omega) (by omega) (by omega)]; omega) ⟨_, rfl, ?_⟩
    refine m_lastBut hK' (Or.inl rfl) (by rw [ex 68 (by omega) (by omega) (by omega) (by omega)]; omega) ⟨_, rfl, ?_⟩
    rw [el, el]
    refine m_stand hK' ⟨_, rfl, by omega, by omega, ?_⟩
    have hJ2 := hJ1.same (hx.J (by decide))
    obtain ⟨T1, -, -⟩ := hT 0 (8 * zlb mu 1 + zlb mu 0) (by omega) (by rw [e 78 (by omega)]; omega) (by omega) (by omega) (Or.inl (by omega))
    rw [e 66 (by omega), e 67 (by omega), e 73 (by omega), e 78 (by omega), e 79 (by omega), show (8 * zlb mu 1 + zlb mu 0) / 8 = zlb mu 1 by omega, show (8 * zlb mu 1 + zlb mu 0) % 8 = zlb mu 0 by omega, show (mu 78 0 - 0).toNat = (mu 78 0).toNat by omega, show 64 * 0 + (8 * zlb mu 1 + zlb mu 0) = 64 * 0 + 8 * zlb mu 1 + zlb mu 0 by omega] at T1
    rw [T1]
    have hpos := zB_pos (kind := mu 67 0) (t := (mu 66 0).toNat) (g := mu 79) (sh := mu 73) (m := mu 78 0) (pl := -4) (tl := -4) (by omega) hs73 (mu 78 0).toNat (ze (zlb mu 1)) (ze (zlb mu 0))
    have bB := zB_bd (kind := mu 67 0) (t := (mu 66 0).toNat) (g := mu 79) (sh := zs1 (mu 73)) (m := mu 78 0) (pl := -4) (tl := -4) (by omega) (zs1_b) (mu 78 0).toNat (ze (zlb mu 1)) (ze (zlb mu 0))
    have b54 := z54 (r := (mu 78 0).toNat) (by omega)
    have bW := zWt_bd (kind := mu 67 0) (t := (mu 66 0).toNat) (g := mu 79) (sh := mu 73) (m := mu 78 0) (pl := -4) (tl := -4) (by omega) hs73 (mu 78 0).toNat (ze (zlb mu 1)) (ze (zlb mu 0))
    rw [← zWt_congr gg ss _ (by omega), ← zlp_congr gg ss _ (by omega), k1, t1, g1, ← l1, ← l0] at hr
    refine ⟨⟨by omega, by omega⟩, fun c3 => ?_, fun c3 => ⟨by rw [hr, if_pos (by omega)], _, hJ2⟩⟩
    have hm : zsm [87, 88, 89] nu xi := hx
    refine m_lik75 (mu := nu) (by omega) hK' (by rw [e 66 (by omega)]; omega) (by rw [e 67 (by omega)]; exact hsh) (by rw [e 78 (by omega)]; omega) (by rw [e 78 (by omega), e 79 (by omega)]; exact hg79) (by rw [e 73 (by omega)]; exact hs73) (by rw [e 78 (by omega)]; omega) hm hT (a1 + 1).toNat (mu 78 0).toNat 0 _ _ 0 (by omega) (by omega) (by rw [e 78 (by omega)]; omega) lb1 lb0 ⟨by omega, by omega⟩ ?_ ?_
    · rw [e 66 (by omega), e 67 (by omega), e 73 (by omega), e 78 (by omega), e 79 (by omega)]
      omega
    · rw [e 66 (by omega), e 67 (by omega), e 73 (by omega), e 78 (by omega), e 79 (by omega), if_neg (by omega)]
      refine ⟨?_, _, hJ2⟩
      rw [hr, if_neg (by omega), show (a1 + 1).toNat - 1 = a1.toNat by omega]
  refine ce_X8_likeliest (sg_X8_likeliest_0 (by omega) hK (s_isGift (by omega) hK ha ⟨g2, g3⟩ ⟨_, rfl, zbin _, fun c => ⟨hPi, ?_⟩, fun c => ?_⟩))
  · have w1 : 0 ≤ a1 ∧ a1 < mu 22 4 := by split at c <;> omega
    refine s_remembersTwo hK hPi ⟨by omega, by omega⟩ ⟨_, rfl, zbin _, fun c4 => ?_, fun c4 => ?_⟩
    · have csh : mu 67 0 = 0 ∨ mu 67 0 = 3 := by split at c4 <;> omega
      refine s_findLikeliest (by omega) hK hPi hS rfl hpo hgp (fun w nu hz => ⟨_, rfl, ⟨by omega, by omega⟩, fun _ => ⟨_, ⟨by omega, by omega⟩, rfl, fin nu _ hz w1 csh (by rw [if_pos w])⟩, fun q => absurd rfl q⟩) (fun w nu hz hw => ⟨_, rfl, ⟨by omega, by omega⟩, fun q => absurd q (by omega), fun _ => ⟨w1.1, by omega, _, ?_, rfl, fin nu _ hz w1 csh ?_⟩⟩)
      · have := hw a1.toNat (by omega)
        rw [show ((a1.toNat : Nat) : Int) = a1 by omega] at this
        rw [this]
        have hl := zlp_bd (kind := mu (mu 0 3) 1) (t := (mu (mu 0 3) 0).toNat) (g := mu (22 + 4)) (sh := mu (mu 0 3 + 4)) (m := mu 22 4) (mu 22 4).toNat (zab mu (mu 0 3) 2) (zab mu (mu 0 3) 1) a1.toNat
        exact ⟨by omega, by omega⟩
      · rw [if_neg (by omega)]
        have := hw a1.toNat (by omega)
        rw [show ((a1.toNat : Nat) : Int) = a1 by omega] at this
        exact this
    · refine ⟨_, ⟨by omega, by omega⟩, rfl, ?_⟩
      refine ce_X9_likeliest (sg_X9_likeliest_0 (by omega) hK' ⟨ha, ⟨by omega, by omega⟩, s_in hK' (zil_of ha) ⟨by omega, by omega⟩ ⟨by omega, by omega⟩ ⟨_, rfl, zbin _, fun c5 => ?_, fun c5 => by exfalso; split at c5 <;> omega⟩⟩)
      refine m_isShort hK' ⟨by omega, by omega⟩ ⟨_, rfl, zbin _, fun c8 => ?_, fun c8 => ⟨rfl, _, hJ0⟩⟩
      exfalso
      rw [← k1] at c8
      exact c8 c4
  · refine ⟨_, ⟨by omega, by omega⟩, rfl, ?_⟩
    refine ce_X9_likeliest (sg_X9_likeliest_0 (by omega) hK' ⟨ha, ⟨by omega, by omega⟩, s_in hK' (zil_of ha) ⟨by omega, by omega⟩ ⟨by omega, by omega⟩ ⟨_, rfl, zbin _, fun c5 => by exfalso; split at c <;> split at c5 <;> omega, fun c5 => ⟨rfl, _, hJ0⟩⟩⟩)
