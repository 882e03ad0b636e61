/-! what numbers may be; the small operations -/
theorem zup_row (mu : Mem) {k j v a : Int} (h : a ≠ k) : zup mu k j v a = mu a := funext fun _ => zup_cell mu h
theorem zshl_1 {n : Int} (h0 : 0 ≤ n) (h1 : n ≤ 10) : zshl 1 n = 2 ^ n.toNat := by
  have : n = 0 ∨ n = 1 ∨ n = 2 ∨ n = 3 ∨ n = 4 ∨ n = 5 ∨ n = 6 ∨ n = 7 ∨ n = 8 ∨ n = 9 ∨ n = 10 := by omega
  rcases this with rfl | rfl | rfl | rfl | rfl | rfl | rfl | rfl | rfl | rfl | rfl <;> decide
theorem zpow_bd {n : Int} (h0 : 0 ≤ n) (h1 : n ≤ 10) : (1 : Int) ≤ 2 ^ n.toNat ∧ (2 : Int) ^ n.toNat ≤ 1024 := by
  have : n = 0 ∨ n = 1 ∨ n = 2 ∨ n = 3 ∨ n = 4 ∨ n = 5 ∨ n = 6 ∨ n = 7 ∨ n = 8 ∨ n = 9 ∨ n = 10 := by omega
  rcases this with rfl | rfl | rfl | rfl | rfl | rfl | rfl | rfl | rfl | rfl | rfl <;> decide
theorem zbo {c : Prop} [Decidable c] {Q : Int → Prop} (h1 : c → Q 1) (h0 : ¬ c → Q 0) : Q (if c then 1 else 0) := by
  by_cases h : c
  · rw [if_pos h]; exact h1 h
  · rw [if_neg h]; exact h0 h
theorem zb01 (c : Prop) [Decidable c] : (if c then (1 : Int) else 0) = 0 ∨ (if c then (1 : Int) else 0) = 1 := by
  by_cases h : c
  · rw [if_pos h]; exact Or.inr rfl
  · rw [if_neg h]; exact Or.inl rfl
theorem zbin (c : Prop) [Decidable c] : zin (if c then (1 : Int) else 0) := by
  by_cases h : c
  · rw [if_pos h]; exact ⟨by omega, by omega⟩
  · rw [if_neg h]; exact ⟨by omega, by omega⟩
section S43
variable {K d : Nat} {mu : Mem} {Q : AV → Mem → Prop}
theorem s_isThing {x : Int} (hd : 1 ≤ d) (hK : 64 ≤ K) (hP : isP K (mu 0 3)) (hx : zin x) (ht : 2 ≤ mu (mu 0 3) 0 ∧ mu (mu 0 3) 0 ≤ 6) (h : Q (zI (if 0 ≤ x ∧ x ≤ mu (mu 0 3) 0 - 1 then 1 else 0)) mu) : zC K d mX8_isThing [zR 0, zI x] mu Q :=
  ce_X8_isThing (sg_X8_isThing_0 hd hK ⟨hP, s_within hK hx ⟨by omega, by omega⟩ ⟨by omega, by omega⟩ ⟨_, rfl, zb01 _, h⟩⟩)
theorem s_isQueued {x : Int} (hd : 1 ≤ d) (hK : 64 ≤ K) (hP : isP K (mu 0 3)) (hx : zin x) (ht : 1 ≤ mu (mu 0 3) 3 ∧ mu (mu 0 3) 3 ≤ 10) (h : Q (zI (if 0 ≤ x ∧ x ≤ mu (mu 0 3) 3 - 1 then 1 else 0)) mu) : zC K d mX8_isQueued [zR 0, zI x] mu Q :=
  ce_X8_isQueued (sg_X8_isQueued_0 hd hK ⟨hP, s_within hK hx ⟨by omega, by omega⟩ ⟨by omega, by omega⟩ ⟨_, rfl, zb01 _, h⟩⟩)
theorem s_isGift {x : Int} (hd : 1 ≤ d) (hK : 64 ≤ K) (hx : zin x) (ht : 0 ≤ mu 22 4 ∧ mu 22 4 ≤ 10) (h : Q (zI (if 0 ≤ x ∧ x ≤ mu 22 4 - 1 then 1 else 0)) mu) : zC K d mX8_isGift [zR 0, zI x] mu Q :=
  ce_X8_isGift (sg_X8_isGift_0 hd hK (s_within hK hx ⟨by omega, by omega⟩ ⟨by omega, by omega⟩ ⟨_, rfl, zb01 _, h⟩))
theorem s_isSet {x : Int} (hd : 1 ≤ d) (hK : 64 ≤ K) (hP : isP K (mu 0 3)) (hx : zin x) (ht : 1 ≤ mu (mu 0 3) 3 ∧ mu (mu 0 3) 3 ≤ 10) (h : Q (zI (if 0 ≤ x ∧ x ≤ 2 ^ (mu (mu 0 3) 3).toNat - 1 then 1 else 0)) mu) : zC K d mX8_isSet [zR 0, zI x] mu Q := by
  have hb := zpow_bd (n := mu (mu 0 3) 3) (by omega) (by omega)
  refine ce_X8_isSet (sg_X8_isSet_0 hd hK ⟨hP, ?_⟩)
  rw [zshl_1 (by omega) (by omega)]
  exact s_within hK hx ⟨by omega, by omega⟩ ⟨by omega, by omega⟩ ⟨_, rfl, zb01 _, h⟩
theorem s_isSign {x : Int} (hd : 2 ≤ d) (hK : 64 ≤ K) (hP : isP K (mu 0 3)) (hx : zin x) (ht : 2 ≤ mu (mu 0 3) 0 ∧ mu (mu 0 3) 0 ≤ 6) (h : Q (zI (if zsg (mu (mu 0 3) 0) x then 1 else 0)) mu) : zC K d mX8_isSign [zR 0, zI x] mu Q := by
  unfold zsg at h
  refine ce_X8_isSign (sg_X8_isSign_0 hd hK (s_isThing (by omega) hK hP hx ht ⟨_, rfl, zbin _, fun c => ?_, fun c => ⟨hx, fun c2 => ?_, fun c2 => ?_⟩⟩))
  · rwa [if_pos (by split at c <;> omega)] at h
  · rwa [if_neg (by split at c <;> omega)] at h
  · rwa [if_pos (by omega)] at h
theorem s_in {x lo hi : Int} (hK : 93 ≤ K) (hx : zil x) (hl : zil lo) (hh : zil hi) (h : Q (zI (if lo ≤ x ∧ x ≤ hi then 1 else 0)) mu) : zC K d mX9_in [zJ x, zJ lo, zJ hi] mu Q := by
  refine ce_X9_in (sg_X9_in_0 (by omega) hK ⟨hx, hl, fun c => ?_, fun c => ⟨hh, fun c2 => ?_, fun c2 => ?_⟩⟩)
  · rwa [if_neg (by omega)] at h
  · rwa [if_neg (by omega)] at h
  · rwa [if_pos (by omega)] at h
theorem zil_of {x : Int} (h : zin x) : zil x := ⟨by have := h.1; omega, by have := h.2; omega⟩
theorem m_isThing {x : Int} (hd : 1 ≤ d) (hK : 93 ≤ K) (hx : zin x) (ht : 2 ≤ mu 66 0 ∧ mu 66 0 ≤ 6) (h : Q (zI (if 0 ≤ x ∧ x ≤ mu 66 0 - 1 then 1 else 0)) mu) : zC K d mX9_isThing [zR 64, zI x] mu Q :=
  ce_X9_isThing (sg_X9_isThing_0 hd hK ⟨hx, ⟨by omega, by omega⟩, s_in hK (zil_of hx) ⟨by omega, by omega⟩ ⟨by omega, by omega⟩ ⟨_, rfl, zb01 _, h⟩⟩)
theorem m_isWish {x : Int} (hd : 1 ≤ d) (hK : 93 ≤ K) (hx : zin x) (ht : 1 ≤ mu 70 0 ∧ mu 70 0 ≤ 10) (h : Q (zI (if 0 ≤ x ∧ x ≤ mu 70 0 - 1 then 1 else 0)) mu) : zC K d mX9_isWish [zR 64, zI x] mu Q :=
  ce_X9_isWish (sg_X9_isWish_0 hd hK ⟨hx, ⟨by omega, by omega⟩, s_in hK (zil_of hx) ⟨by omega, by omega⟩ ⟨by omega, by omega⟩ ⟨_, rfl, zb01 _, h⟩⟩)
theorem m_isPost {x : Int} (hd : 1 ≤ d) (hK : 93 ≤ K) (hx : zin x) (ht : 0 ≤ mu 74 0 ∧ mu 74 0 ≤ 6) (h : Q (zI (if 0 ≤ x ∧ x ≤ mu 74 0 - 1 then 1 else 0)) mu) : zC K d mX9_isPost [zR 64, zI x] mu Q :=
  ce_X9_isPost (sg_X9_isPost_0 hd hK ⟨hx, ⟨by omega, by omega⟩, s_in hK (zil_of hx) ⟨by omega, by omega⟩ ⟨by omega, by omega⟩ ⟨_, rfl, zb01 _, h⟩⟩)
theorem m_isGift {x : Int} (hd : 2 ≤ d) (hK : 93 ≤ K) (hx : zin x) (ht : 2 ≤ mu 66 0 ∧ mu 66 0 ≤ 6) (h : Q (zI (if zsg (mu 66 0) x then 1 else 0)) mu) : zC K d mX9_isGift [zR 64, zI x] mu Q := by
  unfold zsg at h
  refine ce_X9_isGift (sg_X9_isGift_0 hd hK (m_isThing (by omega) hK hx ht ⟨_, rfl, zbin _, fun c => ?_, fun c => ⟨hx, fun c2 => ?_, fun c2 => ?_⟩⟩))
  · rwa [if_pos (by split at c <;> omega)] at h
  · rwa [if_neg (by split at c <;> omega)] at h
  · rwa [if_pos (by omega)] at h
theorem m_isQueue {x : Int} (hd : 1 ≤ d) (hK : 93 ≤ K) (hx : zin x) (ht : 1 ≤ mu 70 0 ∧ mu 70 0 ≤ 10) (h : Q (zI (if 0 ≤ x ∧ x ≤ 2 ^ (mu 70 0).toNat - 1 then 1 else 0)) mu) : zC K d mX9_isQueue [zR 64, zI x] mu Q := by
  have hb := zpow_bd (n := mu 70 0) (by omega) (by omega)
  have e := zshl_1 (n := mu 70 0) (by omega) (by omega)
  refine ce_X9_isQueue (sg_X9_isQueue_0 hd hK ⟨hx, ⟨by rw [e]; omega, by rw [e]; omega⟩, ?_⟩)
  rw [e]
  exact s_in hK (zil_of hx) ⟨by omega, by omega⟩ ⟨by omega, by omega⟩ ⟨_, rfl, zb01 _, h⟩
end S43
/-! pieces of the invariant that stay -/
theorem jPD.c {mu nu : Mem} {P : Int} (h : jPD mu P) (h3 : nu 0 3 = mu 0 3) (h4 : nu 0 4 = mu 0 4) : jPD nu P := by
  unfold jPD at h ⊢
  rw [h3, h4]
  exact h
/-- plan and finders: cells P to P + 5, 42, 43, 46 to 48, 66 to 75 are the same -/
theorem jst {mu nu : Mem} {P : Int} (hP : P = 4 ∨ P = 13) (h : jPl mu P ∧ jOr mu P ∧ jSr mu P) (hs : ∀ k : Int, (4 ≤ k ∧ k < 22) ∨ k = 42 ∨ k = 43 ∨ (46 ≤ k ∧ k < 49) ∨ (66 ≤ k ∧ k < 76) → nu k = mu k) : jPl nu P ∧ jOr nu P ∧ jSr nu P := by
  have p0 : nu P = mu P := hs _ (by omega)
  have p1 : nu (P + 1) = mu (P + 1) := hs _ (by omega)
  have p2 : nu (P + 2) = mu (P + 2) := hs _ (by omega)
  have p3 : nu (P + 3) = mu (P + 3) := hs _ (by omega)
  have p4 : nu (P + 4) = mu (P + 4) := hs _ (by omega)
  have p5 : nu (P + 5) = mu (P + 5) := hs _ (by omega)
  have c66 : nu 66 = mu 66 := hs 66 (by omega)
  have c67 : nu 67 = mu 67 := hs 67 (by omega)
  have c68 : nu 68 = mu 68 := hs 68 (by omega)
  have c69 : nu 69 = mu 69 := hs 69 (by omega)
  have c70 : nu 70 = mu 70 := hs 70 (by omega)
  have c71 : nu 71 = mu 71 := hs 71 (by omega)
  have c72 : nu 72 = mu 72 := hs 72 (by omega)
  have c73 : nu 73 = mu 73 := hs 73 (by omega)
  have c74 : nu 74 = mu 74 := hs 74 (by omega)
  have c75 : nu 75 = mu 75 := hs 75 (by omega)
  have c42 : nu 42 = mu 42 := hs 42 (by omega)
  have c43 : nu 43 = mu 43 := hs 43 (by omega)
  have c46 : nu 46 = mu 46 := hs 46 (by omega)
  have c47 : nu 47 = mu 47 := hs 47 (by omega)
  have c48 : nu 48 = mu 48 := hs 48 (by omega)
  obtain ⟨h2, h6, h7⟩ := h
  refine ⟨?_, ?_, ?_⟩
  · unfold jPl at h2 ⊢
    rw [p0, p1, p2, p3, p4, p5, c66, c67, c68, c69, c70, c71, c72, c73, c74, c75]
    exact h2
  · unfold jOr at h6 ⊢
    rw [p0, p2, c42, c43, zab_congr p0 p1, zab_congr p0 p1]
    exact h6
  · unfold jSr at h7 ⊢
    rw [p0, p2, c46, c47, c48, zab_congr p0 p1, zab_congr p0 p1]
    exact h7
theorem jSt.c {mu nu : Mem} {N m S b : Int} (h : jSt mu N m S b) (hm : m ≤ 6) (h0 : nu S 4 = mu S 4) (h1 : nu (S + 1) = mu (S + 1)) (h2 : nu (S + 2) = mu (S + 2)) (h3 : nu (S + 3) = mu (S + 3)) (h4 : nu (S + 4) = mu (S + 4)) (h77 : ∀ i, 18 * b ≤ i → i < 18 * b + 18 → nu 77 i = mu 77 i) (h78 : nu 78 b = mu 78 b) (h79 : ∀ i, 10 * b ≤ i → i < 10 * b + 10 → nu 79 i = mu 79 i) : jSt nu N m S b := by
  obtain ⟨g1, g2, g3⟩ := h
  refine ⟨fun p hp0 hp1 => ?_, ?_, fun i hi0 hi1 => ?_⟩
  · rw [h1, h2, h3, h77 _ (by omega) (by omega), h77 _ (by omega) (by omega), h77 _ (by omega) (by omega)]
    exact g1 p hp0 hp1
  · rw [h0, h78]
    exact g2
  · rw [h0] at hi1
    rw [h4, h79 _ (by omega) (by omega)]
    exact g3 i hi0 hi1
theorem jTx.c {mu nu : Mem} (h : jTx mu) (h1 : nu 0 1 = mu 0 1) (h2 : nu 64 0 = mu 64 0) (h3 : nu 1 = mu 1) (h4 : nu 65 = mu 65) : jTx nu := by
  unfold jTx at h ⊢
  rw [h1, h2, h3, h4]
  exact h
theorem jKp.c {mu nu : Mem} {N m : Int} (h : jKp mu N m) (hm : m ≤ 6) (h1 : nu 0 7 = mu 0 7) (h2 : nu 64 16 = mu 64 16) (hc : ∀ k : Int, 28 ≤ k → k < 38 → nu k = mu k) (h77 : ∀ i, 18 ≤ i → nu 77 i = mu 77 i) (h78 : ∀ i, 1 ≤ i → nu 78 i = mu 78 i) (h79 : ∀ i, 10 ≤ i → nu 79 i = mu 79 i) : jKp nu N m := by
  obtain ⟨g1, g2, g3⟩ := h
  refine ⟨by rw [h1, h2]; exact g1, fun q => ?_, fun q => ?_⟩
  · rw [h1] at q
    exact (g2 q).c hm (by rw [hc 28 (by omega) (by omega)]) (hc _ (by omega) (by omega)) (hc _ (by omega) (by omega)) (hc _ (by omega) (by omega)) (hc _ (by omega) (by omega)) (fun i _ _ => h77 i (by omega)) (h78 _ (by omega)) (fun i _ _ => h79 i (by omega))
  · rw [h1] at q
    exact (g3 q).c hm (by rw [hc 33 (by omega) (by omega)]) (hc _ (by omega) (by omega)) (hc _ (by omega) (by omega)) (hc _ (by omega) (by omega)) (hc _ (by omega) (by omega)) (fun i _ _ => h77 i (by omega)) (h78 _ (by omega)) (fun i _ _ => h79 i (by omega))
/-! the operations -/
theorem op_wipe : zOp 0 0 mX8_wipe mX9_wipe [] := by
  intro mu P hJ
  have hK : 64 ≤ 93 := by decide
  have hK' : 93 ≤ 93 := by decide
  obtain ⟨h1, h2, h3, h4, h5, h6, h7⟩ := hJ
  have hP : P = 4 ∨ P = 13 := by rcases h1.2 with h | h <;> omega
  obtain ⟨⟨t1, t2, t3⟩, t4⟩ := h4
  refine ce_X8_wipe (sg_X8_wipe_0 (by omega) hK ⟨_, ⟨by omega, by omega⟩, rfl, ?_⟩)
  refine ce_X9_wipe (sg_X9_wipe_0 (by omega) hK' ⟨?_, P, ?_⟩)
  · rw [zup_cell mu (by decide), t1]
  · have e : ∀ k : Int, k ≠ 0 → k ≠ 64 → zup (zup mu 0 1 0) 64 0 0 k = mu k := fun k q1 q2 => by rw [zup_row _ q2, zup_row _ q1]
    have e0 : ∀ j : Int, j ≠ 1 → zup (zup mu 0 1 0) 64 0 0 0 j = mu 0 j := fun j q => by rw [zup_cell _ (by decide), zup_slot _ q]
    have e64 : zup (zup mu 0 1 0) 64 0 0 64 16 = mu 64 16 := by rw [zup_slot _ (by decide), zup_cell _ (by decide)]
    obtain ⟨g1, g2, g3⟩ := jst (nu := zup (zup mu 0 1 0) 64 0 0) hP ⟨h2, h6, h7⟩ (fun k hk => e k (by omega) (by omega))
    have pp : zup (zup mu 0 1 0) 64 0 0 P = mu P := e P (by omega) (by omega)
    have hm := h2.2.2.2.2.1.2.2
    refine ⟨h1.c (e0 3 (by decide)) (e0 4 (by decide)), g1, ?_, ?_, ?_, g2, g3⟩
    · rw [pp]
      exact h3.c hm (by rw [e 22 (by decide) (by decide)]) (e _ (by decide) (by decide)) (e _ (by decide) (by decide)) (e _ (by decide) (by decide)) (e _ (by decide) (by decide)) (fun i _ _ => by rw [e 77 (by decide) (by decide)]) (by rw [e 78 (by decide) (by decide)]) (fun i _ _ => by rw [e 79 (by decide) (by decide)])
    · refine ⟨⟨?_, ?_, ?_⟩, fun i q1 q2 => ?_⟩
      · rw [zup_cell _ (by decide), zup_same, zup_same]
      · rw [zup_cell _ (by decide), zup_same]
        omega
      · rw [zup_cell _ (by decide), zup_same]
        omega
      · rw [zup_cell _ (by decide), zup_same] at q2
        exact absurd q2 (by omega)
    · rw [pp]
      exact h5.c hm (e0 7 (by decide)) e64 (fun k q1 q2 => e k (by omega) (by omega)) (fun i _ => by rw [e 77 (by decide) (by decide)]) (fun i _ => by rw [e 78 (by decide) (by decide)]) (fun i _ => by rw [e 79 (by decide) (by decide)])
theorem op_count (a1 : Int) (ha : zin a1) : zOp 0 0 mX8_count mX9_count [zI a1] := by
  intro mu P hJ
  have hK : 64 ≤ 93 := by decide
  have hK' : 93 ≤ 93 := by decide
  have hJ0 := hJ
  obtain ⟨h1, h2, h3, h4, h5, h6, h7⟩ := hJ
  have hP := h1.isP hK
  obtain ⟨rfl, -⟩ := h1
  obtain ⟨⟨t1, t2, t3⟩, ⟨k1, k2, k3⟩, ⟨b1, b2, b3⟩, ⟨n1, n2, n3⟩, ⟨o1, o2, o3⟩, -⟩ := h2
  obtain ⟨-, ⟨g1, g2, g3⟩, -⟩ := h3
  obtain ⟨⟨x1, x2, x3⟩, -⟩ := h4
  obtain ⟨⟨y1, y2, y3⟩, -⟩ := h5
  refine ce_X8_count (sg_X8_count_0 (by omega) hK ⟨ha, fun c => ?_, fun c => ⟨hP, ?_⟩, fun c => ⟨hP, ?_⟩, fun c => ⟨hP, ?_⟩, fun c => ⟨hP, ?_⟩, fun c => ?_, fun c => ?_, fun c => ?_, fun c => ⟨hP, ?_⟩⟩)
  all_goals refine ⟨_, ⟨by omega, by omega⟩, rfl, ?_⟩
  all_goals refine ce_X9_count (sg_X9_count_0 (by omega) hK' ⟨ha, fun c' => ?_, fun c' => ?_, fun c' => ?_, fun c' => ?_, fun c' => ?_, fun c' => ?_, fun c' => ?_, fun c' => ?_, fun c' => ?_⟩)
  all_goals first | (exfalso; omega) | exact ⟨by first | rfl | rw [t1] | rw [k1] | rw [b1] | rw [n1] | rw [o1] | rw [g1] | rw [x1] | rw [y1], _, hJ0⟩
theorem op_worth (a1 a2 : Int) (ha : zin a1) (hb : zin a2) : zOp 3 3 mX8_worth mX9_worth [zI a1, zI a2] := by
  intro mu P hJ
  have hK : 64 ≤ 93 := by decide
  have hK' : 93 ≤ 93 := by decide
  have hJ0 := hJ
  obtain ⟨h1, h2, h3, h4, h5, h6, h7⟩ := hJ
  have hP := h1.isP hK
  obtain ⟨rfl, -⟩ := h1
  obtain ⟨⟨t1, t2, t3⟩, -, -, -, -, -, -, hw, -⟩ := h2
  refine ce_X8_worth (sg_X8_worth_0 (by omega) hK (s_isThing (by omega) hK hP ha ⟨t2, t3⟩ ⟨_, rfl, zbin _, fun c => ?_, fun c => ?_⟩))
  · refine ⟨_, ⟨by omega, by omega⟩, rfl, ?_⟩
    refine ce_X9_worth (sg_X9_worth_0 (by omega) hK' (m_isThing (by omega) hK' ha (by omega) ⟨_, rfl, zbin _, fun c2 => ⟨rfl, _, hJ0⟩, fun c2 => ?_⟩))
    exfalso
    rw [← t1] at c2
    exact c2 c
  · have c1 : 0 ≤ a1 ∧ a1 ≤ mu (mu 0 3) 0 - 1 := by split at c <;> omega
    refine s_isSign (by omega) hK hP hb ⟨t2, t3⟩ ⟨_, rfl, zbin _, fun c2 => ⟨hP, ?_⟩, fun c2 => ?_⟩
    · have c3 : zsg (mu (mu 0 3) 0) a2 := by
        split at c2
        · assumption
        · omega
      have c4 : 0 ≤ a2 ∧ a2 < 7 := by unfold zsg at c3; omega
      have hv := hw (a1 * 7 + a2) (by omega) (by omega)
      refine s_worthOf hK hP (by omega) c4 ⟨_, rfl, _, ⟨by omega, by omega⟩, rfl, ?_⟩
      refine ce_X9_worth (sg_X9_worth_0 (by omega) hK' (m_isThing (by omega) hK' ha (by omega) ⟨_, rfl, zbin _, fun c5 => ?_, fun c5 => ?_⟩))
      · exfalso
        rw [← t1] at c5
        exact c c5
      · refine m_isGift (by omega) hK' hb (by omega) ⟨_, rfl, zbin _, fun c6 => ?_, fun c6 => ⟨by omega, by omega, ?_, _, hJ0⟩⟩
        · exfalso
          rw [← t1] at c6
          exact c2 c6
        · rw [show 7 * a1 + a2 = a1 * 7 + a2 by omega, hv.1]
    · refine ⟨_, ⟨by omega, by omega⟩, rfl, ?_⟩
      refine ce_X9_worth (sg_X9_worth_0 (by omega) hK' (m_isThing (by omega) hK' ha (by omega) ⟨_, rfl, zbin _, fun c5 => ⟨rfl, _, hJ0⟩, fun c5 => ?_⟩))
      refine m_isGift (by omega) hK' hb (by omega) ⟨_, rfl, zbin _, fun c6 => ⟨rfl, _, hJ0⟩, fun c6 => ?_⟩
      exfalso
      rw [← t1] at c6
      exact c6 c2
