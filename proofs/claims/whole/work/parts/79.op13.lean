/-! fault, lay -/
/-- the draft is no part of the invariant -/
theorem jJ.cd {mu nu : Mem} {P : Int} (h : jJ mu P) (hs : zsm ([2, 3] ++ zPc (mu 0 4)) mu nu) : jJ nu P := by
  have hP := h.1.2
  have e : ∀ k : Int, (k < 2 ∨ 22 ≤ k) → nu k = mu k := fun k hk => hs k (by
    simp only [List.mem_append, zPc_m, List.mem_cons, List.not_mem_nil, or_false]
    omega)
  have ep : ∀ j : Int, 0 ≤ j → j ≤ 8 → nu (P + j) = mu (P + j) := fun j j0 j1 => hs _ (by
    simp only [List.mem_append, zPc_m, List.mem_cons, List.not_mem_nil, or_false]
    omega)
  have e0 : nu 0 = mu 0 := e 0 (by decide)
  have p0 : nu P = mu P := by
    have := ep 0 (by omega) (by omega)
    rwa [Int.add_zero] at this
  have p1 : nu (P + 1) = mu (P + 1) := ep 1 (by omega) (by omega)
  have p2 : nu (P + 2) = mu (P + 2) := ep 2 (by omega) (by omega)
  have p3 : nu (P + 3) = mu (P + 3) := ep 3 (by omega) (by omega)
  have p4 : nu (P + 4) = mu (P + 4) := ep 4 (by omega) (by omega)
  have p5 : nu (P + 5) = mu (P + 5) := ep 5 (by omega) (by omega)
  have c66 : nu 66 = mu 66 := e 66 (by decide)
  have c67 : nu 67 = mu 67 := e 67 (by decide)
  have c68 : nu 68 = mu 68 := e 68 (by decide)
  have c69 : nu 69 = mu 69 := e 69 (by decide)
  have c70 : nu 70 = mu 70 := e 70 (by decide)
  have c71 : nu 71 = mu 71 := e 71 (by decide)
  have c72 : nu 72 = mu 72 := e 72 (by decide)
  have c73 : nu 73 = mu 73 := e 73 (by decide)
  have c74 : nu 74 = mu 74 := e 74 (by decide)
  have c75 : nu 75 = mu 75 := e 75 (by decide)
  have c77 : nu 77 = mu 77 := e 77 (by decide)
  have c78 : nu 78 = mu 78 := e 78 (by decide)
  have c79 : nu 79 = mu 79 := e 79 (by decide)
  have c65 : nu 65 = mu 65 := e 65 (by decide)
  have c1 : nu 1 = mu 1 := e 1 (by decide)
  have c42 : nu 42 = mu 42 := e 42 (by decide)
  have c43 : nu 43 = mu 43 := e 43 (by decide)
  have c46 : nu 46 = mu 46 := e 46 (by decide)
  have c47 : nu 47 = mu 47 := e 47 (by decide)
  have c48 : nu 48 = mu 48 := e 48 (by decide)
  have st : ∀ N m S b : Int, (S = 22 ∨ S = 28 ∨ S = 33) → jSt mu N m S b → jSt nu N m S b := fun N m S b hS hj => by
    have s0 : nu S = mu S := e _ (by omega)
    have s1 : nu (S + 1) = mu (S + 1) := e _ (by omega)
    have s2 : nu (S + 2) = mu (S + 2) := e _ (by omega)
    have s3 : nu (S + 3) = mu (S + 3) := e _ (by omega)
    have s4 : nu (S + 4) = mu (S + 4) := e _ (by omega)
    unfold jSt at hj ⊢
    rw [s0, s1, s2, s3, s4, c77, c78, c79]
    exact hj
  obtain ⟨h1, h2, h3, h4, h5, h6, h7⟩ := h
  refine ⟨?_, ?_, ?_, ?_, ?_, ?_, ?_⟩
  · unfold jPD at h1 ⊢
    rw [e0]
    exact h1
  · unfold jPl at h2 ⊢
    rw [p0, p1, p2, p3, p4, p5, c66, c67, c68, c69, c70, c71, c72, c73, c74, c75]
    exact h2
  · rw [p0]
    exact st _ _ _ _ (Or.inl rfl) h3
  · unfold jTx at h4 ⊢
    rw [e0, c1, c65, e 64 (by decide)]
    exact h4
  · unfold jKp at h5 ⊢
    rw [e0, p0, e 64 (by decide)]
    exact ⟨h5.1, fun q => st _ _ _ _ (Or.inr (Or.inl rfl)) (h5.2.1 q), fun q => st _ _ _ _ (Or.inr (Or.inr rfl)) (h5.2.2 q)⟩
  · unfold jOr at h6 ⊢
    rw [p0, p2, c42, c43, zab_congr p0 p1, zab_congr p0 p1]
    exact h6
  · unfold jSr at h7 ⊢
    rw [p0, p2, c46, c47, c48, zab_congr p0 p1, zab_congr p0 p1]
    exact h7
/-- what the reference reads is not in its book 0 -/
theorem jJ.mf {mu nu : Mem} {P : Int} (h : jJ mu P) (hs : zfM mu nu) : jJ nu P := by
  obtain ⟨e, e64, e1, e6, e10, e42⟩ := hs
  obtain ⟨h1, h2, h3, h4, h5, h6, h7⟩ := h
  have hP : P = 4 ∨ P = 13 := by rcases h1.2 with h | h <;> omega
  have lo : ∀ k : Int, k < 64 → nu k = mu k := fun k hk => e k (by omega) (by omega) (by omega)
  have hi : ∀ k : Int, 77 ≤ k → k < 80 → nu k = mu k := fun k a b => e k (by omega) (by omega) (by omega)
  have p0 := lo P (by omega)
  have p1 := lo (P + 1) (by omega)
  have p2 := lo (P + 2) (by omega)
  have hm := h2.2.2.2.2.1.2.2
  have h20 := h2
  refine ⟨h1.c (by rw [lo 0 (by decide)]) (by rw [lo 0 (by decide)]), ?_, ?_, h4.c (by rw [lo 0 (by decide)]) (e64 0 (by decide) (by decide) (by decide)) (lo 1 (by decide)) (e 65 (by decide) (by decide) (by decide)), ?_, h6.c p0 p1 p2 (lo 42 (by decide)) (lo 43 (by decide)), h7.c p0 p1 p2 (lo 46 (by decide)) (lo 47 (by decide)) (lo 48 (by decide))⟩
  · obtain ⟨g1, g2, g3, g4, g5, g6, g7, g8, g9, g10⟩ := h2
    obtain ⟨f1, f2, f3, f4, f5⟩ := e1 0 (by decide)
    unfold jPl
    rw [p0, p1, p2, lo (P + 3) (by omega), lo (P + 4) (by omega), lo (P + 5) (by omega), f1, f2, f3, f4, f5]
    refine ⟨g1, g2, g3, g4, g5, fun i i0 i1 => ?_, fun i i0 i1 => ?_, fun i i0 i1 => ?_, fun i i0 i1 => ?_, fun i i0 i1 => ?_⟩
    · rw [(e6 i (by omega)).1]; exact g6 i i0 i1
    · rw [e10 i (by omega)]; exact g7 i i0 i1
    · rw [e42 i i1]; exact g8 i i0 i1
    · rw [(e6 i i1).2.1]; exact g9 i i0 i1
    · rw [(e6 i (by omega)).2.2]; exact g10 i i0 i1
  · rw [p0]
    exact h3.c hm (by rw [lo 22 (by decide)]) (lo _ (by decide)) (lo _ (by decide)) (lo _ (by decide)) (lo _ (by decide)) (fun i _ _ => by rw [hi 77 (by decide) (by decide)]) (by rw [hi 78 (by decide) (by decide)]) (fun i _ _ => by rw [hi 79 (by decide) (by decide)])
  · rw [p0]
    exact h5.c hm (by rw [lo 0 (by decide)]) (e64 16 (by decide) (by decide) (by decide)) (fun k q1 q2 => lo k (by omega)) (fun i _ => by rw [hi 77 (by decide) (by decide)]) (fun i _ => by rw [hi 78 (by decide) (by decide)]) (fun i _ => by rw [hi 79 (by decide) (by decide)])
/-- the reference's book b that tells nothing -/
def zNP (mu nu : Mem) (b : Int) : Prop := (∀ k : Int, ¬ (66 ≤ k ∧ k ≤ 74) → nu k = mu k) ∧ nu 69 = mu 69 ∧ nu 71 = mu 71 ∧ (∀ j, j ≠ b → nu 66 j = mu 66 j ∧ nu 67 j = mu 67 j ∧ nu 68 j = mu 68 j ∧ nu 70 j = mu 70 j ∧ nu 74 j = mu 74 j) ∧ nu 66 b = 4 ∧ nu 67 b = 0 ∧ nu 68 b = 0 ∧ nu 70 b = 0 ∧ nu 74 b = 0 ∧ (∀ j, ¬ (42 * b ≤ j ∧ j < 42 * b + 42) → nu 72 j = mu 72 j) ∧ (∀ j, ¬ (6 * b ≤ j ∧ j < 6 * b + 6) → nu 73 j = mu 73 j) ∧ (∀ i, 0 ≤ i → i < 42 → nu 72 (42 * b + i) = if i % 8 = 0 then 9 else 0) ∧ (∀ i, 0 ≤ i → i < 6 → nu 73 (6 * b + i) = 1)
section S79
variable {K d : Nat} {mu : Mem} {Q : AV → Mem → Prop}
theorem m_noPost {b : Int} (hK : 93 ≤ K) (hb : b = 0 ∨ b = 1) (h : ∀ nu, zNP mu nu b → Q zV nu) : zC K d mX9_noPost [zR 64, zI b] mu Q := by
  generalize hM : zup (zup (zup (zup (zup mu 66 b 4) 67 b 0) 68 b 0) 70 b 0) 74 b 0 = M
  have l45 : ∀ (w : Int), 0 ≤ w → w < 6 → ∀ (q : Nat) (g : Int) (nu : Mem), 0 ≤ g → g + q = 7 → zsm [72, 73] M nu → (∀ j, ¬ (42 * b ≤ j ∧ j < 42 * b + 42) → nu 72 j = M 72 j) → (∀ j, ¬ (6 * b ≤ j ∧ j < 6 * b + 6) → nu 73 j = M 73 j) → (∀ i, 0 ≤ i → i < 7 * w + g → nu 72 (42 * b + i) = if i % 8 = 0 then 9 else 0) → (∀ i, 0 ≤ i → i < w → nu 73 (6 * b + i) = 1) → (∀ nu, zsm [72, 73] M nu → (∀ j, ¬ (42 * b ≤ j ∧ j < 42 * b + 42) → nu 72 j = M 72 j) → (∀ j, ¬ (6 * b ≤ j ∧ j < 6 * b + 6) → nu 73 j = M 73 j) → (∀ i, 0 ≤ i → i < 7 * (w + 1) → nu 72 (42 * b + i) = if i % 8 = 0 then 9 else 0) → (∀ i, 0 ≤ i → i < w + 1 → nu 73 (6 * b + i) = 1) → zG K d mX9_noPost 37 [zR 64, zI b, zI (w + 1), zU] [] nu Q) → zG K d mX9_noPost 45 [zR 64, zI b, zI w, zI g] [] nu Q := by
    intro w w0 w1 q
    induction q with
    | zero =>
      intro g nu g0 g1 hz o72 o73 h72 h73 kk
      have e : g = 7 := by omega
      subst e
      refine sg_X9_noPost_45 (by omega) hK ⟨⟨by omega, by omega⟩, fun _ => ⟨by omega, by omega, kk _ (hz.up (by simp)) (fun j hj => by rw [zup_cell _ (by decide)]; exact o72 j hj) (fun j hj => by rw [zup_slot _ (by omega)]; exact o73 j hj) (fun i i0 i1 => by rw [zup_cell _ (by decide)]; exact h72 i i0 (by omega)) (fun i i0 i1 => ?_)⟩, fun z => absurd (by omega) z⟩
      by_cases z : i = w
      · rw [z, zup_same]
      · rw [zup_slot _ (by omega)]
        exact h73 i i0 (by omega)
    | succ q ih =>
      intro g nu g0 g1 hz o72 o73 h72 h73 kk
      have nx : ∀ v, v = (if w = g then 9 else 0) → zG K d mX9_noPost 45 [zR 64, zI b, zI w, zI (g + 1)] [] (zup nu 72 (42 * b + 7 * w + g) v) Q := fun v hv => by
        refine ih (g + 1) _ (by omega) (by omega) (hz.up (by simp)) (fun j hj => by rw [zup_slot _ (by omega)]; exact o72 j hj) (fun j hj => by rw [zup_cell _ (by decide)]; exact o73 j hj) (fun i i0 i1 => ?_) (fun i i0 i1 => by rw [zup_cell _ (by decide)]; exact h73 i i0 i1) kk
        by_cases z : i = 7 * w + g
        · rw [show 42 * b + i = 42 * b + 7 * w + g by omega, zup_same, hv]
          by_cases z2 : w = g
          · rw [if_pos z2, if_pos (by omega)]
          · rw [if_neg z2, if_neg (by omega)]
        · rw [zup_slot _ (by omega)]
          exact h72 i i0 (by omega)
      exact sg_X9_noPost_45 (by omega) hK ⟨⟨by omega, by omega⟩, fun z => absurd z (by omega), fun _ => ⟨⟨by omega, by omega⟩, fun z => ⟨by omega, by omega, nx _ (by rw [if_neg z])⟩, fun z => ⟨by omega, by omega, nx _ (by rw [if_pos z])⟩⟩⟩
  have l37 : ∀ (q : Nat) (w : Int) (nu : Mem), 0 ≤ w → w + q = 6 → zsm [72, 73] M nu → (∀ j, ¬ (42 * b ≤ j ∧ j < 42 * b + 42) → nu 72 j = M 72 j) → (∀ j, ¬ (6 * b ≤ j ∧ j < 6 * b + 6) → nu 73 j = M 73 j) → (∀ i, 0 ≤ i → i < 7 * w → nu 72 (42 * b + i) = if i % 8 = 0 then 9 else 0) → (∀ i, 0 ≤ i → i < w → nu 73 (6 * b + i) = 1) → zG K d mX9_noPost 37 [zR 64, zI b, zI w, zU] [] nu Q := by
    intro q
    induction q with
    | zero =>
      intro w nu w0 w1 hz o72 o73 h72 h73
      have e : w = 6 := by omega
      subst e
      have eM : ∀ k : Int, k ≠ 72 → k ≠ 73 → nu k = M k := fun k q1 q2 => hz k (by simp only [List.mem_cons, List.not_mem_nil, or_false]; omega)
      refine sg_X9_noPost_37 (by omega) hK ⟨⟨by omega, by omega⟩, fun _ => h nu ⟨fun k hk => ?_, ?_, ?_, fun j hj => ?_, ?_, ?_, ?_, ?_, ?_, fun j hj => ?_, fun j hj => ?_, fun i i0 i1 => h72 i i0 (by omega), fun i i0 i1 => h73 i i0 (by omega)⟩, fun z => absurd (by omega) z⟩
      · rw [eM k (by omega) (by omega), ← hM, zup_row _ (by omega), zup_row _ (by omega), zup_row _ (by omega), zup_row _ (by omega), zup_row _ (by omega)]
      · rw [eM 69 (by decide) (by decide), ← hM, zup_row _ (by decide), zup_row _ (by decide), zup_row _ (by decide), zup_row _ (by decide), zup_row _ (by decide)]
      · rw [eM 71 (by decide) (by decide), ← hM, zup_row _ (by decide), zup_row _ (by decide), zup_row _ (by decide), zup_row _ (by decide), zup_row _ (by decide)]
      · rw [eM 66 (by decide) (by decide), eM 67 (by decide) (by decide), eM 68 (by decide) (by decide), eM 70 (by decide) (by decide), eM 74 (by decide) (by decide), ← hM]
        simp only [zup_app, Int.reduceEq, false_and, true_and, if_false, reduceIte, if_neg hj]
      · rw [eM 66 (by decide) (by decide), ← hM]
        simp only [zup_app, Int.reduceEq, false_and, true_and, and_self, if_false, if_true, reduceIte]
      · rw [eM 67 (by decide) (by decide), ← hM]
        simp only [zup_app, Int.reduceEq, false_and, true_and, and_self, if_false, if_true, reduceIte]
      · rw [eM 68 (by decide) (by decide), ← hM]
        simp only [zup_app, Int.reduceEq, false_and, true_and, and_self, if_false, if_true, reduceIte]
      · rw [eM 70 (by decide) (by decide), ← hM]
        simp only [zup_app, Int.reduceEq, false_and, true_and, and_self, if_false, if_true, reduceIte]
      · rw [eM 74 (by decide) (by decide), ← hM]
        simp only [zup_app, Int.reduceEq, false_and, true_and, and_self, if_false, if_true, reduceIte]
      · rw [o72 j hj, ← hM, zup_cell _ (by decide), zup_cell _ (by decide), zup_cell _ (by decide), zup_cell _ (by decide), zup_cell _ (by decide)]
      · rw [o73 j hj, ← hM, zup_cell _ (by decide), zup_cell _ (by decide), zup_cell _ (by decide), zup_cell _ (by decide), zup_cell _ (by decide)]
    | succ q ih =>
      intro w nu w0 w1 hz o72 o73 h72 h73
      refine sg_X9_noPost_37 (by omega) hK ⟨⟨by omega, by omega⟩, fun z => absurd z (by omega), fun _ => ?_⟩
      exact l45 w w0 (by omega) 7 0 nu (by omega) (by omega) hz o72 o73 (fun i i0 i1 => h72 i i0 (by omega)) h73 (fun xi a b c d e => ih (w + 1) xi (by omega) (by omega) a b c d e)
  refine ce_X9_noPost (sg_X9_noPost_0 (by omega) hK ⟨by omega, by omega, ?_⟩)
  rw [hM]
  exact l37 6 0 M (by omega) (by omega) zsm.rf (fun _ _ => rfl) (fun _ _ => rfl) (fun i i0 i1 => absurd i1 (by omega)) (fun i i0 i1 => absurd i1 (by omega))
theorem m_readAll {L : Int} {c : Int → Int} {B : Mem} (hd : 4 ≤ d) (hK : 93 ≤ K) (hL : 0 ≤ L ∧ L ≤ 300) (eL : mu 64 0 = L) (ec : mu 65 = c) (hc : ∀ i, 0 ≤ i → i < L → 0 ≤ c i ∧ c i < 256)
    (h : ∀ nu, zfM mu nu → ((zgo c L 300 0 (zcl B)).1 = -4 → zRM (zgo c L 300 0 (zcl B)).2 nu) → Q (zI (zgo c L 300 0 (zcl B)).1) nu) : zC K d mX9_readAll [zR 64] mu Q := by
  generalize hR : zgo c L 300 0 (zcl B) = R at h
  have l : ∀ (f : Nat) (at_ : Int) (A nu : Mem), 0 ≤ at_ → at_ ≤ L → L - at_ ≤ f → zAok A → zfM mu nu → zRM A nu → nu 64 17 = at_ → R = zgo c L f at_ A → zG K d mX9_readAll 20 [zR 64, zU] [] nu Q := by
    intro f
    induction f with
    | zero =>
      intro at_ A nu a0 a1 hf hA hz hr hp he
      have e0 : nu 64 0 = L := by rw [hz.2.1 0 (by decide) (by decide) (by decide), eL]
      rw [zgo] at he
      refine sg_X9_readAll_20 hd hK ?_
      rw [e0, hp]
      refine ⟨⟨by omega, by omega⟩, ⟨by omega, by omega⟩, fun _ => ?_, fun z => absurd (by omega) z⟩
      have := h nu hz (by rw [he]; exact fun _ => hr)
      rw [he] at this
      exact this
    | succ f ih =>
      intro at_ A nu a0 a1 hf hA hz hr hp he
      have e0 : nu 64 0 = L := by rw [hz.2.1 0 (by decide) (by decide) (by decide), eL]
      have e65 : nu 65 = c := by rw [hz.1 65 (by decide) (by decide) (by decide), ec]
      rw [zgo] at he
      refine sg_X9_readAll_20 hd hK ?_
      rw [e0, hp]
      refine ⟨⟨by omega, by omega⟩, ⟨by omega, by omega⟩, fun z => ?_, fun z => ?_⟩
      · rw [if_pos z] at he
        have := h nu hz (by rw [he]; exact fun _ => hr)
        rw [he] at this
        exact this
      · rw [if_neg z] at he
        refine m_item (c := c) (A := A) (by omega) hK hL ⟨a0, by omega⟩ e0 hp e65 hc hA hr (fun q xi hx => ⟨_, rfl, ⟨by omega, by omega⟩, fun z2 => absurd rfl z2, fun _ => ?_⟩) (fun ll nx A' es es2 xi hx hrx hpx => ⟨_, rfl, ⟨by omega, by omega⟩, fun _ => ?_, fun z2 => absurd z2 (by omega)⟩)
        · have e3 : R = (at_, A) := by
            rcases q with q | ⟨ll, nx, q1, q2⟩
            · rw [q] at he
              exact he
            · rw [q1] at he
              dsimp only at he
              rw [q2] at he
              exact he
          have := h xi (hz.tr hx) (by rw [e3]; exact fun u => absurd u (by dsimp only; omega))
          rw [e3] at this
          exact this
        · have zk := zrn_ok _ _ _ _ _ (Or.inl ⟨rfl, rfl⟩) (fun j => by simp) _ _ es
          rw [es] at he
          dsimp only at he
          rw [es2] at he
          exact ih nx A' xi (by omega) (by omega) (by omega) (ztl_ok hA zk.2.2.2.2 es2) (hz.tr hx) hrx hpx he
  refine ce_X9_readAll (sg_X9_readAll_0 hd hK (m_noPost hK (Or.inr rfl) (fun nu hn => ⟨rfl, ?_⟩)))
  obtain ⟨n1, n2, n3, n4, n5, n6, n7, n8, n9, n10, n11, n12, n13⟩ := hn
  have zn : zfM mu nu := ⟨fun k q1 q2 q3 => n1 k (by omega), fun j _ _ _ => by rw [n1 64 (by decide)], n4, fun j hj => ⟨by rw [n2], n11 j (by omega), by rw [n1 75 (by decide)]⟩, fun j hj => by rw [n3], fun j hj => n10 j (by omega)⟩
  refine l 300 0 (zcl B) _ (by omega) hL.1 (by omega) zcl_ok (((zn.up (by omega)).up (by omega)).up (by omega)) ?_ (zup_same _ _ _ _) hR.symm
  unfold zRM zcl
  simp only [zup_app, Int.reduceEq, and_false, false_and, true_and, and_self, if_true, if_false, reduceIte, or_false, false_or, or_self, or_true, true_or, Int.reduceNeg]
  refine ⟨n5, n6, n7, n8, n9, by decide, fun i i0 i1 => absurd i1 (by omega), fun i i0 i1 => absurd i1 (by omega), fun i i0 i1 => ?_, fun i i0 i1 => ?_, fun i i0 i1 => absurd i1 (by omega)⟩
  · rw [if_pos ⟨i0, i1⟩]
    exact n12 i i0 i1
  · rw [if_pos ⟨i0, i1⟩]
    exact n13 i i0 i1
end S79
theorem zgo_r {c : Int → Int} {L : Int} (hL : 0 ≤ L ∧ L ≤ 300) : ∀ (f : Nat) (at_ : Int) (A : Mem), 0 ≤ at_ → at_ ≤ L → (zgo c L f at_ A).1 = -4 ∨ (0 ≤ (zgo c L f at_ A).1 ∧ (zgo c L f at_ A).1 ≤ L)
  | 0, _, _, _, _ => Or.inl rfl
  | f + 1, at_, A, a0, a1 => by
    rw [zgo]
    split
    · exact Or.inl rfl
    · split
      · exact Or.inr ⟨a0, a1⟩
      · rename_i l nx e
        have zk := zrn_ok _ _ _ _ _ (Or.inl ⟨rfl, rfl⟩) (fun j => by simp) _ _ e
        split
        · exact Or.inr ⟨a0, a1⟩
        · exact zgo_r hL f nx _ (by omega) (by omega)
theorem op_fault : zOp 6 5 mX8_fault mX9_fault [] := by
  intro mu P hJ
  have hK : 64 ≤ 93 := by decide
  have hK' : 93 ≤ 93 := by decide
  have hJ0 := hJ
  obtain ⟨h1, h2, h3, h4, h5, h6, h7⟩ := hJ
  have hD : isP 93 (mu 0 4) := ⟨by omega, by rcases h1.2 with h | h <;> omega⟩
  obtain ⟨⟨x1, x2, x3⟩, x4⟩ := h4
  refine ce_X8_fault (sg_X8_fault_0 (by omega) hK (s_readInto (c := mu 65) (by omega) hK hD ⟨x2, x3⟩ x4 (fun B nu hz hv => ⟨_, rfl, ?_⟩)))
  have rr := zgo_r (c := mu 65) (L := mu 0 1) ⟨x2, x3⟩ 300 0 (zcl B) (by omega) (by omega)
  have hJ1 := hJ0.cd hz
  have e : ∀ k : Int, 64 ≤ k → nu k = mu k := fun k hk => hz k (by
    have := hD.2
    simp only [List.mem_append, zPc_m, List.mem_cons, List.not_mem_nil, or_false]
    omega)
  refine ⟨_, ⟨by omega, by omega⟩, rfl, ?_⟩
  refine ce_X9_fault (sg_X9_fault_0 (by omega) hK' (m_readAll (L := mu 0 1) (c := mu 65) (B := B) (by omega) hK' ⟨x2, x3⟩ (by rw [e 64 (by decide), x1]) (e 65 (by decide)) (fun i i0 i1 => (x4 i i0 i1).2) (fun xi hx hr => ⟨_, rfl, rfl, _, hJ1.mf hx⟩)))
