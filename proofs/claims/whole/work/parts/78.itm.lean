/-! the reference reads items -/
/-- its book 1 is the plan A -/
def zRM (A nu : Mem) : Prop := nu 66 1 = A 0 0 ∧ nu 67 1 = A 0 1 ∧ nu 68 1 = A 0 2 ∧ nu 70 1 = A 0 3 ∧ nu 74 1 = A 0 4 ∧ nu 64 19 = max 0 (A 0 13) ∧ nu 64 20 = A 0 14 ∧ (∀ i, 0 ≤ i → i < A 0 2 → nu 69 (6 + i) = A 1 i) ∧ (∀ i, 0 ≤ i → i < A 0 3 → nu 71 (10 + i) = A 2 i) ∧ (∀ i, 0 ≤ i → i < 42 → nu 72 (42 + i) = A 3 i) ∧ (∀ i, 0 ≤ i → i < 6 → nu 73 (6 + i) = A 4 i) ∧ (∀ i, 0 ≤ i → i < A 0 4 → nu 75 (6 + i) = A 5 i ∧ nu 76 (18 + 3 * i) = A 6 i ∧ nu 76 (18 + 3 * i + 1) = A 7 i ∧ nu 76 (18 + 3 * i + 2) = A 8 i)
/-- what reading leaves alone -/
def zfM (mu nu : Mem) : Prop := (∀ k : Int, k ≠ 64 → ¬ (66 ≤ k ∧ k ≤ 76) → k ≠ 80 → nu k = mu k) ∧ (∀ j : Int, j ≠ 17 → j ≠ 19 → j ≠ 20 → nu 64 j = mu 64 j) ∧ (∀ j : Int, j ≠ 1 → nu 66 j = mu 66 j ∧ nu 67 j = mu 67 j ∧ nu 68 j = mu 68 j ∧ nu 70 j = mu 70 j ∧ nu 74 j = mu 74 j) ∧ (∀ j : Int, j < 6 → nu 69 j = mu 69 j ∧ nu 73 j = mu 73 j ∧ nu 75 j = mu 75 j) ∧ (∀ j : Int, j < 10 → nu 71 j = mu 71 j) ∧ (∀ j : Int, j < 42 → nu 72 j = mu 72 j)
theorem zfM.rf {mu : Mem} : zfM mu mu := ⟨fun _ _ _ _ => rfl, fun _ _ _ _ => rfl, fun _ _ => ⟨rfl, rfl, rfl, rfl, rfl⟩, fun _ _ => ⟨rfl, rfl, rfl⟩, fun _ _ => rfl, fun _ _ => rfl⟩
theorem zfM.tr {mu nu xi : Mem} (h : zfM mu nu) (g : zfM nu xi) : zfM mu xi := by
  obtain ⟨h1, h2, h3, h4, h5, h6⟩ := h
  obtain ⟨g1, g2, g3, g4, g5, g6⟩ := g
  refine ⟨fun k a b c => (g1 k a b c).trans (h1 k a b c), fun j a b c => (g2 j a b c).trans (h2 j a b c), fun j a => ?_, fun j a => ?_, fun j a => (g5 j a).trans (h5 j a), fun j a => (g6 j a).trans (h6 j a)⟩
  · obtain ⟨u1, u2, u3, u4, u5⟩ := g3 j a
    obtain ⟨v1, v2, v3, v4, v5⟩ := h3 j a
    exact ⟨u1.trans v1, u2.trans v2, u3.trans v3, u4.trans v4, u5.trans v5⟩
  · obtain ⟨u1, u2, u3⟩ := g4 j a
    obtain ⟨v1, v2, v3⟩ := h4 j a
    exact ⟨u1.trans v1, u2.trans v2, u3.trans v3⟩
theorem zfF.M {mu nu : Mem} (h : zfF mu nu) : zfM mu nu := by
  have e : ∀ k : Int, k ≠ 64 → k ≠ 80 → nu k = mu k := h.1
  refine ⟨fun k a b c => e k a c, fun j a _ _ => h.2 j a, fun j _ => ?_, fun j _ => ?_, fun j _ => ?_, fun j _ => ?_⟩
  · rw [e 66 (by decide) (by decide), e 67 (by decide) (by decide), e 68 (by decide) (by decide), e 70 (by decide) (by decide), e 74 (by decide) (by decide)]
    exact ⟨rfl, rfl, rfl, rfl, rfl⟩
  · rw [e 69 (by decide) (by decide), e 73 (by decide) (by decide), e 75 (by decide) (by decide)]
    exact ⟨rfl, rfl, rfl⟩
  · rw [e 71 (by decide) (by decide)]
  · rw [e 72 (by decide) (by decide)]
theorem zfF.R {A mu nu : Mem} (h : zfF mu nu) (hr : zRM A mu) : zRM A nu := by
  have e : ∀ k : Int, k ≠ 64 → k ≠ 80 → nu k = mu k := h.1
  unfold zRM at *
  rw [e 66 (by decide) (by decide), e 67 (by decide) (by decide), e 68 (by decide) (by decide), e 70 (by decide) (by decide), e 74 (by decide) (by decide), e 69 (by decide) (by decide), e 73 (by decide) (by decide), e 75 (by decide) (by decide), e 71 (by decide) (by decide), e 72 (by decide) (by decide), e 76 (by decide) (by decide), h.2 19 (by decide), h.2 20 (by decide)]
  exact hr
/-- one write of reading -/
theorem zfM.up {mu nu : Mem} {k j v : Int} (h : zfM mu nu) (hk : (k = 64 ∧ (j = 17 ∨ j = 19 ∨ j = 20)) ∨ ((k = 66 ∨ k = 67 ∨ k = 68 ∨ k = 70 ∨ k = 74) ∧ j = 1) ∨ ((k = 69 ∨ k = 73 ∨ k = 75) ∧ 6 ≤ j) ∨ (k = 71 ∧ 10 ≤ j) ∨ (k = 72 ∧ 42 ≤ j) ∨ k = 76) : zfM mu (zup nu k j v) := by
  refine h.tr ⟨fun a q1 q2 q3 => zup_row _ (by omega), fun i q1 q2 q3 => ?_, fun i q => ?_, fun i q => ?_, fun i q => ?_, fun i q => ?_⟩
  · rw [zup_app, if_neg (by omega)]
  · simp only [zup_app]
    rw [if_neg (by omega), if_neg (by omega), if_neg (by omega), if_neg (by omega), if_neg (by omega)]
    exact ⟨rfl, rfl, rfl, rfl, rfl⟩
  · simp only [zup_app]
    rw [if_neg (by omega), if_neg (by omega), if_neg (by omega)]
    exact ⟨rfl, rfl, rfl⟩
  · rw [zup_app, if_neg (by omega)]
  · rw [zup_app, if_neg (by omega)]
/-- the most thing met, twice told -/
theorem zmm {a x : Int} : (if x = 6 then max 0 a else max (max 0 a) x) = max 0 (if ¬ x = 6 then max a x else a) := by
  by_cases h : x = 6
  · rw [if_pos h, if_neg (fun q => q h)]
  · rw [if_neg h, if_pos h]
    omega
section S78
variable {K d : Nat} {mu : Mem} {Q : AV → Mem → Prop}
theorem m_item {at_ L : Int} {c : Int → Int} {A : Mem} (hd : 3 ≤ d) (hK : 93 ≤ K) (hL : 0 ≤ L ∧ L ≤ 300) (ha : 0 ≤ at_ ∧ at_ < L) (eL : mu 64 0 = L) (ep : mu 64 17 = at_) (ec : mu 65 = c) (hc : ∀ i, 0 ≤ i → i < L → 0 ≤ c i ∧ c i < 256) (hA : zAok A) (hR : zRM A mu)
    (h0 : (zrn c (L - (at_ + 1)).toNat (at_ + 1) 0 0 [] = none ∨ ∃ l nx, zrn c (L - (at_ + 1)).toNat (at_ + 1) 0 0 [] = some (l, nx) ∧ ztl A (c at_) l = none) → ∀ nu, zfM mu nu → Q (zI 0) nu)
    (h1 : ∀ l nx A', zrn c (L - (at_ + 1)).toNat (at_ + 1) 0 0 [] = some (l, nx) → ztl A (c at_) l = some A' → ∀ nu, zfM mu nu → zRM A' nu → nu 64 17 = nx → Q (zI 1) nu) : zC K d mX9_item [zR 64] mu Q := by
  have cc := hc at_ ha.1 ha.2
  obtain ⟨a1, a2, a3, a4, a5, a6, a7, -⟩ := hA
  have b19 : 0 ≤ max 0 (A 0 13) ∧ max 0 (A 0 13) ≤ 999 := by omega
  generalize hR0 : zrn c (L - (at_ + 1)).toNat (at_ + 1) 0 0 [] = R at h0 h1
  generalize hx : c at_ = x at h0 h1 cc
  have no : (∀ l, ztl A x l = none) → ∀ nu, zfM mu nu → Q (zI 0) nu := fun q nu hz => by
    match R, h0 with
    | none, h0 => exact h0 (Or.inl rfl) nu hz
    | some (l, nx), h0 => exact h0 (Or.inr ⟨l, nx, rfl, q l⟩) nu hz
  have nol : ∀ k : Int, (∀ l : List Int, ¬ (l.length : Int) = k → ztl A x l = none) → (∀ l nx, R = some (l, nx) → ¬ (l.length : Int) = k) → ∀ nu, zfM mu nu → Q (zI 0) nu := fun k q1 q2 nu hz => by
    match R, h0, q2 with
    | none, h0, _ => exact h0 (Or.inl rfl) nu hz
    | some (l, nx), h0, q2 => exact h0 (Or.inr ⟨l, nx, rfl, q1 l (q2 l nx rfl)⟩) nu hz
  generalize hM : zup mu 64 17 (mu 64 17 + 1) = M
  have zM : zfM mu M := by rw [← hM]; exact zfM.rf.up (by omega)
  have M0 : M 64 0 = L := by rw [← hM, zup_slot _ (by decide), eL]
  have Mp : M 64 17 = at_ + 1 := by rw [← hM, zup_same, ep]
  have Mc : M 65 = c := by rw [← hM, zup_row _ (by decide), ec]
  have RM : zRM A M := by
    unfold zRM at *
    rw [← hM, zup_row _ (by decide), zup_row _ (by decide), zup_row _ (by decide), zup_row _ (by decide), zup_row _ (by decide), zup_slot _ (by decide), zup_slot _ (by decide), zup_row _ (by decide), zup_row _ (by decide), zup_row _ (by decide), zup_row _ (by decide), zup_row _ (by decide), zup_row _ (by decide)]
    exact hR
  -- numbers
  have fg : ∀ (k : Int) (d : Nat) (Q' : AV → Mem → Prop), 1 ≤ d → 1 ≤ k → k ≤ 4 → ((∀ l nx, R = some (l, nx) → ¬ (l.length : Int) = k) → ∀ nu, zfF M nu → Q' (zI 0) nu) → (∀ l nx, R = some (l, nx) → (l.length : Int) = k → (∀ j, 0 ≤ l.getD j 0 ∧ l.getD j 0 ≤ 999) → ∀ nu, zfF M nu → nu 64 17 = nx → (∀ j : Nat, (j : Int) < k → nu 80 j = l.getD j 0) → Q' (zI 1) nu) → zC K d mX9_figures [zR 64, zI k] M Q' := fun k d Q' hd k0 k1 f0 f1 => by
    refine m_figures (c := c) hd hK ⟨k0, k1⟩ hL ⟨by omega, by omega⟩ M0 Mp Mc hc (by rw [hR0]; exact f0) (fun l nx e el nu hz hn hj => ?_)
    have zk := zrn_ok _ _ _ _ _ (Or.inl ⟨rfl, rfl⟩) (fun j => by simp) _ _ e
    rw [hR0] at e
    exact f1 l nx e el zk.2.2.2.2 nu hz hn hj
  refine ce_X9_item (sg_X9_item_0 hd hK ?_)
  rw [ep]
  refine m_byteAt hK ⟨ha.1, by omega⟩ (by omega) ⟨_, rfl, ?_⟩
  rw [if_pos (by omega), ec, hx, hM]
  have nn : (¬ x = 116 ∧ ¬ x = 109 ∧ ¬ x = 98 ∧ ¬ x = 113 ∧ ¬ x = 118 ∧ ¬ x = 99 ∧ ¬ x = 112) → Q (zI 0) M := fun q => no (fun l => ztl_no q) M zM
  refine ⟨⟨by omega, by omega⟩, fun c => nn (by omega), fun c => ?_, fun c => ?_, fun c => nn (by omega), fun c => nn (by omega), fun c => nn (by omega), fun c => nn (by omega), fun c => nn (by omega), fun c => nn (by omega), fun c => nn (by omega), fun c => nn (by omega), fun c => nn (by omega), fun c => ?_, fun c => nn (by omega), fun c => nn (by omega), fun c => ?_, fun c => ?_, fun c => nn (by omega), fun c => nn (by omega), fun c => ?_, fun c => nn (by omega), fun c => ?_⟩
  -- b
  · have e : ∀ l, ztl A x l = (if l.length = 1 ∧ l.getD 0 0 ≤ 5 ∧ A 0 2 < 6 then some (zup (zup (zup A 0 13 (max (A 0 13) (l.getD 0 0))) 1 (A 0 2) (l.getD 0 0)) 0 2 (A 0 2 + 1)) else none) := fun l => by
      unfold ztl
      rw [if_neg (by omega), if_neg (by omega), if_pos c]
    refine ce_X9_aheadItem (sg_X9_aheadItem_0 (by omega) hK (fg 1 1 _ (by omega) (by omega) (by omega) (fun q nu hz => ⟨_, rfl, ⟨by omega, by omega⟩, fun _ => ⟨_, rfl, Or.inl rfl, nol 1 (fun l ql => by rw [e, if_neg (by omega)]) q nu (zM.tr hz.M)⟩, fun z => absurd rfl z⟩) (fun l nx el ll lb nu hz hn hj => ⟨_, rfl, ⟨by omega, by omega⟩, fun z => absurd z (by omega), fun _ => ?_⟩)))
    have RN := hz.R RM
    have zN := zM.tr hz.M
    have l0 := lb 0
    have e0 := hj 0 (by omega)
    rw [show ((0 : Nat) : Int) = 0 from rfl] at e0
    obtain ⟨r1, r2, r3, r4, r5, r6, r7, r8, r9, r10, r11, r12⟩ := RN
    have fl : ¬ (l.length = 1 ∧ l.getD 0 0 ≤ 5 ∧ A 0 2 < 6) → Q (zI 0) nu := fun q => h0 (Or.inr ⟨l, nx, el, by rw [e, if_neg q]⟩) nu zN
    rw [r3, e0]
    refine ⟨⟨by omega, by omega⟩, fun q => ⟨_, rfl, Or.inl rfl, fl (by omega)⟩, fun q => ⟨⟨by omega, by omega⟩, fun q2 => ⟨by omega, by omega, ?_⟩, fun q2 => ⟨_, rfl, Or.inl rfl, fl (by omega)⟩⟩⟩
    rw [zup_cell _ (show (68 : Int) ≠ 69 by decide), r3, zup_cell _ (show (80 : Int) ≠ 68 by decide), zup_cell _ (show (80 : Int) ≠ 69 by decide), e0]
    refine m_meet hK l0 (by rw [zup_cell _ (by decide), zup_cell _ (by decide), r6]; exact b19) ⟨rfl, _, rfl, Or.inr rfl, ?_⟩ (by omega)
    rw [zup_cell _ (show (64 : Int) ≠ 68 by decide), zup_cell _ (show (64 : Int) ≠ 69 by decide), r6]
    refine h1 l nx _ el (by rw [e, if_pos ⟨by omega, q2, by omega⟩]) _ (((zN.up (by omega)).up (by omega)).up (by omega)) ?_ (by rw [zup_slot _ (by decide), zup_cell _ (by decide), zup_cell _ (by decide), hn])
    generalize l.getD 0 0 = p at *
    unfold zRM
    simp only [zup_app, zhs_app, Int.reduceEq, and_false, false_and, true_and, and_self, if_true, if_false, reduceIte]
    rw [if_neg (by omega)]
    refine ⟨r1, r2, r4, r5, by omega, r7, fun i i0 i1 => ?_, r9, r10, r11, r12⟩
    by_cases z : i = A 0 2
    · rw [if_pos (by omega), if_pos z]
    · rw [if_neg (by omega), if_neg z]
      exact r8 i i0 (by omega)
  -- c
  · have e : ∀ l, ztl A x l = (if l.length = 2 ∧ l.getD 0 0 ≤ 5 ∧ l.getD 1 0 ≤ 9 then some (zup (zup A 0 13 (max (A 0 13) (l.getD 0 0))) 4 (l.getD 0 0) (l.getD 1 0)) else none) := fun l => by
      unfold ztl
      rw [if_neg (by omega), if_neg (by omega), if_neg (by omega), if_neg (by omega), if_neg (by omega), if_pos c]
    refine fg 2 1 _ (by omega) (by omega) (by omega) (fun q nu hz => ⟨_, rfl, ⟨by omega, by omega⟩, fun _ => nol 2 (fun l ql => by rw [e, if_neg (by omega)]) q nu (zM.tr hz.M), fun z => absurd rfl z⟩) (fun l nx el ll lb nu hz hn hj => ⟨_, rfl, ⟨by omega, by omega⟩, fun z => absurd z (by omega), fun _ => ?_⟩)
    have RN := hz.R RM
    have zN := zM.tr hz.M
    have l0 := lb 0
    have e0 := hj 0 (by omega)
    rw [show ((0 : Nat) : Int) = 0 from rfl] at e0
    have l1 := lb 1
    have e1 := hj 1 (by omega)
    rw [show ((1 : Nat) : Int) = 1 from rfl] at e1
    obtain ⟨r1, r2, r3, r4, r5, r6, r7, r8, r9, r10, r11, r12⟩ := RN
    have fl : ¬ (l.length = 2 ∧ l.getD 0 0 ≤ 5 ∧ l.getD 1 0 ≤ 9) → Q (zI 0) nu := fun q => h0 (Or.inr ⟨l, nx, el, by rw [e, if_neg q]⟩) nu zN
    rw [e0, e1]
    refine ⟨⟨by omega, by omega⟩, fun q => fl (by omega), fun q => ⟨⟨by omega, by omega⟩, fun q2 => ⟨by omega, by omega, ?_⟩, fun q2 => fl (by omega)⟩⟩
    rw [zup_cell _ (show (80 : Int) ≠ 73 by decide), e0]
    refine m_meet hK l0 (by rw [zup_cell _ (by decide), r6]; exact b19) ⟨rfl, ?_⟩ (by omega)
    rw [zup_cell _ (show (64 : Int) ≠ 73 by decide), r6]
    refine h1 l nx _ el (by rw [e, if_pos ⟨by omega, by omega, q2⟩]) _ ((zN.up (by omega)).up (by omega)) ?_ (by rw [zup_slot _ (by decide), zup_cell _ (by decide), hn])
    generalize l.getD 0 0 = p at *
    generalize l.getD 1 0 = p1 at *
    unfold zRM
    simp only [zup_app, zhs_app, Int.reduceEq, and_false, false_and, true_and, and_self, if_true, if_false, reduceIte]
    rw [if_neg (by omega)]
    refine ⟨r1, r2, r3, r4, r5, by omega, r7, r8, r9, r10, fun i i0 i1 => ?_, r12⟩
    by_cases z : i = p
    · rw [if_pos (by omega), if_pos z]
    · rw [if_neg (by omega), if_neg z]
      exact r11 i i0 i1
  -- m
  · have e : ∀ l, ztl A x l = (if l.length = 1 ∧ l.getD 0 0 ≤ 3 then some (zup A 0 1 (l.getD 0 0)) else none) := fun l => by
      unfold ztl
      rw [if_neg (by omega), if_pos c]
    refine fg 1 1 _ (by omega) (by omega) (by omega) (fun q nu hz => ⟨_, rfl, ⟨by omega, by omega⟩, fun _ => nol 1 (fun l ql => by rw [e, if_neg (by omega)]) q nu (zM.tr hz.M), fun z => absurd rfl z⟩) (fun l nx el ll lb nu hz hn hj => ⟨_, rfl, ⟨by omega, by omega⟩, fun z => absurd z (by omega), fun _ => ?_⟩)
    have RN := hz.R RM
    have zN := zM.tr hz.M
    have l0 := lb 0
    have e0 := hj 0 (by omega)
    rw [show ((0 : Nat) : Int) = 0 from rfl] at e0
    obtain ⟨r1, r2, r3, r4, r5, r6, r7, r8, r9, r10, r11, r12⟩ := RN
    have fl : ¬ (l.length = 1 ∧ l.getD 0 0 ≤ 3) → Q (zI 0) nu := fun q => h0 (Or.inr ⟨l, nx, el, by rw [e, if_neg q]⟩) nu zN
    rw [e0]
    refine ⟨⟨by omega, by omega⟩, fun q => ?_, fun q => fl (by omega)⟩
    refine h1 l nx _ el (by rw [e, if_pos ⟨by omega, q⟩]) _ (zN.up (by omega)) ?_ (by rw [zup_cell _ (by decide), hn])
    generalize l.getD 0 0 = p at *
    unfold zRM
    simp only [zup_app, zhs_app, Int.reduceEq, and_false, false_and, true_and, and_self, if_true, if_false, reduceIte]
    exact ⟨r1, r3, r4, r5, r6, r7, r8, r9, r10, r11, r12⟩
  -- p
  · have e : ∀ l, ztl A x l = (if l.length = 4 ∧ l.getD 0 0 ≤ 5 ∧ A 0 4 < 6 ∧ l.getD 1 0 ≤ 6 ∧ l.getD 2 0 ≤ 6 ∧ l.getD 3 0 ≤ 6 then some (zup (zup (zup (zup (zup (zup (zhs (zhs (zhs A 0 (l.getD 1 0)) 0 (l.getD 2 0)) 0 (l.getD 3 0)) 5 (A 0 4) (l.getD 0 0)) 6 (A 0 4) (l.getD 1 0)) 7 (A 0 4) (l.getD 2 0)) 8 (A 0 4) (l.getD 3 0)) 0 4 (A 0 4 + 1)) 0 14 (max (A 0 14) (l.getD 0 0))) else none) := fun l => by
      unfold ztl
      rw [if_neg (by omega), if_neg (by omega), if_neg (by omega), if_neg (by omega), if_neg (by omega), if_neg (by omega), if_pos c]
    have w74 : mu 74 1 = A 0 4 := hR.2.2.2.2.1
    have m74 : M 74 1 = A 0 4 := RM.2.2.2.2.1
    refine ce_X9_postItem (sg_X9_postItem_0 (by omega) hK (fg 4 1 _ (by omega) (by omega) (by omega) (fun q nu hz => ⟨_, rfl, ⟨by omega, by omega⟩, fun _ => ⟨_, rfl, Or.inl rfl, nol 4 (fun l ql => by rw [e, if_neg (by omega)]) q nu (zM.tr hz.M)⟩, fun z => absurd rfl z⟩) (fun l nx el ll lb nu hz hn hj => ⟨_, rfl, ⟨by omega, by omega⟩, fun z => absurd z (by omega), fun _ => ?_⟩)))
    have RN := hz.R RM
    have zN := zM.tr hz.M
    have l0 := lb 0
    have e0 := hj 0 (by omega)
    rw [show ((0 : Nat) : Int) = 0 from rfl] at e0
    have l1 := lb 1
    have e1 := hj 1 (by omega)
    rw [show ((1 : Nat) : Int) = 1 from rfl] at e1
    have l2 := lb 2
    have e2 := hj 2 (by omega)
    rw [show ((2 : Nat) : Int) = 2 from rfl] at e2
    have l3 := lb 3
    have e3 := hj 3 (by omega)
    rw [show ((3 : Nat) : Int) = 3 from rfl] at e3
    obtain ⟨r1, r2, r3, r4, r5, r6, r7, r8, r9, r10, r11, r12⟩ := RN
    have fl : ¬ (l.length = 4 ∧ l.getD 0 0 ≤ 5 ∧ A 0 4 < 6 ∧ l.getD 1 0 ≤ 6 ∧ l.getD 2 0 ≤ 6 ∧ l.getD 3 0 ≤ 6) → Q (zI 0) nu := fun q => h0 (Or.inr ⟨l, nx, el, by rw [e, if_neg q]⟩) nu zN
    rw [m74, e0, e1, e2, e3, zup_cell _ (show (80 : Int) ≠ 75 by decide), e0, zup_cell _ (show (64 : Int) ≠ 75 by decide), r7]
    have pos : l.getD 0 0 ≤ 5 → A 0 4 < 6 → l.getD 1 0 ≤ 6 → l.getD 2 0 ≤ 6 → l.getD 3 0 ≤ 6 → zG K 2 mX9_postItem 113 [zR 64, zI (A 0 4), zI 0] [] (zup (zup nu 75 (6 + A 0 4) (l.getD 0 0)) 64 20 (max (A 0 14) (l.getD 0 0))) (fun v_ nu21 => ∃ r20, v_ = zI r20 ∧ ((r20 = 0 ∨ r20 = 1) ∧ Q (zI r20) nu21)) := fun p0 p4 p1 p2 p3 => by
      have st : ∀ (i : Int) (N : Mem), (0 ≤ i ∧ i < 3) → N 80 (1 + i) = l.getD (1 + i).toNat 0 → (0 ≤ N 64 19 ∧ N 64 19 ≤ 999) → zG K 2 mX9_postItem 113 [zR 64, zI (A 0 4), zI (i + 1)] [] (zup (zup N 76 (18 + 3 * A 0 4 + i) (l.getD (1 + i).toNat 0)) 64 19 (if l.getD (1 + i).toNat 0 = 6 then N 64 19 else max (N 64 19) (l.getD (1 + i).toNat 0))) (fun v_ nu21 => ∃ r20, v_ = zI r20 ∧ ((r20 = 0 ∨ r20 = 1) ∧ Q (zI r20) nu21)) → zG K 2 mX9_postItem 113 [zR 64, zI (A 0 4), zI i] [] N (fun v_ nu21 => ∃ r20, v_ = zI r20 ∧ ((r20 = 0 ∨ r20 = 1) ∧ Q (zI r20) nu21)) := fun i N hi hN h19 k => by
        have b6 : l.getD (1 + i).toNat 0 ≤ 6 := by
          have : i = 0 ∨ i = 1 ∨ i = 2 := by omega
          rcases this with rfl | rfl | rfl
          · exact p1
          · exact p2
          · exact p3
        refine sg_X9_postItem_113 (by omega) hK ⟨⟨by omega, by omega⟩, fun z => absurd z (by omega), fun _ => ⟨by omega, by omega, by omega, by omega, ?_⟩⟩
        rw [zup_cell _ (show (80 : Int) ≠ 76 by decide), hN]
        refine m_meet hK (lb _) (by rw [zup_cell _ (by decide)]; exact h19) ⟨rfl, ?_⟩ b6
        rw [zup_cell _ (show (64 : Int) ≠ 76 by decide)]
        exact k
      have mx : ∀ a y : Int, 0 ≤ a ∧ a ≤ 999 → 0 ≤ y ∧ y ≤ 999 → 0 ≤ (if y = 6 then a else max a y) ∧ (if y = 6 then a else max a y) ≤ 999 := fun a y u v => by
        split <;> omega
      have q1 : ((1 : Int) + 0).toNat = 1 := by decide
      have q2 : ((1 : Int) + 1).toNat = 2 := by decide
      have q3 : ((1 : Int) + 2).toNat = 3 := by decide
      have s0 := st 0
      have s1 := st 1
      have s2 := st 2
      rw [q1, Int.add_zero, Int.add_zero, Int.zero_add] at s0
      rw [q2, show (1 : Int) + 1 = 2 from rfl] at s1
      rw [q3, show (1 : Int) + 2 = 3 from rfl, show (2 : Int) + 1 = 3 from rfl] at s2
      generalize hN0 : zup (zup nu 75 (6 + A 0 4) (l.getD 0 0)) 64 20 (max (A 0 14) (l.getD 0 0)) = N0
      have z0 : zfM mu N0 := by rw [← hN0]; exact (zN.up (by omega)).up (by omega)
      have n80 : ∀ j, N0 80 j = nu 80 j := fun j => by rw [← hN0, zup_cell _ (by decide), zup_cell _ (by decide)]
      have n19 : N0 64 19 = max 0 (A 0 13) := by rw [← hN0, zup_slot _ (by decide), zup_cell _ (by decide), r6]
      refine s0 N0 (by omega) (by rw [n80, e1]) (by rw [n19]; exact b19) ?_
      rw [n19]
      have b1 := mx _ _ b19 (lb 1)
      generalize hv1 : (if l.getD 1 0 = 6 then max 0 (A 0 13) else max (max 0 (A 0 13)) (l.getD 1 0)) = v1 at b1 ⊢
      refine s1 _ (by omega) (by rw [zup_cell _ (by decide), zup_cell _ (by decide), n80, e2]) (by rw [zup_same]; exact b1) ?_
      rw [zup_same]
      have b2 := mx _ _ b1 (lb 2)
      generalize hv2 : (if l.getD 2 0 = 6 then v1 else max v1 (l.getD 2 0)) = v2 at b2 ⊢
      refine s2 _ (by omega) (by rw [zup_cell _ (by decide), zup_cell _ (by decide), zup_cell _ (by decide), zup_cell _ (by decide), n80, e3]) (by rw [zup_same]; exact b2) ?_
      rw [zup_same]
      generalize hv3 : (if l.getD 3 0 = 6 then v2 else max v2 (l.getD 3 0)) = v3
      refine sg_X9_postItem_113 (by omega) hK ⟨⟨by omega, by omega⟩, fun _ => ⟨_, rfl, Or.inr rfl, ?_⟩, fun z => absurd (by omega) z⟩
      rw [zup_cell _ (show (74 : Int) ≠ 64 by decide), zup_cell _ (show (74 : Int) ≠ 76 by decide), zup_cell _ (show (74 : Int) ≠ 64 by decide), zup_cell _ (show (74 : Int) ≠ 76 by decide), zup_cell _ (show (74 : Int) ≠ 64 by decide), zup_cell _ (show (74 : Int) ≠ 76 by decide), ← hN0, zup_cell _ (show (74 : Int) ≠ 64 by decide), zup_cell _ (show (74 : Int) ≠ 75 by decide), r5, hN0]
      have v3e : v3 = max 0 (if ¬ l.getD 3 0 = 6 then max (if ¬ l.getD 2 0 = 6 then max (if ¬ l.getD 1 0 = 6 then max (A 0 13) (l.getD 1 0) else A 0 13) (l.getD 2 0) else (if ¬ l.getD 1 0 = 6 then max (A 0 13) (l.getD 1 0) else A 0 13)) (l.getD 3 0) else (if ¬ l.getD 2 0 = 6 then max (if ¬ l.getD 1 0 = 6 then max (A 0 13) (l.getD 1 0) else A 0 13) (l.getD 2 0) else (if ¬ l.getD 1 0 = 6 then max (A 0 13) (l.getD 1 0) else A 0 13))) := by
        rw [← zmm, ← zmm, ← zmm, hv1, hv2, hv3]
      refine h1 l nx _ el (by rw [e, if_pos ⟨by omega, p0, p4, p1, p2, p3⟩]) _ (((((((z0.up (by omega)).up (by omega)).up (by omega)).up (by omega)).up (by omega)).up (by omega)).up (by omega)) ?_ (by rw [zup_cell _ (by decide), zup_slot _ (by decide), zup_cell _ (by decide), zup_slot _ (by decide), zup_cell _ (by decide), zup_slot _ (by decide), zup_cell _ (by decide), ← hN0, zup_slot _ (by decide), zup_cell _ (by decide), hn])
      rw [← hN0]
      clear s0 s1 s2 st
      generalize l.getD 0 0 = y0 at *
      generalize l.getD 1 0 = y1 at *
      generalize l.getD 2 0 = y2 at *
      generalize l.getD 3 0 = y3 at *
      unfold zRM
      simp only [zup_app, zhs_app, Int.reduceEq, and_false, false_and, true_and, and_self, if_true, if_false, reduceIte]
      refine ⟨r1, r2, r3, r4, v3e, r8, r9, r10, r11, fun i i0 i1 => ?_⟩
      by_cases z : i = A 0 4
      · subst z
        simp only [if_true, reduceIte]
        refine ⟨trivial, ?_, ?_, ?_⟩
        · rw [if_neg (by omega), if_neg (by omega)]
        · rw [if_neg (by omega)]
        · trivial
      · rw [if_neg z, if_neg z, if_neg z, if_neg z, if_neg (by omega), if_neg (by omega), if_neg (by omega), if_neg (by omega), if_neg (by omega), if_neg (by omega), if_neg (by omega), if_neg (by omega), if_neg (by omega), if_neg (by omega)]
        exact r12 i i0 (by omega)
    refine ⟨⟨by omega, by omega⟩, fun q => ⟨_, rfl, Or.inl rfl, fl (by omega)⟩, fun q => ⟨⟨by omega, by omega⟩, fun q0 => ⟨_, rfl, Or.inl rfl, fl (by omega)⟩, fun q0 => ⟨⟨by omega, by omega⟩, fun q1 => ⟨_, rfl, Or.inl rfl, fl (by omega)⟩, fun q1 => ⟨⟨by omega, by omega⟩, fun q2 => ⟨_, rfl, Or.inl rfl, fl (by omega)⟩, fun q2 => ⟨⟨by omega, by omega⟩, fun q3 => ⟨by omega, by omega, ⟨by omega, by omega⟩, ⟨by omega, by omega⟩, fun u => ?_, fun u => ?_⟩, fun q3 => ⟨_, rfl, Or.inl rfl, fl (by omega)⟩⟩⟩⟩⟩⟩
    · have := pos (by omega) (by omega) (by omega) (by omega) q3
      rw [Int.max_eq_left u] at this
      exact this
    · have := pos (by omega) (by omega) (by omega) (by omega) q3
      rw [Int.max_eq_right (by omega)] at this
      exact this
  -- q
  · have e : ∀ l, ztl A x l = (if l.length = 1 ∧ l.getD 0 0 ≤ 5 ∧ A 0 3 < 10 then some (zup (zup (zup A 0 13 (max (A 0 13) (l.getD 0 0))) 2 (A 0 3) (l.getD 0 0)) 0 3 (A 0 3 + 1)) else none) := fun l => by
      unfold ztl
      rw [if_neg (by omega), if_neg (by omega), if_neg (by omega), if_pos c]
    refine ce_X9_wishItem (sg_X9_wishItem_0 (by omega) hK (fg 1 1 _ (by omega) (by omega) (by omega) (fun q nu hz => ⟨_, rfl, ⟨by omega, by omega⟩, fun _ => ⟨_, rfl, Or.inl rfl, nol 1 (fun l ql => by rw [e, if_neg (by omega)]) q nu (zM.tr hz.M)⟩, fun z => absurd rfl z⟩) (fun l nx el ll lb nu hz hn hj => ⟨_, rfl, ⟨by omega, by omega⟩, fun z => absurd z (by omega), fun _ => ?_⟩)))
    have RN := hz.R RM
    have zN := zM.tr hz.M
    have l0 := lb 0
    have e0 := hj 0 (by omega)
    rw [show ((0 : Nat) : Int) = 0 from rfl] at e0
    obtain ⟨r1, r2, r3, r4, r5, r6, r7, r8, r9, r10, r11, r12⟩ := RN
    have fl : ¬ (l.length = 1 ∧ l.getD 0 0 ≤ 5 ∧ A 0 3 < 10) → Q (zI 0) nu := fun q => h0 (Or.inr ⟨l, nx, el, by rw [e, if_neg q]⟩) nu zN
    rw [r4, e0]
    refine ⟨⟨by omega, by omega⟩, fun q => ⟨_, rfl, Or.inl rfl, fl (by omega)⟩, fun q => ⟨⟨by omega, by omega⟩, fun q2 => ⟨by omega, by omega, ?_⟩, fun q2 => ⟨_, rfl, Or.inl rfl, fl (by omega)⟩⟩⟩
    rw [zup_cell _ (show (70 : Int) ≠ 71 by decide), r4, zup_cell _ (show (80 : Int) ≠ 70 by decide), zup_cell _ (show (80 : Int) ≠ 71 by decide), e0]
    refine m_meet hK l0 (by rw [zup_cell _ (by decide), zup_cell _ (by decide), r6]; exact b19) ⟨rfl, _, rfl, Or.inr rfl, ?_⟩ (by omega)
    rw [zup_cell _ (show (64 : Int) ≠ 70 by decide), zup_cell _ (show (64 : Int) ≠ 71 by decide), r6]
    refine h1 l nx _ el (by rw [e, if_pos ⟨by omega, q2, by omega⟩]) _ (((zN.up (by omega)).up (by omega)).up (by omega)) ?_ (by rw [zup_slot _ (by decide), zup_cell _ (by decide), zup_cell _ (by decide), hn])
    generalize l.getD 0 0 = p at *
    unfold zRM
    simp only [zup_app, zhs_app, Int.reduceEq, and_false, false_and, true_and, and_self, if_true, if_false, reduceIte]
    rw [if_neg (by omega)]
    refine ⟨r1, r2, r3, r5, by omega, r7, r8, fun i i0 i1 => ?_, r10, r11, r12⟩
    by_cases z : i = A 0 3
    · rw [if_pos (by omega), if_pos z]
    · rw [if_neg (by omega), if_neg z]
      exact r9 i i0 (by omega)
  -- t
  · have e : ∀ l, ztl A x l = (if l.length = 1 ∧ 2 ≤ l.getD 0 0 ∧ l.getD 0 0 ≤ 6 then some (zup A 0 0 (l.getD 0 0)) else none) := fun l => by
      unfold ztl
      rw [if_pos c]
    refine fg 1 1 _ (by omega) (by omega) (by omega) (fun q nu hz => ⟨_, rfl, ⟨by omega, by omega⟩, fun _ => nol 1 (fun l ql => by rw [e, if_neg (by omega)]) q nu (zM.tr hz.M), fun z => absurd rfl z⟩) (fun l nx el ll lb nu hz hn hj => ⟨_, rfl, ⟨by omega, by omega⟩, fun z => absurd z (by omega), fun _ => ?_⟩)
    have RN := hz.R RM
    have zN := zM.tr hz.M
    have l0 := lb 0
    have e0 := hj 0 (by omega)
    rw [show ((0 : Nat) : Int) = 0 from rfl] at e0
    obtain ⟨r1, r2, r3, r4, r5, r6, r7, r8, r9, r10, r11, r12⟩ := RN
    have fl : ¬ (l.length = 1 ∧ 2 ≤ l.getD 0 0 ∧ l.getD 0 0 ≤ 6) → Q (zI 0) nu := fun q => h0 (Or.inr ⟨l, nx, el, by rw [e, if_neg q]⟩) nu zN
    rw [e0]
    refine ⟨⟨by omega, by omega⟩, s_in hK ⟨by omega, by omega⟩ ⟨by omega, by omega⟩ ⟨by omega, by omega⟩ ⟨_, rfl, zbin _, fun q => ?_, fun q => fl (by split at q <;> omega)⟩⟩
    rw [e0]
    refine h1 l nx _ el (by rw [e, if_pos ⟨by omega, by split at q <;> omega, by split at q <;> omega⟩]) _ (zN.up (by omega)) ?_ (by rw [zup_cell _ (by decide), hn])
    generalize l.getD 0 0 = p at *
    unfold zRM
    simp only [zup_app, zhs_app, Int.reduceEq, and_false, false_and, true_and, and_self, if_true, if_false, reduceIte]
    exact ⟨r2, r3, r4, r5, r6, r7, r8, r9, r10, r11, r12⟩
  -- v
  · have e : ∀ l, ztl A x l = (if l.length = 3 ∧ l.getD 0 0 ≤ 5 ∧ l.getD 1 0 ≤ 6 ∧ l.getD 2 0 ≤ 9 then some (zup (zhs (zup A 0 13 (max (A 0 13) (l.getD 0 0))) 0 (l.getD 1 0)) 3 (l.getD 0 0 * 7 + l.getD 1 0) (l.getD 2 0)) else none) := fun l => by
      unfold ztl
      rw [if_neg (by omega), if_neg (by omega), if_neg (by omega), if_neg (by omega), if_pos c]
    refine ce_X9_worthItem (sg_X9_worthItem_0 (by omega) hK (fg 3 1 _ (by omega) (by omega) (by omega) (fun q nu hz => ⟨_, rfl, ⟨by omega, by omega⟩, fun _ => ⟨_, rfl, Or.inl rfl, nol 3 (fun l ql => by rw [e, if_neg (by omega)]) q nu (zM.tr hz.M)⟩, fun z => absurd rfl z⟩) (fun l nx el ll lb nu hz hn hj => ⟨_, rfl, ⟨by omega, by omega⟩, fun z => absurd z (by omega), fun _ => ?_⟩)))
    have RN := hz.R RM
    have zN := zM.tr hz.M
    have l0 := lb 0
    have e0 := hj 0 (by omega)
    rw [show ((0 : Nat) : Int) = 0 from rfl] at e0
    have l1 := lb 1
    have e1 := hj 1 (by omega)
    rw [show ((1 : Nat) : Int) = 1 from rfl] at e1
    have l2 := lb 2
    have e2 := hj 2 (by omega)
    rw [show ((2 : Nat) : Int) = 2 from rfl] at e2
    obtain ⟨r1, r2, r3, r4, r5, r6, r7, r8, r9, r10, r11, r12⟩ := RN
    have fl : ¬ (l.length = 3 ∧ l.getD 0 0 ≤ 5 ∧ l.getD 1 0 ≤ 6 ∧ l.getD 2 0 ≤ 9) → Q (zI 0) nu := fun q => h0 (Or.inr ⟨l, nx, el, by rw [e, if_neg q]⟩) nu zN
    rw [e0, e1, e2]
    refine ⟨⟨by omega, by omega⟩, fun q => ⟨_, rfl, Or.inl rfl, fl (by omega)⟩, fun q => ⟨⟨by omega, by omega⟩, fun q1 => ⟨_, rfl, Or.inl rfl, fl (by omega)⟩, fun q1 => ⟨⟨by omega, by omega⟩, fun q2 => ⟨by omega, by omega, ?_⟩, fun q2 => ⟨_, rfl, Or.inl rfl, fl (by omega)⟩⟩⟩⟩
    have m0 : 0 ≤ max (max 0 (A 0 13)) (l.getD 0 0) ∧ max (max 0 (A 0 13)) (l.getD 0 0) ≤ 999 := by omega
    rw [zup_cell _ (show (80 : Int) ≠ 72 by decide), e0]
    refine m_meet hK l0 (by rw [zup_cell _ (by decide), r6]; exact b19) ⟨rfl, ?_⟩ (by omega)
    rw [zup_cell _ (show (64 : Int) ≠ 72 by decide), r6, if_neg (by omega), zup_cell _ (show (80 : Int) ≠ 64 by decide), zup_cell _ (show (80 : Int) ≠ 72 by decide), e1]
    refine m_meet hK l1 (by rw [zup_same]; exact m0) ⟨rfl, _, rfl, Or.inr rfl, ?_⟩ (by omega)
    rw [zup_same]
    refine h1 l nx _ el (by rw [e, if_pos ⟨by omega, by omega, by omega, q2⟩]) _ (((zN.up (by omega)).up (by omega)).up (by omega)) ?_ (by rw [zup_slot _ (by decide), zup_slot _ (by decide), zup_cell _ (by decide), hn])
    generalize l.getD 0 0 = p at *
    generalize l.getD 1 0 = p1 at *
    generalize l.getD 2 0 = p2 at *
    unfold zRM
    simp only [zup_app, zhs_app, Int.reduceEq, and_false, false_and, true_and, and_self, if_true, if_false, reduceIte]
    refine ⟨r1, r2, r3, r4, r5, ?_, r7, r8, r9, fun i i0 i1 => ?_, r11, r12⟩
    · rw [show max (max 0 (A 0 13)) p = max 0 (max (A 0 13) p) by omega]
      exact zmm
    · by_cases z : i = p * 7 + p1
      · rw [if_pos (by omega), if_pos z]
      · rw [if_neg (by omega), if_neg z]
        exact r10 i i0 i1
end S78
