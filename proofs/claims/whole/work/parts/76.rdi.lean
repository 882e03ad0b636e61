/-! the class reads a text into a plan -/
def zPc (P : Int) : List Int := [P, P + 1, P + 2, P + 3, P + 4, P + 5, P + 6, P + 7, P + 8]
theorem zPc_m {P k : Int} : k ∈ zPc P ↔ P ≤ k ∧ k ≤ P + 8 := by
  unfold zPc
  simp only [List.mem_cons, List.not_mem_nil, or_false]
  omega
def zPv (P : Int) (nu A : Mem) : Prop := ∀ j, 0 ≤ j → j ≤ 8 → nu (P + j) = A j
theorem zPv.up {P : Int} {nu A : Mem} (h : zPv P nu A) (k s v : Int) : zPv P (zup nu (P + k) s v) (zup A k s v) := fun j j0 j1 => by
  funext b
  rw [zup_app, zup_app, h j j0 j1]
  by_cases q : j = k ∧ b = s
  · rw [if_pos q, if_pos ⟨by omega, q.2⟩]
  · rw [if_neg q, if_neg (fun w => q ⟨by omega, w.2⟩)]
theorem zPv.up0 {P : Int} {nu A : Mem} (h : zPv P nu A) (s v : Int) : zPv P (zup nu P s v) (zup A 0 s v) := by
  have := h.up 0 s v
  rwa [Int.add_zero] at this
theorem zPv.hs {P : Int} {nu A : Mem} (h : zPv P nu A) (s : Int) : zPv P (zhs nu P s) (zhs A 0 s) := by
  unfold zhs
  by_cases q : s = 6
  · rw [if_pos q, if_pos q]; exact h
  · rw [if_neg q, if_neg q]
    have e : nu P = A 0 := by
      have := h 0 (by omega) (by omega)
      rwa [Int.add_zero] at this
    rw [e]
    exact h.up0 _ _
theorem zPv.e0 {P : Int} {nu A : Mem} (h : zPv P nu A) : nu P = A 0 := by
  have := h 0 (by omega) (by omega)
  rwa [Int.add_zero] at this
theorem zhs_sm {P : Int} {X : List Int} {mu nu : Mem} {s : Int} (h : zsm X mu nu) (hP : P ∈ X) : zsm X mu (zhs nu P s) := by
  unfold zhs
  split
  · exact h
  · exact h.up hP
theorem ztl_no {A : Mem} {x : Int} {l : List Int} (h : ¬ x = 116 ∧ ¬ x = 109 ∧ ¬ x = 98 ∧ ¬ x = 113 ∧ ¬ x = 118 ∧ ¬ x = 99 ∧ ¬ x = 112) : ztl A x l = none := by
  unfold ztl
  rw [if_neg h.1, if_neg h.2.1, if_neg h.2.2.1, if_neg h.2.2.2.1, if_neg h.2.2.2.2.1, if_neg h.2.2.2.2.2.1, if_neg h.2.2.2.2.2.2]
section S76
variable {K d : Nat} {mu : Mem} {Q : AV → Mem → Prop}
theorem s_noteThing {P x : Int} (hd : 1 ≤ d) (hK : 64 ≤ K) (hP : isP K P) (hx : 0 ≤ x ∧ x ≤ 999) (h13 : zin (mu P 13)) (h0 : 5 < x → Q (zI 0) mu) (h1 : x ≤ 5 → Q (zI 1) (zup mu P 13 (max (mu P 13) x))) : zC K d mX2_noteThing [zR P, zI x] mu Q := by
  refine ce_X2_noteThing (sg_X2_noteThing_0 hd hK hP (s_within hK ⟨by omega, by omega⟩ ⟨by omega, by omega⟩ ⟨by omega, by omega⟩ ⟨_, rfl, zbin _, fun c => ⟨h13, ⟨by omega, by omega⟩, h1 ?_⟩, fun c => h0 ?_⟩))
  · split at c <;> omega
  · split at c <;> omega
theorem s_noteSign {P x : Int} (hd : 2 ≤ d) (hK : 64 ≤ K) (hP : isP K P) (hx : 0 ≤ x ∧ x ≤ 999) (h13 : zin (mu P 13)) (h0 : 6 < x → Q (zI 0) mu) (h1 : x ≤ 6 → Q (zI 1) (zhs mu P x)) : zC K d mX2_noteSign [zR P, zI x] mu Q := by
  unfold zhs at h1
  refine ce_X2_noteSign (sg_X2_noteSign_0 hd hK hP ⟨⟨by omega, by omega⟩, fun c => ?_, fun c => s_noteThing (by omega) hK hP hx h13 (fun q => ⟨_, rfl, ⟨by omega, by omega⟩, fun _ => h0 (by omega), fun q2 => absurd rfl q2⟩) (fun q => ⟨_, rfl, ⟨by omega, by omega⟩, fun q2 => absurd q2 (by omega), fun _ => ?_⟩)⟩)
  · have := h1 (by omega)
    rwa [if_pos c] at this
  · have := h1 (by omega)
    rwa [if_neg c] at this
theorem s_tell {P x : Int} {A : Mem} {l : List Int} (hd : 4 ≤ d) (hK : 64 ≤ K) (hP : isP K P) (hA : zAok A) (hv : zPv P mu A) (hm : mu 2 1 = l.length) (hj : ∀ j : Nat, j < l.length → mu 3 j = l.getD j 0) (hl : ∀ j, 0 ≤ l.getD j 0 ∧ l.getD j 0 ≤ 999) (hl4 : l.length ≤ 4) (hx : -128 ≤ x ∧ x < 128)
    (h0 : ztl A x l = none → ∀ nu, zsm (zPc P) mu nu → Q (zI 0) nu) (h1 : ∀ A', ztl A x l = some A' → ∀ nu, zsm (zPc P) mu nu → zPv P nu A' → Q (zI 1) nu) : zC K d mX4_tell [zR 2, zR P, zI x] mu Q := by
  have hP2 := hP.2
  have eA := hv.e0
  obtain ⟨a1, a2, a3, a4, a5, a6, a7, -⟩ := hA
  rw [← eA] at a1 a2 a3 a4 a5 a6 a7
  have l0 := hl 0
  have l1 := hl 1
  have l2 := hl 2
  have l3 := hl 3
  have mP : P ∈ zPc P := zPc_m.mpr (by omega)
  have m1 : P + 1 ∈ zPc P := zPc_m.mpr (by omega)
  have m2 : P + 2 ∈ zPc P := zPc_m.mpr (by omega)
  have m3 : P + 3 ∈ zPc P := zPc_m.mpr (by omega)
  have m4 : P + 4 ∈ zPc P := zPc_m.mpr (by omega)
  have m5 : P + 5 ∈ zPc P := zPc_m.mpr (by omega)
  have m6 : P + 6 ∈ zPc P := zPc_m.mpr (by omega)
  have m7 : P + 7 ∈ zPc P := zPc_m.mpr (by omega)
  have m8 : P + 8 ∈ zPc P := zPc_m.mpr (by omega)
  have j0 := hj 0
  have j1 := hj 1
  have j2 := hj 2
  have j3 := hj 3
  have lm : zin (mu 2 1) := ⟨by omega, by omega⟩
  have none_ : (¬ x = 116 ∧ ¬ x = 109 ∧ ¬ x = 98 ∧ ¬ x = 113 ∧ ¬ x = 118 ∧ ¬ x = 99 ∧ ¬ x = 112) → Q (zI 0) mu := fun q => h0 (ztl_no q) mu zsm.rf
  unfold ztl at h0 h1
  refine ce_X4_tell (sg_X4_tell_0 hd hK hP ⟨⟨by omega, by omega⟩, fun c => none_ (by omega), fun c => ⟨lm, fun c2 => ?_, fun c2 => ?_⟩, fun c => ⟨lm, fun c2 => ?_, fun c2 => ?_⟩, fun c => none_ (by omega), fun c => none_ (by omega), fun c => none_ (by omega), fun c => none_ (by omega), fun c => none_ (by omega), fun c => none_ (by omega), fun c => none_ (by omega), fun c => none_ (by omega), fun c => none_ (by omega), fun c => ⟨lm, fun c2 => ?_, fun c2 => ?_⟩, fun c => none_ (by omega), fun c => none_ (by omega), fun c => ⟨lm, fun c2 => ?_, fun c2 => ?_⟩, fun c => ⟨lm, fun c2 => ?_, fun c2 => ?_⟩, fun c => none_ (by omega), fun c => none_ (by omega), fun c => ⟨lm, fun c2 => ?_, fun c2 => ?_⟩, fun c => none_ (by omega), fun c => ⟨lm, fun c2 => ?_, fun c2 => ?_⟩⟩)
  -- b
  · rw [if_neg (by omega), if_neg (by omega), if_pos c, if_neg (by omega)] at h0
    exact h0 rfl mu zsm.rf
  · rw [if_neg (by omega), if_neg (by omega), if_pos c] at h0 h1
    have e0 := j0 (by omega)
    rw [show ((0 : Nat) : Int) = 0 from rfl] at e0
    rw [e0]
    refine ce_X2_addAsked (sg_X2_addAsked_0 (by omega) hK hP (s_noteThing (by omega) hK hP l0 ⟨by omega, by omega⟩ (fun q => ⟨_, rfl, ⟨by omega, by omega⟩, fun _ => ⟨_, rfl, ⟨by omega, by omega⟩, fun _ => h0 (by rw [if_neg (by omega)]) mu zsm.rf, fun q2 => absurd rfl q2⟩, fun q2 => absurd rfl q2⟩) (fun q => ⟨_, rfl, ⟨by omega, by omega⟩, fun q2 => absurd q2 (by omega), fun _ => ?_⟩)))
    rw [zup_slot _ (show (2 : Int) ≠ 13 by decide)]
    refine ⟨⟨by omega, by omega⟩, fun q2 => ⟨by omega, by omega, _, rfl, ⟨by omega, by omega⟩, fun q3 => absurd q3 (by omega), fun _ => ?_⟩, fun q2 => ⟨_, rfl, ⟨by omega, by omega⟩, fun _ => h0 (by rw [if_neg (by rw [← eA]; omega)]) _ (zsm.rf.up mP), fun q3 => absurd rfl q3⟩⟩
    rw [zup_cell _ (show P ≠ P + 1 by omega), zup_slot _ (show (2 : Int) ≠ 13 by decide)]
    rw [if_pos ⟨by omega, q, by rw [← eA]; exact q2⟩, ← eA] at h1
    exact h1 _ rfl _ (((zsm.rf.up mP).up m1).up mP) (((hv.up0 _ _).up 1 _ _).up0 _ _)
  -- c
  · rw [if_neg (by omega), if_neg (by omega), if_neg (by omega), if_neg (by omega), if_neg (by omega), if_pos c, if_neg (by omega)] at h0
    exact h0 rfl mu zsm.rf
  · rw [if_neg (by omega), if_neg (by omega), if_neg (by omega), if_neg (by omega), if_neg (by omega), if_pos c] at h0 h1
    have e0 := j0 (by omega)
    have e1 := j1 (by omega)
    rw [show ((0 : Nat) : Int) = 0 from rfl] at e0
    rw [show ((1 : Nat) : Int) = 1 from rfl] at e1
    rw [e0, e1]
    refine ce_X2_setParts (sg_X2_setParts_0 (by omega) hK hP (s_noteThing (by omega) hK hP l0 ⟨by omega, by omega⟩ (fun q => ⟨_, rfl, ⟨by omega, by omega⟩, fun _ => ⟨_, rfl, ⟨by omega, by omega⟩, fun _ => h0 (by rw [if_neg (by omega)]) mu zsm.rf, fun q2 => absurd rfl q2⟩, fun q2 => absurd rfl q2⟩) (fun q => ⟨_, rfl, ⟨by omega, by omega⟩, fun q2 => absurd q2 (by omega), fun _ => ?_⟩)))
    refine s_within hK ⟨by omega, by omega⟩ ⟨by omega, by omega⟩ ⟨by omega, by omega⟩ ⟨_, rfl, zbin _, fun q2 => ⟨by omega, by omega, _, rfl, ⟨by omega, by omega⟩, fun q3 => absurd q3 (by omega), fun _ => ?_⟩, fun q2 => ⟨_, rfl, ⟨by omega, by omega⟩, fun _ => h0 (by rw [if_neg (by split at q2 <;> omega)]) _ (zsm.rf.up mP), fun q3 => absurd rfl q3⟩⟩
    rw [if_pos ⟨by omega, q, by split at q2 <;> omega⟩, ← eA] at h1
    exact h1 _ rfl _ ((zsm.rf.up mP).up m4) ((hv.up0 _ _).up 4 _ _)
  -- m
  · rw [if_neg (by omega), if_pos c, if_neg (by omega)] at h0
    exact h0 rfl mu zsm.rf
  · rw [if_neg (by omega), if_pos c] at h0 h1
    have e0 := j0 (by omega)
    rw [show ((0 : Nat) : Int) = 0 from rfl] at e0
    rw [e0]
    refine ce_X2_setKind (sg_X2_setKind_0 (by omega) hK hP (s_within hK ⟨by omega, by omega⟩ ⟨by omega, by omega⟩ ⟨by omega, by omega⟩ ⟨_, rfl, zb01 _, _, rfl, zbin _, fun q => ?_, fun q => ?_⟩))
    · exact h0 (by rw [if_neg (by split at q <;> omega)]) _ (zsm.rf.up mP)
    · rw [if_pos ⟨by omega, by split at q <;> omega⟩] at h1
      exact h1 _ rfl _ (zsm.rf.up mP) (hv.up0 _ _)
  -- p
  · rw [if_neg (by omega), if_neg (by omega), if_neg (by omega), if_neg (by omega), if_neg (by omega), if_neg (by omega), if_pos c, if_neg (by omega)] at h0
    exact h0 rfl mu zsm.rf
  · rw [if_neg (by omega), if_neg (by omega), if_neg (by omega), if_neg (by omega), if_neg (by omega), if_neg (by omega), if_pos c] at h0 h1
    have e0 := j0 (by omega)
    have e1 := j1 (by omega)
    have e2 := j2 (by omega)
    have e3 := j3 (by omega)
    rw [show ((0 : Nat) : Int) = 0 from rfl] at e0
    rw [show ((1 : Nat) : Int) = 1 from rfl] at e1
    rw [show ((2 : Nat) : Int) = 2 from rfl] at e2
    rw [show ((3 : Nat) : Int) = 3 from rfl] at e3
    rw [e0, e1, e2, e3]
    generalize l.getD 0 0 = p0 at *
    generalize l.getD 1 0 = p1 at *
    generalize l.getD 2 0 = p2 at *
    generalize l.getD 3 0 = p3 at *
    have no : ¬ (l.length = 4 ∧ p0 ≤ 5 ∧ A 0 4 < 6 ∧ p1 ≤ 6 ∧ p2 ≤ 6 ∧ p3 ≤ 6) → ∀ nu, zsm (zPc P) mu nu → ∃ r15, zI 0 = zI r15 ∧ (zin r15 ∧ ((r15 = 0 → Q (zI 0) nu) ∧ (¬ r15 = 0 → Q (zI 1) nu))) := fun q nu hz => ⟨_, rfl, ⟨by omega, by omega⟩, fun _ => h0 (by rw [if_neg q]) nu hz, fun q2 => absurd rfl q2⟩
    refine ce_X2_addPost (sg_X2_addPost_0 (by omega) hK hP (s_within hK ⟨by omega, by omega⟩ ⟨by omega, by omega⟩ ⟨by omega, by omega⟩ ⟨_, rfl, zbin _, fun q => no (by split at q <;> omega) mu zsm.rf, fun q => ⟨⟨by omega, by omega⟩, fun q1 => ?_, fun q1 => no (by rw [← eA]; omega) mu zsm.rf⟩⟩))
    have qp : p0 ≤ 5 := by split at q <;> omega
    have h13 : ∀ (nu : Mem) (s : Int), (-1 ≤ nu P 13 ∧ nu P 13 ≤ 5) → 0 ≤ s → s ≤ 6 → -1 ≤ (zhs nu P s) P 13 ∧ (zhs nu P s) P 13 ≤ 5 := fun nu s u v w => by
      rw [zhs_app]
      split
      · rename_i z
        have := z.2.2
        omega
      · exact u
    have hh : ∀ (nu : Mem) (s b : Int), b ≠ 13 → (zhs nu P s) P b = nu P b := fun nu s b u => by
      rw [zhs_app, if_neg (fun z => u z.2.1)]
    refine s_noteSign (by omega) hK hP l1 ⟨by omega, by omega⟩ (fun u => ⟨_, rfl, ⟨by omega, by omega⟩, fun _ => no (by omega) mu zsm.rf, fun z => absurd rfl z⟩) (fun u1 => ⟨_, rfl, ⟨by omega, by omega⟩, fun z => absurd z (by omega), fun _ => ?_⟩)
    have g1 := h13 mu p1 a6 l1.1 u1
    refine s_noteSign (by omega) hK hP l2 ⟨by omega, by omega⟩ (fun u => ⟨_, rfl, ⟨by omega, by omega⟩, fun _ => no (by omega) _ (zhs_sm zsm.rf mP), fun z => absurd rfl z⟩) (fun u2 => ⟨_, rfl, ⟨by omega, by omega⟩, fun z => absurd z (by omega), fun _ => ?_⟩)
    have g2 := h13 _ p2 g1 l2.1 u2
    refine s_noteSign (by omega) hK hP l3 ⟨by omega, by omega⟩ (fun u => ⟨_, rfl, ⟨by omega, by omega⟩, fun z => absurd rfl z, fun _ => no (by omega) _ (zhs_sm (zhs_sm zsm.rf mP) mP)⟩) (fun u3 => ⟨_, rfl, ⟨by omega, by omega⟩, fun _ => ?_, fun z => absurd z (by omega)⟩)
    generalize hN : zhs (zhs (zhs mu P p1) P p2) P p3 = N
    have n4 : N P 4 = mu P 4 := by rw [← hN, hh _ _ _ (by decide), hh _ _ _ (by decide), hh _ _ _ (by decide)]
    have n14 : N P 14 = mu P 14 := by rw [← hN, hh _ _ _ (by decide), hh _ _ _ (by decide), hh _ _ _ (by decide)]
    have zN : zsm (zPc P) mu N := by
      rw [← hN]
      exact zhs_sm (zhs_sm (zhs_sm zsm.rf mP) mP) mP
    have vN : zPv P N (zhs (zhs (zhs A 0 p1) 0 p2) 0 p3) := by
      rw [← hN]
      exact ((hv.hs _).hs _).hs _
    have f1 : ∀ v1, (zup N (P + 5) (mu P 4) v1) P 4 = mu P 4 := fun v1 => by rw [zup_cell _ (by omega), n4]
    have f2 : ∀ v1 v2, (zup (zup N (P + 5) (mu P 4) v1) (P + 6) (mu P 4) v2) P 4 = mu P 4 := fun v1 v2 => by rw [zup_cell _ (by omega), f1]
    have f3 : ∀ v1 v2 v3, (zup (zup (zup N (P + 5) (mu P 4) v1) (P + 6) (mu P 4) v2) (P + 7) (mu P 4) v3) P 4 = mu P 4 := fun v1 v2 v3 => by rw [zup_cell _ (by omega), f2]
    have f4 : ∀ v1 v2 v3 v4, (zup (zup (zup (zup N (P + 5) (mu P 4) v1) (P + 6) (mu P 4) v2) (P + 7) (mu P 4) v3) (P + 8) (mu P 4) v4) P 4 = mu P 4 := fun v1 v2 v3 v4 => by rw [zup_cell _ (by omega), f3]
    have f5 : ∀ v1 v2 v3 v4 v5, (zup (zup (zup (zup (zup N (P + 5) (mu P 4) v1) (P + 6) (mu P 4) v2) (P + 7) (mu P 4) v3) (P + 8) (mu P 4) v4) P 4 v5) P 14 = mu P 14 := fun v1 v2 v3 v4 v5 => by rw [zup_slot _ (by decide), zup_cell _ (by omega), zup_cell _ (by omega), zup_cell _ (by omega), zup_cell _ (by omega), n14]
    rw [n4, f1, f2, f3, f4, f5]
    refine ⟨by omega, by omega, by omega, by omega, by omega, by omega, by omega, by omega, ⟨by omega, by omega⟩, ⟨by omega, by omega⟩, _, rfl, ⟨by omega, by omega⟩, fun z => absurd z (by omega), fun _ => ?_⟩
    rw [if_pos ⟨by omega, qp, by rw [← eA]; exact q1, u1, u2, u3⟩, ← eA] at h1
    exact h1 _ rfl _ ((((((zN.up m5).up m6).up m7).up m8).up mP).up mP) ((((((vN.up 5 _ _).up 6 _ _).up 7 _ _).up 8 _ _).up0 _ _).up0 _ _)
  -- q
  · rw [if_neg (by omega), if_neg (by omega), if_neg (by omega), if_pos c, if_neg (by omega)] at h0
    exact h0 rfl mu zsm.rf
  · rw [if_neg (by omega), if_neg (by omega), if_neg (by omega), if_pos c] at h0 h1
    have e0 := j0 (by omega)
    rw [show ((0 : Nat) : Int) = 0 from rfl] at e0
    rw [e0]
    refine ce_X2_addWish (sg_X2_addWish_0 (by omega) hK hP (s_noteThing (by omega) hK hP l0 ⟨by omega, by omega⟩ (fun q => ⟨_, rfl, ⟨by omega, by omega⟩, fun _ => ⟨_, rfl, ⟨by omega, by omega⟩, fun _ => h0 (by rw [if_neg (by omega)]) mu zsm.rf, fun q2 => absurd rfl q2⟩, fun q2 => absurd rfl q2⟩) (fun q => ⟨_, rfl, ⟨by omega, by omega⟩, fun q2 => absurd q2 (by omega), fun _ => ?_⟩)))
    rw [zup_slot _ (show (3 : Int) ≠ 13 by decide)]
    refine ⟨⟨by omega, by omega⟩, fun q2 => ⟨by omega, by omega, _, rfl, ⟨by omega, by omega⟩, fun q3 => absurd q3 (by omega), fun _ => ?_⟩, fun q2 => ⟨_, rfl, ⟨by omega, by omega⟩, fun _ => h0 (by rw [if_neg (by rw [← eA]; omega)]) _ (zsm.rf.up mP), fun q3 => absurd rfl q3⟩⟩
    rw [zup_cell _ (show P ≠ P + 2 by omega), zup_slot _ (show (3 : Int) ≠ 13 by decide)]
    rw [if_pos ⟨by omega, q, by rw [← eA]; exact q2⟩, ← eA] at h1
    exact h1 _ rfl _ (((zsm.rf.up mP).up m2).up mP) (((hv.up0 _ _).up 2 _ _).up0 _ _)
  -- t
  · rw [if_pos c, if_neg (by omega)] at h0
    exact h0 rfl mu zsm.rf
  · rw [if_pos c] at h0 h1
    have e0 := j0 (by omega)
    rw [show ((0 : Nat) : Int) = 0 from rfl] at e0
    rw [e0]
    refine ce_X2_setThings (sg_X2_setThings_0 (by omega) hK hP (s_within hK ⟨by omega, by omega⟩ ⟨by omega, by omega⟩ ⟨by omega, by omega⟩ ⟨_, rfl, zb01 _, _, rfl, zbin _, fun q => ?_, fun q => ?_⟩))
    · exact h0 (by rw [if_neg (by split at q <;> omega)]) _ (zsm.rf.up mP)
    · rw [if_pos ⟨by omega, by split at q <;> omega, by split at q <;> omega⟩] at h1
      exact h1 _ rfl _ (zsm.rf.up mP) (hv.up0 _ _)
  -- v
  · rw [if_neg (by omega), if_neg (by omega), if_neg (by omega), if_neg (by omega), if_pos c, if_neg (by omega)] at h0
    exact h0 rfl mu zsm.rf
  · rw [if_neg (by omega), if_neg (by omega), if_neg (by omega), if_neg (by omega), if_pos c] at h0 h1
    have e0 := j0 (by omega)
    have e1 := j1 (by omega)
    have e2 := j2 (by omega)
    rw [show ((0 : Nat) : Int) = 0 from rfl] at e0
    rw [show ((1 : Nat) : Int) = 1 from rfl] at e1
    rw [show ((2 : Nat) : Int) = 2 from rfl] at e2
    rw [e0, e1, e2]
    refine ce_X2_setWorth (sg_X2_setWorth_0 (by omega) hK hP (s_noteThing (by omega) hK hP l0 ⟨by omega, by omega⟩ (fun q => ⟨_, rfl, ⟨by omega, by omega⟩, fun _ => ⟨_, rfl, ⟨by omega, by omega⟩, fun _ => h0 (by rw [if_neg (by omega)]) mu zsm.rf, fun q2 => absurd rfl q2⟩, fun q2 => absurd rfl q2⟩) (fun q => ⟨_, rfl, ⟨by omega, by omega⟩, fun q2 => absurd q2 (by omega), fun _ => ?_⟩)))
    refine s_noteSign (by omega) hK hP l1 (by rw [zup_same]; exact ⟨by omega, by omega⟩) (fun u => ⟨_, rfl, ⟨by omega, by omega⟩, fun _ => ⟨_, rfl, ⟨by omega, by omega⟩, fun _ => h0 (by rw [if_neg (by omega)]) _ (zsm.rf.up mP), fun z => absurd rfl z⟩, fun z => absurd rfl z⟩) (fun u1 => ⟨_, rfl, ⟨by omega, by omega⟩, fun z => absurd z (by omega), fun _ => ?_⟩)
    refine s_within hK ⟨by omega, by omega⟩ ⟨by omega, by omega⟩ ⟨by omega, by omega⟩ ⟨_, rfl, zbin _, fun q2 => ⟨by omega, by omega, _, rfl, ⟨by omega, by omega⟩, fun q3 => absurd q3 (by omega), fun _ => ?_⟩, fun q2 => ⟨_, rfl, ⟨by omega, by omega⟩, fun _ => h0 (by rw [if_neg (by split at q2 <;> omega)]) _ (zhs_sm (zsm.rf.up mP) mP), fun q3 => absurd rfl q3⟩⟩
    rw [if_pos ⟨by omega, q, u1, by split at q2 <;> omega⟩, ← eA] at h1
    exact h1 _ rfl _ ((zhs_sm (zsm.rf.up mP) mP).up m3) (((hv.up0 _ _).hs _).up 3 _ _)
theorem s_clear {P : Int} (hd : 1 ≤ d) (hK : 64 ≤ K) (hP : isP K P) (h : ∀ nu, zsm (zPc P) mu nu → zPv P nu (zcl (fun j => nu (P + j))) → Q zV nu) : zC K d mX2_clear [zR P] mu Q := by
  have hP2 := hP.2
  have mP : P ∈ zPc P := zPc_m.mpr (by omega)
  have m3 : P + 3 ∈ zPc P := zPc_m.mpr (by omega)
  have m4 : P + 4 ∈ zPc P := zPc_m.mpr (by omega)
  refine ce_X2_clear (sg_X2_clear_0 hd hK hP ?_)
  generalize hM : zup (zup (zup (zup (zup (zup (zup mu P 0 4) P 1 0) P 2 0) P 3 0) P 4 0) P 13 (-1)) P 14 (-1) = M
  have zM : zsm (zPc P) mu M := by
    rw [← hM]
    exact ((((((zsm.rf.up mP).up mP).up mP).up mP).up mP).up mP).up mP
  have MP : M P 0 = 4 ∧ M P 1 = 0 ∧ M P 2 = 0 ∧ M P 3 = 0 ∧ M P 4 = 0 ∧ M P 13 = -1 ∧ M P 14 = -1 := by
    rw [← hM]
    simp only [zup_app, true_and, Int.reduceEq, if_true, if_false, and_self, reduceIte, Int.reduceNeg]
  refine s_fillI (n := 6) hK hP.a4 (fun n1 z1 f1 => ⟨rfl, ?_⟩)
  refine s_fillI (n := 42) hK hP.a3 (fun n2 z2 f2 => ⟨rfl, ?_⟩)
  have z12 : zsm [P + 3, P + 4] M n2 := (z1.wk (by simp)).tr (z2.wk (by simp))
  have l : ∀ (q : Nat) (i : Int) (nu : Mem), 0 ≤ i → i + q = 6 → zsm [P + 3, P + 4] M nu → (∀ j, 0 ≤ j → j < 6 → nu (P + 4) j = 1) → (∀ j, 0 ≤ j → j < 42 → nu (P + 3) j = if j % 8 = 0 ∧ j < 8 * i then 9 else 0) → zG K d mX2_clear 53 [zR P, zI i] [] nu Q := by
    intro q
    induction q with
    | zero =>
      intro i nu i0 i1 hz h4 h3
      have e : i = 6 := by omega
      subst e
      refine sg_X2_clear_53 hd hK hP ⟨⟨by omega, by omega⟩, fun _ => h nu (zM.tr (hz.wk (fun k hk => by
        simp only [List.mem_cons, List.not_mem_nil, or_false] at hk
        rcases hk with rfl | rfl
        · exact m3
        · exact m4))) (fun j j0 j1 => ?_), fun w => absurd (by omega) w⟩
      have eP : nu P = M P := hz P (by simp only [List.mem_cons, List.not_mem_nil, or_false]; omega)
      obtain ⟨p0, p1, p2, p3, p4, p5, p6⟩ := MP
      rw [← eP] at p0 p1 p2 p3 p4 p5 p6
      funext b
      unfold zcl
      by_cases k0 : j = 0
      · subst k0
        rw [if_pos rfl, Int.add_zero]
        by_cases q0 : b = 0
        · subst q0; rw [if_pos rfl]; exact p0
        rw [if_neg q0]
        by_cases q1 : b = 1 ∨ b = 2 ∨ b = 3 ∨ b = 4
        · rw [if_pos q1]
          rcases q1 with rfl | rfl | rfl | rfl
          · exact p1
          · exact p2
          · exact p3
          · exact p4
        rw [if_neg q1]
        by_cases q2 : b = 13 ∨ b = 14
        · rw [if_pos q2]
          rcases q2 with rfl | rfl
          · exact p5
          · exact p6
        rw [if_neg q2]
        show nu P b = nu (P + 0) b
        rw [Int.add_zero]
      · rw [if_neg k0]
        by_cases k3 : j = 3
        · subst k3
          rw [if_pos rfl]
          by_cases q : 0 ≤ b ∧ b < 42
          · rw [if_pos q, h3 b q.1 q.2]
            by_cases q2 : b % 8 = 0
            · rw [if_pos q2, if_pos (by omega)]
            · rw [if_neg q2, if_neg (by omega)]
          · rw [if_neg q]
        · rw [if_neg k3]
          by_cases k4 : j = 4
          · subst k4
            rw [if_pos rfl]
            by_cases q : 0 ≤ b ∧ b < 6
            · rw [if_pos q, h4 b q.1 q.2]
            · rw [if_neg q]
          · rw [if_neg k4]
    | succ q ih =>
      intro i nu i0 i1 hz h4 h3
      refine sg_X2_clear_53 hd hK hP ⟨⟨by omega, by omega⟩, fun w => absurd w (by omega), fun _ => ⟨by omega, by omega, ih (i + 1) _ (by omega) (by omega) (hz.up (by simp)) (fun j a b => ?_) (fun j a b => ?_)⟩⟩
      · rw [zup_cell _ (by omega)]
        exact h4 j a b
      · by_cases same : j = i * 7 + i
        · rw [same, zup_same, if_pos (by omega)]
        · rw [zup_slot _ same, h3 j a b]
          by_cases q : j % 8 = 0 ∧ j < 8 * i
          · rw [if_pos q, if_pos (by omega)]
          · rw [if_neg q, if_neg (by omega)]
  exact l 6 0 n2 (by omega) (by omega) z12 (fun j a b => by rw [z2 _ (by simp only [List.mem_cons, List.not_mem_nil, or_false]; omega)]; exact f1 j a (by omega)) (fun j a b => by rw [f2 j a (by omega), if_neg (by omega)])
theorem s_readInto {P L : Int} {c : Int → Int} (hd : 5 ≤ d) (hK : 64 ≤ K) (hP : isP K P) (hL : 0 ≤ L ∧ L ≤ 300) (hc : ∀ i, 0 ≤ i → i < L → mu 1 i = (c i).bmod 256 ∧ 0 ≤ c i ∧ c i < 256)
    (h : ∀ (B : Mem) nu, zsm ([2, 3] ++ zPc P) mu nu → ((zgo c L 300 0 (zcl B)).1 = -4 → zPv P nu (zgo c L 300 0 (zcl B)).2) → Q (zI (zgo c L 300 0 (zcl B)).1) nu) : zC K d mX4_readInto [zR 2, zR P, zR 1, zI L] mu Q := by
  have hP2 := hP.2
  refine ce_X4_readInto (sg_X4_readInto_0 hd hK hP ⟨⟨by omega, by omega⟩, s_clear (by omega) hK hP (fun n1 z1 v1 => ⟨rfl, ?_⟩)⟩)
  rw [Int.min_eq_left hL.2]
  have e1 : ∀ nu : Mem, zsm ([2, 3] ++ zPc P) mu nu → nu 1 = mu 1 := fun nu hz => hz 1 (by
    simp only [List.mem_append, zPc_m, List.mem_cons, List.not_mem_nil, or_false]
    omega)
  have h := h (fun j => n1 (P + j))
  generalize hR : zgo c L 300 0 (zcl (fun j => n1 (P + j))) = R at h
  have l : ∀ (f : Nat) (at_ : Int) (A : Mem) (nu : Mem), f ≤ 300 → 0 ≤ at_ → at_ ≤ L → zAok A → zsm ([2, 3] ++ zPc P) mu nu → zPv P nu A → R = zgo c L f at_ A → zG K d mX4_readInto 18 [zR 2, zR P, zR 1, zU, zI L, zI at_, zI (300 - f), zU] [] nu Q := by
    intro f
    induction f with
    | zero =>
      intro at_ A nu hf a0 a1 hA hz hv he
      have := h nu hz (by rw [he, zgo]; exact fun _ => hv)
      rw [he, zgo] at this
      exact sg_X4_readInto_18 hd hK hP ⟨⟨by omega, by omega⟩, fun _ => this, fun w => absurd (by omega) w⟩
    | succ f ih =>
      intro at_ A nu hf a0 a1 hA hz hv he
      refine sg_X4_readInto_18 hd hK hP ⟨⟨by omega, by omega⟩, fun w => absurd w (by omega), fun _ => ⟨⟨by omega, by omega⟩, ⟨by omega, by omega⟩, fun w => ?_, fun w => ?_⟩⟩
      · rw [zgo, if_pos w] at he
        have := h nu hz (by rw [he]; exact fun _ => hv)
        rw [he] at this
        exact this
      · rw [zgo, if_neg w] at he
        have cn : ∀ i, 0 ≤ i → i < L → nu 1 i = (c i).bmod 256 ∧ 0 ≤ c i ∧ c i < 256 := fun i i0 i1 => by rw [e1 nu hz]; exact hc i i0 i1
        refine s_readNumbers hK ⟨by omega, by omega, hL.2⟩ cn (fun en n2 z2 => ⟨_, rfl, ⟨by omega, by omega⟩, fun _ => ?_, fun q => absurd rfl q⟩) (fun ll nx es n2 z2 m2 j2 => ⟨_, rfl, ?_⟩)
        · rw [en] at he
          have := h n2 (hz.tr (z2.wk (fun k hk => List.mem_append_left _ hk))) (by rw [he]; exact fun q => absurd q (by dsimp only; omega))
          rw [he] at this
          exact this
        · have zk := zrn_ok _ _ _ _ _ (Or.inl ⟨rfl, rfl⟩) (fun j => by simp) _ _ es
          rw [es] at he
          dsimp only at he
          have zz : zsm ([2, 3] ++ zPc P) mu n2 := hz.tr (z2.wk (fun k hk => List.mem_append_left _ hk))
          have v2 : zPv P n2 A := fun j j0 j1 => by
            rw [z2 _ (by simp only [List.mem_cons, List.not_mem_nil, or_false]; omega)]
            exact hv j j0 j1
          obtain ⟨cb, cc⟩ := cn at_ a0 (by omega)
          rw [z2 1 (by decide), cb, zbm cc]
          refine ⟨⟨by omega, by omega⟩, fun q => absurd q (by omega), fun _ => ⟨a0, by omega, ?_⟩⟩
          have key : ∀ x : Int, (x = if c at_ < 128 then c at_ else c at_ - 256) → ztl A x ll = ztl A (c at_) ll := fun x hx => by
            split at hx
            · rw [hx]
            · rw [ztl_no (x := x) (by omega), ztl_no (by omega)]
          refine s_tell (by omega) hK hP hA v2 m2 j2 zk.2.2.2.2 zk.2.1 (by split <;> omega) (fun en n3 z3 => ⟨_, rfl, ⟨by omega, by omega⟩, fun q => absurd rfl q, fun _ => ?_⟩) (fun A' es2 n3 z3 v3 => ⟨_, rfl, ⟨by omega, by omega⟩, fun _ => ?_, fun q => absurd q (by omega)⟩)
          · rw [key _ rfl] at en
            rw [en] at he
            have := h n3 (zz.tr (z3.wk (fun k hk => List.mem_append_right _ hk))) (by rw [he]; exact fun q => absurd q (by dsimp only; omega))
            rw [he] at this
            exact this
          · rw [key _ rfl] at es2
            rw [es2] at he
            have nx := ih nx A' n3 (by omega) (by omega) (by omega) (ztl_ok hA zk.2.2.2.2 es2) (zz.tr (z3.wk (fun k hk => List.mem_append_right _ hk))) v3 he
            rw [show (300 : Int) - ((f + 1 : Nat) : Int) + 1 = 300 - f by omega]
            exact nx
  have := l 300 0 _ n1 (by omega) (by omega) hL.1 zcl_ok (z1.wk (fun k hk => List.mem_append_right _ hk)) v1 hR.symm
  exact this
end S76
