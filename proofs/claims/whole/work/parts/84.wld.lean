/-! the world behind the two constructors; what they leave -/
def zm0 : Mem := fun k j => if k = 0 then (if j = 3 then 4 else if j = 4 then 13 else 0) else if k = 42 then (if j = 2 then -1 else 0) else if k = 46 then (if j = 3 then -1 else 0) else 0
set_option maxRecDepth 100000 in
set_option maxHeartbeats 4000000 in
theorem z8_world {A : Nat → Prop} {s : State} {D : va_G} {cy : Nat → ClassId} {H : Heap} {locs : List Loc} {q q1 q2 q3 q4 q5 q6 q7 q8 q9 q10 q11 q12 q13 q14 q15 q16 q17 q18 q19 q20 q21 q22 q23 q24 q25 q26 q27 q28 q29 q30 q31 q32 q33 q34 q35 q36 q37 q38 q39 q40 q41 q42 q43 q44 q45 q46 q47 q48 q49 q50 q51 q52 q53 q54 q55 q56 q57 q58 q59 q60 q61 q62 q63 : Nat} (St : zSt A s D [(q, .inr (8, [.ref q1, .int 0, .ref q2, .ref q4, .ref q13, .ref q22, .ref q27, .int 0, .ref q38, .ref q42, .ref q46, .ref q51, .ref q56])), (q1, .inl (cy 0, 300, .inl (fun _ => z32 0))), (q2, .inr (4, [.ref q3, .int 0])), (q3, .inl (cy 1, 4, .inl (fun _ => z32 0))), (q4, .inr (2, [.int 0, .int 0, .int 0, .int 0, .int 0, .ref q5, .ref q6, .ref q7, .ref q8, .ref q9, .ref q10, .ref q11, .ref q12, .int 0, .int 0])), (q5, .inl (cy 1, 6, .inl (fun _ => z32 0))), (q6, .inl (cy 1, 10, .inl (fun _ => z32 0))), (q7, .inl (cy 1, 42, .inl (fun _ => z32 0))), (q8, .inl (cy 1, 6, .inl (fun _ => z32 0))), (q9, .inl (cy 1, 6, .inl (fun _ => z32 0))), (q10, .inl (cy 1, 6, .inl (fun _ => z32 0))), (q11, .inl (cy 1, 6, .inl (fun _ => z32 0))), (q12, .inl (cy 1, 6, .inl (fun _ => z32 0))), (q13, .inr (2, [.int 0, .int 0, .int 0, .int 0, .int 0, .ref q14, .ref q15, .ref q16, .ref q17, .ref q18, .ref q19, .ref q20, .ref q21, .int 0, .int 0])), (q14, .inl (cy 1, 6, .inl (fun _ => z32 0))), (q15, .inl (cy 1, 10, .inl (fun _ => z32 0))), (q16, .inl (cy 1, 42, .inl (fun _ => z32 0))), (q17, .inl (cy 1, 6, .inl (fun _ => z32 0))), (q18, .inl (cy 1, 6, .inl (fun _ => z32 0))), (q19, .inl (cy 1, 6, .inl (fun _ => z32 0))), (q20, .inl (cy 1, 6, .inl (fun _ => z32 0))), (q21, .inl (cy 1, 6, .inl (fun _ => z32 0))), (q22, .inr (6, [.ref q23, .ref q24, .ref q25, .ref q26, .int 0])), (q23, .inl (cy 1, 6, .inl (fun _ => z32 0))), (q24, .inl (cy 1, 6, .inl (fun _ => z32 0))), (q25, .inl (cy 1, 6, .inl (fun _ => z32 0))), (q26, .inl (cy 1, 10, .inl (fun _ => z32 0))), (q27, .inl (cy 3, 2, .inr (.inr (.inr (.inr (va_up (va_up (fun _ => none) 0 (some q28)) 1 (some q33))))))), (q28, .inr (6, [.ref q29, .ref q30, .ref q31, .ref q32, .int 0])), (q29, .inl (cy 1, 6, .inl (fun _ => z32 0))), (q30, .inl (cy 1, 6, .inl (fun _ => z32 0))), (q31, .inl (cy 1, 6, .inl (fun _ => z32 0))), (q32, .inl (cy 1, 10, .inl (fun _ => z32 0))), (q33, .inr (6, [.ref q34, .ref q35, .ref q36, .ref q37, .int 0])), (q34, .inl (cy 1, 6, .inl (fun _ => z32 0))), (q35, .inl (cy 1, 6, .inl (fun _ => z32 0))), (q36, .inl (cy 1, 6, .inl (fun _ => z32 0))), (q37, .inl (cy 1, 10, .inl (fun _ => z32 0))), (q38, .inr (3, [.ref q39, .ref q40, .ref q41])), (q39, .inl (cy 1, 10, .inl (fun _ => z32 0))), (q40, .inl (cy 1, 10, .inl (fun _ => z32 0))), (q41, .inl (cy 1, 16, .inl (fun _ => z32 0))), (q42, .inr (1, [.ref q43, .int 0, .int (z32 (-1)), .ref q44, .ref q45])), (q43, .inl (cy 1, 10, .inl (fun _ => z32 0))), (q44, .inl (cy 1, 10, .inl (fun _ => z32 0))), (q45, .inl (cy 1, 7168, .inl (fun _ => z32 0))), (q46, .inr (7, [.ref q47, .ref q48, .int 0, .int (z32 (-1)), .ref q49, .ref q50])), (q47, .inl (cy 1, 12, .inl (fun _ => z32 0))), (q48, .inl (cy 1, 12, .inl (fun _ => z32 0))), (q49, .inl (cy 1, 539, .inl (fun _ => z32 0))), (q50, .inl (cy 1, 7, .inl (fun _ => z32 0))), (q51, .inr (5, [.ref q52, .ref q53, .ref q54, .ref q55])), (q52, .inl (cy 1, 10, .inl (fun _ => z32 0))), (q53, .inl (cy 2, 539, .inr (.inl (fun _ => z64 0)))), (q54, .inl (cy 2, 539, .inr (.inl (fun _ => z64 0)))), (q55, .inl (cy 2, 6, .inr (.inl (fun _ => z64 0)))), (q56, .inr (0, [.int 0, .int 0, .ref q57, .ref q58, .ref q63])), (q57, .inl (cy 1, 6, .inl (fun _ => z32 0))), (q58, .inr (6, [.ref q59, .ref q60, .ref q61, .ref q62, .int 0])), (q59, .inl (cy 1, 6, .inl (fun _ => z32 0))), (q60, .inl (cy 1, 6, .inl (fun _ => z32 0))), (q61, .inl (cy 1, 6, .inl (fun _ => z32 0))), (q62, .inl (cy 1, 10, .inl (fun _ => z32 0))), (q63, .inl (cy 2, 601, .inr (.inl (fun _ => z64 0))))] H locs) : ∃ al : Nat → Nat, al 0 = q ∧ zSt A s D (zwl 64 al cy zm0) H locs := by
  refine ⟨fun k => [q, q1, q2, q3, q4, q5, q6, q7, q8, q9, q10, q11, q12, q13, q14, q15, q16, q17, q18, q19, q20, q21, q22, q23, q24, q25, q26, q27, q28, q29, q30, q31, q32, q33, q34, q35, q36, q37, q38, q39, q40, q41, q42, q43, q44, q45, q46, q47, q48, q49, q50, q51, q52, q53, q54, q55, q56, q57, q58, q59, q60, q61, q62, q63].getD k 0, rfl, ?_⟩
  have ha : va_at D vwCl (q27, .inl (cy 3, 2, .inr (.inr (.inr (.inr (va_up (va_up (fun _ => none) 0 (some q28)) 1 (some q33))))))) H := St.1 27 _ rfl
  have hb : va_at D vwCl (q27, .inl (cy 3, 2, .inr (.inr (.inr (.inr (fun j => some ([q, q1, q2, q3, q4, q5, q6, q7, q8, q9, q10, q11, q12, q13, q14, q15, q16, q17, q18, q19, q20, q21, q22, q23, q24, q25, q26, q27, q28, q29, q30, q31, q32, q33, q34, q35, q36, q37, q38, q39, q40, q41, q42, q43, q44, q45, q46, q47, q48, q49, q50, q51, q52, q53, q54, q55, q56, q57, q58, q59, q60, q61, q62, q63].getD (27 + 1 + 5 * j) 0))))))) H := by
    show H[q27]? = some (vp_cell (cy 3) (2, .inr (.inr (.inr (.inr (fun j => some ([q, q1, q2, q3, q4, q5, q6, q7, q8, q9, q10, q11, q12, q13, q14, q15, q16, q17, q18, q19, q20, q21, q22, q23, q24, q25, q26, q27, q28, q29, q30, q31, q32, q33, q34, q35, q36, q37, q38, q39, q40, q41, q42, q43, q44, q45, q46, q47, q48, q49, q50, q51, q52, q53, q54, q55, q56, q57, q58, q59, q60, q61, q62, q63].getD (27 + 1 + 5 * j) 0)))))))
    have hc : H[q27]? = some (vp_cell (cy 3) (2, .inr (.inr (.inr (.inr (va_up (va_up (fun _ => none) 0 (some q28)) 1 (some q33))))))) := ha
    rw [hc]
    refine congrArg some (zarrq fun j hj => ?_)
    match j, hj with
    | 0, _ => rfl
    | 1, _ => rfl
  have hP := St.1.set St.2.1 (p := 27) rfl hb (fun _ _ => rfl)
  have hD := St.2.1.set (p := 27) (e := .inl (cy 3, 2, .inr (.inr (.inr (.inr (fun j => some ([q, q1, q2, q3, q4, q5, q6, q7, q8, q9, q10, q11, q12, q13, q14, q15, q16, q17, q18, q19, q20, q21, q22, q23, q24, q25, q26, q27, q28, q29, q30, q31, q32, q33, q34, q35, q36, q37, q38, q39, q40, q41, q42, q43, q44, q45, q46, q47, q48, q49, q50, q51, q52, q53, q54, q55, q56, q57, q58, q59, q60, q61, q62, q63].getD (27 + 1 + 5 * j) 0))))))) rfl
  exact ⟨hP, hD, St.2.2⟩
def zt64f (k j : Nat) : Bool := decide (10 ≤ zkd k) || decide (zsl (zkd k) j = -1) || (decide (k = 0) && (decide (j = 3) || decide (j = 4)) && decide (zsl (zkd k) j = -2)) || (decide (zsl (zkd k) j ≠ -1) && decide (zsl (zkd k) j ≠ -2) && decide (k + (zsl (zkd k) j).toNat < 64))
theorem zt64g : ∀ k, k < 64 → ∀ j, j < 15 → zt64f k j = true := by decide +kernel
theorem zt64l : ∀ k, k < 64 → (decide (10 ≤ zkd k) || decide (zln k ≤ 15)) = true := by decide +kernel
theorem zt64 : ∀ k, k < 64 → zkd k < 10 → ∀ j, j < zln k → zsl (zkd k) j = -1 ∨ (k = 0 ∧ (j = 3 ∨ j = 4) ∧ zsl (zkd k) j = -2) ∨ (zsl (zkd k) j ≠ -1 ∧ zsl (zkd k) j ≠ -2 ∧ k + (zsl (zkd k) j).toNat < 64) := by
  intro k hk hd j hj
  have h1 := zt64l k hk
  simp only [Bool.or_eq_true, decide_eq_true_eq] at h1
  have h2 := zt64g k hk j (by omega)
  unfold zt64f at h2
  simp only [Bool.or_eq_true, Bool.and_eq_true, decide_eq_true_eq] at h2
  rcases h2 with ((h | h) | ⟨⟨h, h'⟩, h''⟩) | ⟨⟨h, h'⟩, h''⟩
  · omega
  · exact Or.inl h
  · exact Or.inr (Or.inl ⟨h, h', h''⟩)
  · exact Or.inr (Or.inr ⟨h, h', h''⟩)
theorem zt64b : ∀ k, k < 64 → zkd k < 10 ∨ zkd k = 10 ∨ zkd k = 11 ∨ zkd k = 12 ∨ (zkd k = 13 ∧ k = 27 ∧ zln k = 2) := by decide +kernel
theorem zat_congr {D : va_G} {cy : Nat → ClassId} {H : Heap} {al al' : Nat → Nat} {mu nu : Mem} (hal : ∀ i, i < 64 → al' i = al i) (hmu : ∀ k : Nat, k < 64 → nu (k : Int) = mu (k : Int)) (h3 : mu 0 3 = 4) (h4 : mu 0 4 = 13) (k : Nat) (hk : k < 64) (h : va_at D vwCl (al k, zce al cy mu k) H) : va_at D vwCl (al' k, zce al' cy nu k) H := by
  rw [hal k hk]
  have e2 := hmu k hk
  rcases zt64b k hk with c | c | c | c | ⟨c, ck, cl⟩
  · have ef : (List.range (zln k)).map (zfv al mu (zkd k) k) = (List.range (zln k)).map (zfv al' nu (zkd k) k) := List.map_congr_left fun j hj => by
      have hj : j < zln k := List.mem_range.mp hj
      unfold zfv
      rcases zt64 k hk c j hj with g | ⟨g1, g2, g⟩ | ⟨g1, g2, g3⟩
      · rw [if_pos g, if_pos g, e2]
      · have g' : ¬ zsl (zkd k) j = -1 := by omega
        rw [if_neg g', if_neg g', if_pos g, if_pos g, e2]
        subst g1
        rcases g2 with rfl | rfl
        · rw [show mu ((0 : Nat) : Int) ((3 : Nat) : Int) = 4 from h3, hal _ (by decide)]
        · rw [show mu ((0 : Nat) : Int) ((4 : Nat) : Int) = 13 from h4, hal _ (by decide)]
      · rw [if_neg g1, if_neg g1, if_neg g2, if_neg g2, hal _ g3]
    unfold zce at h ⊢
    rw [if_neg (by omega), if_neg (by omega), if_neg (by omega), if_neg (by omega)] at h ⊢
    rw [← ef]
    exact h
  · unfold zce at h ⊢
    rw [if_pos c] at h ⊢
    rw [e2]
    exact h
  · unfold zce at h ⊢
    rw [if_neg (by omega), if_pos c] at h ⊢
    rw [e2]
    exact h
  · unfold zce at h ⊢
    rw [if_neg (by omega), if_neg (by omega), if_pos c] at h ⊢
    rw [e2]
    exact h
  · unfold zce at h ⊢
    rw [if_neg (by omega), if_neg (by omega), if_neg (by omega), if_pos c] at h ⊢
    have h' : H[al k]? = some (vp_cell (cy 3) (zln k, .inr (.inr (.inr (.inr (fun j => some (al (k + 1 + 5 * j)))))))) := h
    show H[al k]? = some (vp_cell (cy 3) (zln k, .inr (.inr (.inr (.inr (fun j => some (al' (k + 1 + 5 * j))))))))
    rw [h']
    exact congrArg some (zarrq fun j hj => by rw [hal _ (by omega)])
theorem z9_world {A : Nat → Prop} {D : va_G} {cy : Nat → ClassId} {H : Heap} {al al' : Nat → Nat} {mu nu : Mem} {o : Nat × va_E} {xs : va_W} (hP : va_P D vwCl (o :: (zwl 64 al cy mu ++ xs)) H) (hD : va_D A (o :: (zwl 64 al cy mu ++ xs))) (hal : ∀ i, i < 64 → al' i = al i) (hmu : ∀ k : Nat, k < 64 → nu (k : Int) = mu (k : Int)) (h3 : mu 0 3 = 4) (h4 : mu 0 4 = 13) (he : (List.range 29).map (fun k => (al' (64 + k), zce al' cy nu (64 + k))) = o :: xs) : va_P D vwCl (zwl 93 al' cy nu) H ∧ va_D A (zwl 93 al' cy nu) := by
  have hl : (zwl 64 al cy mu).length = 64 := by simp [zwl]
  have key : ∀ (k : Nat) (q : Nat × va_E), (zwl 93 al' cy nu)[k]? = some q → ∃ (k' : Nat) (q' : Nat × va_E), k' = (if k < 64 then k + 1 else if k = 64 then 0 else k) ∧ (o :: (zwl 64 al cy mu ++ xs))[k']? = some q' ∧ q'.1 = q.1 ∧ (va_at D vwCl q' H → va_at D vwCl q H) ∧ k < 93 := by
    intro k q hq
    obtain ⟨hk, rfl⟩ := zwl_at hq
    by_cases h1 : k < 64
    · refine ⟨_, (al k, zce al cy mu k), rfl, ?_, (hal k h1).symm, zat_congr hal hmu h3 h4 k h1, hk⟩
      rw [if_pos h1, List.getElem?_cons_succ, List.getElem?_append_left (by rw [hl]; exact h1), zwl_get h1]
    · have hz : (o :: xs)[k - 64]? = some (al' k, zce al' cy nu k) := by
        rw [← he, List.getElem?_map, List.getElem?_range (by omega)]
        simp only [Option.map_some]
        rw [show 64 + (k - 64) = k by omega]
      refine ⟨_, (al' k, zce al' cy nu k), rfl, ?_, rfl, id, hk⟩
      rw [if_neg h1]
      by_cases h2 : k = 64
      · subst h2
        rw [if_pos rfl]
        exact hz
      · rw [if_neg h2, show k = (k - 1) + 1 by omega, List.getElem?_cons_succ, List.getElem?_append_right (by rw [hl]; omega), hl]
        rw [show k - 64 = (k - 1 - 64) + 1 by omega, List.getElem?_cons_succ] at hz
        rw [show k - 1 + 1 = k by omega]
        exact hz
  refine ⟨fun k q hq => ?_, fun i j a b hi hj hab => ?_, fun k q hq => ?_⟩
  · obtain ⟨k', q', -, h1, -, h2, -⟩ := key k q hq
    exact h2 (hP k' q' h1)
  · obtain ⟨i', a', e1, h1, h2, -, h3⟩ := key i a hi
    obtain ⟨j', b', e2, g1, g2, -, g3⟩ := key j b hj
    have := hD.1 i' j' a' b' h1 g1 (by rw [h2, g2]; exact hab)
    rw [e1, e2] at this
    split at this <;> split at this <;> (try split at this) <;> (try split at this) <;> omega
  · obtain ⟨k', q', -, h1, h2, -, -⟩ := key k q hq
    rw [← h2]
    exact hD.2 k' q' h1
/-- what the class's constructor leaves; what the reference's leaves -/
def jI (nu : Mem) : Prop := (nu 0 1 = 0 ∧ nu 0 3 = 4 ∧ nu 0 4 = 13 ∧ nu 0 7 = 0) ∧ (nu 4 0 = 4 ∧ nu 4 1 = 0 ∧ nu 4 2 = 0 ∧ nu 4 3 = 1 ∧ nu 4 4 = 0) ∧ nu 6 0 = 0 ∧ (∀ i, 0 ≤ i → i < 42 → nu 7 i = if i % 8 = 0 then 9 else 0) ∧ (∀ i, 0 ≤ i → i < 6 → nu 8 i = 1) ∧ nu 22 4 = 0 ∧ nu 42 2 = -1 ∧ nu 46 3 = -1
def jM (mu nu : Mem) : Prop := (∀ k : Int, 0 ≤ k → k < 64 → nu k = mu k) ∧ (nu 64 0 = 0 ∧ nu 64 16 = 0) ∧ (nu 66 0 = 4 ∧ nu 67 0 = 0 ∧ nu 68 0 = 0 ∧ nu 70 0 = 1 ∧ nu 74 0 = 0) ∧ nu 71 0 = 0 ∧ (∀ i, 0 ≤ i → i < 42 → nu 72 i = if i % 8 = 0 then 9 else 0) ∧ (∀ i, 0 ≤ i → i < 6 → nu 73 i = 1) ∧ nu 78 0 = 0
theorem jJ_start {mu nu : Mem} (hI : jI mu) (hM : jM mu nu) : jJ nu 4 := by
  obtain ⟨⟨a1, a2, a3, a4⟩, ⟨b1, b2, b3, b4, b5⟩, c1, d1, e1, f1, g1, g2⟩ := hI
  obtain ⟨h0, ⟨h1, h2⟩, ⟨i1, i2, i3, i4, i5⟩, j1, k1, l1, m1⟩ := hM
  have n0 := h0 0 (by decide) (by decide)
  have n4 := h0 4 (by decide) (by decide)
  have n6 := h0 6 (by decide) (by decide)
  have n7 := h0 7 (by decide) (by decide)
  have n8 := h0 8 (by decide) (by decide)
  have n22 := h0 22 (by decide) (by decide)
  have n42 := h0 42 (by decide) (by decide)
  have n46 := h0 46 (by decide) (by decide)
  refine ⟨⟨by rw [n0, a2], Or.inl ⟨rfl, by rw [n0, a3]⟩⟩, ?_, ?_, ?_, ?_, Or.inl (by rw [n42, g1]), Or.inl (by rw [n46, g2])⟩
  · unfold jPl
    rw [show (4 : Int) + 2 = 6 from rfl, show (4 : Int) + 3 = 7 from rfl, show (4 : Int) + 4 = 8 from rfl, n4, n6, n7, n8, b1, b2, b3, b4, b5, i1, i2, i3, i4, i5]
    refine ⟨⟨rfl, by omega, by omega⟩, ⟨rfl, by omega, by omega⟩, ⟨rfl, by omega, by omega⟩, ⟨rfl, by omega, by omega⟩, ⟨rfl, by omega, by omega⟩, fun i p q => absurd q (by omega), fun i p q => ?_, fun i p q => ?_, fun i p q => ?_, fun i p q => absurd q (by omega)⟩
    · have z : i = 0 := by omega
      subst z
      rw [c1, j1]
      exact ⟨rfl, by omega, by omega⟩
    · rw [d1 i p q, k1 i p q]
      refine ⟨rfl, ?_, ?_⟩ <;> split <;> omega
    · rw [e1 i p q, l1 i p q]
      exact ⟨rfl, by omega, by omega⟩
  · unfold jSt
    rw [n4, b1, b5, n22, f1, m1]
    exact ⟨fun p q w => absurd w (by omega), ⟨rfl, by omega, by omega⟩, fun p q w => absurd w (by omega)⟩
  · unfold jTx
    rw [n0, a1, h1]
    exact ⟨⟨rfl, by omega, by omega⟩, fun p q w => absurd w (by omega)⟩
  · unfold jKp
    rw [n0, a4, h2]
    exact ⟨⟨rfl, by omega, by omega⟩, fun w => absurd w (by omega), fun w => absurd w (by omega)⟩
