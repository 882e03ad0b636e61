/-! what a text tells: the plan as it grows -/
theorem zup_app {A : Mem} {k s v a b : Int} : zup A k s v a b = if a = k ∧ b = s then v else A a b := by
  unfold zup
  rfl
/-- a sign is noted -/
def zhs (A : Mem) (k s : Int) : Mem := if s = 6 then A else zup A k 13 (max (A k 13) s)
theorem zhs_app {A : Mem} {k s a b : Int} : zhs A k s a b = if a = k ∧ b = 13 ∧ ¬ s = 6 then max (A k 13) s else A a b := by
  unfold zhs
  by_cases h : s = 6
  · rw [if_pos h, if_neg (fun q => q.2.2 h)]
  · rw [if_neg h, zup_app]
    by_cases q : a = k ∧ b = 13
    · rw [if_pos q, if_pos ⟨q.1, q.2, h⟩]
    · rw [if_neg q, if_neg (fun w => q ⟨w.1, w.2.1⟩)]
def ztl (A : Mem) (x : Int) (l : List Int) : Option Mem :=
  if x = 116 then (if l.length = 1 ∧ 2 ≤ l.getD 0 0 ∧ l.getD 0 0 ≤ 6 then some (zup A 0 0 (l.getD 0 0)) else none)
  else if x = 109 then (if l.length = 1 ∧ l.getD 0 0 ≤ 3 then some (zup A 0 1 (l.getD 0 0)) else none)
  else if x = 98 then (if l.length = 1 ∧ l.getD 0 0 ≤ 5 ∧ A 0 2 < 6 then some (zup (zup (zup A 0 13 (max (A 0 13) (l.getD 0 0))) 1 (A 0 2) (l.getD 0 0)) 0 2 (A 0 2 + 1)) else none)
  else if x = 113 then (if l.length = 1 ∧ l.getD 0 0 ≤ 5 ∧ A 0 3 < 10 then some (zup (zup (zup A 0 13 (max (A 0 13) (l.getD 0 0))) 2 (A 0 3) (l.getD 0 0)) 0 3 (A 0 3 + 1)) else none)
  else if x = 118 then (if l.length = 3 ∧ l.getD 0 0 ≤ 5 ∧ l.getD 1 0 ≤ 6 ∧ l.getD 2 0 ≤ 9 then some (zup (zhs (zup A 0 13 (max (A 0 13) (l.getD 0 0))) 0 (l.getD 1 0)) 3 (l.getD 0 0 * 7 + l.getD 1 0) (l.getD 2 0)) else none)
  else if x = 99 then (if l.length = 2 ∧ l.getD 0 0 ≤ 5 ∧ l.getD 1 0 ≤ 9 then some (zup (zup A 0 13 (max (A 0 13) (l.getD 0 0))) 4 (l.getD 0 0) (l.getD 1 0)) else none)
  else if x = 112 then (if l.length = 4 ∧ l.getD 0 0 ≤ 5 ∧ A 0 4 < 6 ∧ l.getD 1 0 ≤ 6 ∧ l.getD 2 0 ≤ 6 ∧ l.getD 3 0 ≤ 6 then some (zup (zup (zup (zup (zup (zup (zhs (zhs (zhs A 0 (l.getD 1 0)) 0 (l.getD 2 0)) 0 (l.getD 3 0)) 5 (A 0 4) (l.getD 0 0)) 6 (A 0 4) (l.getD 1 0)) 7 (A 0 4) (l.getD 2 0)) 8 (A 0 4) (l.getD 3 0)) 0 4 (A 0 4 + 1)) 0 14 (max (A 0 14) (l.getD 0 0))) else none)
  else none
def zs6 (h x : Int) : Prop := (0 ≤ x ∧ x ≤ h) ∨ x = 6
def zAok (A : Mem) : Prop := (2 ≤ A 0 0 ∧ A 0 0 ≤ 6) ∧ (0 ≤ A 0 1 ∧ A 0 1 ≤ 3) ∧ (0 ≤ A 0 2 ∧ A 0 2 ≤ 6) ∧ (0 ≤ A 0 3 ∧ A 0 3 ≤ 10) ∧ (0 ≤ A 0 4 ∧ A 0 4 ≤ 6) ∧ (-1 ≤ A 0 13 ∧ A 0 13 ≤ 5) ∧ (-1 ≤ A 0 14 ∧ A 0 14 ≤ 5) ∧ (∀ i, 0 ≤ i → i < A 0 2 → 0 ≤ A 1 i ∧ A 1 i ≤ A 0 13) ∧ (∀ i, 0 ≤ i → i < A 0 3 → 0 ≤ A 2 i ∧ A 2 i ≤ A 0 13) ∧ (∀ i, 0 ≤ i → i < 42 → 0 ≤ A 3 i ∧ A 3 i ≤ 9) ∧ (∀ i, 0 ≤ i → i < 6 → 0 ≤ A 4 i ∧ A 4 i ≤ 9) ∧ (∀ i, 0 ≤ i → i < A 0 4 → (0 ≤ A 5 i ∧ A 5 i ≤ A 0 14) ∧ zs6 (A 0 13) (A 6 i) ∧ zs6 (A 0 13) (A 7 i) ∧ zs6 (A 0 13) (A 8 i))
theorem ztl_ok {A A' : Mem} {x : Int} {l : List Int} (h : zAok A) (hl : ∀ j, 0 ≤ l.getD j 0 ∧ l.getD j 0 ≤ 999) (ht : ztl A x l = some A') : zAok A' := by
  have l0 := hl 0
  have l1 := hl 1
  have l2 := hl 2
  have l3 := hl 3
  unfold ztl at ht
  obtain ⟨a1, a2, a3, a4, a5, a6, a7, a8, a9, a10, a11, a12⟩ := h
  generalize l.getD 0 0 = p at *
  generalize l.getD 1 0 = q at *
  generalize l.getD 2 0 = r at *
  generalize l.getD 3 0 = s at *
  split at ht
  · split at ht
    · rename_i c
      injection ht with ht
      subst ht
      unfold zAok
      simp only [zup_app, Int.reduceEq, and_false, false_and, and_self, if_true, if_false, reduceIte]
      exact ⟨by omega, a2, a3, a4, a5, a6, a7, a8, a9, a10, a11, a12⟩
    · cases ht
  split at ht
  · split at ht
    · rename_i c
      injection ht with ht
      subst ht
      unfold zAok
      simp only [zup_app, Int.reduceEq, and_false, false_and, and_self, if_true, if_false, reduceIte]
      exact ⟨a1, by omega, a3, a4, a5, a6, a7, a8, a9, a10, a11, a12⟩
    · cases ht
  split at ht
  · split at ht
    · rename_i c
      injection ht with ht
      subst ht
      unfold zAok
      simp only [zup_app, Int.reduceEq, and_false, false_and, true_and, and_self, if_true, if_false, reduceIte]
      refine ⟨a1, a2, by omega, a4, a5, by omega, a7, fun i i0 i1 => ?_, fun i i0 i1 => ?_, a10, a11, fun i i0 i1 => ?_⟩
      · by_cases e : i = A 0 2
        · rw [if_pos e]; omega
        · rw [if_neg e]
          have := a8 i i0 (by omega)
          omega
      · have := a9 i i0 i1
        omega
      · have := a12 i i0 i1
        unfold zs6 at *
        omega
    · cases ht
  split at ht
  · split at ht
    · rename_i c
      injection ht with ht
      subst ht
      unfold zAok
      simp only [zup_app, Int.reduceEq, and_false, false_and, true_and, and_self, if_true, if_false, reduceIte]
      refine ⟨a1, a2, a3, by omega, a5, by omega, a7, fun i i0 i1 => ?_, fun i i0 i1 => ?_, a10, a11, fun i i0 i1 => ?_⟩
      · have := a8 i i0 i1
        omega
      · by_cases e : i = A 0 3
        · rw [if_pos e]; omega
        · rw [if_neg e]
          have := a9 i i0 (by omega)
          omega
      · have := a12 i i0 i1
        unfold zs6 at *
        omega
    · cases ht
  split at ht
  · split at ht
    · rename_i c
      injection ht with ht
      subst ht
      unfold zAok
      simp only [zup_app, zhs_app, Int.reduceEq, and_false, false_and, true_and, and_self, if_true, if_false, reduceIte]
      have hm : A 0 13 ≤ (if ¬ q = 6 then max (max (A 0 13) p) q else max (A 0 13) p) ∧ (if ¬ q = 6 then max (max (A 0 13) p) q else max (A 0 13) p) ≤ 5 := by
        split <;> omega
      generalize (if ¬ q = 6 then max (max (A 0 13) p) q else max (A 0 13) p) = M at hm ⊢
      refine ⟨a1, a2, a3, a4, a5, by omega, a7, fun i i0 i1 => ?_, fun i i0 i1 => ?_, fun i i0 i1 => ?_, a11, fun i i0 i1 => ?_⟩
      · have := a8 i i0 i1
        omega
      · have := a9 i i0 i1
        omega
      · have := a10 i i0 i1
        split <;> omega
      · have := a12 i i0 i1
        unfold zs6 at *
        omega
    · cases ht
  split at ht
  · split at ht
    · rename_i c
      injection ht with ht
      subst ht
      unfold zAok
      simp only [zup_app, zhs_app, Int.reduceEq, and_false, false_and, true_and, and_self, if_true, if_false, reduceIte]
      refine ⟨a1, a2, a3, a4, a5, by omega, a7, fun i i0 i1 => ?_, fun i i0 i1 => ?_, a10, fun i i0 i1 => ?_, fun i i0 i1 => ?_⟩
      · have := a8 i i0 i1
        omega
      · have := a9 i i0 i1
        omega
      · have := a11 i i0 i1
        split <;> omega
      · have := a12 i i0 i1
        unfold zs6 at *
        omega
    · cases ht
  split at ht
  · split at ht
    · rename_i c
      injection ht with ht
      subst ht
      unfold zAok
      simp only [zup_app, zhs_app, Int.reduceEq, and_false, false_and, true_and, and_self, if_true, if_false, reduceIte]
      have hm : ∃ M, M = (if ¬ s = 6 then max (if ¬ r = 6 then max (if ¬ q = 6 then max (A 0 13) q else A 0 13) r else (if ¬ q = 6 then max (A 0 13) q else A 0 13)) s else (if ¬ r = 6 then max (if ¬ q = 6 then max (A 0 13) q else A 0 13) r else (if ¬ q = 6 then max (A 0 13) q else A 0 13))) ∧ A 0 13 ≤ M ∧ M ≤ 5 ∧ (q = 6 ∨ q ≤ M) ∧ (r = 6 ∨ r ≤ M) ∧ (s = 6 ∨ s ≤ M) := ⟨_, rfl, by split <;> split <;> split <;> omega, by split <;> split <;> split <;> omega, by split <;> split <;> split <;> omega, by split <;> split <;> split <;> omega, by split <;> split <;> split <;> omega⟩
      obtain ⟨M, m0, m1, m2, m3, m4, m5⟩ := hm
      rw [← m0]
      refine ⟨a1, a2, a3, a4, by omega, by omega, by omega, fun i i0 i1 => ?_, fun i i0 i1 => ?_, a10, a11, fun i i0 i1 => ?_⟩
      · have := a8 i i0 i1
        omega
      · have := a9 i i0 i1
        omega
      · by_cases e : i = A 0 4
        · simp only [if_pos e]
          unfold zs6
          omega
        · simp only [if_neg e]
          have := a12 i i0 (by omega)
          unfold zs6 at *
          omega
    · cases ht
  cases ht
/-- the whole text: what is answered, the plan -/
def zgo (c : Int → Int) (L : Int) : Nat → Int → Mem → Int × Mem
  | 0, _, A => (-4, A)
  | f + 1, at_, A => if L ≤ at_ then (-4, A) else match zrn c (L - (at_ + 1)).toNat (at_ + 1) 0 0 [] with
    | none => (at_, A)
    | some (l, nx) => match ztl A (c at_) l with
      | none => (at_, A)
      | some A' => zgo c L f nx A'
/-- the plan that tells nothing, over old rows -/
def zcl (B : Mem) : Mem := fun k j => if k = 0 then (if j = 0 then 4 else if j = 1 ∨ j = 2 ∨ j = 3 ∨ j = 4 then 0 else if j = 13 ∨ j = 14 then -1 else B 0 j) else if k = 3 then (if 0 ≤ j ∧ j < 42 then (if j % 8 = 0 then 9 else 0) else B 3 j) else if k = 4 then (if 0 ≤ j ∧ j < 6 then 1 else B 4 j) else B k j
theorem zcl_ok {B : Mem} : zAok (zcl B) := by
  unfold zAok zcl
  simp only [Int.reduceEq, if_true, if_false, reduceIte, or_false, false_or, or_self, or_true, true_or]
  refine ⟨by omega, by omega, by omega, by omega, by omega, by omega, by omega, fun i i0 i1 => absurd i1 (by omega), fun i i0 i1 => absurd i1 (by omega), fun i i0 i1 => ?_, fun i i0 i1 => ?_, fun i i0 i1 => absurd i1 (by omega)⟩
  · rw [if_pos ⟨i0, i1⟩]
    split <;> omega
  · rw [if_pos ⟨i0, i1⟩]
    omega
theorem zgo_ok {c : Int → Int} {L : Int} : ∀ (f : Nat) (at_ : Int) (A : Mem), zAok A → zAok (zgo c L f at_ A).2
  | 0, _, _, h => h
  | f + 1, at_, A, h => by
    rw [zgo]
    split
    · exact h
    · split
      · exact h
      · rename_i l nx e
        have zk := zrn_ok _ _ _ _ _ (Or.inl ⟨rfl, rfl⟩) (fun j => by simp) _ _ e
        split
        · exact h
        · rename_i A' e2
          exact zgo_ok f nx A' (ztl_ok h zk.2.2.2.2 e2)
