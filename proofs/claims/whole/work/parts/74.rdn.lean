/-! reading numbers -/
def zrn (c : Int → Int) : Nat → Int → Int → Int → List Int → Option (List Int × Int)
  | 0, _, _, _, _ => none
  | f + 1, at_, g, v, acc =>
    if (48 ≤ c at_ ∧ c at_ ≤ 57) ∧ g < 3 then zrn c f (at_ + 1) (g + 1) (v * 10 + (c at_ - 48)) acc
    else if (¬ c at_ = 44 ∧ ¬ c at_ = 59) ∨ g = 0 ∨ 4 ≤ acc.length then none
    else if c at_ = 59 then some (acc ++ [v], at_ + 1)
    else zrn c f (at_ + 1) 0 0 (acc ++ [v])
def zgv (g v : Int) : Prop := (g = 0 ∧ v = 0) ∨ (g = 1 ∧ 0 ≤ v ∧ v ≤ 9) ∨ (g = 2 ∧ 0 ≤ v ∧ v ≤ 99) ∨ (g = 3 ∧ 0 ≤ v ∧ v ≤ 999)
theorem zgv_s {g v s : Int} (h : zgv g v) (hg : g < 3) (hs : 48 ≤ s ∧ s ≤ 57) : zgv (g + 1) (v * 10 + (s - 48)) := by
  unfold zgv at *
  omega
theorem zgv_b {g v : Int} (h : zgv g v) : 0 ≤ g ∧ g ≤ 3 ∧ 0 ≤ v ∧ v ≤ 999 := by
  unfold zgv at h
  omega
theorem zrn_ok {c : Int → Int} : ∀ (f : Nat) (at_ g v : Int) (acc : List Int), zgv g v → (∀ j, 0 ≤ acc.getD j 0 ∧ acc.getD j 0 ≤ 999) → ∀ l nx, zrn c f at_ g v acc = some (l, nx) → acc.length < l.length ∧ l.length ≤ 4 ∧ at_ < nx ∧ nx ≤ at_ + f ∧ ∀ j, 0 ≤ l.getD j 0 ∧ l.getD j 0 ≤ 999
  | 0, _, _, _, _, _, _, _, _, h => by rw [zrn] at h; cases h
  | f + 1, at_, g, v, acc, hg, ha, l, nx, h => by
    have gb := zgv_b hg
    have app : ∀ j, 0 ≤ (acc ++ [v]).getD j 0 ∧ (acc ++ [v]).getD j 0 ≤ 999 := fun j => by
      by_cases q : j < acc.length
      · have := ha j
        rw [List.getD_eq_getElem?_getD, List.getElem?_append_left q, ← List.getD_eq_getElem?_getD]
        exact this
      · by_cases q2 : j = acc.length
        · subst q2
          simp
          omega
        · rw [List.getD_eq_getElem?_getD, List.getElem?_eq_none (by simp; omega)]
          simp
    rw [zrn] at h
    by_cases c1 : (48 ≤ c at_ ∧ c at_ ≤ 57) ∧ g < 3
    · rw [if_pos c1] at h
      have := zrn_ok f (at_ + 1) (g + 1) _ acc (zgv_s hg c1.2 c1.1) ha l nx h
      refine ⟨this.1, this.2.1, by omega, by omega, this.2.2.2.2⟩
    · rw [if_neg c1] at h
      by_cases c2 : (¬ c at_ = 44 ∧ ¬ c at_ = 59) ∨ g = 0 ∨ 4 ≤ acc.length
      · rw [if_pos c2] at h; cases h
      · rw [if_neg c2] at h
        by_cases c3 : c at_ = 59
        · rw [if_pos c3] at h
          injection h with h
          injection h with h1 h2
          subst h1 h2
          refine ⟨by simp, by simp; omega, by omega, by omega, app⟩
        · rw [if_neg c3] at h
          have := zrn_ok f (at_ + 1) 0 0 (acc ++ [v]) (Or.inl ⟨rfl, rfl⟩) app l nx h
          simp at this
          refine ⟨by omega, this.2.1, by omega, by omega, fun j => by simpa using this.2.2.2.2 j⟩
theorem zbm {x : Int} (h : 0 ≤ x ∧ x < 256) : x.bmod 256 = if x < 128 then x else x - 256 := by
  rw [Int.bmod_def, show ((256 : Nat) : Int) = 256 from rfl]
  split <;> split <;> omega
section S74
variable {K d : Nat} {mu : Mem} {Q : AV → Mem → Prop}
theorem s_readNumbers {from_ L : Int} {c : Int → Int} (hK : 64 ≤ K) (hL : 0 ≤ from_ ∧ from_ ≤ L ∧ L ≤ 300) (hc : ∀ i, 0 ≤ i → i < L → mu 1 i = (c i).bmod 256 ∧ 0 ≤ c i ∧ c i < 256)
    (h0 : zrn c (L - from_).toNat from_ 0 0 [] = none → ∀ nu, zsm [2, 3] mu nu → Q (zI (-4)) nu)
    (h1 : ∀ l nx, zrn c (L - from_).toNat from_ 0 0 [] = some (l, nx) → ∀ nu, zsm [2, 3] mu nu → nu 2 1 = l.length → (∀ j : Nat, j < l.length → nu 3 j = l.getD j 0) → Q (zI nx) nu) : zC K d mX4_readNumbers [zR 2, zR 1, zI from_, zI L] mu Q := by
  have l : ∀ (f : Nat) (at_ g v : Int) (acc : List Int) (nu : Mem), 0 ≤ at_ → at_ + f = L → zgv g v → acc.length ≤ 4 → zsm [2, 3] mu nu → nu 2 1 = acc.length → (∀ j : Nat, j < acc.length → nu 3 j = acc.getD j 0) → zrn c (L - from_).toNat from_ 0 0 [] = zrn c f at_ g v acc → zG K d mX4_readNumbers 14 [zR 2, zR 1, zU, zI L, zI g, zI v, zI at_, zU] [] nu Q := by
    intro f
    induction f with
    | zero =>
      intro at_ g v acc nu a0 a1 hg hl hz hm hj he
      rw [zrn] at he
      exact sg_X4_readNumbers_14 (by omega) hK ⟨⟨by omega, by omega⟩, ⟨by omega, by omega⟩, fun _ => h0 he nu hz, fun w => absurd (by omega) w⟩
    | succ f ih =>
      intro at_ g v acc nu a0 a1 hg hl hz hm hj he
      have gb := zgv_b hg
      have e1 : nu 1 = mu 1 := hz 1 (by decide)
      obtain ⟨cb, cc⟩ := hc at_ a0 (by omega)
      rw [zbm cc] at cb
      have hs : (nu 1 at_ = c at_ ∨ (nu 1 at_ < 0 ∧ 128 ≤ c at_)) ∧ -128 ≤ nu 1 at_ ∧ nu 1 at_ < 128 := by
        rw [e1, cb]
        split
        · exact ⟨Or.inl rfl, by omega, by omega⟩
        · exact ⟨Or.inr (by omega), by omega, by omega⟩
      rw [zrn] at he
      generalize hS : nu 1 at_ = s at hs
      have kN : ¬ ((48 ≤ s ∧ s ≤ 57) ∧ g < 3) → ((¬ s = 44 ∧ ¬ s = 59) ∨ g = 0 ∨ 4 ≤ acc.length) → Q (zI (-4)) nu := fun q1 q2 => by
        rw [if_neg (by omega), if_pos (by omega)] at he
        exact h0 he nu hz
      have wr : ¬ g = 0 → acc.length < 4 → (zsm [2, 3] mu (zup (zup nu 3 (nu 2 1) v) 2 1 (((zup nu 3 (nu 2 1) v) 2 1) + 1)) ∧ (zup (zup nu 3 (nu 2 1) v) 2 1 (((zup nu 3 (nu 2 1) v) 2 1) + 1)) 2 1 = (acc ++ [v]).length ∧ ∀ j : Nat, j < (acc ++ [v]).length → (zup (zup nu 3 (nu 2 1) v) 2 1 (((zup nu 3 (nu 2 1) v) 2 1) + 1)) 3 j = (acc ++ [v]).getD j 0) := fun q1 q2 => by
        refine ⟨(hz.up (by simp)).up (by simp), ?_, fun j hj2 => ?_⟩
        · rw [zup_same, zup_cell _ (by decide), hm]
          simp
        · rw [zup_cell _ (by decide), hm]
          by_cases q : j < acc.length
          · rw [zup_slot _ (by omega), hj j q, List.getD_eq_getElem?_getD, List.getD_eq_getElem?_getD, List.getElem?_append_left q]
          · have : j = acc.length := by simp at hj2; omega
            subst this
            rw [zup_same]
            simp
      have kE : s = 59 → ¬ g = 0 → acc.length < 4 → Q (zI (at_ + 1)) (zup (zup nu 3 (nu 2 1) v) 2 1 (((zup nu 3 (nu 2 1) v) 2 1) + 1)) := fun q1 q2 q3 => by
        rw [if_neg (by omega), if_neg (by omega), if_pos (by omega)] at he
        obtain ⟨w1, w2, w3⟩ := wr q2 q3
        exact h1 _ _ he _ w1 w2 w3
      have kX : s = 44 → ¬ g = 0 → acc.length < 4 → zG K d mX4_readNumbers 14 [zR 2, zR 1, zU, zI L, zI 0, zI 0, zI (at_ + 1), zU] [] (zup (zup nu 3 (nu 2 1) v) 2 1 (((zup nu 3 (nu 2 1) v) 2 1) + 1)) Q := fun q1 q2 q3 => by
        rw [if_neg (by omega), if_neg (by omega), if_neg (by omega)] at he
        obtain ⟨w1, w2, w3⟩ := wr q2 q3
        exact ih (at_ + 1) 0 0 (acc ++ [v]) _ (by omega) (by omega) (Or.inl ⟨rfl, rfl⟩) (by simp; omega) w1 w2 w3 he
      have kD : (48 ≤ s ∧ s ≤ 57) → g < 3 → zG K d mX4_readNumbers 14 [zR 2, zR 1, zU, zI L, zI (g + 1), zI ((v * 10) + (s - 48)), zI (at_ + 1), zU] [] nu Q := fun q1 q2 => by
        have es : s = c at_ := by omega
        rw [if_pos (by omega)] at he
        rw [es]
        exact ih (at_ + 1) (g + 1) _ acc nu (by omega) (by omega) (zgv_s hg q2 (by omega)) hl hz hm hj he
      refine sg_X4_readNumbers_14 (by omega) hK ⟨⟨by omega, by omega⟩, ⟨by omega, by omega⟩, fun w => absurd w (by omega), fun _ => ⟨by omega, by omega, ?_⟩⟩
      rw [hS]
      have tail : ¬ ((48 ≤ s ∧ s ≤ 57) ∧ g < 3) → (s = 44 ∨ s = 59) → (zin g ∧ ((g = 0 → Q (zI (-4)) nu) ∧ (¬ g = 0 → (zin (nu 2 1) ∧ (((nu 2 1) < 4 → (0 ≤ (nu 2 1) ∧ (nu 2 1) < 4 ∧ ((¬ s = 59 → zG K d mX4_readNumbers 14 [zR 2, zR 1, zU, zI L, zI 0, zI 0, zI (at_ + 1), zU] [] (zup (zup nu 3 (nu 2 1) v) 2 1 (((zup nu 3 (nu 2 1) v) 2 1) + 1)) Q) ∧ (s = 59 → Q (zI (at_ + 1)) (zup (zup nu 3 (nu 2 1) v) 2 1 (((zup nu 3 (nu 2 1) v) 2 1) + 1)))))) ∧ (¬ (nu 2 1) < 4 → Q (zI (-4)) nu)))))) := fun q1 q2 =>
        ⟨⟨by omega, by omega⟩, fun q3 => kN q1 (by omega), fun q3 => ⟨⟨by omega, by omega⟩, fun q4 => ⟨by omega, by omega, fun q5 => kX (by omega) q3 (by omega), fun q5 => kE q5 q3 (by omega)⟩, fun q4 => kN q1 (by omega)⟩⟩
      have t4 : ¬ ((48 ≤ s ∧ s ≤ 57) ∧ g < 3) → ((s = 44 → (zin g ∧ ((g = 0 → Q (zI (-4)) nu) ∧ (¬ g = 0 → (zin (nu 2 1) ∧ (((nu 2 1) < 4 → (0 ≤ (nu 2 1) ∧ (nu 2 1) < 4 ∧ ((¬ s = 59 → zG K d mX4_readNumbers 14 [zR 2, zR 1, zU, zI L, zI 0, zI 0, zI (at_ + 1), zU] [] (zup (zup nu 3 (nu 2 1) v) 2 1 (((zup nu 3 (nu 2 1) v) 2 1) + 1)) Q) ∧ (s = 59 → Q (zI (at_ + 1)) (zup (zup nu 3 (nu 2 1) v) 2 1 (((zup nu 3 (nu 2 1) v) 2 1) + 1)))))) ∧ (¬ (nu 2 1) < 4 → Q (zI (-4)) nu))))))) ∧ (¬ s = 44 → ((¬ s = 59 → Q (zI (-4)) nu) ∧ (s = 59 → (zin g ∧ ((g = 0 → Q (zI (-4)) nu) ∧ (¬ g = 0 → (zin (nu 2 1) ∧ (((nu 2 1) < 4 → (0 ≤ (nu 2 1) ∧ (nu 2 1) < 4 ∧ ((¬ s = 59 → zG K d mX4_readNumbers 14 [zR 2, zR 1, zU, zI L, zI 0, zI 0, zI (at_ + 1), zU] [] (zup (zup nu 3 (nu 2 1) v) 2 1 (((zup nu 3 (nu 2 1) v) 2 1) + 1)) Q) ∧ (s = 59 → Q (zI (at_ + 1)) (zup (zup nu 3 (nu 2 1) v) 2 1 (((zup nu 3 (nu 2 1) v) 2 1) + 1)))))) ∧ (¬ (nu 2 1) < 4 → Q (zI (-4)) nu)))))))))) := fun q1 => ⟨fun q2 => tail q1 (Or.inl q2), fun q2 => ⟨fun q3 => kN q1 (by omega), fun q3 => tail q1 (Or.inr q3)⟩⟩
      refine ⟨⟨by omega, by omega⟩, fun w1 => t4 (by omega), fun w1 => ⟨fun w2 => t4 (by omega), fun w2 => ⟨⟨by omega, by omega⟩, fun w3 => ?_, fun w3 => kD (by omega) (by omega)⟩⟩⟩
      have t := t4 (by omega)
      exact ⟨fun q => (t.1 q).2, fun q => ⟨(t.2 q).1, fun q2 => ((t.2 q).2 q2).2⟩⟩
  refine ce_X4_readNumbers (sg_X4_readNumbers_0 (by omega) hK (l (L - from_).toNat from_ 0 0 [] _ (by omega) (by omega) (Or.inl ⟨rfl, rfl⟩) (by simp) (zsm.rf.up (by simp)) (by rw [zup_same]; rfl) (fun j hj => absurd hj (by simp)) rfl))
end S74
