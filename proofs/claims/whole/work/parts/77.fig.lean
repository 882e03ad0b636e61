/-! the reference reads numbers -/
def zfF (mu nu : Mem) : Prop := (∀ k : Int, k ≠ 64 → k ≠ 80 → nu k = mu k) ∧ ∀ j : Int, j ≠ 17 → nu 64 j = mu 64 j
theorem zfF.rf {mu : Mem} : zfF mu mu := ⟨fun _ _ _ => rfl, fun _ _ => rfl⟩
theorem zfF.pl {mu nu : Mem} {v : Int} (h : zfF mu nu) : zfF mu (zup nu 64 17 v) := ⟨fun k q1 q2 => by rw [zup_row _ q1]; exact h.1 k q1 q2, fun j q => by rw [zup_slot _ q]; exact h.2 j q⟩
theorem zfF.to {mu nu : Mem} {j v : Int} (h : zfF mu nu) : zfF mu (zup nu 80 j v) := ⟨fun k q1 q2 => by rw [zup_row _ q2]; exact h.1 k q1 q2, fun i q => by rw [zup_cell _ (by decide)]; exact h.2 i q⟩
section S77
variable {K d : Nat} {mu : Mem} {Q : AV → Mem → Prop}
theorem m_byteAt {k : Int} (hK : 93 ≤ K) (hk : 0 ≤ k ∧ k ≤ 1000) (hL : 0 ≤ mu 64 0 ∧ mu 64 0 ≤ 300) (h : Q (zI (if k < mu 64 0 then mu 65 k else 0)) mu) : zC K d mX9_byteAt [zR 64, zI k] mu Q := by
  refine ce_X9_byteAt (sg_X9_byteAt_0 (by omega) hK ⟨⟨by omega, by omega⟩, ⟨by omega, by omega⟩, fun q => ?_, fun q => ⟨by omega, by omega, ?_⟩⟩)
  · rwa [if_neg (by omega)] at h
  · rwa [if_pos (by omega)] at h
theorem m_meet {x : Int} (hK : 93 ≤ K) (hx : 0 ≤ x ∧ x ≤ 999) (h19 : 0 ≤ mu 64 19 ∧ mu 64 19 ≤ 999) (h : Q zV (zup mu 64 19 (if x = 6 then mu 64 19 else max (mu 64 19) x))) (h6 : x ≤ 6) : zC K d mX9_meet [zR 64, zI x] mu Q := by
  refine ce_X9_meet (sg_X9_meet_0 (by omega) hK ⟨⟨by omega, by omega⟩, fun q => ?_, fun q => ⟨⟨by omega, by omega⟩, fun q2 => ?_, fun q2 => ?_⟩⟩)
  · rwa [if_pos (by omega)] at h
  · rwa [if_neg (by omega), Int.max_eq_left q2] at h
  · rwa [if_neg (by omega), Int.max_eq_right (by omega)] at h
theorem m_figures {k p L : Int} {c : Int → Int} (hd : 1 ≤ d) (hK : 93 ≤ K) (hk : 1 ≤ k ∧ k ≤ 4) (hL : 0 ≤ L ∧ L ≤ 300) (hp : 0 ≤ p ∧ p ≤ L) (eL : mu 64 0 = L) (ep : mu 64 17 = p) (ec : mu 65 = c) (hc : ∀ i, 0 ≤ i → i < L → 0 ≤ c i ∧ c i < 256)
    (h0 : (∀ l nx, zrn c (L - p).toNat p 0 0 [] = some (l, nx) → ¬ (l.length : Int) = k) → ∀ nu, zfF mu nu → Q (zI 0) nu)
    (h1 : ∀ l nx, zrn c (L - p).toNat p 0 0 [] = some (l, nx) → (l.length : Int) = k → ∀ nu, zfF mu nu → nu 64 17 = nx → (∀ j : Nat, (j : Int) < k → nu 80 j = l.getD j 0) → Q (zI 1) nu) : zC K d mX9_figures [zR 64, zI k] mu Q := by
  generalize hR : zrn c (L - p).toNat p 0 0 [] = R at h0 h1
  have bt : ∀ (nu : Mem) (q : Int) (d : Nat) (Q' : AV → Mem → Prop), zfF mu nu → 0 ≤ q → q ≤ L + 1 → Q' (zI (if q < L then c q else 0)) nu → zC K d mX9_byteAt [zR 64, zI q] nu Q' := fun nu q d Q' hz q0 q1 hq => by
    have e0 : nu 64 0 = L := by rw [hz.2 0 (by decide), eL]
    refine m_byteAt hK ⟨q0, by omega⟩ (by rw [e0]; exact hL) ?_
    rw [e0, hz.1 65 (by decide) (by decide), ec]
    exact hq
  have cb : ∀ q : Int, 0 ≤ q → 0 ≤ (if q < L then c q else 0) ∧ (if q < L then c q else 0) < 256 := fun q q0 => by
    split
    · exact hc q q0 (by assumption)
    · omega
  have l4 : ∀ (j v q : Int) (nu : Mem), R = none → zfF mu nu → nu 64 17 = q → 0 ≤ q → q ≤ L + 1 → zG K d mX9_figures 12 [zR 64, zI k, zI j, zI 4, zI v] [] nu Q := fun j v q nu hn hz hq q0 q1 => by
    have b := cb q q0
    refine sg_X9_figures_12 hd hK ?_
    rw [hq]
    refine bt nu q 0 _ hz q0 q1 ⟨_, rfl, ⟨by omega, by omega⟩, s_in hK ⟨by omega, by omega⟩ ⟨by omega, by omega⟩ ⟨by omega, by omega⟩ ⟨_, rfl, zbin _, fun _ => ⟨⟨by omega, by omega⟩, s_in hK ⟨by omega, by omega⟩ ⟨by omega, by omega⟩ ⟨by omega, by omega⟩ ⟨_, rfl, zbin _, fun _ => h0 (fun l nx w => by rw [hn] at w; cases w) nu hz, fun w => by exfalso; split at w <;> omega⟩⟩, fun _ => ⟨⟨by omega, by omega⟩, fun _ => s_in hK ⟨by omega, by omega⟩ ⟨by omega, by omega⟩ ⟨by omega, by omega⟩ ⟨_, rfl, zbin _, fun _ => h0 (fun l nx w => by rw [hn] at w; cases w) nu hz, fun w => by exfalso; split at w <;> omega⟩, fun w => absurd (by omega) w⟩⟩⟩
  have l : ∀ (f : Nat) (q g v : Int) (acc : List Int) (nu : Mem), q + f = L → 0 ≤ q → zgv g v → (acc.length : Int) < k → (∀ j, 0 ≤ acc.getD j 0 ∧ acc.getD j 0 ≤ 999) → zfF mu nu → nu 64 17 = q → (∀ j : Nat, j < acc.length → nu 80 j = acc.getD j 0) → R = zrn c f q g v acc → zG K d mX9_figures 12 [zR 64, zI k, zI acc.length, zI g, zI v] [] nu Q := by
    intro f
    induction f with
    | zero =>
      intro q g v acc nu hf q0 hg hl hacc hz hq hj he
      have gb := zgv_b hg
      rw [zrn] at he
      refine sg_X9_figures_12 hd hK ?_
      rw [hq]
      refine bt nu q 0 _ hz q0 (by omega) ⟨_, rfl, ?_⟩
      rw [if_neg (by omega)]
      have no : Q (zI 0) nu := h0 (fun l nx w => by rw [he] at w; cases w) nu hz
      refine ⟨⟨by omega, by omega⟩, s_in hK ⟨by omega, by omega⟩ ⟨by omega, by omega⟩ ⟨by omega, by omega⟩ ⟨_, rfl, zbin _, fun _ => ⟨⟨by omega, by omega⟩, s_in hK ⟨by omega, by omega⟩ ⟨by omega, by omega⟩ ⟨by omega, by omega⟩ ⟨_, rfl, zbin _, fun _ => no, fun _ => ?_⟩⟩, fun w => by exfalso; split at w <;> omega⟩⟩
      rw [hq]
      refine bt nu q 0 _ hz q0 (by omega) ⟨_, rfl, ?_⟩
      rw [if_neg (by omega)]
      exact ⟨⟨by omega, by omega⟩, ⟨by omega, by omega⟩, fun _ => ⟨⟨by omega, by omega⟩, fun w => absurd w (by omega), fun _ => no⟩, fun _ => ⟨⟨by omega, by omega⟩, fun w => absurd w (by omega), fun _ => no⟩⟩
    | succ f ih =>
      intro q g v acc nu hf q0 hg hl hacc hz hq hj he
      have gb := zgv_b hg
      have cc := hc q q0 (by omega)
      rw [zrn] at he
      refine sg_X9_figures_12 hd hK ?_
      rw [hq]
      refine bt nu q 0 _ hz q0 (by omega) ⟨_, rfl, ?_⟩
      rw [if_pos (by omega)]
      refine ⟨⟨by omega, by omega⟩, s_in hK ⟨by omega, by omega⟩ ⟨by omega, by omega⟩ ⟨by omega, by omega⟩ ⟨_, rfl, zbin _, fun w => ⟨⟨by omega, by omega⟩, s_in hK ⟨by omega, by omega⟩ ⟨by omega, by omega⟩ ⟨by omega, by omega⟩ ⟨_, rfl, zbin _, fun w2 => ?_, fun w2 => ?_⟩⟩, fun w => ⟨⟨by omega, by omega⟩, fun w2 => absurd w2 (by omega), fun _ => ?_⟩⟩⟩
      · -- no figure at all
        have nd : ¬ (48 ≤ c q ∧ c q ≤ 57) := by split at w <;> omega
        have g0 : g = 0 := by split at w2 <;> omega
        rw [if_neg (fun z => nd z.1), if_pos (Or.inr (Or.inl g0))] at he
        exact h0 (fun l nx w => by rw [he] at w; cases w) nu hz
      · have nd : ¬ (48 ≤ c q ∧ c q ≤ 57) := by split at w <;> omega
        have g0 : ¬ g = 0 := by split at w2 <;> omega
        rw [if_neg (fun z => nd z.1)] at he
        rw [hq]
        refine bt nu q 0 _ hz q0 (by omega) ⟨_, rfl, ?_⟩
        rw [if_pos (by omega)]
        have app : ∀ j, 0 ≤ (acc ++ [v]).getD j 0 ∧ (acc ++ [v]).getD j 0 ≤ 999 := fun j => by
          by_cases z : j < acc.length
          · have := hacc j
            rw [List.getD_eq_getElem?_getD, List.getElem?_append_left z, ← List.getD_eq_getElem?_getD]
            exact this
          · by_cases z2 : j = acc.length
            · subst z2
              simp
              omega
            · rw [List.getD_eq_getElem?_getD, List.getElem?_eq_none (by simp; omega)]
              simp
        have la : ((acc ++ [v]).length : Int) = acc.length + 1 := by simp
        have told : ∀ j : Nat, j < (acc ++ [v]).length → (zup (zup nu 80 acc.length v) 64 17 (((zup nu 80 acc.length v) 64 17) + 1)) 80 j = (acc ++ [v]).getD j 0 := fun j hj2 => by
          rw [zup_cell _ (by decide)]
          by_cases z : j < acc.length
          · rw [zup_slot _ (by omega), hj j z, List.getD_eq_getElem?_getD, List.getD_eq_getElem?_getD, List.getElem?_append_left z]
          · have : j = acc.length := by simp at hj2; omega
            subst this
            rw [zup_same]
            simp
        have zz : zfF mu (zup (zup nu 80 acc.length v) 64 17 (((zup nu 80 acc.length v) 64 17) + 1)) := hz.to.pl
        have pz : (zup (zup nu 80 acc.length v) 64 17 (((zup nu 80 acc.length v) 64 17) + 1)) 64 17 = q + 1 := by rw [zup_same, zup_cell _ (by decide), hq]
        refine ⟨⟨by omega, by omega⟩, ⟨by omega, by omega⟩, fun w3 => ⟨⟨by omega, by omega⟩, fun w4 => ⟨by omega, by omega, ?_⟩, fun w4 => ?_⟩, fun w3 => ⟨⟨by omega, by omega⟩, fun w4 => ⟨by omega, by omega, ?_⟩, fun w4 => ?_⟩⟩
        · -- the last, with its semicolon
          rw [if_neg (by omega), if_pos w4] at he
          refine sg_X9_figures_2 hd hK ⟨⟨by omega, by omega⟩, ⟨by omega, by omega⟩, fun _ => h1 _ _ he (by omega) _ zz pz (fun j hj2 => told j (by omega)), fun z => absurd (by omega) z⟩
        · by_cases z : c q = 44
          · rw [if_neg (by omega), if_neg w4] at he
            refine h0 (fun l nx u => ?_) nu hz
            rw [he] at u
            have := zrn_ok _ _ _ _ _ (Or.inl ⟨rfl, rfl⟩) app _ _ u
            omega
          · rw [if_pos (Or.inl ⟨z, w4⟩)] at he
            exact h0 (fun l nx u => by rw [he] at u; cases u) nu hz
        · rw [if_neg (by omega), if_neg (by omega)] at he
          refine sg_X9_figures_2 hd hK ⟨⟨by omega, by omega⟩, ⟨by omega, by omega⟩, fun z => absurd z (by omega), fun _ => ?_⟩
          rw [← la]
          exact ih (q + 1) 0 0 (acc ++ [v]) _ (by omega) (by omega) (Or.inl ⟨rfl, rfl⟩) (by omega) app zz pz told he
        · by_cases z : c q = 59
          · rw [if_neg (by omega), if_pos z] at he
            refine h0 (fun l nx u => ?_) nu hz
            rw [he] at u
            injection u with u
            injection u with u1 u2
            rw [← u1, la]
            omega
          · rw [if_pos (Or.inl ⟨w4, z⟩)] at he
            exact h0 (fun l nx u => by rw [he] at u; cases u) nu hz
      · -- a figure
        have nd : 48 ≤ c q ∧ c q ≤ 57 := by split at w <;> omega
        rw [hq]
        refine bt nu q 0 _ hz q0 (by omega) ⟨_, rfl, ?_⟩
        rw [if_pos (by omega), show (10 * v + c q) - 48 = v * 10 + (c q - 48) by omega, hq]
        by_cases g3 : g < 3
        · rw [if_pos ⟨nd, g3⟩] at he
          exact ih (q + 1) (g + 1) _ acc _ (by omega) (by omega) (zgv_s hg g3 nd) hl hacc hz.pl (by rw [zup_same]) (fun j hj2 => by rw [zup_cell _ (by decide)]; exact hj j hj2) he
        · rw [if_neg (fun z => g3 z.2), if_pos (Or.inl (by omega))] at he
          have : g + 1 = 4 := by omega
          rw [this]
          exact l4 _ _ (q + 1) _ he hz.pl (by rw [zup_same]) (by omega) (by omega)
  refine ce_X9_figures (sg_X9_figures_0 hd hK (sg_X9_figures_2 hd hK ⟨⟨by omega, by omega⟩, ⟨by omega, by omega⟩, fun z => absurd z (by omega), fun _ => ?_⟩))
  have := l (L - p).toNat p 0 0 [] mu (by omega) hp.1 (Or.inl ⟨rfl, rfl⟩) (by simp; omega) (fun j => by simp) zfF.rf ep (fun j hj => absurd hj (by simp)) hR.symm
  exact this
end S77
