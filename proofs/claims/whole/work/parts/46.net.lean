/-! nets: a round -/
def zsum (f : Int → Int) : Nat → Int
  | 0 => 0
  | n + 1 => zsum f n + f n
theorem zsum_congr {f g : Int → Int} : ∀ (n : Nat), (∀ i : Int, 0 ≤ i → i < n → f i = g i) → zsum f n = zsum g n
  | 0, _ => rfl
  | n + 1, h => by
    unfold zsum
    rw [zsum_congr n (fun i h0 h1 => h i h0 (by omega)), h n (by omega) (by omega)]
theorem zsum_01 {f : Int → Int} (hf : ∀ i, 0 ≤ f i ∧ f i ≤ 1) : ∀ n : Nat, 0 ≤ zsum f n ∧ zsum f n ≤ n
  | 0 => ⟨by simp [zsum], by simp [zsum]⟩
  | n + 1 => by
    have h1 := zsum_01 hf n
    have h2 := hf n
    unfold zsum
    constructor <;> omega
def z3 (a b c : Int) : Int := if c < 6 ∧ (c = a ∨ c = b) then c else if a < 6 ∧ a = b then a else 6
theorem z3_maj {a b c : Int} (ha : a ≤ 6) (hb : b ≤ 6) (hc : c ≤ 6) : z3 a b c = zmaj a b c := by
  unfold z3 zmaj
  repeat' split
  all_goals omega
theorem zmaj_bd {a b c : Int} (ha : 0 ≤ a ∧ a ≤ 6) (hb : 0 ≤ b ∧ b ≤ 6) (hc : 0 ≤ c ∧ c ≤ 6) : 0 ≤ zmaj a b c ∧ zmaj a b c ≤ 6 := by
  unfold zmaj
  repeat' split
  all_goals omega
/-- a round of a net: s holds last but one, last, gift of each post; f who feeds it -/
def zrd (f s : Int → Int) : Int → Int := fun i => if i % 3 = 0 then s (i + 1) else if i % 3 = 1 then s (3 * f (i / 3) + 2) else zmaj (s (i - 2)) (s (i - 1)) (s (3 * f (i / 3) + 2))
theorem zrd_0 {f s : Int → Int} {p : Int} : zrd f s (3 * p) = s (3 * p + 1) := by
  unfold zrd
  rw [if_pos (by omega)]
theorem zrd_1 {f s : Int → Int} {p : Int} : zrd f s (3 * p + 1) = s (3 * f p + 2) := by
  unfold zrd
  rw [if_neg (by omega), if_pos (by omega), show (3 * p + 1) / 3 = p by omega]
theorem zrd_2 {f s : Int → Int} {p : Int} : zrd f s (3 * p + 2) = zmaj (s (3 * p)) (s (3 * p + 1)) (s (3 * f p + 2)) := by
  unfold zrd
  rw [if_neg (by omega), if_neg (by omega), show (3 * p + 2) / 3 = p by omega, show 3 * p + 2 - 2 = 3 * p by omega, show 3 * p + 2 - 1 = 3 * p + 1 by omega]
/-- the standing at S as such a row -/
def zfl (mu : Mem) (S : Int) : Int → Int := fun i => mu (S + 1 + i % 3) (i / 3)
theorem zfl_0 {mu : Mem} {S p : Int} : zfl mu S (3 * p) = mu (S + 1) p := by
  unfold zfl
  rw [show (3 * p) % 3 = 0 by omega, show (3 * p) / 3 = p by omega, show S + 1 + 0 = S + 1 by omega]
theorem zfl_1 {mu : Mem} {S p : Int} : zfl mu S (3 * p + 1) = mu (S + 2) p := by
  unfold zfl
  rw [show (3 * p + 1) % 3 = 1 by omega, show (3 * p + 1) / 3 = p by omega, show S + 1 + 1 = S + 2 by omega]
theorem zfl_2 {mu : Mem} {S p : Int} : zfl mu S (3 * p + 2) = mu (S + 3) p := by
  unfold zfl
  rw [show (3 * p + 2) % 3 = 2 by omega, show (3 * p + 2) / 3 = p by omega, show S + 1 + 2 = S + 3 by omega]
/-- by posts: what holds of the three rows holds of the row -/
theorem z3i {m : Int} {C : Int → Prop} (h : ∀ p, 0 ≤ p → p < m → C (3 * p) ∧ C (3 * p + 1) ∧ C (3 * p + 2)) : ∀ i, 0 ≤ i → i < 3 * m → C i := by
  intro i h0 h1
  have h2 := h (i / 3) (by omega) (by omega)
  have h3 : i % 3 = 0 ∨ i % 3 = 1 ∨ i % 3 = 2 := by omega
  rcases h3 with h3 | h3 | h3
  · rw [show i = 3 * (i / 3) by omega]; exact h2.1
  · rw [show i = 3 * (i / 3) + 1 by omega]; exact h2.2.1
  · rw [show i = 3 * (i / 3) + 2 by omega]; exact h2.2.2
section S46
variable {K d : Nat} {mu : Mem} {Q : AV → Mem → Prop}
theorem l_adv_38 {P S : Int} (hd : 1 ≤ d) (hK : 64 ≤ K) (hP : isP K P) (hS : isS K S) (hm : 0 ≤ mu P 4 ∧ mu P 4 ≤ 6) (hf : ∀ p, 0 ≤ p → p < mu P 4 → 0 ≤ mu (P + 5) p ∧ mu (P + 5) p < mu P 4) (hv : ∀ i, 0 ≤ i → i < 3 * mu P 4 → 0 ≤ zfl mu S i ∧ zfl mu S i ≤ 6)
    (h : ∀ nu, zsm [57, S + 1, S + 2, S + 3] mu nu → (∀ i, 0 ≤ i → i < 3 * mu P 4 → zfl nu S i = zrd (mu (P + 5)) (zfl mu S) i) → Q (zI (zsum (fun p => if zrd (mu (P + 5)) (zfl mu S) (3 * p + 2) = 6 then 0 else 1) (mu P 4).toNat)) nu) :
    ∀ (n : Nat) (p c : Int) (nu : Mem), 0 ≤ p → p + n = mu P 4 → c = zsum (fun p => if zrd (mu (P + 5)) (zfl mu S) (3 * p + 2) = 6 then 0 else 1) p.toNat → zsm [57, S + 1, S + 2, S + 3] mu nu → (∀ q, 0 ≤ q → q < mu P 4 → nu 57 q = mu (S + 3) (mu (P + 5) q)) → (∀ i, 0 ≤ i → i < 3 * p → zfl nu S i = zrd (mu (P + 5)) (zfl mu S) i) → (∀ i, 3 * p ≤ i → i < 3 * mu P 4 → zfl nu S i = zfl mu S i) → zG K d mX0_advance 38 [zR 56, zR P, zR S, zI c, zI p] [] nu Q := by
  have hS2 := hS.2
  have hP2 := hP.2
  intro n
  induction n with
  | zero =>
    intro p c nu p0 p1 hc hz h57 h1 h2
    have e : p = mu P 4 := by omega
    have eP : nu P = mu P := hz P (by simp only [List.mem_cons, List.not_mem_nil, or_false]; omega)
    subst e
    rw [hc]
    exact sg_X0_advance_38 hd hK hP hS ⟨⟨by omega, by omega⟩, ⟨by rw [eP]; omega, by rw [eP]; omega⟩, fun _ => h nu hz h1, fun q => absurd (by rw [eP]; omega) q⟩
  | succ n ih =>
    intro p c nu p0 p1 hc hz h57 h1 h2
    have eP : nu P = mu P := hz P (by simp only [List.mem_cons, List.not_mem_nil, or_false]; omega)
    have a1 : nu (S + 1) p = zfl mu S (3 * p) := by rw [← zfl_0 (mu := nu) (S := S) (p := p), h2 _ (by omega) (by omega)]
    have a2 : nu (S + 2) p = zfl mu S (3 * p + 1) := by rw [← zfl_1 (mu := nu) (S := S) (p := p), h2 _ (by omega) (by omega)]
    have f0 := hf p p0 (by omega)
    have a3 : nu 57 p = zfl mu S (3 * mu (P + 5) p + 2) := by rw [h57 p p0 (by omega), zfl_2]
    have b1 := hv (3 * p) (by omega) (by omega)
    have b2 := hv (3 * p + 1) (by omega) (by omega)
    have b3 := hv (3 * mu (P + 5) p + 2) (by omega) (by omega)
    have hr : zmaj (zfl mu S (3 * p)) (zfl mu S (3 * p + 1)) (zfl mu S (3 * mu (P + 5) p + 2)) = zrd (mu (P + 5)) (zfl mu S) (3 * p + 2) := zrd_2.symm
    have hb := zmaj_bd b1 b2 b3
    have cb := zsum_01 (f := fun p => if zrd (mu (P + 5)) (zfl mu S) (3 * p + 2) = 6 then 0 else 1) (fun i => by split <;> constructor <;> omega) p.toNat
    refine sg_X0_advance_38 hd hK hP hS ⟨⟨by omega, by omega⟩, ⟨by rw [eP]; omega, by rw [eP]; omega⟩, fun q => absurd q (by rw [eP]; omega), fun _ => ⟨by omega, by omega, ?_⟩⟩
    rw [a1, a2, a3]
    refine s_majority hK ⟨by omega, by omega⟩ ⟨by omega, by omega⟩ ⟨by omega, by omega⟩ ⟨_, rfl, ?_⟩
    have r1 : (zup nu (S + 3) p (zmaj (zfl mu S (3 * p)) (zfl mu S (3 * p + 1)) (zfl mu S (3 * mu (P + 5) p + 2)))) (S + 2) p = zfl mu S (3 * p + 1) := by rw [zup_cell _ (by omega), a2]
    rw [r1]
    have r2 : (zup (zup nu (S + 3) p (zmaj (zfl mu S (3 * p)) (zfl mu S (3 * p + 1)) (zfl mu S (3 * mu (P + 5) p + 2)))) (S + 1) p (zfl mu S (3 * p + 1))) 57 p = zfl mu S (3 * mu (P + 5) p + 2) := by rw [zup_cell _ (by omega), zup_cell _ (by omega), a3]
    rw [r2]
    have r3 : (zup (zup (zup nu (S + 3) p (zmaj (zfl mu S (3 * p)) (zfl mu S (3 * p + 1)) (zfl mu S (3 * mu (P + 5) p + 2)))) (S + 1) p (zfl mu S (3 * p + 1))) (S + 2) p (zfl mu S (3 * mu (P + 5) p + 2))) (S + 3) p = zmaj (zfl mu S (3 * p)) (zfl mu S (3 * p + 1)) (zfl mu S (3 * mu (P + 5) p + 2)) := by rw [zup_cell _ (by omega), zup_cell _ (by omega), zup_same]
    rw [r3]
    generalize hxi : zup (zup (zup nu (S + 3) p (zmaj (zfl mu S (3 * p)) (zfl mu S (3 * p + 1)) (zfl mu S (3 * mu (P + 5) p + 2)))) (S + 1) p (zfl mu S (3 * p + 1))) (S + 2) p (zfl mu S (3 * mu (P + 5) p + 2)) = xi at r3 ⊢
    have z1 : zsm [57, S + 1, S + 2, S + 3] mu xi := by
      rw [← hxi]
      exact ((hz.up (by simp)).up (by simp)).up (by simp)
    have x57 : ∀ q, 0 ≤ q → q < mu P 4 → xi 57 q = mu (S + 3) (mu (P + 5) q) := fun q q0 q1 => by
      rw [← hxi, zup_cell _ (by omega), zup_cell _ (by omega), zup_cell _ (by omega)]
      exact h57 q q0 q1
    have x1 : ∀ q, xi (S + 1) q = if q = p then zfl mu S (3 * p + 1) else nu (S + 1) q := fun q => by
      rw [← hxi, zup_cell _ (by omega)]
      by_cases hq : q = p
      · rw [if_pos hq, hq, zup_same]
      · rw [if_neg hq, zup_slot _ hq, zup_cell _ (by omega)]
    have x2 : ∀ q, xi (S + 2) q = if q = p then zfl mu S (3 * mu (P + 5) p + 2) else nu (S + 2) q := fun q => by
      rw [← hxi]
      by_cases hq : q = p
      · rw [if_pos hq, hq, zup_same]
      · rw [if_neg hq, zup_slot _ hq, zup_cell _ (by omega), zup_cell _ (by omega)]
    have x3 : ∀ q, xi (S + 3) q = if q = p then zrd (mu (P + 5)) (zfl mu S) (3 * p + 2) else nu (S + 3) q := fun q => by
      by_cases hq : q = p
      · rw [if_pos hq, hq, r3, hr]
      · rw [if_neg hq, ← hxi, zup_cell _ (by omega), zup_cell _ (by omega), zup_slot _ hq]
    have g1 : ∀ i, 0 ≤ i → i < 3 * (p + 1) → zfl xi S i = zrd (mu (P + 5)) (zfl mu S) i := by
      apply z3i
      intro q q0 q1
      rw [zfl_0, zfl_1, zfl_2, x1, x2, x3]
      by_cases hq : q = p
      · rw [if_pos hq, if_pos hq, if_pos hq, hq]
        exact ⟨zrd_0.symm, zrd_1.symm, rfl⟩
      · rw [if_neg hq, if_neg hq, if_neg hq, ← zfl_0 (mu := nu) (S := S) (p := q), ← zfl_1 (mu := nu) (S := S) (p := q), ← zfl_2 (mu := nu) (S := S) (p := q)]
        exact ⟨h1 _ (by omega) (by omega), h1 _ (by omega) (by omega), h1 _ (by omega) (by omega)⟩
    have g2 : ∀ i, 3 * (p + 1) ≤ i → i < 3 * mu P 4 → zfl xi S i = zfl mu S i := by
      intro i i0 i1
      have := z3i (m := mu P 4) (C := fun i => 3 * (p + 1) ≤ i → zfl xi S i = zfl mu S i) (fun q q0 q1 => by
        rw [zfl_0, zfl_1, zfl_2, x1, x2, x3]
        refine ⟨fun w => ?_, fun w => ?_, fun w => ?_⟩
        · rw [if_neg (by omega), ← zfl_0 (mu := nu) (S := S) (p := q)]; exact h2 _ (by omega) (by omega)
        · rw [if_neg (by omega), ← zfl_1 (mu := nu) (S := S) (p := q)]; exact h2 _ (by omega) (by omega)
        · rw [if_neg (by omega), ← zfl_2 (mu := nu) (S := S) (p := q)]; exact h2 _ (by omega) (by omega)) i (by omega) i1
      exact this i0
    have en : (p + 1).toNat = p.toNat + 1 := by omega
    have ep : ((p.toNat : Nat) : Int) = p := by omega
    refine ⟨⟨by omega, by omega⟩, fun c6 => ?_, fun c6 => ?_⟩
    · refine ih (p + 1) c xi (by omega) (by omega) ?_ z1 x57 g1 g2
      rw [en, zsum, ep, if_pos (by rw [← hr]; exact c6), ← hc]
      omega
    · refine ih (p + 1) (c + 1) xi (by omega) (by omega) ?_ z1 x57 g1 g2
      rw [en, zsum, ep, if_neg (by rw [← hr]; exact c6), ← hc]
theorem s_advance {P S : Int} (hd : 1 ≤ d) (hK : 64 ≤ K) (hP : isP K P) (hS : isS K S) (hm : 0 ≤ mu P 4 ∧ mu P 4 ≤ 6) (hf : ∀ p, 0 ≤ p → p < mu P 4 → 0 ≤ mu (P + 5) p ∧ mu (P + 5) p < mu P 4) (hv : ∀ i, 0 ≤ i → i < 3 * mu P 4 → 0 ≤ zfl mu S i ∧ zfl mu S i ≤ 6)
    (h : ∀ nu, zsm [57, S + 1, S + 2, S + 3] mu nu → (∀ i, 0 ≤ i → i < 3 * mu P 4 → zfl nu S i = zrd (mu (P + 5)) (zfl mu S) i) → Q (zI (zsum (fun p => if zrd (mu (P + 5)) (zfl mu S) (3 * p + 2) = 6 then 0 else 1) (mu P 4).toNat)) nu) : zC K d mX0_advance [zR 56, zR P, zR S] mu Q := by
  have hS2 := hS.2
  have hP2 := hP.2
  have l : ∀ (n : Nat) (p : Int) (nu : Mem), 0 ≤ p → p + n = mu P 4 → zsm [57] mu nu → (∀ q, 0 ≤ q → q < p → nu 57 q = mu (S + 3) (mu (P + 5) q)) → zG K d mX0_advance 2 [zR 56, zR P, zR S, zI p, zU] [] nu Q := by
    intro n
    induction n with
    | zero =>
      intro p nu p0 p1 hz h57
      have e : p = mu P 4 := by omega
      have eP : nu P = mu P := hz P (by simp only [List.mem_cons, List.not_mem_nil, or_false]; omega)
      subst e
      refine sg_X0_advance_2 hd hK hP hS ⟨⟨by omega, by omega⟩, ⟨by rw [eP]; omega, by rw [eP]; omega⟩, fun _ => ?_, fun q => absurd (by rw [eP]; omega) q⟩
      have ef : zfl nu S = zfl mu S := by
        funext i
        unfold zfl
        rw [hz _ (by simp only [List.mem_cons, List.not_mem_nil, or_false]; omega)]
      exact l_adv_38 hd hK hP hS hm hf hv h (mu P 4).toNat 0 0 nu (by omega) (by omega) rfl (hz.wk (by simp)) h57 (fun i i0 i1 => absurd i1 (by omega)) (fun i _ _ => by rw [ef])
    | succ n ih =>
      intro p nu p0 p1 hz h57
      have eP : nu P = mu P := hz P (by simp only [List.mem_cons, List.not_mem_nil, or_false]; omega)
      have e5 : nu (P + 5) = mu (P + 5) := hz _ (by simp only [List.mem_cons, List.not_mem_nil, or_false]; omega)
      have e3 : nu (S + 3) = mu (S + 3) := hz _ (by simp only [List.mem_cons, List.not_mem_nil, or_false]; omega)
      have f0 := hf p p0 (by omega)
      refine sg_X0_advance_2 hd hK hP hS ⟨⟨by omega, by omega⟩, ⟨by rw [eP]; omega, by rw [eP]; omega⟩, fun q => absurd q (by rw [eP]; omega), fun _ => ⟨by omega, by omega, by rw [e5]; omega, by rw [e5]; omega, ih (p + 1) _ (by omega) (by omega) (hz.up (by simp)) (fun q q0 q1 => ?_)⟩⟩
      by_cases hq : q = p
      · rw [hq, zup_same, e5, e3]
      · rw [zup_slot _ hq]
        exact h57 q q0 (by omega)
  exact ce_X0_advance (sg_X0_advance_0 hd hK hP hS (l (mu P 4).toNat 0 mu (by omega) (by omega) zsm.rf (fun q q0 q1 => absurd q1 (by omega))))
/-! the reference's -/
theorem m_three {a b c : Int} (hK : 93 ≤ K) (ha : zin a) (hb : zin b) (hc : zin c) (h : Q (zI (z3 a b c)) mu) : zC K d mX9_three [zI a, zI b, zI c] mu Q := by
  unfold z3 at h
  refine ce_X9_three (sg_X9_three_0 (by omega) hK ⟨(by first | assumption | omega | exact ⟨by omega, by omega⟩ | (split <;> omega) | (unfold zin at *; omega)), ⟨fun c1 => ⟨(by first | assumption | omega | exact ⟨by omega, by omega⟩ | (split <;> omega) | (unfold zin at *; omega)), ⟨fun c2 => ?_, fun c2 => ⟨(by first | assumption | omega | exact ⟨by omega, by omega⟩ | (split <;> omega) | (unfold zin at *; omega)), ⟨fun c3 => ?_, fun c3 => ?_⟩⟩⟩⟩, fun c1 => ⟨(by first | assumption | omega | exact ⟨by omega, by omega⟩ | (split <;> omega) | (unfold zin at *; omega)), ⟨fun c2 => ?_, fun c2 => ⟨(by first | assumption | omega | exact ⟨by omega, by omega⟩ | (split <;> omega) | (unfold zin at *; omega)), ⟨fun c3 => ⟨fun c4 => ?_, fun c4 => ⟨fun c5 => ?_, fun c5 => ?_⟩⟩, fun c3 => ?_⟩⟩⟩⟩⟩⟩)
  · rwa [if_neg (by omega), if_neg (by omega)] at h
  · rwa [if_neg (by omega), if_neg (by omega)] at h
  · rwa [if_neg (by omega), if_pos (by omega)] at h
  · rwa [if_pos (by omega)] at h
  · rwa [if_neg (by omega), if_neg (by omega)] at h
  · rwa [if_neg (by omega), if_neg (by omega)] at h
  · rwa [if_neg (by omega), if_pos (by omega)] at h
  · rwa [if_pos (by omega)] at h
theorem m_takeNet (hK : 93 ≤ K) (h : ∀ nu, zsm [90] mu nu → (∀ i, 0 ≤ i → i < 18 → nu 90 i = mu 77 i) → Q zV nu) : zC K d mX9_takeNet [zR 64] mu Q := by
  have l : ∀ (n : Nat) (p : Int) (nu : Mem), 0 ≤ p → p + n = 18 → zsm [90] mu nu → (∀ i, 0 ≤ i → i < p → nu 90 i = mu 77 i) → zG K d mX9_takeNet 2 [zR 64, zI p] [] nu Q := by
    intro n
    induction n with
    | zero =>
      intro p nu p0 p1 hz h1
      have e : p = 18 := by omega
      subst e
      exact sg_X9_takeNet_2 (by omega) hK ⟨⟨by omega, by omega⟩, fun _ => h nu hz h1, fun c => absurd c (by omega)⟩
    | succ n ih =>
      intro p nu p0 p1 hz h1
      refine sg_X9_takeNet_2 (by omega) hK ⟨⟨by omega, by omega⟩, fun c => absurd c (by omega), fun _ => ⟨by omega, by omega, by omega, ih (p + 1) _ (by omega) (by omega) (hz.up (by simp)) (fun i i0 i1 => ?_)⟩⟩
      by_cases hi : i = p
      · rw [hi, zup_same, hz 77 (by decide)]
      · rw [zup_slot _ hi]
        exact h1 i i0 (by omega)
  exact ce_X9_takeNet (sg_X9_takeNet_0 (by omega) hK (l 18 0 mu (by omega) (by omega) zsm.rf (fun i i0 i1 => absurd i1 (by omega))))
theorem l_go_36 (hd : 1 ≤ d) (hK : 93 ≤ K) (hm : 0 ≤ mu 74 0 ∧ mu 74 0 ≤ 6) (hf : ∀ p, 0 ≤ p → p < mu 74 0 → 0 ≤ mu 75 p ∧ mu 75 p < mu 74 0) (hv : ∀ i, 0 ≤ i → i < 3 * mu 74 0 → 0 ≤ mu 90 i ∧ mu 90 i ≤ 6)
    (h : ∀ nu, zsm [90, 91] mu nu → (∀ i, 0 ≤ i → i < 3 * mu 74 0 → nu 90 i = zrd (mu 75) (mu 90) i) → Q zV nu) :
    ∀ (n : Nat) (p : Int) (nu : Mem), 0 ≤ p → p + n = mu 74 0 → zsm [90, 91] mu nu → (∀ q, 0 ≤ q → q < mu 74 0 → nu 91 q = mu 90 (3 * q + 2)) → (∀ i, 0 ≤ i → i < 3 * p → nu 90 i = zrd (mu 75) (mu 90) i) → (∀ i, 3 * p ≤ i → nu 90 i = mu 90 i) → zG K d mX9_goRound 36 [zR 64, zI p, zU, zU, zU] [] nu Q := by
  intro n
  induction n with
  | zero =>
    intro p nu p0 p1 hz h91 h1 h2
    have e : p = mu 74 0 := by omega
    have e74 : nu 74 = mu 74 := hz 74 (by decide)
    subst e
    exact sg_X9_goRound_36 hd hK ⟨⟨by omega, by omega⟩, ⟨by rw [e74]; omega, by rw [e74]; omega⟩, fun _ => h nu hz h1, fun q => absurd (by rw [e74]; omega) q⟩
  | succ n ih =>
    intro p nu p0 p1 hz h91 h1 h2
    have e74 : nu 74 = mu 74 := hz 74 (by decide)
    have e75 : nu 75 = mu 75 := hz 75 (by decide)
    have f0 := hf p p0 (by omega)
    have a1 := h2 (3 * p) (by omega)
    have a2 := h2 (3 * p + 1) (by omega)
    have a3 := h91 (mu 75 p) f0.1 f0.2
    have b1 := hv (3 * p) (by omega) (by omega)
    have b2 := hv (3 * p + 1) (by omega) (by omega)
    have b3 := hv (3 * mu 75 p + 2) (by omega) (by omega)
    refine sg_X9_goRound_36 hd hK ⟨⟨by omega, by omega⟩, ⟨by rw [e74]; omega, by rw [e74]; omega⟩, fun q => absurd q (by rw [e74]; omega), fun _ => ⟨by omega, by omega, by omega, by omega, by omega, by omega, by rw [e75]; omega, by rw [e75]; omega, ?_⟩⟩
    rw [e75, a1, a2, a3]
    refine m_three hK ⟨by omega, by omega⟩ ⟨by omega, by omega⟩ ⟨by omega, by omega⟩ ⟨_, rfl, by omega, by omega, ?_⟩
    rw [z3_maj b1.2 b2.2 b3.2, ← zrd_2 (f := mu 75)]
    refine ih (p + 1) _ (by omega) (by omega) (((hz.up (by simp)).up (by simp)).up (by simp)) (fun q q0 q1 => ?_) (fun i i0 i1 => ?_) (fun i i0 => ?_)
    · rw [zup_cell _ (by decide), zup_cell _ (by decide), zup_cell _ (by decide)]
      exact h91 q q0 q1
    · by_cases w2 : i = 3 * p + 2
      · rw [w2, zup_same]
      rw [zup_slot _ w2]
      by_cases w1 : i = 3 * p + 1
      · rw [w1, zup_same, zrd_1]
      rw [zup_slot _ w1]
      by_cases w0 : i = 3 * p
      · rw [w0, zup_same, zrd_0]
      rw [zup_slot _ w0]
      exact h1 i i0 (by omega)
    · rw [zup_slot _ (by omega), zup_slot _ (by omega), zup_slot _ (by omega)]
      exact h2 i (by omega)
theorem m_goRound (hd : 1 ≤ d) (hK : 93 ≤ K) (hm : 0 ≤ mu 74 0 ∧ mu 74 0 ≤ 6) (hf : ∀ p, 0 ≤ p → p < mu 74 0 → 0 ≤ mu 75 p ∧ mu 75 p < mu 74 0) (hv : ∀ i, 0 ≤ i → i < 3 * mu 74 0 → 0 ≤ mu 90 i ∧ mu 90 i ≤ 6)
    (h : ∀ nu, zsm [90, 91] mu nu → (∀ i, 0 ≤ i → i < 3 * mu 74 0 → nu 90 i = zrd (mu 75) (mu 90) i) → Q zV nu) : zC K d mX9_goRound [zR 64] mu Q := by
  have l : ∀ (n : Nat) (p : Int) (nu : Mem), 0 ≤ p → p + n = mu 74 0 → zsm [91] mu nu → (∀ q, 0 ≤ q → q < p → nu 91 q = mu 90 (3 * q + 2)) → zG K d mX9_goRound 2 [zR 64, zI p, zU, zU, zU] [] nu Q := by
    intro n
    induction n with
    | zero =>
      intro p nu p0 p1 hz h1
      have e : p = mu 74 0 := by omega
      have e74 : nu 74 = mu 74 := hz 74 (by decide)
      have e90 : nu 90 = mu 90 := hz 90 (by decide)
      subst e
      refine sg_X9_goRound_2 hd hK ⟨⟨by omega, by omega⟩, ⟨by rw [e74]; omega, by rw [e74]; omega⟩, fun _ => ?_, fun q => absurd (by rw [e74]; omega) q⟩
      exact l_go_36 hd hK hm hf hv h (mu 74 0).toNat 0 nu (by omega) (by omega) (hz.wk (by simp)) h1 (fun i i0 i1 => absurd i1 (by omega)) (fun i _ => by rw [e90])
    | succ n ih =>
      intro p nu p0 p1 hz h1
      have e74 : nu 74 = mu 74 := hz 74 (by decide)
      have e90 : nu 90 = mu 90 := hz 90 (by decide)
      refine sg_X9_goRound_2 hd hK ⟨⟨by omega, by omega⟩, ⟨by rw [e74]; omega, by rw [e74]; omega⟩, fun q => absurd q (by rw [e74]; omega), fun _ => ⟨by omega, by omega, by omega, by omega, ih (p + 1) _ (by omega) (by omega) (hz.up (by simp)) (fun q q0 q1 => ?_)⟩⟩
      by_cases hq : q = p
      · rw [hq, zup_same, e90]
      · rw [zup_slot _ hq]
        exact h1 q q0 (by omega)
  exact ce_X9_goRound (sg_X9_goRound_0 hd hK (l (mu 74 0).toNat 0 mu (by omega) (by omega) zsm.rf (fun q q0 q1 => absurd q1 (by omega))))
end S46
