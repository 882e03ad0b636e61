/-! swaps -/
def zgn (W w h : Int → Int) (i j : Int) : Bool := decide (W (w i * 7 + h i) < W (w i * 7 + h j))
def zpr (W w h : Int → Int) (i j : Int) : Bool := zgn W w h i j && zgn W w h j i
def zsj1 (W w h : Int → Int) (n i : Int) : Int := zfirst (zpr W w h i) (n - (i + 1)).toNat (i + 1)
def zsi1 (W w h : Int → Int) (n : Int) : Int := zfirst (fun i => decide (zsj1 W w h n i < n)) n.toNat 0
def zsw (h : Int → Int) (i j : Int) : Int → Int := fun k => if k = j then h i else if k = i then h j else h k
def zit (W w : Int → Int) (n : Int) : Nat → (Int → Int) → Int → Int × (Int → Int)
  | 0, h, c => (c, h)
  | f + 1, h, c => if zsi1 W w h n < n then zit W w n f (zsw h (zsi1 W w h n) (zsj1 W w h n (zsi1 W w h n))) (c + 1) else (c, h)
theorem zfirst_hit {p : Int → Bool} : ∀ (m : Nat) (x : Int), zfirst p m x < x + m → p (zfirst p m x) = true
  | 0, x, h => by simp [zfirst] at h
  | m + 1, x, h => by
    unfold zfirst at h ⊢
    split
    · assumption
    · rename_i hp
      rw [if_neg hp] at h
      exact zfirst_hit m (x + 1) (by omega)
theorem zfirst_miss {p : Int → Bool} : ∀ (m : Nat) (x : Int), (∀ i, x ≤ i → i < x + m → p i = false) → zfirst p m x = x + m
  | 0, x, _ => by simp [zfirst]
  | m + 1, x, h => by
    unfold zfirst
    rw [if_neg (by rw [h x (by omega) (by omega)]; decide), zfirst_miss m (x + 1) (fun i h0 h1 => h i (by omega) (by omega))]
    omega
theorem zsum_add (f g : Int → Int) : ∀ n : Nat, zsum (fun k => f k + g k) n = zsum f n + zsum g n
  | 0 => rfl
  | n + 1 => by
    unfold zsum
    rw [zsum_add f g n]
    omega
theorem zsum_le {f g : Int → Int} : ∀ n : Nat, (∀ i : Int, 0 ≤ i → i < n → f i ≤ g i) → zsum f n ≤ zsum g n
  | 0, _ => Int.le_refl _
  | n + 1, h => by
    unfold zsum
    have h1 := zsum_le n (fun i h0 h1 => h i h0 (by omega))
    have h2 := h n (by omega) (by omega)
    omega
theorem zsum_one {i : Int} : ∀ n : Nat, 0 ≤ i → zsum (fun k => if k = i then 1 else 0) n = if i < n then 1 else 0
  | 0, h => by
    unfold zsum
    rw [if_neg (by omega)]
  | n + 1, h => by
    unfold zsum
    rw [zsum_one n h]
    by_cases h1 : i < n
    · rw [if_pos h1, if_neg (by omega), if_pos (by omega)]
      omega
    · rw [if_neg h1]
      by_cases h2 : i = n
      · rw [if_pos h2.symm, if_pos (by omega)]
        omega
      · rw [if_neg (fun q => h2 q.symm), if_neg (by omega)]
        omega
/-- all worths together -/
def zph (W w h : Int → Int) (n : Int) : Int := zsum (fun k => W (w k * 7 + h k)) n.toNat
def zhb (h : Int → Int) (n : Int) : Prop := ∀ i, 0 ≤ i → i < n → 0 ≤ h i ∧ h i ≤ 6
def zWw (W w : Int → Int) (n : Int) : Prop := (1 ≤ n ∧ n ≤ 10) ∧ (∀ i, 0 ≤ i → i < 42 → 0 ≤ W i ∧ W i ≤ 9) ∧ ∀ i, 0 ≤ i → i < n → 0 ≤ w i ∧ w i < 6
theorem zph_le {W w h : Int → Int} {n : Int} (hc : zWw W w n) (hh : zhb h n) : zph W w h n ≤ 90 := by
  have e : zsum (fun _ => 9) n.toNat ≤ 90 := by
    have h1 := hc.1
    have : n = 1 ∨ n = 2 ∨ n = 3 ∨ n = 4 ∨ n = 5 ∨ n = 6 ∨ n = 7 ∨ n = 8 ∨ n = 9 ∨ n = 10 := by omega
    rcases this with rfl | rfl | rfl | rfl | rfl | rfl | rfl | rfl | rfl | rfl <;> decide
  have := zsum_le (f := fun k => W (w k * 7 + h k)) (g := fun _ => 9) n.toNat (fun i h0 h1 => by
    have a := hc.2.2 i h0 (by omega)
    have b := hh i h0 (by omega)
    exact (hc.2.1 _ (by omega) (by omega)).2)
  unfold zph
  omega
theorem zsij {W w h : Int → Int} {n : Int} (hn : 1 ≤ n) (hi : zsi1 W w h n < n) : 0 ≤ zsi1 W w h n ∧ zsi1 W w h n < zsj1 W w h n (zsi1 W w h n) ∧ zsj1 W w h n (zsi1 W w h n) < n ∧ zpr W w h (zsi1 W w h n) (zsj1 W w h n (zsi1 W w h n)) = true := by
  have b := zfirst_bd (fun i => decide (zsj1 W w h n i < n)) n.toNat 0
  have t := zfirst_hit (p := fun i => decide (zsj1 W w h n i < n)) n.toNat 0 (by unfold zsi1 at hi; omega)
  have t : zsj1 W w h n (zsi1 W w h n) < n := by
    have := t
    simp only [decide_eq_true_eq] at this
    exact this
  have b2 := zfirst_bd (zpr W w h (zsi1 W w h n)) (n - (zsi1 W w h n + 1)).toNat (zsi1 W w h n + 1)
  have b0 : 0 ≤ zsi1 W w h n := by unfold zsi1; omega
  refine ⟨b0, ?_, t, ?_⟩
  · unfold zsj1
    omega
  · exact zfirst_hit _ _ (by unfold zsj1 at t; omega)
theorem zsw_bd {h : Int → Int} {n i j : Int} (hh : zhb h n) (hi : 0 ≤ i ∧ i < n) (hj : 0 ≤ j ∧ j < n) : zhb (zsw h i j) n := fun k k0 k1 => by
  unfold zsw
  split
  · exact hh i hi.1 hi.2
  · split
    · exact hh j hj.1 hj.2
    · exact hh k k0 k1
theorem zph_up {W w h : Int → Int} {n : Int} (hn : 1 ≤ n) (hi : zsi1 W w h n < n) : zph W w h n + 2 ≤ zph W w (zsw h (zsi1 W w h n) (zsj1 W w h n (zsi1 W w h n))) n := by
  obtain ⟨i0, ij, jn, hp⟩ := zsij hn hi
  generalize hI : zsi1 W w h n = i at *
  generalize hJ : zsj1 W w h n i = j at *
  unfold zpr zgn at hp
  simp only [Bool.and_eq_true, decide_eq_true_eq] at hp
  have s2 : zsum (fun k => (if k = i then 1 else 0) + (if k = j then 1 else 0)) n.toNat = 2 := by
    rw [zsum_add, zsum_one _ i0, zsum_one _ (by omega), if_pos (by omega), if_pos (by omega)]
    rfl
  have := zsum_le (f := fun k => W (w k * 7 + h k) + ((if k = i then 1 else 0) + (if k = j then 1 else 0))) (g := fun k => W (w k * 7 + zsw h i j k)) n.toNat (fun k k0 k1 => by
    unfold zsw
    by_cases h1 : k = j
    · rw [if_pos h1, if_neg (by omega), if_pos h1, h1]
      omega
    · rw [if_neg h1, if_neg h1]
      by_cases h2 : k = i
      · rw [if_pos h2, if_pos h2, h2]
        omega
      · rw [if_neg h2, if_neg h2]
        omega)
  rw [zsum_add, s2] at this
  exact this
section S53
variable {K d : Nat} {mu : Mem} {Q : AV → Mem → Prop}
theorem s_gains {P i j : Int} {W w h : Int → Int} {n : Int} (hd : 1 ≤ d) (hK : 64 ≤ K) (hP : isP K P) (hc : zWw W w n) (hh : zhb h n) (hi : 0 ≤ i ∧ i < n) (hj : 0 ≤ j ∧ j < n) (eW : ∀ q, 0 ≤ q → q < 42 → mu (P + 3) q = W q) (ew : ∀ q, 0 ≤ q → q < n → mu (P + 2) q = w q) (eh : ∀ q, 0 ≤ q → q < n → mu 40 q = h q)
    (hq : Q (zI (if zgn W w h i j = true then 1 else 0)) mu) : zC K d mX3_gains [zR 38, zR P, zI i, zI j] mu Q := by
  have h10 := hc.1
  have w0 := hc.2.2 i hi.1 hi.2
  have a0 := hh i hi.1 hi.2
  have b0 := hh j hj.1 hj.2
  have v1 := hc.2.1 (w i * 7 + h j) (by omega) (by omega)
  have v2 := hc.2.1 (w i * 7 + h i) (by omega) (by omega)
  refine ce_X3_gains (sg_X3_gains_0 hd hK hP ⟨by omega, by omega, by omega, by omega, ?_⟩)
  rw [ew i hi.1 hi.2, eh j hj.1 hj.2]
  refine s_worthOf hK hP w0 (by omega) ⟨_, rfl, ?_⟩
  rw [eh i hi.1 hi.2]
  refine s_worthOf hK hP w0 (by omega) ⟨_, rfl, ?_⟩
  rw [eW _ (by omega) (by omega), eW _ (by omega) (by omega)]
  unfold zgn at hq
  refine ⟨⟨by omega, by omega⟩, ⟨by omega, by omega⟩, fun c => ?_, fun c => ?_⟩
  · rw [if_neg (by simp only [decide_eq_true_eq]; omega)] at hq
    exact hq
  · rw [if_pos (by simp only [decide_eq_true_eq]; omega)] at hq
    exact hq
theorem s_swapFirstTwo {P : Int} {W w h : Int → Int} {n : Int} (hd : 2 ≤ d) (hK : 64 ≤ K) (hP : isP K P) (hc : zWw W w n) (hh : zhb h n) (en : mu P 3 = n) (eW : ∀ q, 0 ≤ q → q < 42 → mu (P + 3) q = W q) (ew : ∀ q, 0 ≤ q → q < n → mu (P + 2) q = w q) (eh : ∀ q, 0 ≤ q → q < n → mu 40 q = h q)
    (h0 : ¬ zsi1 W w h n < n → Q (zI 0) mu) (h1 : zsi1 W w h n < n → Q (zI 1) (zup (zup mu 40 (zsi1 W w h n) (h (zsj1 W w h n (zsi1 W w h n)))) 40 (zsj1 W w h n (zsi1 W w h n)) (h (zsi1 W w h n)))) : zC K d mX3_swapFirstTwo [zR 38, zR P] mu Q := by
  have h10 := hc.1
  have l14 : ∀ (i : Int), 0 ≤ i → i < n → (∀ j, i < j → j < n → zpr W w h i j = true → zsj1 W w h n i = j → Q (zI 1) (zup (zup mu 40 i (h j)) 40 j (h i))) → (zsj1 W w h n i = n → zG K d mX3_swapFirstTwo 2 [zR 38, zR P, zI (i + 1), zU, zU] [] mu Q) →
      ∀ (m : Nat) (j : Int), i < j → j + m = n → zsj1 W w h n i = zfirst (zpr W w h i) m j → zG K d mX3_swapFirstTwo 14 [zR 38, zR P, zI i, zI j, zU] [] mu Q := by
    intro i i0 i1 k1 k0 m
    induction m with
    | zero =>
      intro j j0 j1 hj
      have e : j = n := by omega
      subst e
      exact sg_X3_swapFirstTwo_14 hd hK hP ⟨⟨by omega, by omega⟩, ⟨by omega, by omega⟩, fun _ => k0 hj, fun c => absurd (by omega) c⟩
    | succ m ih =>
      intro j j0 j1 hj
      unfold zfirst at hj
      refine sg_X3_swapFirstTwo_14 hd hK hP ⟨⟨by omega, by omega⟩, ⟨by omega, by omega⟩, fun c => absurd c (by omega), fun _ => ?_⟩
      refine s_gains (by omega) hK hP hc hh ⟨i0, i1⟩ (by omega) eW ew eh ⟨_, rfl, zbin _, fun c => ?_, fun c => ?_⟩
      · have c1 : ¬ zgn W w h i j = true := fun q => by rw [if_pos q] at c; exact absurd c (by decide)
        rw [if_neg (by unfold zpr; simp [c1])] at hj
        exact ih (j + 1) (by omega) (by omega) hj
      · have c1 : zgn W w h i j = true := by
          split at c
          · assumption
          · exact absurd rfl c
        refine s_gains (by omega) hK hP hc hh (by omega) ⟨i0, i1⟩ eW ew eh ⟨_, rfl, zbin _, fun c2 => ?_, fun c2 => ⟨by omega, by omega, by omega, by omega, ?_⟩⟩
        · have c3 : ¬ zgn W w h j i = true := fun q => by rw [if_pos q] at c2; exact absurd c2 (by decide)
          rw [if_neg (by unfold zpr; simp [c3])] at hj
          exact ih (j + 1) (by omega) (by omega) hj
        · have c3 : zgn W w h j i = true := by
            split at c2
            · assumption
            · exact absurd rfl c2
          have cp : zpr W w h i j = true := by unfold zpr; simp [c1, c3]
          rw [if_pos cp] at hj
          rw [eh i i0 i1, eh j (by omega) (by omega)]
          exact k1 j j0 (by omega) cp hj
  have l2 : ∀ (m : Nat) (i : Int), 0 ≤ i → i + m = n → zsi1 W w h n = zfirst (fun i => decide (zsj1 W w h n i < n)) m i → zG K d mX3_swapFirstTwo 2 [zR 38, zR P, zI i, zU, zU] [] mu Q := by
    intro m
    induction m with
    | zero =>
      intro i i0 i1 hi
      have e : i = n := by omega
      subst e
      exact sg_X3_swapFirstTwo_2 hd hK hP ⟨⟨by omega, by omega⟩, ⟨by omega, by omega⟩, fun _ => h0 (by rw [hi]; unfold zfirst; omega), fun c => absurd (by omega) c⟩
    | succ m ih =>
      intro i i0 i1 hi
      unfold zfirst at hi
      refine sg_X3_swapFirstTwo_2 hd hK hP ⟨⟨by omega, by omega⟩, ⟨by omega, by omega⟩, fun c => absurd c (by omega), fun _ => ?_⟩
      refine l14 i i0 (by omega) (fun j j0 j1 cp hj => ?_) (fun hj => ?_) (n - (i + 1)).toNat (i + 1) (by omega) (by omega) rfl
      · rw [if_pos (by simp only [decide_eq_true_eq]; omega)] at hi
        have := h1 (by omega)
        rw [hi, hj] at this
        exact this
      · rw [if_neg (by simp only [decide_eq_true_eq]; omega)] at hi
        exact ih (i + 1) (by omega) (by omega) hi
  exact ce_X3_swapFirstTwo (sg_X3_swapFirstTwo_0 hd hK hP (l2 n.toNat 0 (by omega) (by omega) rfl))
theorem s_swapTill {P : Int} {W w : Int → Int} {n : Int} (hd : 3 ≤ d) (hK : 64 ≤ K) (hP : isP K P) (hc : zWw W w n) (en : mu P 3 = n) (eW : ∀ q, 0 ≤ q → q < 42 → mu (P + 3) q = W q) (ew : ∀ q, 0 ≤ q → q < n → mu (P + 2) q = w q) :
    ∀ (f : Nat) (h : Int → Int) (c : Int) (nu : Mem), zhb h n → 0 ≤ c → c + f = 45 → 90 - zph W w h n ≤ 2 * f → zsm [40] mu nu → (∀ q, 0 ≤ q → q < n → nu 40 q = h q) → (∀ xi, zsm [40] mu xi → (∀ q, 0 ≤ q → q < n → xi 40 q = (zit W w n f h c).2 q) → 0 ≤ (zit W w n f h c).1 → (zit W w n f h c).1 ≤ 45 → zhb (zit W w n f h c).2 n → Q (zI (zit W w n f h c).1) xi) → zG K d mX3_swapTillNobodyGains 2 [zR 38, zR P, zI c] [] nu Q := by
  have hP2 := hP.2
  have h10 := hc.1
  intro f
  induction f with
  | zero =>
    intro h c nu hh c0 c1 hph hz eh k
    have e : ∀ q : Int, q ≠ 40 → nu q = mu q := fun q hq => hz q (by simp only [List.mem_cons, List.not_mem_nil, or_false]; exact hq)
    refine sg_X3_swapTillNobodyGains_2 hd hK hP ⟨⟨by omega, by omega⟩, fun ww => absurd ww (by omega), fun _ => ?_⟩
    refine s_swapFirstTwo (by omega) hK hP hc hh (by rw [e P (by omega)]; exact en) (fun q q0 q1 => by rw [e (P + 3) (by omega)]; exact eW q q0 q1) (fun q q0 q1 => by rw [e (P + 2) (by omega)]; exact ew q q0 q1) eh (fun ww => ⟨_, rfl, ⟨by omega, by omega⟩, fun _ => k nu hz eh c0 (by show c ≤ 45; omega) hh, fun c2 => absurd rfl c2⟩) (fun ww => ?_)
    exfalso
    have u := zph_up (W := W) (w := w) (h := h) h10.1 ww
    obtain ⟨i0, ij, jn, -⟩ := zsij (W := W) (w := w) (h := h) h10.1 ww
    have u2 := zph_le hc (zsw_bd hh ⟨i0, by omega⟩ (j := zsj1 W w h n (zsi1 W w h n)) ⟨by omega, jn⟩)
    omega
  | succ f ih =>
    intro h c nu hh c0 c1 hph hz eh k
    have e : ∀ q : Int, q ≠ 40 → nu q = mu q := fun q hq => hz q (by simp only [List.mem_cons, List.not_mem_nil, or_false]; exact hq)
    unfold zit at k
    refine sg_X3_swapTillNobodyGains_2 hd hK hP ⟨⟨by omega, by omega⟩, fun ww => absurd ww (by omega), fun _ => ?_⟩
    refine s_swapFirstTwo (by omega) hK hP hc hh (by rw [e P (by omega)]; exact en) (fun q q0 q1 => by rw [e (P + 3) (by omega)]; exact eW q q0 q1) (fun q q0 q1 => by rw [e (P + 2) (by omega)]; exact ew q q0 q1) eh (fun ww => ⟨_, rfl, ⟨by omega, by omega⟩, fun _ => ?_, fun c2 => absurd rfl c2⟩) (fun ww => ⟨_, rfl, ⟨by omega, by omega⟩, fun c2 => absurd c2 (by decide), fun _ => ?_⟩)
    · rw [if_neg ww] at k
      exact k nu hz eh c0 (by show c ≤ 45; omega) hh
    · rw [if_pos ww] at k
      have u := zph_up (W := W) (w := w) (h := h) h10.1 ww
      obtain ⟨i0, ij, jn, -⟩ := zsij (W := W) (w := w) (h := h) h10.1 ww
      have hh2 := zsw_bd hh ⟨i0, by omega⟩ (j := zsj1 W w h n (zsi1 W w h n)) ⟨by omega, jn⟩
      refine ih _ (c + 1) _ hh2 (by omega) (by omega) (by omega) ((hz.up (by simp)).up (by simp)) (fun q q0 q1 => ?_) k
      unfold zsw
      by_cases h1 : q = zsj1 W w h n (zsi1 W w h n)
      · rw [if_pos h1, h1, zup_same]
      · rw [if_neg h1, zup_slot _ h1]
        by_cases h2 : q = zsi1 W w h n
        · rw [if_pos h2, h2, zup_same]
        · rw [if_neg h2, zup_slot _ h2]
          exact eh q q0 q1
/-! the reference's -/
theorem m_wants {i j : Int} {W w h : Int → Int} {n : Int} (hK : 93 ≤ K) (hc : zWw W w n) (hh : zhb h n) (hi : 0 ≤ i ∧ i < n) (hj : 0 ≤ j ∧ j < n) (eW : ∀ q, 0 ≤ q → q < 42 → mu 72 q = W q) (ew : ∀ q, 0 ≤ q → q < n → mu 71 q = w q) (eh : ∀ q, 0 ≤ q → q < n → mu 86 q = h q)
    (hq : Q (zI (if zgn W w h i j = true then 1 else 0)) mu) : zC K d mX9_wants [zR 64, zI i, zI j] mu Q := by
  have h10 := hc.1
  have w0 := hc.2.2 i hi.1 hi.2
  have a0 := hh i hi.1 hi.2
  have b0 := hh j hj.1 hj.2
  have v1 := hc.2.1 (w i * 7 + h j) (by omega) (by omega)
  have v2 := hc.2.1 (w i * 7 + h i) (by omega) (by omega)
  refine ce_X9_wants (sg_X9_wants_0 (by omega) hK ?_)
  rw [ew i hi.1 hi.2, eh j hj.1 hj.2, eh i hi.1 hi.2, show 7 * w i + h j = w i * 7 + h j by omega, show 7 * w i + h i = w i * 7 + h i by omega, eW _ (by omega) (by omega), eW _ (by omega) (by omega)]
  unfold zgn at hq
  refine ⟨by omega, by omega, by omega, by omega, by omega, by omega, by omega, by omega, by omega, ⟨by omega, by omega⟩, ⟨by omega, by omega⟩, fun c => ?_, fun c => ?_⟩
  · rw [if_neg (by simp only [decide_eq_true_eq]; omega)] at hq
    exact hq
  · rw [if_pos (by simp only [decide_eq_true_eq]; omega)] at hq
    exact hq
theorem m_swapOnce {W w h : Int → Int} {n : Int} (hd : 1 ≤ d) (hK : 93 ≤ K) (hc : zWw W w n) (hh : zhb h n) (en : mu 70 0 = n) (eW : ∀ q, 0 ≤ q → q < 42 → mu 72 q = W q) (ew : ∀ q, 0 ≤ q → q < n → mu 71 q = w q) (eh : ∀ q, 0 ≤ q → q < n → mu 86 q = h q)
    (h0 : ¬ zsi1 W w h n < n → Q (zI 0) mu) (h1 : zsi1 W w h n < n → Q (zI 1) (zup (zup mu 86 (zsi1 W w h n) (h (zsj1 W w h n (zsi1 W w h n)))) 86 (zsj1 W w h n (zsi1 W w h n)) (h (zsi1 W w h n)))) : zC K d mX9_swapOnce [zR 64] mu Q := by
  have h10 := hc.1
  have l14 : ∀ (i : Int), 0 ≤ i → i < n → (∀ j, i < j → j < n → zpr W w h i j = true → zsj1 W w h n i = j → Q (zI 1) (zup (zup mu 86 i (h j)) 86 j (h i))) → (zsj1 W w h n i = n → zG K d mX9_swapOnce 2 [zR 64, zI (i + 1), zU, zU] [] mu Q) →
      ∀ (m : Nat) (j : Int), i < j → j + m = n → zsj1 W w h n i = zfirst (zpr W w h i) m j → zG K d mX9_swapOnce 16 [zR 64, zI i, zI j, zU] [] mu Q := by
    intro i i0 i1 k1 k0 m
    induction m with
    | zero =>
      intro j j0 j1 hj
      have e : j = n := by omega
      subst e
      exact sg_X9_swapOnce_16 hd hK ⟨⟨by omega, by omega⟩, ⟨by omega, by omega⟩, fun _ => k0 hj, fun c => absurd (by omega) c⟩
    | succ m ih =>
      intro j j0 j1 hj
      unfold zfirst at hj
      refine sg_X9_swapOnce_16 hd hK ⟨⟨by omega, by omega⟩, ⟨by omega, by omega⟩, fun c => absurd c (by omega), fun _ => ?_⟩
      refine m_wants hK hc hh ⟨i0, i1⟩ (by omega) eW ew eh ⟨_, rfl, zbin _, fun c => ?_, fun c => ?_⟩
      · have c1 : ¬ zgn W w h i j = true := fun q => by rw [if_pos q] at c; exact absurd c (by decide)
        rw [if_neg (by unfold zpr; simp [c1])] at hj
        exact ih (j + 1) (by omega) (by omega) hj
      · have c1 : zgn W w h i j = true := by
          split at c
          · assumption
          · exact absurd rfl c
        refine m_wants hK hc hh (by omega) ⟨i0, i1⟩ eW ew eh ⟨_, rfl, zbin _, fun c2 => ?_, fun c2 => ⟨by omega, by omega, by omega, by omega, ?_⟩⟩
        · have c3 : ¬ zgn W w h j i = true := fun q => by rw [if_pos q] at c2; exact absurd c2 (by decide)
          rw [if_neg (by unfold zpr; simp [c3])] at hj
          exact ih (j + 1) (by omega) (by omega) hj
        · have c3 : zgn W w h j i = true := by
            split at c2
            · assumption
            · exact absurd rfl c2
          have cp : zpr W w h i j = true := by unfold zpr; simp [c1, c3]
          rw [if_pos cp] at hj
          rw [eh i i0 i1, eh j (by omega) (by omega)]
          exact k1 j j0 (by omega) cp hj
  have l2 : ∀ (m : Nat) (i : Int), 0 ≤ i → i + m = n → zsi1 W w h n = zfirst (fun i => decide (zsj1 W w h n i < n)) m i → zG K d mX9_swapOnce 2 [zR 64, zI i, zU, zU] [] mu Q := by
    intro m
    induction m with
    | zero =>
      intro i i0 i1 hi
      have e : i = n := by omega
      subst e
      exact sg_X9_swapOnce_2 hd hK ⟨⟨by omega, by omega⟩, ⟨by omega, by omega⟩, fun _ => h0 (by rw [hi]; unfold zfirst; omega), fun c => absurd (by omega) c⟩
    | succ m ih =>
      intro i i0 i1 hi
      unfold zfirst at hi
      refine sg_X9_swapOnce_2 hd hK ⟨⟨by omega, by omega⟩, ⟨by omega, by omega⟩, fun c => absurd c (by omega), fun _ => ?_⟩
      refine l14 i i0 (by omega) (fun j j0 j1 cp hj => ?_) (fun hj => ?_) (n - (i + 1)).toNat (i + 1) (by omega) (by omega) rfl
      · rw [if_pos (by simp only [decide_eq_true_eq]; omega)] at hi
        have := h1 (by omega)
        rw [hi, hj] at this
        exact this
      · rw [if_neg (by simp only [decide_eq_true_eq]; omega)] at hi
        exact ih (i + 1) (by omega) (by omega) hi
  exact ce_X9_swapOnce (sg_X9_swapOnce_0 hd hK (l2 n.toNat 0 (by omega) (by omega) rfl))
theorem m_swapsLoop {W w : Int → Int} {n a1 : Int} (hd : 3 ≤ d) (hK : 93 ≤ K) (hc : zWw W w n) (ha : a1 = -1 ∨ (0 ≤ a1 ∧ a1 < n)) (en : mu 70 0 = n) (eW : ∀ q, 0 ≤ q → q < 42 → mu 72 q = W q) (ew : ∀ q, 0 ≤ q → q < n → mu 71 q = w q) :
    ∀ (f : Nat) (h : Int → Int) (c : Int) (nu : Mem), zhb h n → 90 - zph W w h n ≤ 2 * f → zsm' [81, 86] mu nu → (∀ q, 0 ≤ q → q < n → nu 86 q = h q) → (∀ xi, zsm' [81, 86] mu xi → Q (zI (if a1 = -1 then (zit W w n f h c).1 else (zit W w n f h c).2 a1)) xi) → zG K d mX9_swaps 52 [zR 64, zI a1, zI c] [] nu Q := by
  have h10 := hc.1
  intro f
  induction f with
  | zero =>
    intro h c nu hh hph hz eh k
    refine sg_X9_swaps_52 hd hK ?_
    refine m_swapOnce (by omega) hK hc hh (by rw [hz.1 70 (by decide) (by decide)]; exact en) (fun q q0 q1 => by rw [hz.1 72 (by decide) (by decide)]; exact eW q q0 q1) (fun q q0 q1 => by rw [hz.1 71 (by decide) (by decide)]; exact ew q q0 q1) eh (fun ww => ⟨_, rfl, ⟨by omega, by omega⟩, fun _ => ⟨⟨by omega, by omega⟩, fun c2 => ⟨by omega, by omega, ?_⟩, fun c2 => ?_⟩, fun c2 => absurd rfl c2⟩) (fun ww => ?_)
    · have := k nu hz
      rw [if_neg (by omega)] at this
      rw [eh a1 (by omega) (by omega)]
      exact this
    · have := k nu hz
      rw [if_pos (by omega)] at this
      exact this
    · exfalso
      have u := zph_up (W := W) (w := w) (h := h) h10.1 ww
      obtain ⟨i0, ij, jn, -⟩ := zsij (W := W) (w := w) (h := h) h10.1 ww
      have u2 := zph_le hc (zsw_bd hh ⟨i0, by omega⟩ (j := zsj1 W w h n (zsi1 W w h n)) ⟨by omega, jn⟩)
      omega
  | succ f ih =>
    intro h c nu hh hph hz eh k
    unfold zit at k
    refine sg_X9_swaps_52 hd hK ?_
    refine m_swapOnce (by omega) hK hc hh (by rw [hz.1 70 (by decide) (by decide)]; exact en) (fun q q0 q1 => by rw [hz.1 72 (by decide) (by decide)]; exact eW q q0 q1) (fun q q0 q1 => by rw [hz.1 71 (by decide) (by decide)]; exact ew q q0 q1) eh (fun ww => ⟨_, rfl, ⟨by omega, by omega⟩, fun _ => ⟨⟨by omega, by omega⟩, fun c2 => ⟨by omega, by omega, ?_⟩, fun c2 => ?_⟩, fun c2 => absurd rfl c2⟩) (fun ww => ⟨_, rfl, ⟨by omega, by omega⟩, fun c2 => absurd c2 (by decide), fun _ => ?_⟩)
    · rw [if_neg ww] at k
      have := k nu hz
      rw [if_neg (by omega)] at this
      rw [eh a1 (by omega) (by omega)]
      exact this
    · rw [if_neg ww] at k
      have := k nu hz
      rw [if_pos (by omega)] at this
      exact this
    · rw [if_pos ww] at k
      have u := zph_up (W := W) (w := w) (h := h) h10.1 ww
      obtain ⟨i0, ij, jn, -⟩ := zsij (W := W) (w := w) (h := h) h10.1 ww
      have hh2 := zsw_bd hh ⟨i0, by omega⟩ (j := zsj1 W w h n (zsi1 W w h n)) ⟨by omega, jn⟩
      refine ih _ (c + 1) _ hh2 (by omega) ((hz.up (by simp) (by decide)).up (by simp) (by decide)) (fun q q0 q1 => ?_) k
      unfold zsw
      by_cases h1 : q = zsj1 W w h n (zsi1 W w h n)
      · rw [if_pos h1, h1, zup_same]
      · rw [if_neg h1, zup_slot _ h1]
        by_cases h2 : q = zsi1 W w h n
        · rw [if_pos h2, h2, zup_same]
        · rw [if_neg h2, zup_slot _ h2]
          exact eh q q0 q1
end S53
