/-! rings -/
def znum (s : Int → Int) : Nat → Int
  | 0 => 0
  | k + 1 => 7 * znum s k + s k
theorem znum_bd {s : Int → Int} : ∀ k : Nat, (∀ i : Int, 0 ≤ i → i < k → 0 ≤ s i ∧ s i ≤ 6) → 0 ≤ znum s k ∧ znum s k + 1 ≤ 7 ^ k
  | 0, _ => ⟨by simp [znum], by simp [znum]⟩
  | k + 1, h => by
    have ih := znum_bd k (fun i i0 i1 => h i i0 (by omega))
    have hk := h k (by omega) (by omega)
    rw [znum, Int.pow_succ]
    constructor <;> omega
theorem znum_congr {s s' : Int → Int} : ∀ k : Nat, (∀ i : Int, 0 ≤ i → i < k → s i = s' i) → znum s k = znum s' k
  | 0, _ => rfl
  | k + 1, h => by
    rw [znum, znum, znum_congr k (fun i i0 i1 => h i i0 (by omega)), h k (by omega) (by omega)]
theorem znum_inj {s s' : Int → Int} : ∀ k : Nat, (∀ i : Int, 0 ≤ i → i < k → 0 ≤ s i ∧ s i ≤ 6) → (∀ i : Int, 0 ≤ i → i < k → 0 ≤ s' i ∧ s' i ≤ 6) → znum s k = znum s' k → ∀ i : Int, 0 ≤ i → i < k → s i = s' i
  | 0, _, _, _ => fun i i0 i1 => absurd i1 (by omega)
  | k + 1, h, h', e => fun i i0 i1 => by
    rw [znum, znum] at e
    have a := h k (by omega) (by omega)
    have b := h' k (by omega) (by omega)
    by_cases hi : i = k
    · rw [hi]; omega
    · exact znum_inj k (fun i i0 i1 => h i i0 (by omega)) (fun i i0 i1 => h' i i0 (by omega)) (by omega) i i0 (by omega)
theorem z7p {k : Nat} (h : k ≤ 18) : (7 : Int) ^ k ≤ 1628413597910449 := by
  have : (7 : Int) ^ k ≤ 7 ^ 18 := by
    have := Nat.pow_le_pow_right (n := 7) (by omega) h
    exact_mod_cast this
  have e : (7 : Int) ^ 18 = 1628413597910449 := by decide
  omega
/-- the net after t rounds -/
def zrt (f s : Int → Int) : Nat → Int → Int
  | 0 => s
  | t + 1 => zrd f (zrt f s t)
theorem zrt_congr {f f' s s' : Int → Int} {m : Int} (hf : ∀ p, 0 ≤ p → p < m → f p = f' p ∧ 0 ≤ f' p ∧ f' p < m) (hs : ∀ i, 0 ≤ i → i < 3 * m → s i = s' i) : ∀ t : Nat, ∀ i, 0 ≤ i → i < 3 * m → zrt f s t i = zrt f' s' t i
  | 0 => hs
  | t + 1 => zrd_congr hf (zrt_congr hf hs t)
theorem zrd_6 {f s : Int → Int} {m : Int} (hf : ∀ p, 0 ≤ p → p < m → 0 ≤ f p ∧ f p < m) (hs : ∀ i, 0 ≤ i → i < 3 * m → 0 ≤ s i ∧ s i ≤ 6) : ∀ i, 0 ≤ i → i < 3 * m → 0 ≤ zrd f s i ∧ zrd f s i ≤ 6 := by
  apply z3i
  intro p p0 p1
  obtain ⟨f2, f3⟩ := hf p p0 p1
  rw [zrd_0, zrd_1, zrd_2]
  exact ⟨hs _ (by omega) (by omega), hs _ (by omega) (by omega), zmaj_bd (hs _ (by omega) (by omega)) (hs _ (by omega) (by omega)) (hs _ (by omega) (by omega))⟩
theorem zrt_6 {f s : Int → Int} {m : Int} (hf : ∀ p, 0 ≤ p → p < m → 0 ≤ f p ∧ f p < m) (hs : ∀ i, 0 ≤ i → i < 3 * m → 0 ≤ s i ∧ s i ≤ 6) : ∀ t : Nat, ∀ i, 0 ≤ i → i < 3 * m → 0 ≤ zrt f s t i ∧ zrt f s t i ≤ 6
  | 0 => hs
  | t + 1 => zrd_6 hf (zrt_6 hf hs t)
/-- the number of the state after t rounds -/
def zNt (f s : Int → Int) (m : Int) (t : Nat) : Int := znum (zrt f s t) (3 * m).toNat
theorem zNt_det {f s : Int → Int} {m : Int} (hm : 0 ≤ m) (hf : ∀ p, 0 ≤ p → p < m → 0 ≤ f p ∧ f p < m) (hs : ∀ i, 0 ≤ i → i < 3 * m → 0 ≤ s i ∧ s i ≤ 6) {t u : Nat} (h : zNt f s m t = zNt f s m u) : zNt f s m (t + 1) = zNt f s m (u + 1) := by
  unfold zNt at h ⊢
  have e := znum_inj _ (fun i i0 i1 => zrt_6 hf hs t i i0 (by omega)) (fun i i0 i1 => zrt_6 hf hs u i i0 (by omega)) h
  apply znum_congr
  intro i i0 i1
  exact zrd_congr (m := m) (fun p p0 p1 => ⟨rfl, hf p p0 p1⟩) (fun i i0 i1 => e i i0 (by omega)) i i0 (by omega)
theorem zNt_bd {f s : Int → Int} {m : Int} (hm : 0 ≤ m ∧ m ≤ 6) (hf : ∀ p, 0 ≤ p → p < m → 0 ≤ f p ∧ f p < m) (hs : ∀ i, 0 ≤ i → i < 3 * m → 0 ≤ s i ∧ s i ≤ 6) (t : Nat) : zil (zNt f s m t) := by
  have b := znum_bd (s := zrt f s t) (3 * m).toNat (fun i i0 i1 => zrt_6 hf hs t i i0 (by omega))
  have c := z7p (k := (3 * m).toNat) (by omega)
  unfold zNt
  exact ⟨by omega, by omega⟩
theorem zper {N : Nat → Int} (hN : ∀ t u, N t = N u → N (t + 1) = N (u + 1)) {t0 u0 : Nat} (h0 : t0 < u0) (he : N t0 = N u0) : ∀ k : Nat, ∃ w, t0 ≤ w ∧ w < u0 ∧ N (u0 + k) = N w
  | 0 => ⟨t0, by omega, h0, he.symm⟩
  | k + 1 => by
    obtain ⟨w, w0, w1, w2⟩ := zper hN h0 he k
    have e := hN _ _ w2
    by_cases hw : w + 1 = u0
    · refine ⟨t0, by omega, h0, ?_⟩
      rw [hw] at e
      rw [show u0 + (k + 1) = u0 + k + 1 by omega, e, he]
    · exact ⟨w + 1, by omega, by omega, by rw [show u0 + (k + 1) = u0 + k + 1 by omega, e]⟩
theorem zring {N : Nat → Int} (hN : ∀ t u, N t = N u → N (t + 1) = N (u + 1)) {t0 u0 : Nat} (h0 : t0 < u0) (he : N t0 = N u0) (hd : ∀ t u, t < u → u < u0 → ¬ N t = N u) {t u : Nat} (htu : t < u) (ht : t < t0 ∨ (t = t0 ∧ u < u0)) : ¬ N t = N u := by
  intro q
  by_cases hu : u < u0
  · exact hd t u htu hu q
  · obtain ⟨w, w0, w1, w2⟩ := zper hN h0 he (u - u0)
    rw [show u0 + (u - u0) = u by omega] at w2
    exact hd t w (by omega) w1 (q.trans w2)
section S61
variable {K d : Nat} {mu : Mem} {Q : AV → Mem → Prop}
theorem s_numberOf {P S : Int} (hK : 64 ≤ K) (hP : isP K P) (hS : isS K S) (hm : 0 ≤ mu P 4 ∧ mu P 4 ≤ 6) (hv : ∀ i, 0 ≤ i → i < 3 * mu P 4 → 0 ≤ zfl mu S i ∧ zfl mu S i ≤ 6) (h : Q (zJ (znum (zfl mu S) (3 * mu P 4).toNat)) mu) : zC K d mX0_numberOf [zR 56, zR P, zR S] mu Q := by
  have l : ∀ (n : Nat) (p : Int), 0 ≤ p → p + n = mu P 4 → zG K d mX0_numberOf 5 [zU, zR P, zR S, zJ (znum (zfl mu S) (3 * p).toNat), zU, zI p] [] mu Q := by
    intro n
    induction n with
    | zero =>
      intro p p0 p1
      have e : p = mu P 4 := by omega
      subst e
      exact sg_X0_numberOf_5 (by omega) hK hP hS ⟨⟨by omega, by omega⟩, ⟨by omega, by omega⟩, fun _ => h, fun c => absurd (Int.le_refl _) c⟩
    | succ n ih =>
      intro p p0 p1
      have v0 := hv (3 * p) (by omega) (by omega)
      have v1 := hv (3 * p + 1) (by omega) (by omega)
      have v2 := hv (3 * p + 2) (by omega) (by omega)
      have nx := ih (p + 1) (by omega) (by omega)
      rw [show (3 * (p + 1)).toNat = (3 * p).toNat + 1 + 1 + 1 by omega, znum, znum, znum, show (((3 * p).toNat : Nat) : Int) = 3 * p by omega, show (((3 * p).toNat + 1 : Nat) : Int) = 3 * p + 1 by omega, show (((3 * p).toNat + 1 + 1 : Nat) : Int) = 3 * p + 2 by omega] at nx
      rw [zfl_0] at v0 nx
      rw [zfl_1] at v1 nx
      rw [zfl_2] at v2 nx
      refine sg_X0_numberOf_5 (by omega) hK hP hS ⟨⟨by omega, by omega⟩, ⟨by omega, by omega⟩, fun c => absurd c (by omega), fun _ => ⟨by omega, by omega, ⟨by omega, by omega⟩, ⟨by omega, by omega⟩, ⟨by omega, by omega⟩, ?_⟩⟩
      rw [Int.mul_comm _ 7, Int.mul_comm _ 7, Int.mul_comm _ 7]
      exact nx
  exact ce_X0_numberOf (sg_X0_numberOf_0 (by omega) hK hP hS (l (mu P 4).toNat 0 (by omega) (by omega)))
theorem s_findRing {P S : Int} (hd : 2 ≤ d) (hK : 64 ≤ K) (hP : isP K P) (hS : isS K S) (hS22 : S = 22) (hm : 0 ≤ mu P 4 ∧ mu P 4 ≤ 6) (hf : ∀ p, 0 ≤ p → p < mu P 4 → 0 ≤ mu (P + 5) p ∧ mu (P + 5) p < mu P 4) (hv : ∀ i, 0 ≤ i → i < 3 * mu P 4 → 0 ≤ zfl mu S i ∧ zfl mu S i ≤ 6)
    (h0 : (∀ t u : Nat, t < u → u ≤ 600 → ¬ zNt (mu (P + 5)) (zfl mu S) (mu P 4) t = zNt (mu (P + 5)) (zfl mu S) (mu P 4) u) → ∀ nu, zsm [56, 57, 58, 59, 60, 61, 62, 63] mu nu → Q (zI 0) nu)
    (h1 : ∀ t u : Nat, t < u → u ≤ 600 → zNt (mu (P + 5)) (zfl mu S) (mu P 4) t = zNt (mu (P + 5)) (zfl mu S) (mu P 4) u → (∀ t' u' : Nat, t' < u' → u' < u → ¬ zNt (mu (P + 5)) (zfl mu S) (mu P 4) t' = zNt (mu (P + 5)) (zfl mu S) (mu P 4) u') → ∀ nu, zsm [56, 57, 58, 59, 60, 61, 62, 63] mu nu → nu 56 0 = t → nu 56 1 = u - t → Q (zI 1) nu) : zC K d mX0_findRing [zR 56, zR P, zR S] mu Q := by
  have hP2 := hP.2
  have hT : isS K 58 := ⟨hK, by omega⟩
  generalize hN : zNt (mu (P + 5)) (zfl mu S) (mu P 4) = N at h0 h1
  have nb : ∀ t, zil (N t) := fun t => by rw [← hN]; exact zNt_bd hm hf hv t
  have l60 : ∀ (u : Nat) (nu : Mem), 1 ≤ u → u ≤ 600 → zsm [56, 57, 58, 59, 60, 61, 62, 63] mu nu → (∀ t : Nat, t ≤ u → nu 63 t = N t) → (∀ t' u' : Nat, t' < u' → u' < u → ¬ N t' = N u') → ((∀ t' u' : Nat, t' < u' → u' ≤ u → ¬ N t' = N u') → zG K d mX0_findRing 25 [zR 56, zR P, zU, zI (u + 1), zU] [] nu Q) → ∀ (n t : Nat), t + n = u → (∀ t' : Nat, t' < t → ¬ N t' = N u) → zG K d mX0_findRing 60 [zR 56, zR P, zU, zI u, zI t] [] nu Q := by
    intro u nu u0 u1 hz h63 hdis kk n
    induction n with
    | zero =>
      intro t ht hp
      have e : t = u := by omega
      subst e
      refine sg_X0_findRing_60 hd hK hP hT ⟨⟨by omega, by omega⟩, ⟨by omega, by omega⟩, fun _ => kk (fun t' u' w1 w2 => ?_), fun c => absurd (Int.le_refl _) c⟩
      by_cases q : u' = t
      · rw [q]; exact hp t' (by omega)
      · exact hdis t' u' w1 (by omega)
    | succ n ih =>
      intro t ht hp
      refine sg_X0_findRing_60 hd hK hP hT ⟨⟨by omega, by omega⟩, ⟨by omega, by omega⟩, fun c => absurd c (by omega), fun _ => ⟨by omega, by omega, by omega, by omega, ?_⟩⟩
      rw [h63 t (by omega), h63 u (by omega)]
      refine ⟨nb t, nb u, fun c => ?_, fun c => ?_⟩
      · have := ih (t + 1) (by omega) (fun t' w => by
          by_cases q : t' = t
          · rw [q]; exact c
          · exact hp t' (by omega))
        exact this
      · refine h1 t u (by omega) u1 c hdis _ ((hz.up (by simp)).up (by simp)) ?_ ?_
        · rw [zup_slot _ (by decide), zup_same]
        · rw [zup_same]
  have l25 : ∀ (n u : Nat) (nu : Mem), 1 ≤ u → u + n = 601 → zsm [56, 57, 58, 59, 60, 61, 62, 63] mu nu → (∀ t : Nat, t < u → nu 63 t = N t) → (∀ i, 0 ≤ i → i < 3 * mu P 4 → zfl nu 58 i = zrt (mu (P + 5)) (zfl mu S) (u - 1) i) → (∀ t' u' : Nat, t' < u' → u' < u → ¬ N t' = N u') → zG K d mX0_findRing 25 [zR 56, zR P, zU, zI u, zU] [] nu Q := by
    intro n
    induction n with
    | zero =>
      intro u nu u0 u1 hz h63 hfl hdis
      have e : u = 601 := by omega
      subst e
      exact sg_X0_findRing_25 hd hK hP hT ⟨⟨by omega, by omega⟩, fun _ => h0 (fun t u w1 w2 => hdis t u w1 (by omega)) nu hz, fun c => absurd (by omega) c⟩
    | succ n ih =>
      intro u nu u0 u1 hz h63 hfl hdis
      have eP : nu P = mu P := hz _ (by simp only [List.mem_cons, List.not_mem_nil, or_false]; omega)
      have eP5 : nu (P + 5) = mu (P + 5) := hz _ (by simp only [List.mem_cons, List.not_mem_nil, or_false]; omega)
      refine sg_X0_findRing_25 hd hK hP hT ⟨⟨by omega, by omega⟩, fun c => absurd c (by omega), fun _ => ?_⟩
      refine s_advance (by omega) hK hP hT (by rw [eP]; exact hm) (by rw [eP, eP5]; exact hf) (fun i i0 i1 => by rw [eP] at i1; rw [hfl i i0 i1]; exact zrt_6 hf hv (u - 1) i i0 i1) (fun xi hx hxf => ⟨_, rfl, ?_⟩)
      rw [eP, eP5] at hxf
      have hzx : zsm [56, 57, 58, 59, 60, 61, 62, 63] mu xi := hz.tr (hx.wk (by simp))
      have eP' : xi P = mu P := hzx _ (by simp only [List.mem_cons, List.not_mem_nil, or_false]; omega)
      have hxf2 : ∀ i, 0 ≤ i → i < 3 * mu P 4 → zfl xi 58 i = zrt (mu (P + 5)) (zfl mu S) u i := fun i i0 i1 => by
        rw [hxf i i0 i1]
        obtain ⟨w, rfl⟩ : ∃ w, u = w + 1 := ⟨u - 1, by omega⟩
        exact zrd_congr (m := mu P 4) (fun p p0 p1 => ⟨rfl, hf p p0 p1⟩) hfl i i0 i1
      refine s_numberOf hK hP hT (by rw [eP']; exact hm) (fun i i0 i1 => by rw [eP'] at i1; rw [hxf2 i i0 i1]; exact zrt_6 hf hv u i i0 i1) ⟨_, rfl, by omega, by omega, ?_⟩
      rw [eP', znum_congr _ (fun i i0 i1 => hxf2 i i0 (by omega)), show znum (zrt (mu (P + 5)) (zfl mu S) u) (3 * mu P 4).toNat = N u by rw [← hN]; rfl]
      refine l60 u _ u0 (by omega) (hzx.up (by simp)) (fun t ht => ?_) hdis (fun hdd => ?_) u 0 (by omega) (fun t' w => absurd w (by omega))
      · by_cases q : t = u
        · rw [q, zup_same]
        · rw [zup_slot _ (by omega), hx 63 (by decide)]
          exact h63 t (by omega)
      · refine ih (u + 1) _ (by omega) (by omega) (hzx.up (by simp)) (fun t ht => ?_) (fun i i0 i1 => ?_) (fun t' u' w1 w2 => hdd t' u' w1 (by omega))
        · by_cases q : t = u
          · rw [q, zup_same]
          · rw [zup_slot _ (by omega), hx 63 (by decide)]
            exact h63 t (by omega)
        · rw [show u + 1 - 1 = u by omega, ← hxf2 i i0 i1]
          unfold zfl
          rw [zup_cell _ (by omega)]
  refine ce_X0_findRing (sg_X0_findRing_0 hd hK hP hS (s_copyFrom (by omega) hK hT hS (by omega) (fun nu hc => ⟨rfl, ?_⟩)))
  obtain ⟨c1, c2, c3, c4⟩ := hc
  have hz : zsm [56, 57, 58, 59, 60, 61, 62, 63] mu nu := c1.wk (by simp)
  have eP : nu P = mu P := hz _ (by simp only [List.mem_cons, List.not_mem_nil, or_false]; omega)
  have hfl : ∀ i, 0 ≤ i → i < 3 * mu P 4 → zfl nu 58 i = zfl mu S i := by
    apply z3i
    intro p p0 p1
    rw [zfl_0, zfl_1, zfl_2, zfl_0, zfl_1, zfl_2]
    exact c2 p p0 (by omega)
  refine s_numberOf hK hP hT (by rw [eP]; exact hm) (fun i i0 i1 => by rw [eP] at i1; rw [hfl i i0 i1]; exact hv i i0 i1) ⟨_, rfl, ?_⟩
  rw [eP, znum_congr _ (fun i i0 i1 => hfl i i0 (by omega)), show znum (zfl mu S) (3 * mu P 4).toNat = N 0 by rw [← hN]; rfl]
  refine l25 600 1 _ (by omega) (by omega) (hz.up (by simp)) (fun t ht => ?_) (fun i i0 i1 => ?_) (fun t' u' w1 w2 => absurd w1 (by omega))
  · have : t = 0 := by omega
    subst this
    exact zup_same _ _ _ _
  · rw [show zrt (mu (P + 5)) (zfl mu S) (1 - 1) i = zfl mu S i from rfl, ← hfl i i0 i1]
    unfold zfl
    rw [zup_cell _ (by omega)]
/-! the reference's -/
theorem m_state (hK : 93 ≤ K) (hm : 0 ≤ mu 74 0 ∧ mu 74 0 ≤ 6) (hv : ∀ i, 0 ≤ i → i < 3 * mu 74 0 → 0 ≤ mu 90 i ∧ mu 90 i ≤ 6) (h : Q (zJ (znum (mu 90) (3 * mu 74 0).toNat)) mu) : zC K d mX9_state [zR 64] mu Q := by
  have l : ∀ (n : Nat) (p : Int), 0 ≤ p → p + n = 3 * mu 74 0 → zG K d mX9_state 4 [zR 64, zJ (znum (mu 90) p.toNat), zU, zI p] [] mu Q := by
    intro n
    induction n with
    | zero =>
      intro p p0 p1
      have e : p = 3 * mu 74 0 := by omega
      subst e
      exact sg_X9_state_4 (by omega) hK ⟨⟨by omega, by omega⟩, ⟨by omega, by omega⟩, fun _ => h, fun c => absurd (Int.le_refl _) c⟩
    | succ n ih =>
      intro p p0 p1
      have v0 := hv p p0 (by omega)
      have nx := ih (p + 1) (by omega) (by omega)
      rw [show (p + 1).toNat = p.toNat + 1 by omega, znum, show ((p.toNat : Nat) : Int) = p by omega] at nx
      exact sg_X9_state_4 (by omega) hK ⟨⟨by omega, by omega⟩, ⟨by omega, by omega⟩, fun c => absurd c (by omega), fun _ => ⟨by omega, by omega, ⟨by omega, by omega⟩, nx⟩⟩
  exact ce_X9_state (sg_X9_state_0 (by omega) hK (l (3 * mu 74 0).toNat 0 (by omega) (by omega)))
theorem m_ring {a1 : Int} (hd : 2 ≤ d) (hK : 93 ≤ K) (ha : a1 = 0 ∨ a1 = 1) (hm : 1 ≤ mu 74 0 ∧ mu 74 0 ≤ 6) (hf : ∀ p, 0 ≤ p → p < mu 74 0 → 0 ≤ mu 75 p ∧ mu 75 p < mu 74 0) (hv : ∀ i, 0 ≤ i → i < 3 * mu 74 0 → 0 ≤ mu 77 i ∧ mu 77 i ≤ 6)
    (h : ∀ nu, zsm [90, 91, 92] mu nu → (∀ t : Nat, t ≤ 600 → nu 92 t = zNt (mu 75) (mu 77) (mu 74 0) t) → zG K d mX9_ring 59 [zR 64, zI a1, zI 0, zU] [] nu Q) : zC K d mX9_ring [zR 64, zI a1] mu Q := by
  refine ce_X9_ring (sg_X9_ring_0 hd hK ⟨⟨by omega, by omega⟩, s_in hK ⟨by omega, by omega⟩ ⟨by omega, by omega⟩ ⟨by omega, by omega⟩ ⟨_, rfl, zbin _, fun c => ⟨⟨by omega, by omega⟩, fun c2 => ?_, fun c2 => absurd c2 (by omega)⟩, fun c => by exfalso; split at c <;> omega⟩⟩)
  have l30 : ∀ (n u : Nat) (nu : Mem), u + n = 601 → zsm [90, 91, 92] mu nu → (∀ t : Nat, t < u → nu 92 t = zNt (mu 75) (mu 77) (mu 74 0) t) → (∀ i, 0 ≤ i → i < 3 * mu 74 0 → nu 90 i = zrt (mu 75) (mu 77) u i) → zG K d mX9_ring 30 [zR 64, zI a1, zI u, zU] [] nu Q := by
    intro n
    induction n with
    | zero =>
      intro u nu u1 hz h92 h90
      have e : u = 601 := by omega
      subst e
      exact sg_X9_ring_30 hd hK ⟨⟨by omega, by omega⟩, fun _ => h nu hz (fun t ht => h92 t (by omega)), fun c => absurd (by omega) c⟩
    | succ n ih =>
      intro u nu u1 hz h92 h90
      have e74 : nu 74 = mu 74 := hz 74 (by decide)
      have e75 : nu 75 = mu 75 := hz 75 (by decide)
      have v6 := zrt_6 hf hv u
      refine sg_X9_ring_30 hd hK ⟨⟨by omega, by omega⟩, fun c => absurd c (by omega), fun _ => ?_⟩
      refine m_state hK (by rw [e74]; omega) (fun i i0 i1 => by rw [e74] at i1; rw [h90 i i0 i1]; exact v6 i i0 i1) ⟨_, rfl, by omega, by omega, ?_⟩
      rw [e74, znum_congr _ (fun i i0 i1 => h90 i i0 (by omega))]
      generalize hxi : zup nu 92 u (znum (zrt (mu 75) (mu 77) u) (3 * mu 74 0).toNat) = xi
      have x74 : xi 74 = mu 74 := by rw [← hxi, zup_row _ (by decide), e74]
      have x75 : xi 75 = mu 75 := by rw [← hxi, zup_row _ (by decide), e75]
      have x90 : xi 90 = nu 90 := by rw [← hxi, zup_row _ (by decide)]
      have hzx : zsm [90, 91, 92] mu xi := by rw [← hxi]; exact hz.up (by simp)
      refine m_goRound (by omega) hK (by rw [x74]; omega) (by rw [x74, x75]; exact hf) (fun i i0 i1 => by rw [x74] at i1; rw [x90, h90 i i0 i1]; exact v6 i i0 i1) (fun om ho h2 => ⟨rfl, ?_⟩)
      rw [x74, x75, x90] at h2
      refine ih (u + 1) om (by omega) (hzx.tr (ho.wk (by simp))) (fun t ht => ?_) (fun i i0 i1 => ?_)
      · rw [ho 92 (by decide), ← hxi]
        by_cases q : t = u
        · rw [q, zup_same]; rfl
        · rw [zup_slot _ (by omega)]
          exact h92 t (by omega)
      · rw [h2 i i0 i1]
        exact zrd_congr (m := mu 74 0) (fun p p0 p1 => ⟨rfl, hf p p0 p1⟩) h90 i i0 i1
  refine m_takeNet hK (fun nu hz h1 => ⟨rfl, ?_⟩)
  exact l30 601 0 nu (by omega) (hz.wk (by simp)) (fun t ht => absurd ht (by omega)) (fun i i0 i1 => h1 i i0 (by omega))
/-- the scan: no repetition before (t0, u0) -/
theorem m_scan {a1 : Int} {N : Nat → Int} {t0 u0 : Nat} (hd : 2 ≤ d) (hK : 93 ≤ K) (ha : a1 = 0 ∨ a1 = 1) (nb : ∀ t, zil (N t)) (hN : ∀ t : Nat, t ≤ 600 → mu 92 t = N t) (h0 : t0 < u0) (hu : u0 ≤ 600) (he : N t0 = N u0) (hno : ∀ t u : Nat, t < u → (t < t0 ∨ (t = t0 ∧ u < u0)) → ¬ N t = N u)
    (h : Q (zI (if a1 = 0 then (t0 : Int) else u0 - t0)) mu) : zG K d mX9_ring 59 [zR 64, zI a1, zI 0, zU] [] mu Q := by
  have l70 : ∀ (n t u : Nat), t ≤ t0 → t < u → u + n = 601 → (t = t0 → u ≤ u0) → (t < t0 → zG K d mX9_ring 59 [zR 64, zI a1, zI (t + 1), zU] [] mu Q) → zG K d mX9_ring 70 [zR 64, zI a1, zI t, zI u] [] mu Q := by
    intro n
    induction n with
    | zero =>
      intro t u q1 q2 q3 q4 kk
      refine sg_X9_ring_70 hd hK ⟨⟨by omega, by omega⟩, fun _ => kk (by omega), fun c => absurd (by omega) c⟩
    | succ n ih =>
      intro t u q1 q2 q3 q4 kk
      refine sg_X9_ring_70 hd hK ⟨⟨by omega, by omega⟩, fun c => absurd c (by omega), fun _ => ⟨by omega, by omega, by omega, by omega, ?_⟩⟩
      rw [hN t (by omega), hN u (by omega)]
      refine ⟨nb t, nb u, fun c => ?_, fun c => ⟨⟨by omega, by omega⟩, ?_⟩⟩
      · have := ih t (u + 1) q1 (by omega) (by omega) (fun w => by
          by_cases q : u = u0
          · exfalso
            apply c
            rw [w, q]
            exact he
          · have := q4 w
            omega) kk
        exact this
      · have ht : t = t0 := by
          by_cases q : t < t0
          · exact absurd c (hno t u q2 (Or.inl q))
          · omega
        have hu : u = u0 := by
          by_cases q : u < u0
          · exact absurd c (hno t u q2 (Or.inr ⟨ht, q⟩))
          · have := q4 ht
            omega
        subst ht hu
        exact ⟨fun w => by rwa [if_neg w] at h, fun w => by rwa [if_pos w] at h⟩
  have l59 : ∀ (n t : Nat), t + n = t0 → zG K d mX9_ring 59 [zR 64, zI a1, zI t, zU] [] mu Q := by
    intro n
    induction n with
    | zero =>
      intro t q
      refine sg_X9_ring_59 hd hK ⟨⟨by omega, by omega⟩, fun c => absurd c (by omega), fun _ => ?_⟩
      have := l70 (600 - t) t (t + 1) (by omega) (by omega) (by omega) (by omega) (fun w => absurd w (by omega))
      exact this
    | succ n ih =>
      intro t q
      refine sg_X9_ring_59 hd hK ⟨⟨by omega, by omega⟩, fun c => absurd c (by omega), fun _ => ?_⟩
      have := l70 (600 - t) t (t + 1) (by omega) (by omega) (by omega) (by omega) (fun w => ih (t + 1) (by omega))
      exact this
  exact l59 t0 0 (by omega)
theorem m_scan0 {a1 : Int} {N : Nat → Int} (hd : 2 ≤ d) (hK : 93 ≤ K) (nb : ∀ t, zil (N t)) (hN : ∀ t : Nat, t ≤ 600 → mu 92 t = N t) (hno : ∀ t u : Nat, t < u → u ≤ 600 → ¬ N t = N u)
    (h : Q (zI (-4)) mu) : zG K d mX9_ring 59 [zR 64, zI a1, zI 0, zU] [] mu Q := by
  have l70 : ∀ (n t u : Nat), t < 600 → t < u → u + n = 601 → zG K d mX9_ring 59 [zR 64, zI a1, zI (t + 1), zU] [] mu Q → zG K d mX9_ring 70 [zR 64, zI a1, zI t, zI u] [] mu Q := by
    intro n
    induction n with
    | zero =>
      intro t u q1 q2 q3 kk
      exact sg_X9_ring_70 hd hK ⟨⟨by omega, by omega⟩, fun _ => kk, fun c => absurd (by omega) c⟩
    | succ n ih =>
      intro t u q1 q2 q3 kk
      refine sg_X9_ring_70 hd hK ⟨⟨by omega, by omega⟩, fun c => absurd c (by omega), fun _ => ⟨by omega, by omega, by omega, by omega, ?_⟩⟩
      rw [hN t (by omega), hN u (by omega)]
      refine ⟨nb t, nb u, fun c => ?_, fun c => absurd c (hno t u q2 (by omega))⟩
      have := ih t (u + 1) q1 (by omega) (by omega) kk
      exact this
  have l59 : ∀ (n t : Nat), t + n = 600 → zG K d mX9_ring 59 [zR 64, zI a1, zI t, zU] [] mu Q := by
    intro n
    induction n with
    | zero =>
      intro t q
      have e : t = 600 := by omega
      subst e
      exact sg_X9_ring_59 hd hK ⟨⟨by omega, by omega⟩, fun _ => h, fun c => absurd (by omega) c⟩
    | succ n ih =>
      intro t q
      refine sg_X9_ring_59 hd hK ⟨⟨by omega, by omega⟩, fun c => absurd c (by omega), fun _ => ?_⟩
      have := l70 (600 - t) t (t + 1) (by omega) (by omega) (by omega) (ih (t + 1) (by omega))
      exact this
  exact l59 600 0 (by omega)
end S61
theorem op_ring (a1 : Int) (ha : zin a1) : zOp 3 2 mX8_ring mX9_ring [zI a1] := by
  intro mu P hJ
  have hK : 64 ≤ 93 := by decide
  have hK' : 93 ≤ 93 := by decide
  have hJ0 := hJ
  obtain ⟨h1, h2, h3, -⟩ := hJ
  have hPi := h1.isP hK
  obtain ⟨rfl, -⟩ := h1
  obtain ⟨-, -, -, -, ⟨m1, m2, m3⟩, -, -, -, -, hf⟩ := h2
  have hfl : ∀ i, 0 ≤ i → i < 3 * mu (mu 0 3) 4 → zfl mu 22 i = mu 77 i ∧ 0 ≤ mu 77 i ∧ mu 77 i ≤ 6 := fun i i0 i1 => by
    have q := h3.fl i i0 i1
    rw [show 18 * (0 : Int) + i = i by omega] at q
    have q2 := q.2
    unfold zsg at q2
    have t3 : mu (mu 0 3) 0 ≤ 6 := hJ0.2.1.1.2.2
    exact ⟨q.1, by omega, by omega⟩
  have hf1 : ∀ p, 0 ≤ p → p < mu (mu 0 3) 4 → 0 ≤ mu (mu 0 3 + 5) p ∧ mu (mu 0 3 + 5) p < mu (mu 0 3) 4 := fun p p0 p1 => by rw [(hf p p0 p1).1]; exact (hf p p0 p1).2
  have hf2 : ∀ p, 0 ≤ p → p < mu 74 0 → 0 ≤ mu 75 p ∧ mu 75 p < mu 74 0 := fun p p0 p1 => by rw [← m1] at p1 ⊢; exact (hf p p0 p1).2
  have hv1 : ∀ i, 0 ≤ i → i < 3 * mu (mu 0 3) 4 → 0 ≤ zfl mu 22 i ∧ zfl mu 22 i ≤ 6 := fun i i0 i1 => by rw [(hfl i i0 i1).1]; exact (hfl i i0 i1).2
  have hv2 : ∀ i, 0 ≤ i → i < 3 * mu 74 0 → 0 ≤ mu 77 i ∧ mu 77 i ≤ 6 := fun i i0 i1 => by rw [← m1] at i1; exact (hfl i i0 i1).2
  have eN : ∀ t, zNt (mu 75) (mu 77) (mu 74 0) t = zNt (mu (mu 0 3 + 5)) (zfl mu 22) (mu (mu 0 3) 4) t := fun t => by
    unfold zNt
    rw [← m1]
    apply znum_congr
    intro i i0 i1
    exact (zrt_congr (m := mu (mu 0 3) 4) hf (fun i i0 i1 => (hfl i i0 i1).1) t i i0 (by omega)).symm
  have nb := fun t => zNt_bd (m := mu (mu 0 3) 4) ⟨m2, m3⟩ hf1 hv1 t
  have nd := fun t u => zNt_det (m := mu (mu 0 3) 4) (t := t) (u := u) m2 hf1 hv1
  have fin : ∀ (nu : Mem) (r : Int), zsm [56, 57, 58, 59, 60, 61, 62, 63] mu nu → (a1 = 0 ∨ a1 = 1) → ¬ mu (mu 0 3) 4 = 0 → (∀ xi, (∀ t : Nat, t ≤ 600 → xi 92 t = zNt (mu (mu 0 3 + 5)) (zfl mu 22) (mu (mu 0 3) 4) t) → (∃ P', jJ xi P') → zG 93 2 mX9_ring 59 [zR 64, zI a1, zI 0, zU] [] xi (fun v' nu' => v' = zI r ∧ ∃ P', jJ nu' P')) → zC 93 2 mX9_ring [zR 64, zI a1] nu (fun v' nu' => v' = zI r ∧ ∃ P', jJ nu' P') := fun nu r hz w1 w2 k => by
    have hJ1 := hJ0.same (hz.J (by decide))
    have e : ∀ k : Int, 64 ≤ k → nu k = mu k := fun k hk => hz k (by simp only [List.mem_cons, List.not_mem_nil, or_false]; omega)
    refine m_ring (by omega) hK' w1 (by rw [e 74 (by omega)]; omega) (by rw [e 74 (by omega), e 75 (by omega)]; exact hf2) (by rw [e 74 (by omega), e 77 (by omega)]; exact hv2) (fun xi hx h92 => ?_)
    rw [e 74 (by omega), e 75 (by omega), e 77 (by omega)] at h92
    exact k xi (fun t ht => by rw [h92 t ht, eN]) ⟨_, hJ1.same (hx.J (by decide))⟩
  refine ce_X8_ring (sg_X8_ring_0 (by omega) hK (s_within hK ha ⟨by omega, by omega⟩ ⟨by omega, by omega⟩ ⟨_, rfl, zbin _, fun c => ⟨hPi, ⟨by omega, by omega⟩, fun c2 => ?_, fun c2 => ?_⟩, fun c => ?_⟩))
  · have w1 : a1 = 0 ∨ a1 = 1 := by split at c <;> omega
    refine s_findRing (by omega) hK hPi ⟨by omega, by omega⟩ rfl ⟨m2, m3⟩ hf1 hv1 (fun hno nu hz => ⟨_, rfl, ⟨by omega, by omega⟩, fun q => absurd rfl q, fun _ => ⟨_, ⟨by omega, by omega⟩, rfl, fin nu _ hz w1 c2 (fun xi h92 hj => m_scan0 (by omega) hK' nb h92 hno ⟨rfl, hj⟩)⟩⟩) (fun t u htu hu he hno nu hz e0 e1 => ⟨_, rfl, ⟨by omega, by omega⟩, fun _ => ⟨ha, fun q => ?_, fun q => ?_⟩, fun q => absurd q (by omega)⟩)
    · rw [e1]
      refine ⟨_, ⟨by omega, by omega⟩, rfl, fin nu _ hz w1 c2 (fun xi h92 hj => m_scan (by omega) hK' w1 nb h92 htu hu he (fun t' u' w3 w4 => zring nd htu he hno w3 w4) ⟨by rw [if_neg q], hj⟩)⟩
    · rw [e0]
      refine ⟨_, ⟨by omega, by omega⟩, rfl, fin nu _ hz w1 c2 (fun xi h92 hj => m_scan (by omega) hK' w1 nb h92 htu hu he (fun t' u' w3 w4 => zring nd htu he hno w3 w4) ⟨by rw [if_pos q], hj⟩)⟩
  · refine ⟨_, ⟨by omega, by omega⟩, rfl, ?_⟩
    refine ce_X9_ring (sg_X9_ring_0 (by omega) hK' ⟨ha, s_in hK' (zil_of ha) ⟨by omega, by omega⟩ ⟨by omega, by omega⟩ ⟨_, rfl, zbin _, fun c3 => ⟨⟨by omega, by omega⟩, fun c4 => absurd c4 (by omega), fun c4 => ⟨rfl, _, hJ0⟩⟩, fun c3 => by exfalso; split at c <;> split at c3 <;> omega⟩⟩)
  · refine ⟨_, ⟨by omega, by omega⟩, rfl, ?_⟩
    refine ce_X9_ring (sg_X9_ring_0 (by omega) hK' ⟨ha, s_in hK' (zil_of ha) ⟨by omega, by omega⟩ ⟨by omega, by omega⟩ ⟨_, rfl, zbin _, fun c3 => by exfalso; split at c <;> split at c3 <;> omega, fun c3 => ⟨rfl, _, hJ0⟩⟩⟩)
