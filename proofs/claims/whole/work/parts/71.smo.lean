/-! strangers: the reference -/
theorem zNd_congr {kind : Int} {t n : Nat} {w w' : Int → Int} {set : Nat} (h : ∀ i : Nat, i < n → w i = w' i) : ∀ (r : Nat), r ≤ n → ∀ a b : Int, zNd kind t n w set r a b = zNd kind t n w' set r a b
  | 0, _, _, _ => by rw [zNd, zNd]
  | r + 1, hr, a, b => by
    have ih := zNd_congr (kind := kind) (t := t) (set := set) h r (by omega)
    have e : ∀ x y : Int, zAq kind t n w set r x y = zAq kind t n w' set r x y := fun x y => by
      unfold zAq zat
      rw [h (n - (r + 1)) (by omega), ih]
    rw [zNd_s, zNd_s, e a b, zmn_congr t (fun k _ => zmn_congr t (fun l _ => e k l)), zmn_congr t (fun k _ => e b k)]
theorem zAq_congr {kind : Int} {t n : Nat} {w w' : Int → Int} {set r : Nat} (h : ∀ i : Nat, i < n → w i = w' i) (hr : r + 1 ≤ n) (a b : Int) : zAq kind t n w set r a b = zAq kind t n w' set r a b := by
  unfold zAq zat
  rw [h (n - (r + 1)) (by omega), zNd_congr h r (by omega)]
theorem zfs_congr {kind : Int} {t n : Nat} {w w' : Int → Int} {set r : Nat} (h : ∀ i : Nat, i < n → w i = w' i) (hr : r + 1 ≤ n) (a b : Int) : zfs kind t n w set r a b = zfs kind t n w' set r a b ∧ zfb kind t n w set r a b = zfb kind t n w' set r a b := by
  have e : ∀ (w : Int → Int), zfs kind t n w set r a b = zfirst (fun x => decide (zNd kind t n w set (r + 1) b x + 1 = zNd kind t n w set (r + 1) a b)) (if zAq kind t n w set r a b = zNd kind t n w set (r + 1) a b then (w ((n - (r + 1) : Nat) : Int)).toNat else t) 0 := fun _ => rfl
  have e2 : ∀ (w : Int → Int), zfb kind t n w set r a b = (if zAq kind t n w set r a b = zNd kind t n w set (r + 1) a b then w ((n - (r + 1) : Nat) : Int) else t) := fun _ => rfl
  constructor
  · rw [e, e, zAq_congr h hr, zNd_congr h (r + 1) hr a b, h (n - (r + 1)) (by omega)]
    apply zfirst_congr
    intro x _ _
    rw [zNd_congr h (r + 1) hr b x]
  · rw [e2, e2, zAq_congr h hr, zNd_congr h (r + 1) hr a b, h (n - (r + 1)) (by omega)]
theorem zSl_congr {kind : Int} {t n : Nat} {w w' : Int → Int} {set : Nat} (h : ∀ i : Nat, i < n → w i = w' i) : ∀ (f r : Nat), r ≤ n → ∀ a b : Int, zSl kind t n w set f r a b = zSl kind t n w' set f r a b
  | 0, _, _, _, _ => by rw [zSl, zSl]
  | f + 1, 0, _, _, _ => by rw [zSl, zSl]
  | f + 1, r + 1, hr, a, b => by
    have c := zfs_congr (kind := kind) (t := t) (set := set) h hr a b
    rw [zSl, zSl, c.1, c.2, h (n - (r + 1)) (by omega), zSl_congr h f (r + 1) hr, zSl_congr h f r (by omega)]
abbrev zNm (mu : Mem) (S r : Nat) (a b : Int) : Int := zNd (mu 67 0) (mu 66 0).toNat (mu 70 0).toNat (mu 71) S r a b
abbrev zAm (mu : Mem) (S r : Nat) (a b : Int) : Int := zAq (mu 67 0) (mu 66 0).toNat (mu 70 0).toNat (mu 71) S r a b
abbrev zEm (mu : Mem) (S r ρ : Nat) (a b : Int) : Int := zE (mu 67 0) (mu 66 0).toNat (mu 70 0).toNat (mu 71) S r ρ a b
theorem zRQ.sq {mu : Mem} {S : Nat} (h : zRQ mu S) : zSQ (mu 67 0) (mu 66 0).toNat (mu 70 0).toNat (mu 71) := by
  obtain ⟨ht, hk, hn, hw, -⟩ := h
  refine ⟨hk, by omega, by omega, fun i hi => ?_⟩
  have := hw i (by omega) (by omega)
  omega
/-- the levels behind i -/
def zLv (mu nu : Mem) (S : Nat) (i : Int) : Prop := ∀ i' k : Int, i < i' → 0 ≤ i' → i' ≤ mu 70 0 → 0 ≤ k → k < 64 → nu 83 (64 * i' + k) = zNm mu S (mu 70 0 - i').toNat (ze (k / 8)) (ze (k % 8))
theorem zRQ.c3 {mu nu : Mem} {S : Nat} (h : zRQ mu S) (h66 : nu 66 = mu 66) (h67 : nu 67 = mu 67) (h70 : nu 70 = mu 70) (h71 : nu 71 = mu 71) : zRQ nu S := by
  unfold zRQ at *
  rw [h66, h67, h70, h71]
  exact h
section S71
variable {K d : Nat} {mu : Mem} {Q : AV → Mem → Prop}
theorem m_byQueue {S : Nat} {i a b : Int} {nu : Mem} (hd : 2 ≤ d) (hK : 93 ≤ K) (hR : zRQ mu S) (e66 : nu 66 = mu 66) (e67 : nu 67 = mu 67) (e70 : nu 70 = mu 70) (e71 : nu 71 = mu 71) (hi : 0 ≤ i ∧ i < mu 70 0) (ha : 0 ≤ a ∧ a ≤ 7) (hb : 0 ≤ b ∧ b ≤ 7) (hL : zLv mu nu S i)
    (h : Q (zI (min 99 (zAm mu S (mu 70 0 - i - 1).toNat (ze a) (ze b)))) nu) : zC K d mX9_byQueue [zR 64, zI S, zI i, zI a, zI b] nu Q := by
  have sq := hR.sq
  obtain ⟨ht, hk, hn, hw, hS⟩ := hR
  have s10 := zc10 hS (by omega)
  have w := hw i hi.1 hi.2
  have L := hL (i + 1) (8 * b + mu 71 i) (by omega) (by omega) (by omega) (by omega) (by omega)
  rw [show (8 * b + mu 71 i) / 8 = b by omega, show (8 * b + mu 71 i) % 8 = mu 71 i by omega, show (mu 70 0 - (i + 1)).toNat = (mu 70 0 - i - 1).toNat by omega, ze_s (show mu 71 i < 6 by omega), show 64 * (i + 1) + (8 * b + mu 71 i) = 64 * (i + 1) + 8 * b + mu 71 i by omega] at L
  have ei : (((mu 70 0).toNat - ((mu 70 0 - i - 1).toNat + 1) : Nat) : Int) = i := by omega
  have ein : (mu 70 0).toNat - ((mu 70 0 - i - 1).toNat + 1) = i.toNat := by omega
  have nb : 0 ≤ zNm mu S (mu 70 0 - i - 1).toNat (ze b) (mu 71 i) ∧ zNm mu S (mu 70 0 - i - 1).toNat (ze b) (mu 71 i) ≤ (((mu 70 0 - i - 1).toNat : Nat) : Int) := zNd_bd (set := S) sq _ (by omega) _ _
  have fin : (¬ (S.testBit i.toNat = true ∧ ¬ zgb (mu 67 0) (ze a) (ze b) (mu 71 i) = mu 71 i)) → Q (zI (nu 83 (64 * (i + 1) + 8 * b + mu 71 i))) nu := fun q => by
    rw [L]
    unfold zAm zAq zat at h
    have h99 : zNm mu S (mu 70 0 - i - 1).toNat (ze b) (mu 71 i) ≤ 99 := by omega
    rw [ei, ein, if_neg q, Int.min_eq_right h99] at h
    exact h
  refine ce_X9_byQueue (sg_X9_byQueue_0 hd hK ⟨hi.1, by omega, m_has hK (by omega) (by omega) ⟨_, rfl, zbin _, fun c => ?_, fun c => ?_⟩⟩)
  · have cb : ¬ S.testBit i.toNat = true := fun z => by rw [if_pos z] at c; exact absurd c (by decide)
    rw [e71]
    exact m_stand hK ⟨_, rfl, by omega, by omega, fin (fun q => cb q.1)⟩
  · have cb : S.testBit i.toNat = true := by
      by_cases z : S.testBit i.toNat = true
      · exact z
      · rw [if_neg z] at c; exact absurd rfl c
    have zb := zgb_bd (k := mu 67 0) (a := ze a) (b := ze b) (c := mu 71 i) (by unfold ze; split <;> omega) (by unfold ze; split <;> omega) (by omega)
    rw [e71]
    refine m_shortly (by omega) hK (by rw [e67]; exact hk) ha ⟨hb.1, hb.2, fun _ => Or.inr trivial⟩ ⟨by omega, by omega⟩ ⟨_, rfl, ?_⟩
    rw [e67]
    refine ⟨⟨by omega, by omega⟩, ⟨by omega, by omega⟩, fun c2 => ?_, fun c2 => ?_⟩
    · exact m_stand hK ⟨_, rfl, by omega, by omega, fin (fun q => q.2 c2)⟩
    · unfold zAm zAq zat at h
      rw [ei, ein, if_pos ⟨cb, c2⟩] at h
      exact h
/-- a level while it is laid -/
def zRd (mu nu : Mem) (S : Nat) (i : Int) (ρ : Nat) (k : Int) : Prop := zLv mu nu S i ∧ ∀ k' : Int, 0 ≤ k' → k' < 64 → zNm mu S (mu 70 0 - i).toNat (ze (k' / 8)) (ze (k' % 8)) ≤ nu 83 (64 * i + k') ∧ nu 83 (64 * i + k') ≤ zEm mu S (mu 70 0 - i - 1).toNat ρ (ze (k' / 8)) (ze (k' % 8)) ∧ (k' < k → nu 83 (64 * i + k') ≤ zEm mu S (mu 70 0 - i - 1).toNat (ρ + 1) (ze (k' / 8)) (ze (k' % 8)))
theorem m_layNeeds {S : Nat} (hd : 3 ≤ d) (hK : 93 ≤ K) (hR : zRQ mu S) (h : ∀ nu, zsm [83] mu nu → zLv mu nu S (-1) → Q zV nu) : zC K d mX9_layNeeds [zR 64, zI S] mu Q := by
  have hR0 := hR
  have sq := hR.sq
  obtain ⟨ht, hk, hn, hw, hS⟩ := hR
  have nb : ∀ (r : Nat) (a b : Int), r ≤ (mu 70 0).toNat → 0 ≤ zNm mu S r a b ∧ zNm mu S r a b ≤ (r : Int) := fun r a b hr => zNd_bd (set := S) sq r hr a b
  have eb : ∀ (r ρ : Nat) (a b : Int), zEm mu S r ρ a b ≤ 99 := fun r ρ a b => by
    have := zE_mono (kind := mu 67 0) (t := (mu 66 0).toNat) (n := (mu 70 0).toNat) (w := mu 71) (set := S) (r := r) (a := a) (b := b) ρ 0
    rw [Nat.zero_add, zE.eq_1] at this
    exact this
  have l101 : ∀ (i : Int) (ρ : Nat) (k : Int), 0 ≤ i → i < mu 70 0 → ρ ≤ 12 → 0 ≤ k → k < 64 → ∀ nu, zsm [83] mu nu → zRd mu nu S i ρ k → (∀ xi, zsm [83] mu xi → zRd mu xi S i ρ (k + 1) → zG K d mX9_layNeeds 73 [zR 64, zI S, zI i, zI ρ, zI (k + 1), zU, zU, zU] [] xi Q) → ∀ (q : Nat) (x v : Int), 0 ≤ x → x + q = mu 66 0 → zNm mu S (mu 70 0 - i).toNat (ze (k / 8)) (ze (k % 8)) ≤ v → v ≤ min 99 (zAm mu S (mu 70 0 - i - 1).toNat (ze (k / 8)) (ze (k % 8))) → (∀ y : Nat, (y : Int) < x → v ≤ zEm mu S (mu 70 0 - i - 1).toNat ρ (ze (k % 8)) y + 1) → zG K d mX9_layNeeds 101 [zR 64, zI S, zI i, zI ρ, zI k, zI v, zI x, zU] [] nu Q := by
    intro i ρ k i0 i1 hρ k0 k1 nu hz hX kk q
    have e66 : nu 66 = mu 66 := hz 66 (by decide)
    have em : k.tmod 8 = k % 8 := Int.tmod_eq_emod_of_nonneg k0
    have er : (mu 70 0 - i).toNat = (mu 70 0 - i - 1).toNat + 1 := by omega
    have n0 := nb (mu 70 0 - i).toNat (ze (k / 8)) (ze (k % 8)) (by omega)
    obtain ⟨hL, hX2⟩ := hX
    induction q with
    | zero =>
      intro x v x0 x1 v0 v1 v2
      have ex : x = mu 66 0 := by omega
      subst ex
      obtain ⟨c1, c2, c3⟩ := hX2 k k0 k1
      have e9 := eb (mu 70 0 - i - 1).toNat ρ (ze (k / 8)) (ze (k % 8))
      have hv : v ≤ zEm mu S (mu 70 0 - i - 1).toNat (ρ + 1) (ze (k / 8)) (ze (k % 8)) := by
        have e : zEm mu S (mu 70 0 - i - 1).toNat (ρ + 1) (ze (k / 8)) (ze (k % 8)) = min (min 99 (zAm mu S (mu 70 0 - i - 1).toNat (ze (k / 8)) (ze (k % 8)))) (zmn (fun x : Nat => zEm mu S (mu 70 0 - i - 1).toNat ρ (ze (k % 8)) x) (mu 66 0).toNat + 1) := by
          unfold zEm
          rw [zE]
        have : v - 1 ≤ zmn (fun x : Nat => zEm mu S (mu 70 0 - i - 1).toNat ρ (ze (k % 8)) x) (mu 66 0).toNat := zmn_ge (by omega) _ (fun y hy => by
          have := v2 y (by omega)
          omega)
        omega
      have fin : ∀ u : Int, zNm mu S (mu 70 0 - i).toNat (ze (k / 8)) (ze (k % 8)) ≤ u → u ≤ nu 83 (64 * i + k) → u ≤ v → zG K d mX9_layNeeds 73 [zR 64, zI S, zI i, zI ρ, zI (k + 1), zU, zU, zU] [] (zup nu 83 (64 * i + k) u) Q := fun u u1 u2 u3 => by
        refine kk _ (hz.up (by simp)) ⟨fun i' k' q1 q2 q3 q4 q5 => ?_, fun k' q4 q5 => ?_⟩
        · rw [zup_slot _ (by omega)]
          exact hL i' k' q1 q2 q3 q4 q5
        · by_cases same : k' = k
          · subst same
            rw [zup_same]
            exact ⟨u1, by omega, fun _ => by omega⟩
          · rw [zup_slot _ (by omega)]
            obtain ⟨d1, d2, d3⟩ := hX2 k' q4 q5
            exact ⟨d1, d2, fun w => d3 (by omega)⟩
      refine sg_X9_layNeeds_101 hd hK ⟨⟨by omega, by omega⟩, by rw [e66]; exact ⟨by omega, by omega⟩, fun _ => ⟨by omega, by omega, ⟨by omega, by omega⟩, ⟨by omega, by omega⟩, fun w => fin _ c1 (Int.le_refl _) w, fun w => fin _ v0 (by omega) (Int.le_refl _)⟩, fun w => absurd (by rw [e66]; omega) w⟩
    | succ q ih =>
      intro x v x0 x1 v0 v1 v2
      obtain ⟨c1, c2, c3⟩ := hX2 (8 * (k % 8) + x) (by omega) (by omega)
      rw [show (8 * (k % 8) + x) / 8 = k % 8 by omega, show (8 * (k % 8) + x) % 8 = x by omega, ze_s (show x < 6 by omega)] at c1 c2
      have e9 := eb (mu 70 0 - i - 1).toNat ρ (ze (k % 8)) x
      have n1 := nb (mu 70 0 - i).toNat (ze (k % 8)) x (by omega)
      have nl : zNm mu S (mu 70 0 - i).toNat (ze (k / 8)) (ze (k % 8)) ≤ zNm mu S (mu 70 0 - i).toNat (ze (k % 8)) x + 1 := by
        rw [er]
        have := zNd_le (kind := mu 67 0) (t := (mu 66 0).toNat) (n := (mu 70 0).toNat) (w := mu 71) (set := S) (r := (mu 70 0 - i - 1).toNat) (x := x.toNat) (a := ze (k / 8)) (b := ze (k % 8)) (by omega)
        rw [show ((x.toNat : Nat) : Int) = x by omega] at this
        exact this
      refine sg_X9_layNeeds_101 hd hK ⟨⟨by omega, by omega⟩, by rw [e66]; exact ⟨by omega, by omega⟩, fun w => absurd w (by rw [e66]; omega), fun _ => ⟨⟨by omega, by omega⟩, ?_⟩⟩
      rw [em]
      refine m_stand hK ⟨_, rfl, by omega, by omega, ?_⟩
      rw [show 64 * i + 8 * (k % 8) + x = 64 * i + (8 * (k % 8) + x) by omega]
      refine ⟨⟨by omega, by omega⟩, ⟨by omega, by omega⟩, fun w => ?_, fun w => ?_⟩
      · refine ih (x + 1) v (by omega) (by omega) v0 v1 (fun y hy => ?_)
        by_cases q : (y : Int) = x
        · rw [q]; omega
        · exact v2 y (by omega)
      · refine ih (x + 1) _ (by omega) (by omega) (by omega) (by omega) (fun y hy => ?_)
        by_cases q : (y : Int) = x
        · rw [q]; omega
        · have := v2 y (by omega)
          omega
  have l73 : ∀ (i : Int) (ρ : Nat), 0 ≤ i → i < mu 70 0 → ρ ≤ 12 → (∀ xi, zsm [83] mu xi → zRd mu xi S i (ρ + 1) 0 → zG K d mX9_layNeeds 54 [zR 64, zI S, zI i, zI (ρ + 1), zU, zU, zU, zU] [] xi Q) → ∀ (q : Nat) (k : Int) (nu : Mem), 0 ≤ k → k + q = 64 → zsm [83] mu nu → zRd mu nu S i ρ k → zG K d mX9_layNeeds 73 [zR 64, zI S, zI i, zI ρ, zI k, zU, zU, zU] [] nu Q := by
    intro i ρ i0 i1 hρ kk q
    induction q with
    | zero =>
      intro k nu k0 k1 hz hX
      have ek : k = 64 := by omega
      subst ek
      exact sg_X9_layNeeds_73 hd hK ⟨⟨by omega, by omega⟩, fun _ => kk nu hz ⟨hX.1, fun k' q4 q5 => ⟨(hX.2 k' q4 q5).1, (hX.2 k' q4 q5).2.2 q5, fun w => absurd w (by omega)⟩⟩, fun w => absurd (by omega) w⟩
    | succ q ih =>
      intro k nu k0 k1 hz hX
      have em : k.tmod 8 = k % 8 := Int.tmod_eq_emod_of_nonneg k0
      have ed : k.tdiv 8 = k / 8 := Int.tdiv_eq_ediv_of_nonneg k0
      refine sg_X9_layNeeds_73 hd hK ⟨⟨by omega, by omega⟩, fun w => absurd w (by omega), fun _ => ?_⟩
      rw [em, ed]
      refine m_byQueue (by omega) hK hR0 (hz 66 (by decide)) (hz 67 (by decide)) (hz 70 (by decide)) (hz 71 (by decide)) ⟨i0, i1⟩ ⟨by omega, by omega⟩ ⟨by omega, by omega⟩ hX.1 ⟨_, rfl, ?_⟩
      have er : (mu 70 0 - i).toNat = (mu 70 0 - i - 1).toNat + 1 := by omega
      have n0 := nb (mu 70 0 - i).toNat (ze (k / 8)) (ze (k % 8)) (by omega)
      have na : zNm mu S (mu 70 0 - i).toNat (ze (k / 8)) (ze (k % 8)) ≤ zAm mu S (mu 70 0 - i - 1).toNat (ze (k / 8)) (ze (k % 8)) := by
        rw [er]
        exact zNd_at
      exact l101 i ρ k i0 i1 hρ k0 (by omega) nu hz hX (fun xi hx hX' => ih (k + 1) xi (by omega) (by omega) hx hX') (mu 66 0).toNat 0 _ (by omega) (by omega) (by omega) (Int.le_refl _) (fun y hy => absurd hy (by omega))
  have l54 : ∀ (i : Int), 0 ≤ i → i < mu 70 0 → (∀ xi, zsm [83] mu xi → zLv mu xi S (i - 1) → zG K d mX9_layNeeds 7 [zR 64, zI S, zI (i + (-1)), zU, zU, zU, zU, zU] [] xi Q) → ∀ (q ρ : Nat) (nu : Mem), ρ + q = 13 → zsm [83] mu nu → zRd mu nu S i ρ 0 → zG K d mX9_layNeeds 54 [zR 64, zI S, zI i, zI ρ, zU, zU, zU, zU] [] nu Q := by
    intro i i0 i1 kk q
    induction q with
    | zero =>
      intro ρ nu hρ hz hX
      have e : ρ = 13 := by omega
      subst e
      refine sg_X9_layNeeds_54 hd hK ⟨⟨by omega, by omega⟩, fun _ => kk nu hz (fun i' k q1 q2 q3 q4 q5 => ?_), fun w => absurd (by omega) w⟩
      by_cases same : i' = i
      · subst same
        obtain ⟨c1, c2, -⟩ := hX.2 k q4 q5
        have e13 : zEm mu S (mu 70 0 - i' - 1).toNat 13 (ze (k / 8)) (ze (k % 8)) ≤ zNm mu S (mu 70 0 - i').toNat (ze (k / 8)) (ze (k % 8)) := by
          rw [show (mu 70 0 - i').toNat = (mu 70 0 - i' - 1).toNat + 1 by omega]
          exact zE_13
        omega
      · exact hX.1 i' k (by omega) q2 q3 q4 q5
    | succ q ih =>
      intro ρ nu hρ hz hX
      have e70 : nu 70 = mu 70 := hz 70 (by decide)
      refine sg_X9_layNeeds_54 hd hK ⟨⟨by omega, by omega⟩, fun w => absurd w (by omega), fun _ => ⟨⟨by omega, by omega⟩, by rw [e70]; exact ⟨by omega, by omega⟩, fun w => absurd w (by rw [e70]; omega), fun _ => ?_⟩⟩
      exact l73 i ρ i0 i1 (by omega) (fun xi hx hX' => ih (ρ + 1) xi (by omega) hx hX') 64 0 nu (by omega) (by omega) hz hX
  have l13 : ∀ (i : Int), 0 ≤ i → i ≤ mu 70 0 → (∀ xi, zsm [83] mu xi → zLv mu xi S i → (∀ k, 0 ≤ k → k < 64 → xi 83 (64 * i + k) = if i = mu 70 0 then 0 else 99) → zG K d mX9_layNeeds 54 [zR 64, zI S, zI i, zI 0, zU, zU, zU, zU] [] xi Q) → ∀ (q : Nat) (k : Int) (nu : Mem), 0 ≤ k → k + q = 64 → zsm [83] mu nu → zLv mu nu S i → (∀ k', 0 ≤ k' → k' < k → nu 83 (64 * i + k') = if i = mu 70 0 then 0 else 99) → zG K d mX9_layNeeds 13 [zR 64, zI S, zI i, zI k, zU, zU, zU, zU] [] nu Q := by
    intro i i0 i1 kk q
    induction q with
    | zero =>
      intro k nu k0 k1 hz hL hX
      have ek : k = 64 := by omega
      subst ek
      exact sg_X9_layNeeds_13 hd hK ⟨⟨by omega, by omega⟩, fun _ => kk nu hz hL hX, fun w => absurd (by omega) w⟩
    | succ q ih =>
      intro k nu k0 k1 hz hL hX
      have e70 : nu 70 = mu 70 := hz 70 (by decide)
      have nx : ∀ v, v = (if i = mu 70 0 then 0 else 99) → zG K d mX9_layNeeds 13 [zR 64, zI S, zI i, zI (k + 1), zU, zU, zU, zU] [] (zup nu 83 (64 * i + k) v) Q := fun v hv => by
        refine ih (k + 1) _ (by omega) (by omega) (hz.up (by simp)) (fun i' k' q1 q2 q3 q4 q5 => ?_) (fun k' q1 q2 => ?_)
        · rw [zup_slot _ (by omega)]
          exact hL i' k' q1 q2 q3 q4 q5
        · by_cases same : k' = k
          · rw [same, zup_same, hv]
          · rw [zup_slot _ (by omega)]
            exact hX k' q1 (by omega)
      refine sg_X9_layNeeds_13 hd hK ⟨⟨by omega, by omega⟩, fun w => absurd w (by omega), fun _ => ⟨⟨by omega, by omega⟩, by rw [e70]; exact ⟨by omega, by omega⟩, ?_⟩⟩
      rw [e70]
      exact ⟨fun w => ⟨by omega, by omega, nx _ (by rw [if_neg w])⟩, fun w => ⟨by omega, by omega, nx _ (by rw [if_pos w])⟩⟩
  have l7 : ∀ (q : Nat) (i : Int) (nu : Mem), i + 1 = q → i ≤ mu 70 0 → zsm [83] mu nu → zLv mu nu S i → zG K d mX9_layNeeds 7 [zR 64, zI S, zI i, zU, zU, zU, zU, zU] [] nu Q := by
    intro q
    induction q with
    | zero =>
      intro i nu hi i1 hz hL
      have e : i = -1 := by omega
      subst e
      exact sg_X9_layNeeds_7 hd hK ⟨⟨by omega, by omega⟩, fun _ => h nu hz hL, fun w => absurd (by omega) w⟩
    | succ q ih =>
      intro i nu hi i1 hz hL
      refine sg_X9_layNeeds_7 hd hK ⟨⟨by omega, by omega⟩, fun w => absurd w (by omega), fun _ => ?_⟩
      have nx : ∀ xi, zsm [83] mu xi → zLv mu xi S (i - 1) → zG K d mX9_layNeeds 7 [zR 64, zI S, zI (i + (-1)), zU, zU, zU, zU, zU] [] xi Q := fun xi hx hX => ih (i + (-1)) xi (by omega) (by omega) hx (by rw [show i + (-1) = i - 1 by omega]; exact hX)
      refine l13 i (by omega) i1 (fun xi hx hL' hX => ?_) 64 0 nu (by omega) (by omega) hz hL (fun k' q1 q2 => absurd q2 (by omega))
      by_cases q : i = mu 70 0
      · have e70 : xi 70 = mu 70 := hx 70 (by decide)
        refine sg_X9_layNeeds_54 hd hK ⟨⟨by omega, by omega⟩, fun w => absurd w (by omega), fun _ => ⟨⟨by omega, by omega⟩, by rw [e70]; exact ⟨by omega, by omega⟩, fun w => nx xi hx (fun i' k' q1 q2 q3 q4 q5 => ?_), fun w => absurd (by rw [e70]; omega) w⟩⟩
        by_cases same : i' = i
        · rw [same, hX k' q4 q5, if_pos q, q, show (mu 70 0 - mu 70 0).toNat = 0 by omega]
          unfold zNm
          rw [zNd]
        · exact hL' i' k' (by omega) q2 q3 q4 q5
      · refine l54 i (by omega) (by omega) nx 13 0 xi (by omega) hx ⟨hL', fun k' q4 q5 => ?_⟩
        rw [hX k' q4 q5, if_neg q]
        have n0 := nb (mu 70 0 - i).toNat (ze (k' / 8)) (ze (k' % 8)) (by omega)
        refine ⟨by omega, ?_, fun w => absurd w (by omega)⟩
        unfold zEm
        rw [zE]
        omega
  exact ce_X9_layNeeds (sg_X9_layNeeds_0 hd hK (l7 ((mu 70 0).toNat + 1) (mu 70 0) mu (by omega) (by omega) zsm.rf (fun i' k q1 q2 q3 q4 q5 => absurd q1 (by omega))))
end S71
