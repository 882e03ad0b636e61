/-! before -/
/-- asks ahead of a post; gifts ahead -/
def zca (N e l g : Int) : Int := zsum (fun x => if (x < N ∨ x = 6) ∧ zmaj x e l = g then 1 else 0) 7
def zok1 (f l : Int → Int) (p x : Int) : Nat → Bool
  | 0 => true
  | q + 1 => zok1 f l p x q && (!decide (f q = p) || decide (l q = x))
def zcg (N : Int) (f l : Int → Int) (p : Int) (m : Nat) : Int := zsum (fun x => if (x < N ∨ x = 6) ∧ zok1 f l p x m = true then 1 else 0) 7
def zprd (F : Int → Int) : Nat → Int
  | 0 => 1
  | n + 1 => zprd F n * F n
theorem zok1_congr {f f' l l' : Int → Int} {p x : Int} : ∀ (m : Nat), (∀ q : Int, 0 ≤ q → q < m → f q = f' q ∧ l q = l' q) → zok1 f l p x m = zok1 f' l' p x m
  | 0, _ => rfl
  | m + 1, h => by
    unfold zok1
    rw [zok1_congr m (fun q h0 h1 => h q h0 (by omega)), (h m (by omega) (by omega)).1, (h m (by omega) (by omega)).2]
theorem zprd_congr {F G : Int → Int} : ∀ (n : Nat), (∀ i : Int, 0 ≤ i → i < n → F i = G i) → zprd F n = zprd G n
  | 0, _ => rfl
  | n + 1, h => by
    unfold zprd
    rw [zprd_congr n (fun i h0 h1 => h i h0 (by omega)), h n (by omega) (by omega)]
theorem zprd_bd {F : Int → Int} (h : ∀ i, 0 ≤ F i ∧ F i ≤ 49) : ∀ n : Nat, 0 ≤ zprd F n ∧ zprd F n ≤ 49 ^ n
  | 0 => ⟨by simp [zprd], by simp [zprd]⟩
  | n + 1 => by
    have h1 := zprd_bd h n
    have h2 := h n
    unfold zprd
    refine ⟨Int.mul_nonneg h1.1 h2.1, ?_⟩
    rw [Int.pow_succ]
    exact Int.mul_le_mul h1.2 h2.2 h2.1 (Int.le_trans h1.1 h1.2)
theorem zca_bd (N e l g : Int) : 0 ≤ zca N e l g ∧ zca N e l g ≤ 7 := zsum_01 (fun i => by split <;> constructor <;> omega) 7
theorem zcg_bd (N : Int) (f l : Int → Int) (p : Int) (m : Nat) : 0 ≤ zcg N f l p m ∧ zcg N f l p m ≤ 7 := zsum_01 (fun i => by split <;> constructor <;> omega) 7
/-- no post is fed by p; all that are were asked v; they were asked otherwise -/
theorem zcg_none {N : Int} {f l : Int → Int} {p : Int} {m : Nat} (hN : 2 ≤ N ∧ N ≤ 6) (h : ∀ x, zok1 f l p x m = true) : zcg N f l p m = N + 1 := by
  unfold zcg
  simp only [h, and_true]
  have : N = 2 ∨ N = 3 ∨ N = 4 ∨ N = 5 ∨ N = 6 := by omega
  rcases this with rfl | rfl | rfl | rfl | rfl <;> decide
theorem zcg_one {N v : Int} {f l : Int → Int} {p : Int} {m : Nat} (hN : 2 ≤ N ∧ N ≤ 6) (hv : zsg N v) (h : ∀ x, zok1 f l p x m = true ↔ x = v) : zcg N f l p m = 1 := by
  unfold zcg
  simp only [h]
  unfold zsg at hv
  have hN2 : N = 2 ∨ N = 3 ∨ N = 4 ∨ N = 5 ∨ N = 6 := by omega
  have hv2 : v = 0 ∨ v = 1 ∨ v = 2 ∨ v = 3 ∨ v = 4 ∨ v = 5 ∨ v = 6 := by omega
  rcases hN2 with rfl | rfl | rfl | rfl | rfl <;> rcases hv2 with rfl | rfl | rfl | rfl | rfl | rfl | rfl <;> first | (exfalso; omega) | decide
theorem zcg_zero {N : Int} {f l : Int → Int} {p : Int} {m : Nat} (h : ∀ x, zok1 f l p x m = false) : zcg N f l p m = 0 := by
  unfold zcg
  simp [h, zsum]
section S48
variable {K d : Nat} {mu : Mem} {Q : AV → Mem → Prop}
theorem s_asksAhead {P S p : Int} (hd : 1 ≤ d) (hK : 64 ≤ K) (hP : isP K P) (hS : isS K S) (hp : 0 ≤ p ∧ p < 6) (hN : 2 ≤ mu P 0 ∧ mu P 0 ≤ 6) (b1 : zin (mu (S + 1) p)) (b2 : zin (mu (S + 2) p)) (b3 : zin (mu (S + 3) p)) (h : Q (zJ (zca (mu P 0) (mu (S + 1) p) (mu (S + 2) p) (mu (S + 3) p))) mu) : zC K d mX0_asksAhead [zR 56, zR P, zR S, zI p] mu Q := by
  have hz : ∀ x : Int, 0 ≤ x → x ≤ 6 → zin (zmaj x (mu (S + 1) p) (mu (S + 2) p)) := fun x x0 x1 => by
    obtain ⟨u1, u2⟩ := b1
    obtain ⟨u3, u4⟩ := b2
    unfold zmaj
    repeat' split
    all_goals exact ⟨by omega, by omega⟩
  have l : ∀ (n : Nat) (c x : Int), 0 ≤ x → x + n = 7 → c = zsum (fun x => if (x < mu P 0 ∨ x = 6) ∧ zmaj x (mu (S + 1) p) (mu (S + 2) p) = mu (S + 3) p then 1 else 0) x.toNat → zG K d mX0_asksAhead 6 [zU, zR P, zR S, zI p, zJ c, zU, zI x, zU] [] mu Q := by
    intro n
    induction n with
    | zero =>
      intro c x x0 x1 hc
      have e : x = 7 := by omega
      subst e
      refine sg_X0_asksAhead_6 hd hK hP hS ⟨⟨by omega, by omega⟩, fun _ => ?_, fun q => absurd q (by omega)⟩
      rw [hc]
      exact h
    | succ n ih =>
      intro c x x0 x1 hc
      have en : (x + 1).toNat = x.toNat + 1 := by omega
      have ex : ((x.toNat : Nat) : Int) = x := by omega
      have hx : zin x := ⟨by omega, by omega⟩
      refine sg_X0_asksAhead_6 hd hK hP hS ⟨hx, fun q => absurd q (by omega), fun _ => ⟨⟨by omega, by omega⟩, fun c1 => ⟨hp.1, hp.2, s_majority hK hx b1 b2 ⟨_, rfl, hz x x0 (by omega), b3, fun c2 => ?_, fun c2 => ?_⟩⟩, fun c1 => ⟨fun c2 => ?_, fun c2 => ⟨hp.1, hp.2, s_majority hK hx b1 b2 ⟨_, rfl, hz x x0 (by omega), b3, fun c3 => ?_, fun c3 => ?_⟩⟩⟩⟩⟩
      · refine ih c (x + 1) (by omega) (by omega) ?_
        rw [en, zsum, ex, if_neg (fun q => c2 q.2), ← hc]
        omega
      · refine ih (c + 1) (x + 1) (by omega) (by omega) ?_
        rw [en, zsum, ex, if_pos ⟨Or.inl c1, c2⟩, ← hc]
      · refine ih c (x + 1) (by omega) (by omega) ?_
        rw [en, zsum, ex, if_neg (fun q => by omega), ← hc]
        omega
      · refine ih c (x + 1) (by omega) (by omega) ?_
        rw [en, zsum, ex, if_neg (fun q => c3 q.2), ← hc]
        omega
      · refine ih (c + 1) (x + 1) (by omega) (by omega) ?_
        rw [en, zsum, ex, if_pos ⟨Or.inr c2, c3⟩, ← hc]
  exact ce_X0_asksAhead (sg_X0_asksAhead_0 hd hK hP hS (l 7 0 0 (by omega) (by omega) rfl))
theorem s_giftsAhead {P S p : Int} (hK : 64 ≤ K) (hP : isP K P) (hS : isS K S) (hp : 0 ≤ p ∧ p < 6) (hN : 2 ≤ mu P 0 ∧ mu P 0 ≤ 6) (hm : 0 ≤ mu P 4 ∧ mu P 4 ≤ 6) (bf : ∀ q, 0 ≤ q → q < mu P 4 → zin (mu (P + 5) q)) (bl : ∀ q, 0 ≤ q → q < mu P 4 → zin (mu (S + 2) q)) (h : Q (zJ (zcg (mu P 0) (mu (P + 5)) (mu (S + 2)) p (mu P 4).toNat)) mu) : zC K d mX0_giftsAhead [zR 56, zR P, zR S, zI p] mu Q := by
  have l2 : ∀ (x c : Int), 0 ≤ x → x ≤ 6 → ∀ (y : Int), (y = 0 ∨ y = 1) → ((zok1 (mu (P + 5)) (mu (S + 2)) p x (mu P 4).toNat = true ∧ y = 1) → zG K d mX0_giftsAhead 6 [zU, zR P, zR S, zI p, zJ (c + 1), zU, zI (x + 1), zU, zU] [] mu Q) → (¬ (zok1 (mu (P + 5)) (mu (S + 2)) p x (mu P 4).toNat = true ∧ y = 1) → zG K d mX0_giftsAhead 6 [zU, zR P, zR S, zI p, zJ c, zU, zI (x + 1), zU, zU] [] mu Q) →
      ∀ (n : Nat) (q a : Int), 0 ≤ q → q + n = mu P 4 → a = (if zok1 (mu (P + 5)) (mu (S + 2)) p x q.toNat = true ∧ y = 1 then 1 else 0) → zG K d mX0_giftsAhead 39 [zU, zR P, zR S, zI p, zJ c, zU, zI x, zI a, zI q] [] mu Q := by
    intro x c x0 x1 y hy k1 k0 n
    induction n with
    | zero =>
      intro q a q0 q1 ha
      have e : q = mu P 4 := by omega
      subst e
      refine sg_X0_giftsAhead_39 (by omega) hK hP hS ⟨⟨by omega, by omega⟩, ⟨by omega, by omega⟩, fun _ => ⟨by rw [ha]; exact zbin _, fun c1 => k0 (fun w => ?_), fun c1 => k1 ?_⟩, fun w => absurd (Int.le_refl _) w⟩
      · rw [ha, if_pos w] at c1
        exact absurd c1 (by decide)
      · rw [ha] at c1
        split at c1
        · assumption
        · exact absurd rfl c1
    | succ n ih =>
      intro q a q0 q1 ha
      have en : (q + 1).toNat = q.toNat + 1 := by omega
      have ex : ((q.toNat : Nat) : Int) = q := by omega
      have f0 := bf q q0 (by omega)
      have l0 := bl q q0 (by omega)
      refine sg_X0_giftsAhead_39 (by omega) hK hP hS ⟨⟨by omega, by omega⟩, ⟨by omega, by omega⟩, fun w => absurd w (by omega), fun _ => ⟨by rw [ha]; exact zbin _, fun c1 => ?_, fun c1 => ⟨q0, by omega, f0, ⟨by omega, by omega⟩, fun c2 => ?_, fun c2 => ⟨l0, ⟨by omega, by omega⟩, fun c3 => ?_, fun c3 => ?_⟩⟩⟩⟩
      · refine ih (q + 1) 0 (by omega) (by omega) ?_
        rw [en, zok1, if_neg]
        intro w
        rw [ha, if_pos ⟨by have := w.1; simp only [Bool.and_eq_true] at this; exact this.1, w.2⟩] at c1
        exact absurd c1 (by decide)
      all_goals
        have wa : zok1 (mu (P + 5)) (mu (S + 2)) p x q.toNat = true ∧ y = 1 := by
          rw [ha] at c1
          split at c1
          · assumption
          · exact absurd rfl c1
      · refine ih (q + 1) 1 (by omega) (by omega) ?_
        rw [en, zok1, ex, if_pos ⟨by simp [wa.1, c2], wa.2⟩]
      · refine ih (q + 1) 0 (by omega) (by omega) ?_
        rw [en, zok1, ex, if_neg (fun w => by have := w.1; simp [c2, c3] at this)]
      · refine ih (q + 1) 1 (by omega) (by omega) ?_
        rw [en, zok1, ex, if_pos ⟨by simp [wa.1, c3], wa.2⟩]
  have l : ∀ (n : Nat) (c x : Int), 0 ≤ x → x + n = 7 → c = zsum (fun x => if (x < mu P 0 ∨ x = 6) ∧ zok1 (mu (P + 5)) (mu (S + 2)) p x (mu P 4).toNat = true then 1 else 0) x.toNat → zG K d mX0_giftsAhead 6 [zU, zR P, zR S, zI p, zJ c, zU, zI x, zU, zU] [] mu Q := by
    intro n
    induction n with
    | zero =>
      intro c x x0 x1 hc
      have e : x = 7 := by omega
      subst e
      refine sg_X0_giftsAhead_6 (by omega) hK hP hS ⟨⟨by omega, by omega⟩, fun _ => ?_, fun q => absurd q (by omega)⟩
      rw [hc]
      exact h
    | succ n ih =>
      intro c x x0 x1 hc
      have en : (x + 1).toNat = x.toNat + 1 := by omega
      have ex : ((x.toNat : Nat) : Int) = x := by omega
      have hx : zin x := ⟨by omega, by omega⟩
      have key : ∀ y : Int, (y = 0 ∨ y = 1) → (y = 1 ↔ (x < mu P 0 ∨ x = 6)) → zG K d mX0_giftsAhead 39 [zU, zR P, zR S, zI p, zJ c, zU, zI x, zI y, zI 0] [] mu Q := fun y hy hyy => by
        refine l2 x c x0 (by omega) y hy (fun w => ih (c + 1) (x + 1) (by omega) (by omega) ?_) (fun w => ih c (x + 1) (by omega) (by omega) ?_) (mu P 4).toNat 0 y (by omega) (by omega) ?_
        · rw [en, zsum, ex, if_pos ⟨hyy.mp w.2, w.1⟩, ← hc]
        · rw [en, zsum, ex, if_neg (fun q => w ⟨q.2, hyy.mpr q.1⟩), ← hc]
          omega
        · show y = if true = true ∧ y = 1 then 1 else 0
          rcases hy with rfl | rfl <;> simp
      exact sg_X0_giftsAhead_6 (by omega) hK hP hS ⟨hx, fun q => absurd q (by omega), fun _ => ⟨⟨by omega, by omega⟩, fun c1 => key 1 (by omega) (by omega), fun c1 => ⟨fun c2 => key 0 (by omega) (by omega), fun c2 => key 1 (by omega) (by omega)⟩⟩⟩
  exact ce_X0_giftsAhead (sg_X0_giftsAhead_0 (by omega) hK hP hS (l 7 0 0 (by omega) (by omega) rfl))
theorem s_statesAhead {P S : Int} (hd : 2 ≤ d) (hK : 64 ≤ K) (hP : isP K P) (hS : isS K S) (hN : 2 ≤ mu P 0 ∧ mu P 0 ≤ 6) (hm : 0 ≤ mu P 4 ∧ mu P 4 ≤ 6) (bf : ∀ q, 0 ≤ q → q < mu P 4 → zin (mu (P + 5) q)) (bv : ∀ q, 0 ≤ q → q < mu P 4 → zin (mu (S + 1) q) ∧ zin (mu (S + 2) q) ∧ zin (mu (S + 3) q))
    (h : Q (zJ (zprd (fun p => zca (mu P 0) (mu (S + 1) p) (mu (S + 2) p) (mu (S + 3) p) * zcg (mu P 0) (mu (P + 5)) (mu (S + 2)) p (mu P 4).toNat) (mu P 4).toNat)) mu) : zC K d mX0_statesAhead [zR 56, zR P, zR S] mu Q := by
  have l : ∀ (n : Nat) (c p : Int), 0 ≤ p → p + n = mu P 4 → c = zprd (fun p => zca (mu P 0) (mu (S + 1) p) (mu (S + 2) p) (mu (S + 3) p) * zcg (mu P 0) (mu (P + 5)) (mu (S + 2)) p (mu P 4).toNat) p.toNat → zG K d mX0_statesAhead 5 [zR 56, zR P, zR S, zJ c, zU, zI p] [] mu Q := by
    intro n
    induction n with
    | zero =>
      intro c p p0 p1 hc
      have e : p = mu P 4 := by omega
      subst e
      rw [hc]
      exact sg_X0_statesAhead_5 hd hK hP hS ⟨⟨by omega, by omega⟩, ⟨by omega, by omega⟩, fun _ => h, fun w => absurd (Int.le_refl _) w⟩
    | succ n ih =>
      intro c p p0 p1 hc
      have en : (p + 1).toNat = p.toNat + 1 := by omega
      have ex : ((p.toNat : Nat) : Int) = p := by omega
      obtain ⟨v1, v2, v3⟩ := bv p p0 (by omega)
      refine sg_X0_statesAhead_5 hd hK hP hS ⟨⟨by omega, by omega⟩, ⟨by omega, by omega⟩, fun w => absurd w (by omega), fun _ => ?_⟩
      refine s_asksAhead (by omega) hK hP hS (by omega) hN v1 v2 v3 ⟨_, rfl, ?_⟩
      refine s_giftsAhead hK hP hS (by omega) hN hm bf (fun q q0 q1 => (bv q q0 q1).2.1) ⟨_, rfl, ?_⟩
      refine ih _ (p + 1) (by omega) (by omega) ?_
      rw [en, zprd, ex, ← hc]
  exact ce_X0_statesAhead (sg_X0_statesAhead_0 hd hK hP hS (l (mu P 4).toNat 1 0 (by omega) (by omega) rfl))
/-! the reference's -/
theorem zca_m {N e l g : Int} (hN : 2 ≤ N ∧ N ≤ 6) (he : 0 ≤ e ∧ e ≤ 6) (hl : 0 ≤ l ∧ l ≤ 6) : zsum (fun x => if z3 (if x < N then x else 6) e l = g then 1 else 0) (N + 1).toNat = zca N e l g := by
  unfold zca
  have h3 : ∀ x : Int, x ≤ 6 → z3 x e l = zmaj x e l := fun x hx => z3_maj hx he.2 hl.2
  have hN2 : N = 2 ∨ N = 3 ∨ N = 4 ∨ N = 5 ∨ N = 6 := by omega
  rcases hN2 with rfl | rfl | rfl | rfl | rfl
  · rw [show ((2 : Int) + 1).toNat = 3 from rfl]
    simp [zsum, h3]
  · rw [show ((3 : Int) + 1).toNat = 4 from rfl]
    simp [zsum, h3]
  · rw [show ((4 : Int) + 1).toNat = 5 from rfl]
    simp [zsum, h3]
  · rw [show ((5 : Int) + 1).toNat = 6 from rfl]
    simp [zsum, h3]
  · rw [show ((6 : Int) + 1).toNat = 7 from rfl]
    simp [zsum, h3]
theorem m_before (hd : 1 ≤ d) (hK : 93 ≤ K) (hm : 1 ≤ mu 74 0 ∧ mu 74 0 ≤ 6) (hN : 2 ≤ mu 66 0 ∧ mu 66 0 ≤ 6) (hf : ∀ p, 0 ≤ p → p < mu 74 0 → zin (mu 75 p)) (hv : ∀ i, 0 ≤ i → i < 3 * mu 74 0 → zsg (mu 66 0) (mu 77 i))
    (h : Q (zJ (zprd (fun p => zca (mu 66 0) (mu 77 (3 * p)) (mu 77 (3 * p + 1)) (mu 77 (3 * p + 2)) * zcg (mu 66 0) (mu 75) (fun q => mu 77 (3 * q + 1)) p (mu 74 0).toNat) (mu 74 0).toNat)) mu) : zC K d mX9_before [zR 64] mu Q := by
  have hv2 : ∀ i, 0 ≤ i → i < 3 * mu 74 0 → 0 ≤ mu 77 i ∧ mu 77 i ≤ 6 := fun i i0 i1 => by
    have := hv i i0 i1
    unfold zsg at this
    omega
  have l122 : ∀ (a1 p a4 : Int), 0 ≤ p → p < mu 74 0 → 0 ≤ a4 ∧ a4 ≤ 7 → zG K d mX9_before 17 [zR 64, zJ (a1 * (a4 * zcg (mu 66 0) (mu 75) (fun q => mu 77 (3 * q + 1)) p (mu 74 0).toNat)), zU, zI (p + 1), zU, zU, zU, zU] [] mu Q →
      ∀ (n : Nat) (q a5 a6 : Int), 0 ≤ q → q + n = mu 74 0 → ((a6 = 1 ∧ a5 = -4 ∧ ∀ x, zok1 (mu 75) (fun q => mu 77 (3 * q + 1)) p x q.toNat = true) ∨ (a6 = 1 ∧ zsg (mu 66 0) a5 ∧ ∀ x, zok1 (mu 75) (fun q => mu 77 (3 * q + 1)) p x q.toNat = true ↔ x = a5) ∨ (a6 = 0 ∧ (-4 ≤ a5 ∧ a5 ≤ 6) ∧ ∀ x, zok1 (mu 75) (fun q => mu 77 (3 * q + 1)) p x q.toNat = false)) →
      zG K d mX9_before 122 [zR 64, zJ a1, zU, zI p, zI a4, zI a5, zI a6, zI q] [] mu Q := by
    intro a1 p a4 p0 p1 h4 k n
    induction n with
    | zero =>
      intro q a5 a6 q0 q1 hi
      have e : q = mu 74 0 := by omega
      subst e
      have z6 : zin a6 := by rcases hi with ⟨rfl, -⟩ | ⟨rfl, -⟩ | ⟨rfl, -⟩ <;> exact ⟨by omega, by omega⟩
      have z5 : zin a5 := by
        rcases hi with ⟨-, rfl, -⟩ | ⟨-, w, -⟩ | ⟨-, w, -⟩
        · exact ⟨by omega, by omega⟩
        · unfold zsg at w; exact ⟨by omega, by omega⟩
        · exact ⟨by omega, by omega⟩
      have t1 : 0 ≤ a4 * (mu 66 0 + 1) := Int.mul_nonneg h4.1 (by omega)
      have t2 : a4 * (mu 66 0 + 1) ≤ 7 * 7 := Int.mul_le_mul h4.2 (by omega) (by omega) (by omega)
      refine sg_X9_before_122 hd hK ⟨⟨by omega, by omega⟩, ⟨by omega, by omega⟩, fun _ => ⟨z6, fun c1 => ?_, fun c1 => ⟨z5, fun c2 => ⟨⟨by omega, by omega⟩, ?_⟩, fun c2 => ⟨⟨by omega, by omega⟩, ?_⟩⟩⟩, fun w => absurd (Int.le_refl _) w⟩
      · rcases hi with ⟨w, -⟩ | ⟨w, -⟩ | ⟨-, -, w⟩
        · omega
        · omega
        · rw [zcg_zero w, Int.mul_zero] at k
          exact k
      · rcases hi with ⟨-, w, -⟩ | ⟨-, w2, w⟩ | ⟨w, -⟩
        · omega
        · rw [zcg_one hN w2 w] at k
          exact k
        · omega
      · rcases hi with ⟨-, -, w⟩ | ⟨-, w2, w⟩ | ⟨w, -⟩
        · rw [zcg_none hN w] at k
          exact k
        · unfold zsg at w2
          omega
        · omega
    | succ n ih =>
      intro q a5 a6 q0 q1 hi
      have en : (q + 1).toNat = q.toNat + 1 := by omega
      have ex : ((q.toNat : Nat) : Int) = q := by omega
      have f0 := hf q q0 (by omega)
      have s1 := hv (3 * q + 1) (by omega) (by omega)
      have s2 := hv2 (3 * q + 1) (by omega) (by omega)
      have z6 : zin a6 := by rcases hi with ⟨rfl, -⟩ | ⟨rfl, -⟩ | ⟨rfl, -⟩ <;> exact ⟨by omega, by omega⟩
      have z5 : zin a5 := by
        rcases hi with ⟨-, rfl, -⟩ | ⟨-, w, -⟩ | ⟨-, w, -⟩
        · exact ⟨by omega, by omega⟩
        · unfold zsg at w; exact ⟨by omega, by omega⟩
        · exact ⟨by omega, by omega⟩
      have step : ∀ x, zok1 (mu 75) (fun q => mu 77 (3 * q + 1)) p x (q + 1).toNat = (zok1 (mu 75) (fun q => mu 77 (3 * q + 1)) p x q.toNat && (!decide (mu 75 q = p) || decide (mu 77 (3 * q + 1) = x))) := fun x => by rw [en, zok1, ex]
      refine sg_X9_before_122 hd hK ⟨⟨by omega, by omega⟩, ⟨by omega, by omega⟩, fun w => absurd w (by omega), fun _ => ⟨q0, by omega, f0, ⟨by omega, by omega⟩, fun c1 => ?_, fun c1 => ⟨z6, fun c2 => ⟨by omega, by omega, ?_⟩, fun c2 => ⟨z5, fun c3 => ⟨by omega, by omega, ?_⟩, fun c3 => ⟨by omega, by omega, ⟨by omega, by omega⟩, fun c4 => ?_, fun c4 => ?_⟩⟩⟩⟩⟩
      · refine ih (q + 1) a5 a6 (by omega) (by omega) ?_
        simp only [step, c1, decide_false, Bool.not_false, Bool.true_or, Bool.and_true]
        exact hi
      · refine ih (q + 1) _ 0 (by omega) (by omega) (Or.inr (Or.inr ⟨rfl, by omega, fun x => ?_⟩))
        rcases hi with ⟨w, -⟩ | ⟨w, -⟩ | ⟨-, -, w⟩
        · omega
        · omega
        · rw [step, w x]
          rfl
      · refine ih (q + 1) _ 1 (by omega) (by omega) (Or.inr (Or.inl ⟨rfl, s1, fun x => ?_⟩))
        rcases hi with ⟨-, -, w⟩ | ⟨-, w2, w⟩ | ⟨w, -⟩
        · rw [step, w x]
          simp [c1, eq_comm]
        · unfold zsg at w2
          omega
        · omega
      · rcases hi with ⟨-, w, -⟩ | ⟨-, w2, w⟩ | ⟨w, -⟩
        · omega
        · refine ih (q + 1) _ 0 (by omega) (by omega) (Or.inr (Or.inr ⟨rfl, by omega, fun x => ?_⟩))
          rw [step]
          by_cases hx : x = a5
          · rw [hx]
            simp [c1, Ne.symm c4]
          · have : zok1 (mu 75) (fun q => mu 77 (3 * q + 1)) p x q.toNat = false := by
              cases hz : zok1 (mu 75) (fun q => mu 77 (3 * q + 1)) p x q.toNat
              · rfl
              · exact absurd ((w x).mp hz) hx
            rw [this]
            rfl
        · omega
      · rcases hi with ⟨-, w, -⟩ | ⟨-, w2, w⟩ | ⟨w, -⟩
        · omega
        · refine ih (q + 1) _ 1 (by omega) (by omega) (Or.inr (Or.inl ⟨rfl, s1, fun x => ?_⟩))
          rw [step, ← c4]
          simp only [Bool.and_eq_true, w x, Bool.or_eq_true, Bool.not_eq_true', decide_eq_false_iff_not, decide_eq_true_eq]
          constructor
          · exact fun u => u.1
          · exact fun u => ⟨u, Or.inr u.symm⟩
        · omega
  have l33 : ∀ (a1 p : Int), 0 ≤ p → p < mu 74 0 → zG K d mX9_before 17 [zR 64, zJ (a1 * (zca (mu 66 0) (mu 77 (3 * p)) (mu 77 (3 * p + 1)) (mu 77 (3 * p + 2)) * zcg (mu 66 0) (mu 75) (fun q => mu 77 (3 * q + 1)) p (mu 74 0).toNat)), zU, zI (p + 1), zU, zU, zU, zU] [] mu Q →
      ∀ (n : Nat) (c x : Int), 0 ≤ x → x + n = mu 66 0 + 1 → c = zsum (fun x => if z3 (if x < mu 66 0 then x else 6) (mu 77 (3 * p)) (mu 77 (3 * p + 1)) = mu 77 (3 * p + 2) then 1 else 0) x.toNat → zG K d mX9_before 33 [zR 64, zJ a1, zU, zI p, zI c, zI x, zU, zU] [] mu Q := by
    intro a1 p p0 p1 k n
    have b0 := hv2 (3 * p) (by omega) (by omega)
    have b1 := hv2 (3 * p + 1) (by omega) (by omega)
    have b2 := hv2 (3 * p + 2) (by omega) (by omega)
    have z3b : ∀ y : Int, 0 ≤ y → y ≤ 6 → zin (z3 y (mu 77 (3 * p)) (mu 77 (3 * p + 1))) := fun y y0 y1 => by
      rw [z3_maj y1 b0.2 b1.2]
      have := zmaj_bd ⟨y0, y1⟩ b0 b1
      exact ⟨by omega, by omega⟩
    induction n with
    | zero =>
      intro c x x0 x1 hc
      have e : x = mu 66 0 + 1 := by omega
      subst e
      rw [zca_m hN b0 b1] at hc
      rw [← hc] at k
      have cb := zca_bd (mu 66 0) (mu 77 (3 * p)) (mu 77 (3 * p + 1)) (mu 77 (3 * p + 2))
      exact sg_X9_before_33 hd hK ⟨⟨by omega, by omega⟩, ⟨by omega, by omega⟩, fun _ => l122 a1 p c p0 p1 (by omega) k (mu 74 0).toNat 0 (-4) 1 (by omega) (by omega) (Or.inl ⟨rfl, rfl, fun _ => rfl⟩), fun w => absurd (by omega) w⟩
    | succ n ih =>
      intro c x x0 x1 hc
      have en : (x + 1).toNat = x.toNat + 1 := by omega
      have ex : ((x.toNat : Nat) : Int) = x := by omega
      refine sg_X9_before_33 hd hK ⟨⟨by omega, by omega⟩, ⟨by omega, by omega⟩, fun w => absurd w (by omega), fun _ => ⟨fun c1 => ⟨by omega, by omega, by omega, by omega, m_three hK ⟨by omega, by omega⟩ ⟨by omega, by omega⟩ ⟨by omega, by omega⟩ ⟨_, rfl, by omega, by omega, z3b 6 (by omega) (by omega), ⟨by omega, by omega⟩, fun c2 => ?_, fun c2 => ?_⟩⟩, fun c1 => ⟨by omega, by omega, by omega, by omega, m_three hK ⟨by omega, by omega⟩ ⟨by omega, by omega⟩ ⟨by omega, by omega⟩ ⟨_, rfl, by omega, by omega, z3b x (by omega) (by omega), ⟨by omega, by omega⟩, fun c2 => ?_, fun c2 => ?_⟩⟩⟩⟩
      · refine ih (c + 0) (x + 1) (by omega) (by omega) ?_
        rw [en, zsum, ex, if_neg (by rw [if_neg (by omega)]; exact c2), ← hc]
      · refine ih (c + 1) (x + 1) (by omega) (by omega) ?_
        rw [en, zsum, ex, if_pos (by rw [if_neg (by omega)]; exact c2), ← hc]
      · refine ih (c + 0) (x + 1) (by omega) (by omega) ?_
        rw [en, zsum, ex, if_neg (by rw [if_pos (by omega)]; exact c2), ← hc]
      · refine ih (c + 1) (x + 1) (by omega) (by omega) ?_
        rw [en, zsum, ex, if_pos (by rw [if_pos (by omega)]; exact c2), ← hc]
  have l17 : ∀ (n : Nat) (a1 p : Int), 0 ≤ p → p + n = mu 74 0 → a1 = zprd (fun p => zca (mu 66 0) (mu 77 (3 * p)) (mu 77 (3 * p + 1)) (mu 77 (3 * p + 2)) * zcg (mu 66 0) (mu 75) (fun q => mu 77 (3 * q + 1)) p (mu 74 0).toNat) p.toNat → zG K d mX9_before 17 [zR 64, zJ a1, zU, zI p, zU, zU, zU, zU] [] mu Q := by
    intro n
    induction n with
    | zero =>
      intro a1 p p0 p1 hc
      have e : p = mu 74 0 := by omega
      subst e
      rw [hc]
      exact sg_X9_before_17 hd hK ⟨⟨by omega, by omega⟩, ⟨by omega, by omega⟩, fun _ => h, fun w => absurd (Int.le_refl _) w⟩
    | succ n ih =>
      intro a1 p p0 p1 hc
      have en : (p + 1).toNat = p.toNat + 1 := by omega
      have ex : ((p.toNat : Nat) : Int) = p := by omega
      refine sg_X9_before_17 hd hK ⟨⟨by omega, by omega⟩, ⟨by omega, by omega⟩, fun w => absurd w (by omega), fun _ => ?_⟩
      refine l33 a1 p p0 (by omega) (ih _ (p + 1) (by omega) (by omega) ?_) (mu 66 0 + 1).toNat 0 0 (by omega) (by omega) rfl
      rw [en, zprd, ex, ← hc]
  exact ce_X9_before (sg_X9_before_0 hd hK ⟨⟨by omega, by omega⟩, fun _ => l17 (mu 74 0).toNat 1 0 (by omega) (by omega) rfl, fun w => absurd w (by omega)⟩)
end S48
theorem op_before : zOpJ 3 1 mX8_before mX9_before [] := by
  intro mu P hJ
  have hK : 64 ≤ 93 := by decide
  have hK' : 93 ≤ 93 := by decide
  have hJ0 := hJ
  obtain ⟨h1, h2, h3, h4, h5, h6, h7⟩ := hJ
  have hPi := h1.isP hK
  obtain ⟨rfl, -⟩ := h1
  obtain ⟨⟨t1, t2, t3⟩, -, -, -, ⟨m1, m2, m3⟩, -, -, -, -, hf⟩ := h2
  have hfl : ∀ i, 0 ≤ i → i < 3 * mu (mu 0 3) 4 → zfl mu 22 i = mu 77 i ∧ zsg (mu (mu 0 3) 0) (mu 77 i) := fun i i0 i1 => by
    have := h3.fl i i0 i1
    rwa [show 18 * (0 : Int) + i = i by omega] at this
  have hs : ∀ i, 0 ≤ i → i < 3 * mu (mu 0 3) 4 → zin (zfl mu 22 i) := fun i i0 i1 => by
    have := hfl i i0 i1
    rw [this.1]
    have q := this.2
    unfold zsg at q
    exact ⟨by omega, by omega⟩
  refine ce_X8_before (sg_X8_before_0 (by omega) hK ⟨hPi, ⟨by omega, by omega⟩, fun c => ?_, fun c => ?_⟩)
  · refine s_statesAhead (by omega) hK hPi ⟨by omega, by omega⟩ ⟨t2, t3⟩ ⟨m2, m3⟩ (fun q q0 q1 => by
      have := hf q q0 q1
      exact ⟨by omega, by omega⟩) (fun q q0 q1 => by
      have a0 := hs (3 * q) (by omega) (by omega)
      have a1 := hs (3 * q + 1) (by omega) (by omega)
      have a2 := hs (3 * q + 2) (by omega) (by omega)
      rw [zfl_0] at a0
      rw [zfl_1] at a1
      rw [zfl_2] at a2
      exact ⟨a0, a1, a2⟩) ⟨_, rfl, _, ?_, rfl, ?_⟩
    · have b := zprd_bd (F := fun p => zca (mu (mu 0 3) 0) (mu (22 + 1) p) (mu (22 + 2) p) (mu (22 + 3) p) * zcg (mu (mu 0 3) 0) (mu (mu 0 3 + 5)) (mu (22 + 2)) p (mu (mu 0 3) 4).toNat) (fun p => by
        have u := zca_bd (mu (mu 0 3) 0) (mu (22 + 1) p) (mu (22 + 2) p) (mu (22 + 3) p)
        have v := zcg_bd (mu (mu 0 3) 0) (mu (mu 0 3 + 5)) (mu (22 + 2)) p (mu (mu 0 3) 4).toNat
        exact ⟨Int.mul_nonneg u.1 v.1, Int.mul_le_mul u.2 v.2 v.1 (by omega)⟩) (mu (mu 0 3) 4).toNat
      have : (49 : Int) ^ (mu (mu 0 3) 4).toNat ≤ 49 ^ 6 := by
        have hm : (mu (mu 0 3) 4).toNat ≤ 6 := by omega
        have hc : ∀ k : Nat, k ≤ 6 → (49 : Int) ^ k ≤ 49 ^ 6 := by decide
        exact hc _ hm
      have e6 : (49 : Int) ^ 6 = 13841287201 := by decide
      exact ⟨by omega, by omega⟩
    · refine m_before (by omega) hK' (by omega) (by omega) (fun p p0 p1 => by
        have := hf p p0 (by omega)
        exact ⟨by omega, by omega⟩) (fun i i0 i1 => by
        have := (hfl i i0 (by omega)).2
        rwa [t1] at this) ⟨?_, _, hJ0⟩
      rw [← t1, ← m1]
      congr 1
      apply zprd_congr
      intro p p0 p1
      have a0 := (hfl (3 * p) (by omega) (by omega)).1
      have a1 := (hfl (3 * p + 1) (by omega) (by omega)).1
      have a2 := (hfl (3 * p + 2) (by omega) (by omega)).1
      rw [zfl_0] at a0
      rw [zfl_1] at a1
      rw [zfl_2] at a2
      rw [a0, a1, a2]
      congr 1
      unfold zcg
      apply zsum_congr
      intro x _ _
      rw [zok1_congr (f' := mu (mu 0 3 + 5)) (l' := mu (22 + 2)) (mu (mu 0 3) 4).toNat (fun q q0 q1 => ⟨((hf q q0 (by omega)).1).symm, by
        have b1 := (hfl (3 * q + 1) (by omega) (by omega)).1
        rw [zfl_1] at b1
        exact b1.symm⟩)]
  · refine ⟨_, ⟨by omega, by omega⟩, rfl, ?_⟩
    exact ce_X9_before (sg_X9_before_0 (by omega) hK' ⟨⟨by omega, by omega⟩, fun c2 => absurd (by omega) c2, fun c2 => ⟨rfl, _, hJ0⟩⟩)
