/-! likeliest -/
theorem zmx0_at {f : Int → Int} : ∀ n : Nat, 0 < zmx0 f n → ∃ x : Int, 0 ≤ x ∧ x < n ∧ f x = zmx0 f n
  | 0, h => by simp [zmx0] at h
  | n + 1, h => by
    unfold zmx0 at h ⊢
    by_cases hc : zmx0 f n < f n
    · exact ⟨n, by omega, by omega, by omega⟩
    · obtain ⟨x, x0, x1, x2⟩ := zmx0_at (f := f) n (by omega)
      exact ⟨x, x0, by omega, by omega⟩
theorem zmx0_ge {f : Int → Int} : ∀ (n : Nat) (x : Int), 0 ≤ x → x < n → f x ≤ zmx0 f n
  | 0, x, h0, h1 => absurd h1 (by omega)
  | n + 1, x, h0, h1 => by
    unfold zmx0
    by_cases hx : x = n
    · rw [hx]; omega
    · have := zmx0_ge (f := f) n x h0 (by omega)
      omega
theorem zsum_pos {f : Int → Int} : ∀ n : Nat, (∀ x : Int, 0 ≤ x → x < n → 0 ≤ f x) → (0 < zsum f n ↔ ∃ x : Int, 0 ≤ x ∧ x < n ∧ 0 < f x)
  | 0, _ => ⟨fun h => by simp [zsum] at h, fun ⟨x, h0, h1, _⟩ => absurd h1 (by omega)⟩
  | n + 1, h => by
    have ih := zsum_pos n (fun x h0 h1 => h x h0 (by omega))
    have hn := h n (by omega) (by omega)
    have h0 := zsum_le (f := fun _ => 0) (g := f) n (fun x h0 h1 => h x h0 (by omega))
    rw [zsum_z] at h0
    rw [zsum_s]
    constructor
    · intro hp
      by_cases h2 : 0 < zsum f n
      · obtain ⟨x, x0, x1, x2⟩ := ih.mp h2
        exact ⟨x, x0, by omega, x2⟩
      · exact ⟨n, by omega, by omega, by omega⟩
    · rintro ⟨x, x0, x1, x2⟩
      by_cases hx : x = n
      · rw [hx] at x2
        omega
      · have := ih.mpr ⟨x, x0, by omega, x2⟩
        omega
theorem zB_pos {kind : Int} {t : Nat} {g sh : Int → Int} {m pl tl : Int} (ht : t ≤ 6) (hs : zshb sh) : ∀ (r : Nat) (a b : Int), 0 < zB kind t g (zs1 sh) m pl tl r a b ↔ 0 < zWt kind t g sh m pl tl r a b
  | 0, _, _ => by simp [zB, zWt]
  | r + 1, a, b => by
    have key : ∀ x : Int, 0 ≤ x → x < t → ((0 < if (m - (r + 1) ≠ pl ∨ x = tl) ∧ zgb kind a b x = g (m - (r + 1)) then zs1 sh x * zB kind t g (zs1 sh) m pl tl r b x else 0) ↔ (0 < if (m - (r + 1) ≠ pl ∨ x = tl) ∧ zgb kind a b x = g (m - (r + 1)) then sh x * zWt kind t g sh m pl tl r b x else 0)) := fun x x0 x1 => by
      by_cases hc : (m - ((r : Int) + 1) ≠ pl ∨ x = tl) ∧ zgb kind a b x = g (m - (r + 1))
      · rw [if_pos hc, if_pos hc]
        have ih := zB_pos (kind := kind) (g := g) (m := m) (pl := pl) (tl := tl) ht hs r b x
        have s0 := hs x x0 (by omega)
        have b1 := (zB_bd (kind := kind) (g := g) (m := m) (pl := pl) (tl := tl) ht (zs1_b (sh := sh)) r b x).1
        have b2 := (zWt_bd (kind := kind) (g := g) (m := m) (pl := pl) (tl := tl) ht hs r b x).1
        unfold zs1
        by_cases hz : sh x ≤ 0
        · rw [if_pos hz, show sh x = 0 by omega]
          simp
        · rw [if_neg hz]
          rw [Int.one_mul]
          constructor
          · intro q
            exact Int.mul_pos (by omega) (ih.mp q)
          · intro q
            apply ih.mpr
            by_cases h0 : zWt kind t g sh m pl tl r b x = 0
            · rw [h0] at q
              simp at q
            · omega
      · rw [if_neg hc, if_neg hc]
    unfold zB zWt
    rw [zsum_pos t (fun x x0 x1 => by
      split
      · exact (zmul_bd (zs1_b (sh := sh) x x0 (by omega)) (zB_bd ht zs1_b r b x)).1
      · exact Int.le_refl _)]
    constructor
    · rintro ⟨x, x0, x1, x2⟩
      have := zmx0_ge (f := fun x => if (m - (r + 1) ≠ pl ∨ x = tl) ∧ zgb kind a b x = g (m - (r + 1)) then sh x * zWt kind t g sh m pl tl r b x else 0) t x x0 x1
      have q := (key x x0 x1).mp x2
      omega
    · intro q
      obtain ⟨x, x0, x1, x2⟩ := zmx0_at t q
      exact ⟨x, x0, x1, (key x x0 x1).mpr (by rw [← x2] at q; exact q)⟩
/-- the likeliest row: its next wish; the row -/
def zlx (kind : Int) (t : Nat) (g sh : Int → Int) (m : Int) (r : Nat) (a b : Int) : Int := zfirst (fun x => decide ((if zgb kind a b x = g (m - (r + 1)) then sh x * zWt kind t g sh m (-4) (-4) r b x else 0) = zWt kind t g sh m (-4) (-4) (r + 1) a b)) t 0
def zlp (kind : Int) (t : Nat) (g sh : Int → Int) (m : Int) : Nat → Int → Int → List Int
  | 0, _, _ => []
  | r + 1, a, b => zlx kind t g sh m r a b :: zlp kind t g sh m r b (zlx kind t g sh m r a b)
theorem zWt_u {kind : Int} {t : Nat} {g sh : Int → Int} {m : Int} {r : Nat} {a b : Int} (hr : (r : Int) + 1 ≤ m) : zWt kind t g sh m (-4) (-4) (r + 1) a b = zmx0 (fun x => if zgb kind a b x = g (m - (r + 1)) then sh x * zWt kind t g sh m (-4) (-4) r b x else 0) t := by
  rw [zWt]
  congr 1
  funext x
  have : (m - ((r : Int) + 1) ≠ -4 ∨ x = -4) := Or.inl (by omega)
  simp only [this, true_and]
theorem zfirst_le {p : Int → Bool} {x : Int} (hx : p x = true) : ∀ (n : Nat) (y : Int), y ≤ x → x < y + n → zfirst p n y ≤ x
  | 0, y, y0, y1 => absurd y1 (by omega)
  | n + 1, y, y0, y1 => by
    rw [zfirst]
    by_cases hy : p y = true
    · rw [if_pos hy]; exact y0
    · rw [if_neg hy]
      by_cases hyx : y = x
      · rw [hyx] at hy; exact absurd hx hy
      · exact zfirst_le hx n (y + 1) (by omega) (by omega)
theorem zlx_ok {kind : Int} {t : Nat} {g sh : Int → Int} {m : Int} {r : Nat} {a b : Int} (ht : t ≤ 6) (hs : zshb sh) (hr : (r : Int) + 1 ≤ m) (hp : 0 < zWt kind t g sh m (-4) (-4) (r + 1) a b) : 0 ≤ zlx kind t g sh m r a b ∧ zlx kind t g sh m r a b < t ∧ zgb kind a b (zlx kind t g sh m r a b) = g (m - (r + 1)) ∧ 0 < sh (zlx kind t g sh m r a b) ∧ sh (zlx kind t g sh m r a b) * zWt kind t g sh m (-4) (-4) r b (zlx kind t g sh m r a b) = zWt kind t g sh m (-4) (-4) (r + 1) a b ∧ 0 < zWt kind t g sh m (-4) (-4) r b (zlx kind t g sh m r a b) := by
  have hb := zfirst_bd (fun x => decide ((if zgb kind a b x = g (m - (r + 1)) then sh x * zWt kind t g sh m (-4) (-4) r b x else 0) = zWt kind t g sh m (-4) (-4) (r + 1) a b)) t 0
  have hlt : zlx kind t g sh m r a b < t := by
    by_cases hc : zlx kind t g sh m r a b < t
    · exact hc
    · exfalso
      rw [zWt_u hr] at hp
      obtain ⟨x, x0, x1, x2⟩ := zmx0_at t hp
      have hm := zfirst_le (p := fun x => decide ((if zgb kind a b x = g (m - (r + 1)) then sh x * zWt kind t g sh m (-4) (-4) r b x else 0) = zWt kind t g sh m (-4) (-4) (r + 1) a b)) (x := x) (decide_eq_true (by rw [zWt_u hr]; exact x2)) t 0 x0 (by omega)
      unfold zlx at hc
      omega
  have hit := zfirst_hit (p := fun x => decide ((if zgb kind a b x = g (m - (r + 1)) then sh x * zWt kind t g sh m (-4) (-4) r b x else 0) = zWt kind t g sh m (-4) (-4) (r + 1) a b)) t 0 (by unfold zlx at hlt; omega)
  have hit : (if zgb kind a b (zlx kind t g sh m r a b) = g (m - (r + 1)) then sh (zlx kind t g sh m r a b) * zWt kind t g sh m (-4) (-4) r b (zlx kind t g sh m r a b) else 0) = zWt kind t g sh m (-4) (-4) (r + 1) a b := by
    exact of_decide_eq_true hit
  have h0 : 0 ≤ zlx kind t g sh m r a b := by unfold zlx; omega
  have s0 := hs _ h0 (by omega)
  have w0 := (zWt_bd (kind := kind) (g := g) (m := m) (pl := -4) (tl := -4) ht hs r b (zlx kind t g sh m r a b)).1
  by_cases hg : zgb kind a b (zlx kind t g sh m r a b) = g (m - (r + 1))
  · rw [if_pos hg] at hit
    refine ⟨h0, hlt, hg, ?_, hit, ?_⟩
    · by_cases hz : sh (zlx kind t g sh m r a b) = 0
      · rw [hz, Int.zero_mul] at hit
        omega
      · omega
    · by_cases hz : zWt kind t g sh m (-4) (-4) r b (zlx kind t g sh m r a b) = 0
      · rw [hz, Int.mul_zero] at hit
        omega
      · omega
  · rw [if_neg hg] at hit
    omega
section S59
variable {K d : Nat} {mu : Mem} {Q : AV → Mem → Prop}
theorem s_weightFrom {P i p g x : Int} {w : Int → Int} (hd : 2 ≤ d) (hK : 64 ≤ K) (hP : isP K P) (hk : 0 ≤ mu P 1 ∧ mu P 1 ≤ 3) (hi : 0 ≤ i ∧ i < 10) (hp : 0 ≤ p ∧ p < 49) (hg : 0 ≤ g ∧ g ≤ 6) (hx : 0 ≤ x ∧ x < 6) (hs : zshb (mu (P + 4))) (hw : mu 53 (49 * (i + 1) + (7 * (p % 7) + x)) = w x)
    (h : Q (zJ (if zgb (mu P 1) (p / 7) (p % 7) x = g then mu (P + 4) x * w x else 0)) mu) : zC K d mX5_weightFrom [zR 51, zR P, zI i, zI p, zI g, zI x] mu Q := by
  have em : p.tmod 7 = p % 7 := Int.tmod_eq_emod_of_nonneg hp.1
  have ed : p.tdiv 7 = p / 7 := Int.tdiv_eq_ediv_of_nonneg hp.1
  have zb := zgb_bd (k := mu P 1) (a := p / 7) (b := p % 7) (c := x) (by omega) (by omega) (by omega)
  have b := hs x hx.1 hx.2
  refine ce_X5_weightFrom (sg_X5_weightFrom_0 hd hK hP ⟨⟨by omega, by omega⟩, ?_⟩)
  rw [em, ed]
  refine s_givesBehind (by omega) hK ⟨by omega, by omega⟩ ⟨by omega, by omega⟩ ⟨by omega, by omega⟩ ⟨by omega, by omega⟩ ⟨_, rfl, ⟨by omega, by omega⟩, ⟨by omega, by omega⟩, fun c => ⟨hx.1, hx.2, ⟨by omega, by omega⟩, by omega, by omega, ?_⟩, fun c => ?_⟩
  · rw [if_pos c] at h
    rw [show (i + 1) * 49 + p % 7 * 7 + x = 49 * (i + 1) + (7 * (p % 7) + x) by omega, hw]
    exact h
  · rwa [if_neg c] at h
/-- the class's table from level i on, at level i below p -/
def zH (mu nu : Mem) (P S i p : Int) : Prop := ∀ i' p', 0 ≤ i' → i' ≤ mu S 4 → 0 ≤ p' → p' < 49 → (i < i' ∨ (i' = i ∧ p' < p)) → nu 53 (49 * i' + p') = zWt (mu P 1) (mu P 0).toNat (mu (S + 4)) (mu (P + 4)) (mu S 4) (-4) (-4) (mu S 4 - i').toNat (p' / 7) (p' % 7)
theorem s_findLikeliest {P S : Int} (hd : 4 ≤ d) (hK : 64 ≤ K) (hP : isP K P) (hS : isS K S) (hS22 : S = 22) (ho : zPO mu P) (hgp : zGP mu P S)
    (h0 : zWt (mu P 1) (mu P 0).toNat (mu (S + 4)) (mu (P + 4)) (mu S 4) (-4) (-4) (mu S 4).toNat (zab mu P 2) (zab mu P 1) = 0 → ∀ nu, zsm [52, 53] mu nu → Q (zI 0) nu)
    (h1 : 0 < zWt (mu P 1) (mu P 0).toNat (mu (S + 4)) (mu (P + 4)) (mu S 4) (-4) (-4) (mu S 4).toNat (zab mu P 2) (zab mu P 1) → ∀ nu, zsm [52, 53] mu nu → (∀ i : Nat, i < mu S 4 → nu 52 i = (zlp (mu P 1) (mu P 0).toNat (mu (S + 4)) (mu (P + 4)) (mu S 4) (mu S 4).toNat (zab mu P 2) (zab mu P 1)).getD i 0) → Q (zI 1) nu) : zC K d mX5_findLikeliest [zR 51, zR P, zR S] mu Q := by
  have hP2 := hP.2
  obtain ⟨hm, hg, hs⟩ := hgp
  have ht := ho.1
  have hb := ho.2.2.1
  have hA := ho.2.2.2.2.1
  have ab : ∀ b, (b = 1 ∨ b = 2) → 0 ≤ zab mu P b ∧ zab mu P b ≤ 6 := fun b hb2 => by
    unfold zab
    split
    · have := hA (mu P 2 - b) (by omega) (by omega)
      omega
    · omega
  have a2 := ab 2 (Or.inr rfl)
  have a1 := ab 1 (Or.inl rfl)
  have ec : ∀ nu, zsm [52, 53] mu nu → nu P = mu P ∧ nu S = mu S ∧ nu (S + 4) = mu (S + 4) ∧ nu (P + 4) = mu (P + 4) ∧ nu (P + 1) = mu (P + 1) := fun nu hz => ⟨hz _ (by simp only [List.mem_cons, List.not_mem_nil, or_false]; omega), hz _ (by simp only [List.mem_cons, List.not_mem_nil, or_false]; omega), hz _ (by simp only [List.mem_cons, List.not_mem_nil, or_false]; omega), hz _ (by simp only [List.mem_cons, List.not_mem_nil, or_false]; omega), hz _ (by simp only [List.mem_cons, List.not_mem_nil, or_false]; omega)⟩
  have wbd : ∀ (r : Nat) (a b : Int), r ≤ 10 → 0 ≤ zWt (mu P 1) (mu P 0).toNat (mu (S + 4)) (mu (P + 4)) (mu S 4) (-4) (-4) r a b ∧ zWt (mu P 1) (mu P 0).toNat (mu (S + 4)) (mu (P + 4)) (mu S 4) (-4) (-4) r a b ≤ 3486784401 := fun r a b hr => by
    have u := zWt_bd (kind := mu P 1) (t := (mu P 0).toNat) (g := mu (S + 4)) (sh := mu (P + 4)) (m := mu S 4) (pl := -4) (tl := -4) (by omega) hs r a b
    have v := z9p hr
    omega
  -- the weight of a thing at a level
  have wf : ∀ (i p x : Int) (nu : Mem) (Q' : AV → Mem → Prop), 0 ≤ i → i < mu S 4 → 0 ≤ p → p < 49 → 0 ≤ x → x < 6 → zsm [52, 53] mu nu → zH mu nu P S i 0 → Q' (zJ (if zgb (mu P 1) (p / 7) (p % 7) x = mu (S + 4) i then mu (P + 4) x * zWt (mu P 1) (mu P 0).toNat (mu (S + 4)) (mu (P + 4)) (mu S 4) (-4) (-4) (mu S 4 - i - 1).toNat (p % 7) x else 0)) nu → zC K 2 mX5_weightFrom [zR 51, zR P, zI i, zI p, zI (mu (S + 4) i), zI x] nu Q' := fun i p x nu Q' i0 i1 p0 p1 x0 x1 hz hH q => by
    obtain ⟨eP, eS, eS4, eP4, -⟩ := ec nu hz
    have hT := hH (i + 1) (7 * (p % 7) + x) (by omega) (by omega) (by omega) (by omega) (Or.inl (by omega))
    rw [show (7 * (p % 7) + x) / 7 = p % 7 by omega, show (7 * (p % 7) + x) % 7 = x by omega, show (mu S 4 - (i + 1)).toNat = (mu S 4 - i - 1).toNat by omega] at hT
    refine s_weightFrom (w := fun x => zWt (mu P 1) (mu P 0).toNat (mu (S + 4)) (mu (P + 4)) (mu S 4) (-4) (-4) (mu S 4 - i - 1).toNat (p % 7) x) (by omega) hK hP (by rw [eP]; exact ho.2.1) (by omega) ⟨p0, p1⟩ (hg i i0 i1) ⟨x0, x1⟩ (by rw [eP4]; exact hs) hT ?_
    rw [eP, eP4]
    exact q
  have l88 : ∀ (n : Nat) (i p : Int) (nu : Mem), 0 ≤ i → i + n = mu S 4 → 0 ≤ p → p < 49 → zsm [52, 53] mu nu → zH mu nu P S (-1) 0 → 0 < zWt (mu P 1) (mu P 0).toNat (mu (S + 4)) (mu (P + 4)) (mu S 4) (-4) (-4) n (p / 7) (p % 7) → (∀ xi, zsm [52, 53] mu xi → (∀ j : Nat, j < i → xi 52 j = nu 52 j) → (∀ j : Nat, j < n → xi 52 (i + j) = (zlp (mu P 1) (mu P 0).toNat (mu (S + 4)) (mu (P + 4)) (mu S 4) n (p / 7) (p % 7)).getD j 0) → Q (zI 1) xi) → zG K d mX5_findLikeliest 88 [zR 51, zR P, zR S, zI p, zI i] [] nu Q := by
    intro n
    induction n with
    | zero =>
      intro i p nu i0 i1 p0 p1 hz hH hw k
      have e : i = mu S 4 := by omega
      subst e
      obtain ⟨eP, eS, eS4, eP4, -⟩ := ec nu hz
      refine sg_X5_findLikeliest_88 hd hK hP hS ?_
      rw [eS]
      exact ⟨⟨by omega, by omega⟩, ⟨by omega, by omega⟩, fun _ => k nu hz (fun _ _ => rfl) (fun j hj => absurd hj (by omega)), fun c => absurd (Int.le_refl _) c⟩
    | succ n ih =>
      intro i p nu i0 i1 p0 p1 hz hH hw k
      obtain ⟨eP, eS, eS4, eP4, -⟩ := ec nu hz
      have em : p.tmod 7 = p % 7 := Int.tmod_eq_emod_of_nonneg p0
      have ei : mu S 4 - ((n : Int) + 1) = i := by omega
      have er : (mu S 4 - i - 1).toNat = n := by omega
      obtain ⟨x0, x1, x2, x3, x4, x5⟩ := zlx_ok (kind := mu P 1) (t := (mu P 0).toNat) (g := mu (S + 4)) (sh := mu (P + 4)) (m := mu S 4) (r := n) (a := p / 7) (b := p % 7) (by omega) hs (by omega) hw
      have hlv := hH i p i0 (by omega) p0 p1 (Or.inl (by omega))
      rw [show (mu S 4 - i).toNat = n + 1 by omega] at hlv
      have wb := wbd (n + 1) (p / 7) (p % 7) (by omega)
      have l3 : ∀ (q : Nat) (x : Int), 0 ≤ x → x + q = mu P 0 → zlx (mu P 1) (mu P 0).toNat (mu (S + 4)) (mu (P + 4)) (mu S 4) n (p / 7) (p % 7) = zfirst (fun x => decide ((if zgb (mu P 1) (p / 7) (p % 7) x = mu (S + 4) (mu S 4 - (n + 1)) then mu (P + 4) x * zWt (mu P 1) (mu P 0).toNat (mu (S + 4)) (mu (P + 4)) (mu S 4) (-4) (-4) n (p % 7) x else 0) = zWt (mu P 1) (mu P 0).toNat (mu (S + 4)) (mu (P + 4)) (mu S 4) (-4) (-4) (n + 1) (p / 7) (p % 7))) q x → ∀ Q' : AV → Mem → Prop, Q' (zI (zlx (mu P 1) (mu P 0).toNat (mu (S + 4)) (mu (P + 4)) (mu S 4) n (p / 7) (p % 7))) nu → zG K 3 mX5_firstOfGreatest 3 [zR 51, zR P, zI i, zI p, zI (mu (S + 4) i), zI x] [] nu Q' := by
        intro q
        induction q with
        | zero =>
          intro x u0 u1 hx Q' hq
          exfalso
          unfold zfirst at hx
          omega
        | succ q ihq =>
          intro x u0 u1 hx Q' hq
          unfold zfirst at hx
          refine sg_X5_firstOfGreatest_3 (by omega) hK hP ?_
          rw [eP]
          refine ⟨⟨by omega, by omega⟩, ⟨by omega, by omega⟩, fun c => absurd c (by omega), fun _ => ?_⟩
          have wb2 := wbd n (p % 7) x (by omega)
          have pb := hs x u0 (by omega)
          have mb := zmul_bd pb wb2
          refine wf i p x nu _ i0 (by omega) p0 p1 u0 (by omega) hz (fun i' p' a b c d e => hH i' p' a b c d (by omega)) ⟨_, rfl, ?_⟩
          rw [er, show i * 49 + p = 49 * i + p by omega, hlv]
          refine ⟨by omega, by omega, ?_, ⟨by omega, by omega⟩, fun c => ?_, fun c => ?_⟩
          · split
            · exact ⟨by omega, by omega⟩
            · exact ⟨by omega, by omega⟩
          · rw [if_neg (by simp only [decide_eq_true_eq]; rw [ei]; exact c)] at hx
            exact ihq (x + 1) (by omega) (by omega) hx Q' hq
          · rw [if_pos (by simp only [decide_eq_true_eq]; rw [ei]; exact c)] at hx
            rw [hx] at hq
            exact hq
      refine sg_X5_findLikeliest_88 hd hK hP hS ?_
      rw [eS, eS4]
      refine ⟨⟨by omega, by omega⟩, ⟨by omega, by omega⟩, fun c => absurd c (by omega), fun _ => ⟨i0, by omega, ?_⟩⟩
      refine ce_X5_firstOfGreatest (sg_X5_firstOfGreatest_0 (by omega) hK hP (l3 (mu P 0).toNat 0 (by omega) (by omega) rfl _ ⟨_, rfl, ⟨by omega, by omega⟩, ?_⟩))
      rw [em, zup_same]
      generalize hX : zlx (mu P 1) (mu P 0).toNat (mu (S + 4)) (mu (P + 4)) (mu S 4) n (p / 7) (p % 7) = X at *
      have d1 : (p % 7 * 7 + X) / 7 = p % 7 := by omega
      have d2 : (p % 7 * 7 + X) % 7 = X := by omega
      refine ih (i + 1) (p % 7 * 7 + X) _ (by omega) (by omega) (by omega) (by omega) (hz.up (by simp)) (fun i' p' a b c d e => by rw [zup_cell _ (by decide)]; exact hH i' p' a b c d e) (by rw [d1, d2]; exact x5) (fun xi hxi k1 k2 => ?_)
      rw [d1, d2] at k2
      refine k xi hxi (fun j hj => ?_) (fun j hj => ?_)
      · rw [k1 j (by omega), zup_slot _ (by omega)]
      · unfold zlp
        rw [hX]
        match j, hj with
        | 0, _ =>
          have := k1 i.toNat (by omega)
          rw [show ((i.toNat : Nat) : Int) = i by omega, zup_same] at this
          rw [show i + ((0 : Nat) : Int) = i by omega, this]
          rfl
        | j + 1, hj =>
          have := k2 j (by omega)
          rw [show i + ((j + 1 : Nat) : Int) = i + 1 + (j : Int) by omega, this]
          rfl
  have l22 : ∀ (i : Int), 0 ≤ i → i < mu S 4 → (∀ xi, zsm [52, 53] mu xi → zH mu xi P S (i - 1) 0 → zG K d mX5_findLikeliest 15 [zR 51, zR P, zR S, zI (i + (-1)), zU] [] xi Q) → ∀ (n : Nat) (p : Int) (nu : Mem), 0 ≤ p → p + n = 49 → zsm [52, 53] mu nu → zH mu nu P S i p → zG K d mX5_findLikeliest 22 [zR 51, zR P, zR S, zI i, zI p] [] nu Q := by
    intro i i0 i1 kk n
    induction n with
    | zero =>
      intro p nu p0 p1 hz hH
      have e : p = 49 := by omega
      subst e
      exact sg_X5_findLikeliest_22 hd hK hP hS ⟨⟨by omega, by omega⟩, fun _ => kk nu hz (fun i' p' a b c d e => hH i' p' a b c d (by omega)), fun c => absurd c (by omega)⟩
    | succ n ih =>
      intro p nu p0 p1 hz hH
      obtain ⟨eP, eS, eS4, eP4, -⟩ := ec nu hz
      have er : (mu S 4 - i).toNat = (mu S 4 - i - 1).toNat + 1 := by omega
      have ei : mu S 4 - (((mu S 4 - i - 1).toNat : Nat) + 1 : Int) = i := by omega
      have l6 : ∀ (q : Nat) (x c : Int), 0 ≤ x → x + q = mu P 0 → c = zmx0 (fun x => if zgb (mu P 1) (p / 7) (p % 7) x = mu (S + 4) i then mu (P + 4) x * zWt (mu P 1) (mu P 0).toNat (mu (S + 4)) (mu (P + 4)) (mu S 4) (-4) (-4) (mu S 4 - i - 1).toNat (p % 7) x else 0) x.toNat → ∀ Q' : AV → Mem → Prop, Q' (zJ (zWt (mu P 1) (mu P 0).toNat (mu (S + 4)) (mu (P + 4)) (mu S 4) (-4) (-4) (mu S 4 - i).toNat (p / 7) (p % 7))) nu → zG K 3 mX5_greatestFrom 6 [zR 51, zR P, zI i, zI p, zI (mu (S + 4) i), zJ c, zU, zI x] [] nu Q' := by
        intro q
        induction q with
        | zero =>
          intro x c u0 u1 hc Q' hq
          have e : x = mu P 0 := by omega
          subst e
          refine sg_X5_greatestFrom_6 (by omega) hK hP ?_
          rw [eP]
          refine ⟨⟨by omega, by omega⟩, ⟨by omega, by omega⟩, fun _ => ?_, fun w => absurd (Int.le_refl _) w⟩
          rw [er, zWt_u (by omega), ei, ← hc] at hq
          exact hq
        | succ q ihq =>
          intro x c u0 u1 hc Q' hq
          have en : (x + 1).toNat = x.toNat + 1 := by omega
          have ex : ((x.toNat : Nat) : Int) = x := by omega
          have wb2 := wbd (mu S 4 - i - 1).toNat (p % 7) x (by omega)
          have pb := hs x u0 (by omega)
          have mb := zmul_bd pb wb2
          have cb : 0 ≤ c ∧ c ≤ 9 * 3486784401 := by
            rw [hc]
            exact zmx0_bd (by omega) _ (fun y y0 y1 => by
              split
              · exact zmul_bd (hs y y0 (by omega)) (wbd (mu S 4 - i - 1).toNat (p % 7) y (by omega))
              · exact ⟨by omega, by omega⟩)
          refine sg_X5_greatestFrom_6 (by omega) hK hP ?_
          rw [eP]
          refine ⟨⟨by omega, by omega⟩, ⟨by omega, by omega⟩, fun w => absurd w (by omega), fun _ => ?_⟩
          refine wf i p x nu _ i0 i1 p0 (by omega) u0 (by omega) hz (fun i' p' a b c d e => hH i' p' a b c d (by omega)) ⟨_, rfl, ⟨by omega, by omega⟩, ?_, ?_⟩
          · split
            · exact ⟨by omega, by omega⟩
            · exact ⟨by omega, by omega⟩
          · refine ihq (x + 1) _ (by omega) (by omega) ?_ Q' hq
            rw [en, zmx0, ex, ← hc]
      refine sg_X5_findLikeliest_22 hd hK hP hS ?_
      rw [eS4]
      refine ⟨⟨by omega, by omega⟩, fun c => absurd c (by omega), fun _ => ⟨i0, by omega, ?_⟩⟩
      refine ce_X5_greatestFrom (sg_X5_greatestFrom_0 (by omega) hK hP (l6 (mu P 0).toNat 0 0 (by omega) (by omega) rfl _ ⟨_, rfl, by omega, by omega, ?_⟩))
      rw [show i * 49 + p = 49 * i + p by omega]
      refine ih (p + 1) _ (by omega) (by omega) (hz.up (by simp)) (fun i' p' a b c d e => ?_)
      by_cases hip : i' = i ∧ p' = p
      · obtain ⟨rfl, rfl⟩ := hip
        rw [zup_same]
      · rw [zup_slot _ (by omega)]
        exact hH i' p' a b c d (by omega)
  have l15 : ∀ (n : Nat) (i : Int) (nu : Mem), i + 1 = n → i < mu S 4 → zsm [52, 53] mu nu → zH mu nu P S i 0 → zG K d mX5_findLikeliest 15 [zR 51, zR P, zR S, zI i, zU] [] nu Q := by
    intro n
    induction n with
    | zero =>
      intro i nu i0 i1 hz hH
      have e : i = -1 := by omega
      subst e
      obtain ⟨eP, eS, eS4, eP4, eP1⟩ := ec nu hz
      refine sg_X5_findLikeliest_15 hd hK hP hS ⟨⟨by omega, by omega⟩, fun _ => ?_, fun c => absurd (by omega) c⟩
      refine s_pairAhead (by omega) hK hP (by rw [eP]; exact hb) ⟨_, rfl, ?_⟩
      have epa : zpa nu P = zab mu P 2 * 7 + zab mu P 1 := by
        unfold zpa
        rw [zab_congr eP eP1, zab_congr eP eP1]
      rw [epa]
      have hlv := hH 0 (zab mu P 2 * 7 + zab mu P 1) (by omega) (by omega) (by omega) (by omega) (Or.inl (by omega))
      have d1 : (zab mu P 2 * 7 + zab mu P 1) / 7 = zab mu P 2 := by omega
      have d2 : (zab mu P 2 * 7 + zab mu P 1) % 7 = zab mu P 1 := by omega
      rw [d1, d2, show 49 * 0 + (zab mu P 2 * 7 + zab mu P 1) = zab mu P 2 * 7 + zab mu P 1 by omega, show (mu S 4 - 0).toNat = (mu S 4).toNat by omega] at hlv
      have wb := wbd (mu S 4).toNat (zab mu P 2) (zab mu P 1) (by omega)
      rw [hlv]
      refine ⟨by omega, by omega, ⟨by omega, by omega⟩, fun c => ?_, fun c => h0 c nu hz⟩
      refine l88 (mu S 4).toNat 0 _ nu (by omega) (by omega) (by omega) (by omega) hz hH (by rw [d1, d2]; omega) (fun xi hx k1 k2 => h1 (by omega) xi hx (fun j hj => ?_))
      have := k2 j (by omega)
      rw [d1, d2, show (0 : Int) + (j : Int) = j by omega] at this
      exact this
    | succ n ih =>
      intro i nu i0 i1 hz hH
      refine sg_X5_findLikeliest_15 hd hK hP hS ⟨⟨by omega, by omega⟩, fun c => absurd c (by omega), fun _ => ?_⟩
      exact l22 i (by omega) i1 (fun xi hx hX => ih (i + (-1)) xi (by omega) (by omega) hx (by rw [show i + (-1) = i - 1 by omega]; exact hX)) 49 0 nu (by omega) (by omega) hz hH
  refine ce_X5_findLikeliest (sg_X5_findLikeliest_0 hd hK hP hS (s_fillJ (n := 539) hK (r53 hK) (fun nu hz hf => ⟨rfl, ?_⟩)))
  have hz2 : zsm [52, 53] mu nu := hz.wk (by simp)
  obtain ⟨eP, eS, -⟩ := ec nu hz2
  rw [eS]
  refine l15 (mu S 4).toNat (mu S 4 - 1) nu (by omega) (by omega) hz2 (fun i' p' a b c d e => ?_)
  have : i' = mu S 4 := by omega
  rw [this, hf _ (by omega) (by omega), show (mu S 4 - mu S 4).toNat = 0 by omega]
  rfl
end S59
