/-! strangers: the class -/
abbrev zNs (mu : Mem) (P : Int) (S r : Nat) (a b : Int) : Int := zNd (mu P 1) (mu P 0).toNat (mu P 3).toNat (mu (P + 2)) S r a b
abbrev zAs (mu : Mem) (P : Int) (S r : Nat) (a b : Int) : Int := zAq (mu P 1) (mu P 0).toNat (mu P 3).toNat (mu (P + 2)) S r a b
theorem zPO.sq {mu : Mem} {P : Int} (h : zPO mu P) (hk : mu P 1 = 0 ∨ mu P 1 = 3) : zSQ (mu P 1) (mu P 0).toNat (mu P 3).toNat (mu (P + 2)) := by
  obtain ⟨ht, -, -, hn, -, hw, -⟩ := h
  refine ⟨hk, by omega, by omega, fun i hi => ?_⟩
  have := hw i (by omega) (by omega)
  omega
/-- the class's table from the i-th on -/
def zFw (mu nu : Mem) (P : Int) (S : Nat) (i p : Int) : Prop := ∀ i' p' : Int, 0 ≤ i' → i' ≤ mu P 3 → 0 ≤ p' → p' < 49 → (i < i' ∨ (i' = i ∧ p' < p)) → nu 49 (49 * i' + p') = zNs mu P S (mu P 3 - i').toNat (p' / 7) (p' % 7)
section S70
variable {K d : Nat} {mu : Mem} {Q : AV → Mem → Prop}
theorem s_costAtOnce {P i p : Int} {S : Nat} {nu : Mem} (hd : 3 ≤ d) (hK : 64 ≤ K) (hP : isP K P) (ho : zPO mu P) (hkd : mu P 1 = 0 ∨ mu P 1 = 3) (hS : S < 1024) (hz : zsm [47, 48, 49, 50] mu nu) (h46 : mu 46 3 = S) (hi : 0 ≤ i ∧ i < mu P 3) (hp : 0 ≤ p ∧ p < 49) (hF : zFw mu nu P S i 0)
    (h : Q (zI (zAs mu P S (mu P 3 - i - 1).toNat (p / 7) (p % 7))) nu) : zC K d mX7_costAtOnce [zR 46, zR P, zI i, zI p] nu Q := by
  have hP2 := hP.2
  have e : ∀ k : Int, k < 47 ∨ 50 < k → nu k = mu k := fun k q => hz k (by simp only [List.mem_cons, List.not_mem_nil, or_false]; omega)
  have eP := e P (by omega)
  have eP2 := e (P + 2) (by omega)
  have e46 := e 46 (by omega)
  obtain ⟨ht, hk, -, hn, -, hw, -⟩ := ho
  have w := hw i hi.1 hi.2
  have em : p.tmod 7 = p % 7 := Int.tmod_eq_emod_of_nonneg hp.1
  have F := hF (i + 1) (7 * (p % 7) + mu (P + 2) i) (by omega) (by omega) (by omega) (by omega) (Or.inl (by omega))
  rw [show (7 * (p % 7) + mu (P + 2) i) / 7 = p % 7 by omega, show (7 * (p % 7) + mu (P + 2) i) % 7 = mu (P + 2) i by omega, show (mu P 3 - (i + 1)).toNat = (mu P 3 - i - 1).toNat by omega] at F
  have ei : (((mu P 3).toNat - ((mu P 3 - i - 1).toNat + 1) : Nat) : Int) = i := by omega
  have ein : (mu P 3).toNat - ((mu P 3 - i - 1).toNat + 1) = i.toNat := by omega
  have fin : (¬ (S.testBit i.toNat = true ∧ ¬ zgb (mu P 1) (p / 7) (p % 7) (mu (P + 2) i) = mu (P + 2) i)) → zin p ∧ 0 ≤ i ∧ i < 10 ∧ 0 ≤ ((((i + 1) * 49) + ((p % 7) * 7)) + (mu (P + 2) i)) ∧ ((((i + 1) * 49) + ((p % 7) * 7)) + (mu (P + 2) i)) < 539 ∧ Q (zI (nu 49 ((((i + 1) * 49) + ((p % 7) * 7)) + (mu (P + 2) i)))) nu := fun q => by
    refine ⟨⟨by omega, by omega⟩, hi.1, by omega, by omega, by omega, ?_⟩
    rw [show (i + 1) * 49 + p % 7 * 7 + mu (P + 2) i = 49 * (i + 1) + (7 * (p % 7) + mu (P + 2) i) by omega, F]
    unfold zAs zAq zat at h
    rw [ei, ein, if_neg q] at h
    exact h
  refine ce_X7_costAtOnce (sg_X7_costAtOnce_0 hd hK hP ?_)
  rw [e46, h46]
  refine s_isIn hK hP (by omega) (by omega) ⟨_, rfl, zbin _, fun c => ?_, fun c => ?_⟩
  · have cb : ¬ S.testBit i.toNat = true := fun z => by rw [if_pos z] at c; exact absurd c (by decide)
    rw [em, eP2]
    exact fin (fun q => cb q.1)
  · have cb : S.testBit i.toNat = true := by
      by_cases z : S.testBit i.toNat = true
      · exact z
      · rw [if_neg z] at c; exact absurd rfl c
    refine s_hasBehind (by omega) hK hP hp ⟨hi.1, by omega⟩ (by rw [eP]; exact hkd) (by rw [eP2]; exact ⟨by omega, by omega⟩) ⟨_, rfl, zbin _, ?_⟩
    rw [eP, eP2]
    refine ⟨fun c2 => ?_, fun c2 => ?_⟩
    · rw [em]
      refine fin (fun q => ?_)
      rw [if_neg q.2] at c2
      exact c2 rfl
    · unfold zAs zAq zat at h
      rw [ei, ein, if_pos ⟨cb, fun q => by rw [if_pos q] at c2; exact absurd c2 (by decide)⟩] at h
      exact h
theorem s_findFewest {P i : Int} {S : Nat} {nu : Mem} (hd : 4 ≤ d) (hK : 64 ≤ K) (hP : isP K P) (ho : zPO mu P) (hkd : mu P 1 = 0 ∨ mu P 1 = 3) (hS : S < 1024) (hz : zsm [47, 48, 49, 50] mu nu) (h46 : mu 46 3 = S) (hi : 0 ≤ i ∧ i < mu P 3) (hF : zFw mu nu P S i 0)
    (h : ∀ xi, zsm [47, 48, 49, 50] mu xi → zFw mu xi P S (i - 1) 0 → Q zV xi) : zC K d mX7_findFewest [zR 46, zR P, zI i] nu Q := by
  have hP2 := hP.2
  have sq := ho.sq hkd
  have ht := ho.1
  have hn := ho.2.2.2.1
  have hr : (mu P 3 - i - 1).toNat + 1 ≤ (mu P 3).toNat := by omega
  have ab : ∀ a b : Int, 0 ≤ zAs mu P S (mu P 3 - i - 1).toNat a b ∧ zAs mu P S (mu P 3 - i - 1).toNat a b ≤ 100 := fun a b => by
    have : 0 ≤ zAs mu P S (mu P 3 - i - 1).toNat a b ∧ (zAs mu P S (mu P 3 - i - 1).toNat a b ≤ 10 ∨ zAs mu P S (mu P 3 - i - 1).toNat a b = 100) := zAq_bd (set := S) sq hr (a := a) (b := b)
    omega
  have bb : ∀ (a : Int) (k : Nat), 0 ≤ zmn (fun x => zAs mu P S (mu P 3 - i - 1).toNat a x) k ∧ zmn (fun x => zAs mu P S (mu P 3 - i - 1).toNat a x) k ≤ 100 := fun a k => ⟨zmn_ge (by omega) k (fun x _ => (ab a x).1), zmn_100 k⟩
  have b2 : ∀ k : Nat, 0 ≤ zmn (fun y : Nat => zmn (fun x : Nat => zAs mu P S (mu P 3 - i - 1).toNat y x) (mu P 0).toNat) k ∧ zmn (fun y : Nat => zmn (fun x : Nat => zAs mu P S (mu P 3 - i - 1).toNat y x) (mu P 0).toNat) k ≤ 100 := fun k => ⟨zmn_ge (by omega) k (fun x _ => (bb x _).1), zmn_100 k⟩
  -- pairs
  have l105 : ∀ (q : Nat) (p : Int) (xi : Mem), 0 ≤ p → p + q = 49 → zsm [47, 48, 49, 50] mu xi → zFw mu xi P S i p → (∀ y : Nat, y < 7 → xi 50 y = zmn (fun x => zAs mu P S (mu P 3 - i - 1).toNat y x) (mu P 0).toNat) → zG K d mX7_findFewest 105 [zR 46, zR P, zI i, zI (zmn (fun y : Nat => zmn (fun x : Nat => zAs mu P S (mu P 3 - i - 1).toNat y x) (mu P 0).toNat) (mu P 0).toNat), zI p, zU, zU] [] xi Q := by
    intro q
    induction q with
    | zero =>
      intro p xi p0 p1 hx hX h50
      have e : p = 49 := by omega
      subst e
      exact sg_X7_findFewest_105 hd hK hP ⟨⟨by omega, by omega⟩, fun _ => h xi hx (fun i' p' a b c d e => hX i' p' a b c d (by omega)), fun w => absurd (by omega) w⟩
    | succ q ih =>
      intro p xi p0 p1 hx hX h50
      have em : p.tmod 7 = p % 7 := Int.tmod_eq_emod_of_nonneg p0
      refine sg_X7_findFewest_105 hd hK hP ⟨⟨by omega, by omega⟩, fun w => absurd w (by omega), fun _ => ?_⟩
      refine s_costAtOnce (by omega) hK hP ho hkd hS hx h46 hi ⟨p0, by omega⟩ (fun i' p' a b c d e => hX i' p' a b c d (by omega)) ⟨_, rfl, ?_⟩
      have h5 := h50 (p % 7).toNat (by omega)
      rw [show (((p % 7).toNat : Nat) : Int) = p % 7 by omega] at h5
      rw [em, h5]
      have u1 := ab (p / 7) (p % 7)
      have u2 := bb (p % 7) (mu P 0).toNat
      have u3 := b2 (mu P 0).toNat
      refine ⟨⟨by omega, by omega⟩, ⟨by omega, by omega⟩, by omega, by omega, ⟨by omega, by omega⟩, ⟨by omega, by omega⟩, by omega, by omega, ?_⟩
      refine ih (p + 1) _ (by omega) (by omega) (hx.up (by simp)) (fun i' p' a b c d e => ?_) (fun y hy => by rw [zup_cell _ (by decide)]; exact h50 y hy)
      by_cases same : i' = i ∧ p' = p
      · obtain ⟨rfl, rfl⟩ := same
        rw [show i' * 49 + p' = 49 * i' + p' by omega, zup_same, show (mu P 3 - i').toNat = (mu P 3 - i' - 1).toNat + 1 by omega]
        exact zNd_s.symm
      · rw [zup_slot _ (by omega)]
        exact hX i' p' a b c d (by omega)
  have l25 : ∀ (y : Nat) (M : Int), y < 7 → zin M → (∀ xi, zsm [47, 48, 49, 50] mu xi → zFw mu xi P S i 0 → (∀ y' : Nat, y' < y + 1 → xi 50 y' = zmn (fun x => zAs mu P S (mu P 3 - i - 1).toNat y' x) (mu P 0).toNat) → zG K d mX7_findFewest 6 [zR 46, zR P, zI i, zI (if (y : Int) < mu P 0 then min M (zmn (fun x => zAs mu P S (mu P 3 - i - 1).toNat y x) (mu P 0).toNat) else M), zI (y + 1), zU, zU] [] xi Q) → ∀ (q x : Nat) (xi : Mem), x + q = (mu P 0).toNat → zsm [47, 48, 49, 50] mu xi → zFw mu xi P S i 0 → (∀ y' : Nat, y' < y → xi 50 y' = zmn (fun x => zAs mu P S (mu P 3 - i - 1).toNat y' x) (mu P 0).toNat) → xi 50 y = zmn (fun x => zAs mu P S (mu P 3 - i - 1).toNat y x) x → zG K d mX7_findFewest 25 [zR 46, zR P, zI i, zI M, zI y, zI x, zU] [] xi Q := by
    intro y M hy hM kk q
    induction q with
    | zero =>
      intro x xi hx0 hx hX h50 h5y
      have e : x = (mu P 0).toNat := by omega
      subst e
      have xP : xi P = mu P := hx _ (by simp only [List.mem_cons, List.not_mem_nil, or_false]; omega)
      have nx := kk xi hx hX (fun y' hy' => by
        by_cases q : y' = y
        · rw [q]; exact h5y
        · exact h50 y' (by omega))
      refine sg_X7_findFewest_25 hd hK hP ⟨⟨by omega, by omega⟩, by rw [xP]; exact ⟨by omega, by omega⟩, fun _ => ⟨⟨by omega, by omega⟩, fun w => ?_, fun w => ⟨by omega, by omega, hM, ?_, ?_⟩⟩, fun w => absurd (by rw [xP]; omega) w⟩
      · rw [xP] at w
        rw [if_neg (by omega)] at nx
        exact nx
      · rw [h5y]
        have := bb y (mu P 0).toNat
        exact ⟨by omega, by omega⟩
      · rw [xP] at w
        rw [if_pos (by omega)] at nx
        rw [h5y]
        exact nx
    | succ q ih =>
      intro x xi hx0 hx hX h50 h5y
      have xP : xi P = mu P := hx _ (by simp only [List.mem_cons, List.not_mem_nil, or_false]; omega)
      refine sg_X7_findFewest_25 hd hK hP ⟨⟨by omega, by omega⟩, by rw [xP]; exact ⟨by omega, by omega⟩, fun w => absurd w (by rw [xP]; omega), fun _ => ?_⟩
      refine s_costAtOnce (by omega) hK hP ho hkd hS hx h46 hi ⟨by omega, by omega⟩ hX ⟨_, rfl, by omega, by omega, ?_⟩
      rw [show ((y : Int) * 7 + (x : Int)) / 7 = y by omega, show ((y : Int) * 7 + (x : Int)) % 7 = x by omega, h5y]
      have u1 := ab y x
      have u2 := bb y x
      refine ⟨⟨by omega, by omega⟩, ⟨by omega, by omega⟩, ?_⟩
      refine ih (x + 1) _ (by omega) (hx.up (by simp)) (fun i' p' a b c d e => by rw [zup_cell _ (by decide)]; exact hX i' p' a b c d e) (fun y' hy' => by rw [zup_slot _ (by omega)]; exact h50 y' hy') ?_
      rw [zup_same, zmn]
  have l6 : ∀ (q y : Nat) (xi : Mem), y + q = 7 → zsm [47, 48, 49, 50] mu xi → zFw mu xi P S i 0 → (∀ y' : Nat, y' < y → xi 50 y' = zmn (fun x => zAs mu P S (mu P 3 - i - 1).toNat y' x) (mu P 0).toNat) → zG K d mX7_findFewest 6 [zR 46, zR P, zI i, zI (zmn (fun y : Nat => zmn (fun x : Nat => zAs mu P S (mu P 3 - i - 1).toNat y x) (mu P 0).toNat) (min y (mu P 0).toNat)), zI y, zU, zU] [] xi Q := by
    intro q
    induction q with
    | zero =>
      intro y xi hy hx hX h50
      have e : y = 7 := by omega
      subst e
      rw [show min 7 (mu P 0).toNat = (mu P 0).toNat by omega]
      exact sg_X7_findFewest_6 hd hK hP ⟨⟨by omega, by omega⟩, fun _ => l105 49 0 xi (by omega) (by omega) hx hX h50, fun w => absurd (by omega) w⟩
    | succ q ih =>
      intro y xi hy hx hX h50
      have u := b2 (min y (mu P 0).toNat)
      refine sg_X7_findFewest_6 hd hK hP ⟨⟨by omega, by omega⟩, fun w => absurd w (by omega), fun _ => ⟨by omega, by omega, ?_⟩⟩
      refine l25 y _ (by omega) ⟨by omega, by omega⟩ (fun om hom hO h5 => ?_) (mu P 0).toNat 0 _ (by omega) (hx.up (by simp)) (fun i' p' a b c d e => by rw [zup_cell _ (by decide)]; exact hX i' p' a b c d e) (fun y' hy' => by rw [zup_slot _ (by omega)]; exact h50 y' hy') (by rw [zup_same, zmn])
      have nx := ih (y + 1) om (by omega) hom hO h5
      by_cases q : (y : Int) < mu P 0
      · rw [if_pos q]
        rw [show min (y + 1) (mu P 0).toNat = y + 1 by omega, zmn] at nx
        rw [show min y (mu P 0).toNat = y by omega]
        exact nx
      · rw [if_neg q]
        rw [show min (y + 1) (mu P 0).toNat = min y (mu P 0).toNat by omega] at nx
        exact nx
  have := l6 7 0 nu (by omega) hz hF (fun y hy => absurd hy (by omega))
  rw [Nat.zero_min, zmn] at this
  exact ce_X7_findFewest (sg_X7_findFewest_0 hd hK hP this)
theorem s_firstStranger {P i p : Int} {S r : Nat} {nu : Mem} (hd : 4 ≤ d) (hK : 64 ≤ K) (hP : isP K P) (ho : zPO mu P) (hkd : mu P 1 = 0 ∨ mu P 1 = 3) (hS : S < 1024) (hz : zsm [47, 48, 49, 50] mu nu) (h46 : mu 46 3 = S) (hi : 0 ≤ i ∧ i < mu P 3) (hr : mu P 3 - i = r + 1) (hp : 0 ≤ p ∧ p < 49) (hF : zFw mu nu P S (-1) 0)
    (h : Q (zI (if zfs (mu P 1) (mu P 0).toNat (mu P 3).toNat (mu (P + 2)) S r (p / 7) (p % 7) < zfb (mu P 1) (mu P 0).toNat (mu P 3).toNat (mu (P + 2)) S r (p / 7) (p % 7) then zfs (mu P 1) (mu P 0).toNat (mu P 3).toNat (mu (P + 2)) S r (p / 7) (p % 7) else -4)) nu) : zC K d mX7_firstStranger [zR 46, zR P, zI i, zI p] nu Q := by
  have hP2 := hP.2
  have sq := ho.sq hkd
  have ht := ho.1
  have hn := ho.2.2.2.1
  have w := ho.2.2.2.2.2.1 i hi.1 hi.2
  have e : ∀ k : Int, k < 47 ∨ 50 < k → nu k = mu k := fun k q => hz k (by simp only [List.mem_cons, List.not_mem_nil, or_false]; omega)
  have eP := e P (by omega)
  have eP2 := e (P + 2) (by omega)
  have em : p.tmod 7 = p % 7 := Int.tmod_eq_emod_of_nonneg hp.1
  have hr1 : r + 1 ≤ (mu P 3).toNat := by omega
  have T0 := hF i p hi.1 (by omega) hp.1 hp.2 (Or.inl (by omega))
  rw [show (mu P 3 - i).toNat = r + 1 by omega] at T0
  have T1 : ∀ x : Int, 0 ≤ x → x < 6 → nu 49 (i * 49 + p % 7 * 7 + x) = zNs mu P S (r + 1) (p % 7) x := fun x x0 x1 => by
    have T := hF i (7 * (p % 7) + x) hi.1 (by omega) (by omega) (by omega) (Or.inl (by omega))
    rw [show (mu P 3 - i).toNat = r + 1 by omega, show (7 * (p % 7) + x) / 7 = p % 7 by omega, show (7 * (p % 7) + x) % 7 = x by omega, show 49 * i + (7 * (p % 7) + x) = i * 49 + p % 7 * 7 + x by omega] at T
    exact T
  have nb : ∀ a b : Int, 0 ≤ zNs mu P S (r + 1) a b ∧ zNs mu P S (r + 1) a b ≤ ((r + 1 : Nat) : Int) := fun a b => zNd_bd (set := S) sq (r + 1) hr1 a b
  have ab : 0 ≤ zAs mu P S r (p / 7) (p % 7) ∧ (zAs mu P S r (p / 7) (p % 7) ≤ 10 ∨ zAs mu P S r (p / 7) (p % 7) = 100) := zAq_bd (set := S) sq hr1
  have eb : mu (P + 2) (((mu P 3).toNat - (r + 1) : Nat) : Int) = mu (P + 2) i := by rw [show (((mu P 3).toNat - (r + 1) : Nat) : Int) = i by omega]
  have l : ∀ (B : Nat), B ≤ 6 → zfs (mu P 1) (mu P 0).toNat (mu P 3).toNat (mu (P + 2)) S r (p / 7) (p % 7) = zfirst (fun x => decide (zNs mu P S (r + 1) (p % 7) x + 1 = zNs mu P S (r + 1) (p / 7) (p % 7))) B 0 → zfb (mu P 1) (mu P 0).toNat (mu P 3).toNat (mu (P + 2)) S r (p / 7) (p % 7) = B → zG K d mX7_firstStranger 55 [zR 46, zU, zI i, zI p, zI (zNs mu P S (r + 1) (p / 7) (p % 7)), zU, zI B, zI 0] [] nu Q := by
    intro B hB hfs hfb
    have ll : ∀ (q : Nat) (x : Int), 0 ≤ x → x + q = B → zfs (mu P 1) (mu P 0).toNat (mu P 3).toNat (mu (P + 2)) S r (p / 7) (p % 7) = zfirst (fun x => decide (zNs mu P S (r + 1) (p % 7) x + 1 = zNs mu P S (r + 1) (p / 7) (p % 7))) q x → zG K d mX7_firstStranger 55 [zR 46, zU, zI i, zI p, zI (zNs mu P S (r + 1) (p / 7) (p % 7)), zU, zI B, zI x] [] nu Q := by
      intro q
      induction q with
      | zero =>
        intro x x0 x1 hx
        rw [zfirst] at hx
        rw [hx, hfb, if_neg (by omega)] at h
        exact sg_X7_firstStranger_55 (P := P) hd hK hP ⟨⟨by omega, by omega⟩, ⟨by omega, by omega⟩, fun _ => h, fun w => absurd (by omega) w⟩
      | succ q ih =>
        intro x x0 x1 hx
        rw [zfirst] at hx
        have u1 := nb (p % 7) x
        have u2 := nb (p / 7) (p % 7)
        refine sg_X7_firstStranger_55 (P := P) hd hK hP ⟨⟨by omega, by omega⟩, ⟨by omega, by omega⟩, fun w => absurd w (by omega), fun _ => ⟨⟨by omega, by omega⟩, ?_⟩⟩
        rw [em, T1 x x0 (by omega)]
        refine ⟨by omega, by omega, ⟨by omega, by omega⟩, ⟨by omega, by omega⟩, fun c => ?_, fun c => ?_⟩
        · rw [if_neg (by simp only [decide_eq_true_eq]; exact c)] at hx
          exact ih (x + 1) (by omega) (by omega) hx
        · rw [if_pos (decide_eq_true c)] at hx
          rw [hx, hfb, if_pos (by omega)] at h
          exact h
    exact ll B 0 (by omega) (by omega) hfs
  refine ce_X7_firstStranger (sg_X7_firstStranger_0 hd hK hP ⟨by omega, by omega, s_costAtOnce (by omega) hK hP ho hkd hS hz h46 hi hp (fun i' p' a b c d e => hF i' p' a b c d (by omega)) ⟨_, rfl, ?_⟩⟩)
  rw [show i * 49 + p = 49 * i + p by omega, T0, show (mu P 3 - i - 1).toNat = r by omega]
  have u2 := nb (p / 7) (p % 7)
  refine ⟨⟨by omega, by omega⟩, ⟨by omega, by omega⟩, fun c => ?_, fun c => ⟨hi.1, by omega, ?_⟩⟩
  · rw [eP, show mu P 0 = (((mu P 0).toNat : Nat) : Int) by omega]
    refine l (mu P 0).toNat (by omega) ?_ ?_
    · unfold zfs
      rw [if_neg c]
    · unfold zfb
      rw [if_neg c]
  · rw [eP2, show mu (P + 2) i = (((mu (P + 2) i).toNat : Nat) : Int) by omega]
    refine l (mu (P + 2) i).toNat (by omega) ?_ ?_
    · unfold zfs
      rw [if_pos c, eb]
    · unfold zfb
      rw [if_pos c, eb]
      omega
theorem s_follow {P : Int} {S : Nat} {nu : Mem} (hd : 5 ≤ d) (hK : 64 ≤ K) (hP : isP K P) (ho : zPO mu P) (hkd : mu P 1 = 0 ∨ mu P 1 = 3) (hS : S < 1024) (hz : zsm [47, 48, 49, 50] mu nu) (h46 : mu 46 3 = S) (hF : zFw mu nu P S (-1) 0)
    (h : ∀ xi, zsm [47, 48, 49, 50] mu xi → (∀ i : Nat, (i : Int) < zNs mu P S (mu P 3).toNat (zab mu P 2) (zab mu P 1) → (xi 47 i, xi 48 i) = (zSl (mu P 1) (mu P 0).toNat (mu P 3).toNat (mu (P + 2)) S 22 (mu P 3).toNat (zab mu P 2) (zab mu P 1)).getD i (0, 0)) → Q zV xi) : zC K d mX7_follow [zR 46, zR P] nu Q := by
  have hP2 := hP.2
  have sq := ho.sq hkd
  have ht := ho.1
  have hn := ho.2.2.2.1
  have hA := ho.2.2.2.2.1
  have h2 := ho.2.2.1
  have ab : ∀ b, (b = 1 ∨ b = 2) → 0 ≤ zab mu P b ∧ zab mu P b ≤ 6 := fun b hb2 => by
    unfold zab
    split
    · have := hA (mu P 2 - b) (by omega) (by omega)
      omega
    · omega
  have nb : ∀ (r : Nat) (a b : Int), r ≤ (mu P 3).toNat → 0 ≤ zNs mu P S r a b ∧ zNs mu P S r a b ≤ (r : Int) := fun r a b hr => zNd_bd (set := S) sq r hr a b
  have l : ∀ (f r : Nat) (i a b come : Int) (xi : Mem), f ≤ 22 → i + r = mu P 3 → 0 ≤ i → (0 ≤ a ∧ a ≤ 6) → (0 ≤ b ∧ b ≤ 6) → 0 ≤ come → come + zNs mu P S r a b ≤ 10 → (r : Int) + zNs mu P S r a b ≤ f → zsm [47, 48, 49, 50] mu xi → zFw mu xi P S (-1) 0 → (∀ om, zsm [47, 48, 49, 50] mu om → (∀ j : Int, 0 ≤ j → j < come → om 47 j = xi 47 j ∧ om 48 j = xi 48 j) → (∀ j : Nat, (j : Int) < zNs mu P S r a b → (om 47 (come + j), om 48 (come + j)) = (zSl (mu P 1) (mu P 0).toNat (mu P 3).toNat (mu (P + 2)) S f r a b).getD j (0, 0)) → Q zV om) → zG K d mX7_follow 13 [zR 46, zR P, zI i, zI (a * 7 + b), zI come, zI (22 - f), zU] [] xi Q := by
    intro f
    induction f with
    | zero =>
      intro r i a b come xi hf hi i0 ha hb c0 c1 hfr hx hX k
      have u := nb r a b (by omega)
      refine sg_X7_follow_13 hd hK hP ⟨⟨by omega, by omega⟩, fun _ => k xi hx (fun j _ _ => ⟨rfl, rfl⟩) (fun j hj => absurd hj (by omega)), fun w => absurd (by omega) w⟩
    | succ f ih =>
      intro r i a b come xi hf hi i0 ha hb c0 c1 hfr hx hX k
      have xP : xi P = mu P := hx _ (by simp only [List.mem_cons, List.not_mem_nil, or_false]; omega)
      have xP2 : xi (P + 2) = mu (P + 2) := hx _ (by simp only [List.mem_cons, List.not_mem_nil, or_false]; omega)
      have u := nb r a b (by omega)
      have em : (a * 7 + b).tmod 7 = b := by rw [Int.tmod_eq_emod_of_nonneg (by omega)]; omega
      refine sg_X7_follow_13 hd hK hP ⟨⟨by omega, by omega⟩, fun w => absurd w (by omega), fun _ => ⟨⟨by omega, by omega⟩, by rw [xP]; exact ⟨by omega, by omega⟩, fun w => ?_, fun w => ?_⟩⟩
      · rw [xP] at w
        have er : r = 0 := by omega
        subst er
        exact k xi hx (fun j _ _ => ⟨rfl, rfl⟩) (fun j hj => absurd hj (by omega))
      · rw [xP] at w
        obtain ⟨s, rfl⟩ : ∃ s, r = s + 1 := ⟨r - 1, by omega⟩
        have ei : (((mu P 3).toNat - (s + 1) : Nat) : Int) = i := by omega
        refine s_firstStranger (r := s) (by omega) hK hP ho hkd hS hx h46 ⟨i0, by omega⟩ (by omega) ⟨by omega, by omega⟩ hX ⟨_, rfl, ?_⟩
        rw [em, show (a * 7 + b) / 7 = a by omega, show (a * 7 + b) % 7 = b by omega]
        rcases zfs_ok (set := S) sq (show s + 1 ≤ (mu P 3).toNat by omega) (a := a) (b := b) with ⟨q, x, x0, x1, x2, x3⟩ | ⟨q, q1, q2, q3⟩
        · rw [if_pos q, x0]
          refine ⟨⟨by omega, by omega⟩, fun _ => ⟨⟨by omega, by omega⟩, fun z => absurd z (by omega), fun _ => ⟨c0, by omega, ⟨by omega, by omega⟩, ?_⟩⟩, fun z => absurd z (by omega)⟩
          have e2 : zNs mu P S (s + 1) b x + 1 = zNs mu P S (s + 1) a b := x2
          have nx := ih (s + 1) i b x (come + 1) (zup (zup xi 47 come x) 48 come i) (by omega) hi i0 hb ⟨by omega, by omega⟩ (by omega) (by omega) (by omega) ((hx.up (by simp)).up (by simp)) (fun i' p' a b c d e => by rw [zup_cell _ (by decide), zup_cell _ (by decide)]; exact hX i' p' a b c d e) (fun om hom k1 k2 => ?_)
          · rw [show (22 : Int) - ((f + 1 : Nat) : Int) + 1 = 22 - f by omega]
            exact nx
          · refine k om hom (fun j j0 j1 => ?_) (fun j hj => ?_)
            · have := k1 j j0 (by omega)
              rw [zup_cell _ (by decide), zup_slot _ (by omega), zup_slot _ (by omega), zup_cell _ (by decide)] at this
              exact this
            · rw [zSl, if_pos q, x0, ei]
              match j, hj with
              | 0, _ =>
                have := k1 come c0 (by omega)
                rw [zup_cell _ (by decide), zup_same, zup_same] at this
                rw [show come + ((0 : Nat) : Int) = come by omega, this.1, this.2]
                rfl
              | j + 1, hj =>
                have := k2 j (by omega)
                rw [show come + ((j + 1 : Nat) : Int) = come + 1 + (j : Int) by omega, this]
                rfl
        · rw [if_neg q]
          have wi := ho.2.2.2.2.2.1 i i0 (by omega)
          have own : zNs mu P S s b (mu (P + 2) i) = zNs mu P S (s + 1) a b := by
            have := zAq_own (set := S) sq (show s + 1 ≤ (mu P 3).toNat by omega) q2
            rw [ei] at this
            exact this
          refine ⟨⟨by omega, by omega⟩, fun z => absurd rfl z, fun _ => ⟨i0, by omega, ⟨by omega, by omega⟩, ?_⟩⟩
          rw [xP2]
          have nx := ih s (i + 1) b (mu (P + 2) i) come xi (by omega) (by omega) (by omega) hb ⟨by omega, by omega⟩ c0 (by omega) (by omega) hx hX (fun om hom k1 k2 => ?_)
          · rw [show (22 : Int) - ((f + 1 : Nat) : Int) + 1 = 22 - f by omega]
            exact nx
          · refine k om hom k1 (fun j hj => ?_)
            rw [zSl, if_neg q, ei]
            exact k2 j (by omega)
  have xP : nu P = mu P := hz _ (by simp only [List.mem_cons, List.not_mem_nil, or_false]; omega)
  have xP1 : nu (P + 1) = mu (P + 1) := hz _ (by simp only [List.mem_cons, List.not_mem_nil, or_false]; omega)
  refine ce_X7_follow (sg_X7_follow_0 hd hK hP (s_pairAhead (by omega) hK hP (by rw [xP]; exact h2) ⟨_, rfl, ?_⟩))
  unfold zpa
  rw [zab_congr xP xP1, zab_congr xP xP1]
  have u := nb (mu P 3).toNat (zab mu P 2) (zab mu P 1) (by omega)
  have := l 22 (mu P 3).toNat 0 (zab mu P 2) (zab mu P 1) 0 nu (by omega) (by omega) (by omega) (ab 2 (Or.inr rfl)) (ab 1 (Or.inl rfl)) (by omega) (by omega) (by omega) hz hF (fun om hom k1 k2 => h om hom (fun i hi => by
    have := k2 i hi
    rw [show (0 : Int) + (i : Int) = i by omega] at this
    exact this))
  exact this
theorem s_findS {P : Int} {S : Nat} (hd : 6 ≤ d) (hK : 64 ≤ K) (hP : isP K P) (ho : zPO mu P) (hkd : mu P 1 = 0 ∨ mu P 1 = 3) (hS : S < 2 ^ (mu P 3).toNat) (hsr : jSr mu P)
    (h : ∀ nu, zsm [46, 47, 48, 49, 50] mu nu → jSr nu P → nu 46 3 = S → Q zV nu) : zC K d mX7_find [zR 46, zR P, zI S] mu Q := by
  have hP2 := hP.2
  have sq := ho.sq hkd
  have ht := ho.1
  have hn := ho.2.2.2.1
  have hA := ho.2.2.2.2.1
  have h2 := ho.2.2.1
  have ab : ∀ b, (b = 1 ∨ b = 2) → 0 ≤ zab mu P b ∧ zab mu P b ≤ 6 := fun b hb2 => by
    unfold zab
    split
    · have := hA (mu P 2 - b) (by omega) (by omega)
      omega
    · omega
  have c10 := zc10 hS (by omega)
  have pb := zpow_bd (n := mu P 3) (by omega) (by omega)
  have sb : (S : Int) < 2 ^ (mu P 3).toNat := by
    have : ((S : Nat) : Int) < ((2 ^ (mu P 3).toNat : Nat) : Int) := by omega
    rw [Int.natCast_pow] at this
    exact this
  have nb : ∀ (r : Nat) (a b : Int), r ≤ (mu P 3).toNat → 0 ≤ zNs mu P S r a b ∧ zNs mu P S r a b ≤ (r : Int) := fun r a b hr => zNd_bd (set := S) sq r hr a b
  refine ce_X7_find (sg_X7_find_0 hd hK hP ⟨?_, ⟨by omega, by omega⟩, fun w => ?_, fun w => h mu zsm.rf hsr w⟩)
  · rcases hsr with q | q
    · exact ⟨by omega, by omega⟩
    · exact ⟨by omega, by omega⟩
  · refine s_fillI (n := 539) hK (r49 hK) (fun n1 z1 f1 => ⟨rfl, ?_⟩)
    have e1 : ∀ k : Int, k ≠ 46 → k ≠ 49 → n1 k = mu k := fun k q1 q2 => by rw [z1 k (by simp only [List.mem_cons, List.not_mem_nil, or_false]; omega), zup_row _ q1]
    have p46 : n1 46 3 = S := by rw [z1 46 (by decide), zup_same]
    have eP := e1 P (by omega) (by omega)
    have eP1 := e1 (P + 1) (by omega) (by omega)
    have eP2 := e1 (P + 2) (by omega) (by omega)
    have ho1 : zPO n1 P := by
      unfold zPO at ho ⊢
      rw [eP, eP1, eP2, e1 (P + 3) (by omega) (by omega)]
      exact ho
    have z1' : zsm [46, 47, 48, 49, 50] mu n1 := (zsm.rf.up (by simp)).tr (z1.wk (by simp))
    have ze : ∀ r a b, zNs n1 P S r a b = zNs mu P S r a b := fun r a b => by
      unfold zNs
      rw [eP, eP2]
    have l29 : ∀ (q : Nat) (i : Int) (xi : Mem), i + 1 = q → i < mu P 3 → zsm [47, 48, 49, 50] n1 xi → zFw n1 xi P S i 0 → zG K d mX7_find 29 [zR 46, zR P, zU, zI i] [] xi Q := by
      intro q
      induction q with
      | zero =>
        intro i xi hi i1 hx hX
        have e : i = -1 := by omega
        subst e
        have xe : ∀ k : Int, k < 47 ∨ 50 < k → xi k = n1 k := fun k q => hx k (by simp only [List.mem_cons, List.not_mem_nil, or_false]; omega)
        have xP := (xe P (by omega)).trans eP
        have xP1 := (xe (P + 1) (by omega)).trans eP1
        have xP2 := (xe (P + 2) (by omega)).trans eP2
        refine sg_X7_find_29 hd hK hP ⟨⟨by omega, by omega⟩, fun _ => ?_, fun w => absurd (by omega) w⟩
        refine s_pairAhead (by omega) hK hP (by rw [xP]; exact h2) ⟨_, rfl, ?_⟩
        unfold zpa
        rw [zab_congr xP xP1, zab_congr xP xP1, zup_same]
        have a2 := ab 2 (Or.inr rfl)
        have a1 := ab 1 (Or.inl rfl)
        have T := hX 0 (zab mu P 2 * 7 + zab mu P 1) (by omega) (by rw [eP]; omega) (by omega) (by omega) (Or.inl (by omega))
        rw [ze, eP, show (zab mu P 2 * 7 + zab mu P 1) / 7 = zab mu P 2 by omega, show (zab mu P 2 * 7 + zab mu P 1) % 7 = zab mu P 1 by omega, show (mu P 3 - 0).toNat = (mu P 3).toNat by omega, show 49 * 0 + (zab mu P 2 * 7 + zab mu P 1) = zab mu P 2 * 7 + zab mu P 1 by omega] at T
        rw [T]
        have u := nb (mu P 3).toNat (zab mu P 2) (zab mu P 1) (by omega)
        refine ⟨by omega, by omega, ⟨by omega, by omega⟩, fun w => absurd w (by omega), fun _ => ?_⟩
        generalize hM : zup xi 46 2 (zNs mu P S (mu P 3).toNat (zab mu P 2) (zab mu P 1)) = M
        have eM : ∀ k : Int, k < 46 ∨ 50 < k → M k = mu k := fun k q => by rw [← hM, zup_row _ (by omega), xe k (by omega), e1 k (by omega) (by omega)]
        have MP := eM P (by omega)
        have MP1 := eM (P + 1) (by omega)
        have MP2 := eM (P + 2) (by omega)
        have M2 : M 46 2 = zNs mu P S (mu P 3).toNat (zab mu P 2) (zab mu P 1) := by rw [← hM, zup_same]
        have M3 : M 46 3 = S := by rw [← hM, zup_slot _ (by decide), xe 46 (by omega), p46]
        have hoM : zPO M P := by
          unfold zPO at ho ⊢
          rw [MP, MP1, MP2, eM (P + 3) (by omega)]
          exact ho
        have zeM : ∀ r a b, zNs M P S r a b = zNs mu P S r a b := fun r a b => by
          unfold zNs
          rw [MP, MP2]
        have zM : zsm [46, 47, 48, 49, 50] mu M := by
          rw [← hM]
          exact (z1'.tr (hx.wk (by simp))).up (by simp)
        refine s_follow (mu := M) (by omega) hK hP hoM (by rw [MP]; exact hkd) c10 zsm.rf M3 (fun i' p' a b c d e => ?_) (fun n4 z4 f4 => ⟨rfl, ?_⟩)
        · have T := hX i' p' a (by rw [MP] at b; rw [eP]; exact b) c d e
          rw [ze, eP] at T
          rw [zeM, MP, ← T, ← hM, zup_cell _ (by decide)]
        · rw [zeM, MP, MP2, zab_congr MP MP1, zab_congr MP MP1] at f4
          have e5 : ∀ k : Int, k < 46 ∨ 50 < k → n4 k = mu k := fun k q => by rw [z4 k (by simp only [List.mem_cons, List.not_mem_nil, or_false]; omega), eM k q]
          have nP := e5 P (by omega)
          have nP1 := e5 (P + 1) (by omega)
          have nP2 := e5 (P + 2) (by omega)
          have n46 : n4 46 = M 46 := z4 46 (by decide)
          refine h n4 (zM.tr (z4.wk (by simp))) (Or.inr ?_) (by rw [n46, M3])
          have ln := zSl_len (set := S) sq 22 (mu P 3).toNat (zab mu P 2) (zab mu P 1) (by omega) (by have : zNd (mu P 1) (mu P 0).toNat (mu P 3).toNat (mu (P + 2)) S (mu P 3).toNat (zab mu P 2) (zab mu P 1) ≤ (((mu P 3).toNat : Nat) : Int) := u.2; omega)
          rw [n46, M2, M3, nP, nP2, zab_congr nP nP1, zab_congr nP nP1, show ((S : Nat) : Int).toNat = S by omega]
          refine ⟨by omega, sb, ln.symm, by omega, fun i i0 i1 => ?_⟩
          have := f4 i.toNat (by omega)
          rw [show ((i.toNat : Nat) : Int) = i by omega] at this
          exact this
      | succ q ih =>
        intro i xi hi i1 hx hX
        refine sg_X7_find_29 hd hK hP ⟨⟨by omega, by omega⟩, fun w => absurd w (by omega), fun _ => ?_⟩
        refine s_findFewest (mu := n1) (by omega) hK hP ho1 (by rw [eP]; exact hkd) c10 hx p46 (by rw [eP]; omega) hX (fun om hom hO => ⟨rfl, ?_⟩)
        exact ih (i + (-1)) om (by omega) (by omega) hom (by rw [show i + (-1) = i - 1 by omega]; exact hO)
    rw [eP]
    refine l29 (mu P 3).toNat (mu P 3 - 1) n1 (by omega) (by omega) zsm.rf (fun i' p' a b c d e => ?_)
    rw [eP] at b
    have : i' = mu P 3 := by omega
    rw [this, f1 _ (by omega) (by omega), ze, eP, show (mu P 3 - mu P 3).toNat = 0 by omega]
    unfold zNs
    rw [zNd]
end S70
