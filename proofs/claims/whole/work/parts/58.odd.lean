/-! odds -/
def zgcd (a b : Int) : Int := ((Nat.gcd a.toNat b.toNat : Nat) : Int)
theorem zgcd_0 {a : Int} (ha : 0 ≤ a) : zgcd a 0 = a := by
  unfold zgcd
  rw [show (0 : Int).toNat = 0 from rfl, Nat.gcd_zero_right]
  omega
theorem zgcd_comm (a b : Int) : zgcd a b = zgcd b a := by
  unfold zgcd
  rw [Nat.gcd_comm]
theorem ztm {a b : Int} (ha : 0 ≤ a) (hb : 0 < b) : a.tmod b = a % b ∧ 0 ≤ a % b ∧ a % b < b ∧ (a % b).toNat = a.toNat % b.toNat := by
  have h1 := Int.emod_nonneg a (show b ≠ 0 by omega)
  have h2 := Int.emod_lt_of_pos a hb
  refine ⟨Int.tmod_eq_emod_of_nonneg ha, h1, h2, ?_⟩
  have e : a % b = ((a.toNat % b.toNat : Nat) : Int) := by
    rw [Int.natCast_emod]
    congr 1 <;> omega
  rw [e]
  omega
theorem zgcd_step {a b : Int} (ha : 0 ≤ a) (hb : 0 < b) : zgcd a b = zgcd b (a.tmod b) := by
  obtain ⟨h1, h2, h3, h4⟩ := ztm ha hb
  unfold zgcd
  rw [h1, h4, Nat.gcd_comm a.toNat, Nat.gcd_rec b.toNat, Nat.gcd_comm]
theorem zgcd_pos {a b : Int} (ha : 0 < a) : 0 < zgcd a b := by
  unfold zgcd
  have : 0 < Nat.gcd a.toNat b.toNat := Nat.gcd_pos_of_pos_left _ (by omega)
  omega
theorem zgcd_le {a b : Int} (ha : 0 < a) : zgcd a b ≤ a := by
  unfold zgcd
  have : Nat.gcd a.toNat b.toNat ≤ a.toNat := Nat.gcd_le_left _ (by omega)
  omega
theorem zhalf {b r : Int} (hr : 0 < r) (hrb : r < b) : 2 * (b % r) < b := by
  have h1 := Int.emod_nonneg b (show r ≠ 0 by omega)
  have h2 := Int.emod_lt_of_pos b hr
  have h3 := Int.emod_add_mul_ediv b r
  have h4 : 1 ≤ b / r := by
    by_cases q : b / r < 1
    · exfalso
      have : r * (b / r) ≤ r * 0 := Int.mul_le_mul_of_nonneg_left (by omega) (by omega)
      omega
    · omega
  have h5 : r * 1 ≤ r * (b / r) := Int.mul_le_mul_of_nonneg_left h4 (by omega)
  omega
section S58
variable {K d : Nat} {mu : Mem} {Q : AV → Mem → Prop}
theorem s_commonDivisor {a b : Int} (hK : 64 ≤ K) (ha : 0 ≤ a ∧ a < 9223372036854775808) (hb : 0 ≤ b ∧ b < 9223372036854775808) (h : Q (zJ (zgcd a b)) mu) : zC K d mX8_commonDivisor [zJ a, zJ b] mu Q := by
  have l : ∀ (n : Nat) (a b c : Int), 0 ≤ c → c + 2 * n + 1 ≤ 1000 → (0 ≤ a ∧ a < 9223372036854775808) → (0 ≤ b ∧ b < 9223372036854775808) → b < 2 ^ n → Q (zJ (zgcd a b)) mu → zG K d mX8_commonDivisor 3 [zJ a, zU, zJ b, zU, zI c, zU, zU] [] mu Q := by
    intro n
    induction n with
    | zero =>
      intro a b c c0 c1 ha hb h2 hq
      have e : b = 0 := by
        rw [show (2 : Int) ^ 0 = 1 from rfl] at h2
        omega
      subst e
      rw [zgcd_0 ha.1] at hq
      exact sg_X8_commonDivisor_3 (by omega) hK ⟨⟨by omega, by omega⟩, fun w => absurd w (by omega), fun _ => ⟨⟨by omega, by omega⟩, fun _ => hq, fun w => absurd rfl w⟩⟩
    | succ n ih =>
      intro a b c c0 c1 ha hb h2 hq
      refine sg_X8_commonDivisor_3 (by omega) hK ⟨⟨by omega, by omega⟩, fun w => absurd w (by omega), fun _ => ⟨⟨by omega, by omega⟩, fun w => ?_, fun w => ⟨⟨by omega, by omega⟩, by omega, ?_⟩⟩⟩
      · subst w
        rw [zgcd_0 ha.1] at hq
        exact hq
      · obtain ⟨r1, r2, r3, r4⟩ := ztm ha.1 (show 0 < b by omega)
        rw [zgcd_step ha.1 (by omega), r1] at hq
        rw [r1]
        refine sg_X8_commonDivisor_3 (by omega) hK ⟨⟨by omega, by omega⟩, fun w2 => absurd w2 (by omega), fun _ => ⟨⟨by omega, by omega⟩, fun w2 => ?_, fun w2 => ⟨⟨by omega, by omega⟩, by omega, ?_⟩⟩⟩
        · rw [w2, zgcd_0 hb.1] at hq
          exact hq
        · obtain ⟨s1, s2, s3, s4⟩ := ztm hb.1 (show 0 < a % b by omega)
          rw [zgcd_step hb.1 (by omega), s1] at hq
          rw [s1]
          have hh := zhalf (b := b) (r := a % b) (by omega) r3
          rw [Int.pow_succ] at h2
          exact ih _ _ (c + 1 + 1) (by omega) (by omega) (by omega) (by omega) (by omega) hq
  refine ce_X8_commonDivisor (sg_X8_commonDivisor_0 (by omega) hK (l 63 a b 0 (by omega) (by decide) ha hb ?_ h))
  have : (2 : Int) ^ 63 = 9223372036854775808 := by decide
  omega
theorem m_common {a b : Int} (hK : 93 ≤ K) (ha : 0 ≤ a ∧ a < 9223372036854775808) (hb : 0 ≤ b ∧ b < 9223372036854775808) (h : Q (zJ (zgcd a b)) mu) : zC K d mX9_common [zJ a, zJ b] mu Q := by
  have l : ∀ (n : Nat) (a b : Int), (0 ≤ a ∧ a < 9223372036854775808) → (0 ≤ b ∧ b < 9223372036854775808) → b.toNat < n → Q (zJ (zgcd a b)) mu → zG K d mX9_common 6 [zU, zU, zU, zU, zJ a, zU, zJ b, zU, zU, zU] [] mu Q := by
    intro n
    induction n with
    | zero =>
      intro a b ha hb h2 hq
      exact absurd h2 (by omega)
    | succ n ih =>
      intro a b ha hb h2 hq
      refine sg_X9_common_6 (by omega) hK ⟨⟨by omega, by omega⟩, fun w => ?_, fun w => ⟨⟨by omega, by omega⟩, by omega, ?_⟩⟩
      · subst w
        rw [zgcd_0 ha.1] at hq
        exact hq
      · obtain ⟨r1, r2, r3, r4⟩ := ztm ha.1 (show 0 < b by omega)
        rw [zgcd_step ha.1 (by omega), r1] at hq
        rw [r1]
        exact ih _ _ hb (by omega) (by omega) hq
  exact ce_X9_common (sg_X9_common_0 (by omega) hK (l (b.toNat + 1) a b ha hb (by omega) h))
end S58
theorem ztd {a g : Int} (ha : 0 ≤ a ∧ a < 9223372036854775808) (hg : 0 < g) : zil (a.tdiv g) := by
  rw [Int.tdiv_eq_ediv_of_nonneg ha.1]
  have h1 := Int.ediv_nonneg ha.1 (show 0 ≤ g by omega)
  have h2 := Int.ediv_le_self g ha.1
  exact ⟨by omega, by omega⟩
theorem op_odds (a1 a2 a3 : Int) (ha : zin a1) (hb : zin a2) (hc : zin a3) : zOpJ 6 3 mX8_odds mX9_odds [zI a1, zI a2, zI a3] := by
  intro mu P hJ
  have hK : 64 ≤ 93 := by decide
  have hK' : 93 ≤ 93 := by decide
  have hJ0 := hJ
  obtain ⟨h1, h2, h3, -⟩ := hJ
  have hPi := h1.isP hK
  have hP2 := hPi.2
  obtain ⟨rfl, -⟩ := h1
  have hpo := h2.po
  have hgp := h2.gp h3
  have hlb := h2.lb
  obtain ⟨⟨t1, t2, t3⟩, ⟨k1, k2, k3⟩, ⟨b1, b2, b3⟩, -, -, -, -, -, hp, -⟩ := h2
  obtain ⟨-, ⟨g1, g2, g3⟩, g4⟩ := h3
  have hS : isS 93 22 := ⟨by omega, by omega⟩
  have hs73 : zshb (mu 73) := fun x x0 x1 => (hp x x0 x1).2
  have hg79 : ∀ i, 0 ≤ i → i < mu 78 0 → 0 ≤ mu 79 i ∧ mu 79 i ≤ 6 := fun i i0 i1 => by
    have q := (g4 i i0 (by omega)).2
    rw [show 10 * (0 : Int) + i = i by omega] at q
    unfold zsg at q
    omega
  have gg : ∀ i, 0 ≤ i → i < mu 22 4 → mu 79 i = mu (22 + 4) i := fun i i0 i1 => by
    have q := (g4 i i0 i1).1
    rw [show 10 * (0 : Int) + i = i by omega] at q
    exact q.symm
  have ss : ∀ x : Int, 0 ≤ x → x < ((mu (mu 0 3) 0).toNat : Int) → mu 73 x = mu (mu 0 3 + 4) x := fun x x0 x1 => (hp x x0 (by omega)).1.symm
  have bdB : ∀ pl tl, 0 ≤ zB (mu (mu 0 3) 1) (mu (mu 0 3) 0).toNat (mu (22 + 4)) (mu (mu 0 3 + 4)) (mu 22 4) pl tl (mu 22 4).toNat (zab mu (mu 0 3) 2) (zab mu (mu 0 3) 1) ∧ zB (mu (mu 0 3) 1) (mu (mu 0 3) 0).toNat (mu (22 + 4)) (mu (mu 0 3 + 4)) (mu 22 4) pl tl (mu 22 4).toNat (zab mu (mu 0 3) 2) (zab mu (mu 0 3) 1) < 9223372036854775808 := fun pl tl => by
    have b := zB_bd (kind := mu (mu 0 3) 1) (t := (mu (mu 0 3) 0).toNat) (g := mu (22 + 4)) (sh := mu (mu 0 3 + 4)) (m := mu 22 4) (pl := pl) (tl := tl) (by omega) hgp.2.2 (mu 22 4).toNat (zab mu (mu 0 3) 2) (zab mu (mu 0 3) 1)
    have c := z54 (r := (mu 22 4).toNat) (by omega)
    omega
  generalize hall : zB (mu (mu 0 3) 1) (mu (mu 0 3) 0).toNat (mu (22 + 4)) (mu (mu 0 3 + 4)) (mu 22 4) (-1) (-1) (mu 22 4).toNat (zab mu (mu 0 3) 2) (zab mu (mu 0 3) 1) = all
  generalize hsome : zB (mu (mu 0 3) 1) (mu (mu 0 3) 0).toNat (mu (22 + 4)) (mu (mu 0 3 + 4)) (mu 22 4) a1 a2 (mu 22 4).toNat (zab mu (mu 0 3) 2) (zab mu (mu 0 3) 1) = some_
  have ball := bdB (-1) (-1)
  rw [hall] at ball
  have bsome := bdB a1 a2
  rw [hsome] at bsome
  -- the reference
  have fin : ∀ (nu : Mem) (r : Int), zsm [54, 55] mu nu → (0 ≤ a1 ∧ a1 < mu 22 4) → (0 ≤ a2 ∧ a2 < mu (mu 0 3) 0) → (a3 = 0 ∨ a3 = 1) → (mu 67 0 = 0 ∨ mu 67 0 = 3) → r = (if all = 0 then -4 else if a3 = 0 then some_.tdiv (zgcd some_ all) else all.tdiv (zgcd some_ all)) → zC 93 3 mX9_odds [zR 64, zI a1, zI a2, zI a3] nu (fun v' nu' => v' = zJ r ∧ ∃ P', jJ nu' P') := fun nu r hz w1 w2 w3 hsh hr => by
    have hJ1 := hJ0.same (hz.J (by decide))
    have e : ∀ k : Int, 64 ≤ k → nu k = mu k := fun k hk => hz k (by simp only [List.mem_cons, List.not_mem_nil, or_false]; omega)
    obtain ⟨l1, l0, lb1, lb0⟩ := hlb
    refine ce_X9_odds (sg_X9_odds_0 (by omega) hK' ⟨ha, by rw [e 78 (by omega)]; exact ⟨by omega, by omega⟩, s_in hK' (zil_of ha) ⟨by omega, by omega⟩ (by rw [e 78 (by omega)]; exact ⟨by omega, by omega⟩) ⟨_, rfl, zbin _, fun c => by exfalso; rw [e 78 (by omega)] at c; split at c <;> omega, fun c => ?_⟩⟩)
    refine m_isThing (by omega) hK' hb (by rw [e 66 (by omega)]; omega) ⟨_, rfl, zbin _, fun c => by exfalso; rw [e 66 (by omega)] at c; split at c <;> omega, fun c => ⟨hc, ?_⟩⟩
    refine s_in hK' (zil_of hc) ⟨by omega, by omega⟩ ⟨by omega, by omega⟩ ⟨_, rfl, zbin _, fun c => ?_, fun c => by exfalso; split at c <;> omega⟩
    refine m_isShort hK' (by rw [e 67 (by omega)]; exact ⟨by omega, by omega⟩) ⟨_, rfl, zbin _, fun c2 => ?_, fun c2 => by exfalso; rw [e 67 (by omega), if_pos hsh] at c2; omega⟩
    have el : ∀ k, zlb nu k = zlb mu k := fun k => by
      unfold zlb
      rw [e 68 (by omega), e 69 (by omega)]
    refine m_lastBut hK' (Or.inr rfl) (by rw [e 68 (by omega)]; omega) ⟨_, rfl, ?_⟩
    refine m_lastBut hK' (Or.inl rfl) (by rw [e 68 (by omega)]; omega) ⟨_, rfl, ?_⟩
    rw [el, el]
    refine m_stand hK' ⟨_, rfl, ?_⟩
    refine m_layRows (by omega) hK' (by rw [e 66 (by omega)]; omega) (by rw [e 67 (by omega)]; exact hsh) (by rw [e 78 (by omega)]; omega) (by rw [e 78 (by omega), e 79 (by omega)]; exact hg79) (by rw [e 73 (by omega)]; exact hs73) ha hb (fun xi hx hT => ⟨rfl, by omega, by omega, ?_⟩)
    have ex : ∀ k : Int, 64 ≤ k → k ≠ 87 → k ≠ 88 → k ≠ 89 → xi k = mu k := fun k hk q1 q2 q3 => (hx k (by simp only [List.mem_cons, List.not_mem_nil, or_false]; omega)).trans (e k hk)
    refine m_layRows (by omega) hK' (by rw [ex 66 (by omega) (by omega) (by omega) (by omega)]; omega) (by rw [ex 67 (by omega) (by omega) (by omega) (by omega)]; exact hsh) (by rw [ex 78 (by omega) (by omega) (by omega) (by omega)]; omega) (by rw [ex 78 (by omega) (by omega) (by omega) (by omega), ex 79 (by omega) (by omega) (by omega) (by omega)]; exact hg79) (by rw [ex 73 (by omega) (by omega) (by omega) (by omega)]; exact hs73) ⟨by omega, by omega⟩ ⟨by omega, by omega⟩ (fun om ho hT2 => ⟨rfl, ?_⟩)
    have hJ3 := (hJ1.same (hx.J (by decide))).same (ho.J (by decide))
    obtain ⟨-, T2, -⟩ := hT 0 (8 * zlb mu 1 + zlb mu 0) (by omega) (by rw [e 78 (by omega)]; omega) (by omega) (by omega) (Or.inl (by omega))
    rw [e 66 (by omega), e 67 (by omega), e 73 (by omega), e 78 (by omega), e 79 (by omega), show (8 * zlb mu 1 + zlb mu 0) / 8 = zlb mu 1 by omega, show (8 * zlb mu 1 + zlb mu 0) % 8 = zlb mu 0 by omega, l1, l0, show (mu 78 0 - 0).toNat = (mu 78 0).toNat by omega, show 64 * 0 + (8 * zlb mu 1 + zlb mu 0) = 64 * 0 + 8 * zlb mu 1 + zlb mu 0 by omega, ← t1, ← k1, ← g1, zB_congr (pl' := a1) gg ss (Or.inl rfl) _ (by omega) _ _ a2 (Or.inl rfl), hsome] at T2
    obtain ⟨-, U2, -⟩ := hT2 0 (8 * zlb mu 1 + zlb mu 0) (by omega) (by rw [ex 78 (by omega) (by omega) (by omega) (by omega)]; omega) (by omega) (by omega) (Or.inl (by omega))
    rw [ex 66 (by omega) (by omega) (by omega) (by omega), ex 67 (by omega) (by omega) (by omega) (by omega), ex 73 (by omega) (by omega) (by omega) (by omega), ex 78 (by omega) (by omega) (by omega) (by omega), ex 79 (by omega) (by omega) (by omega) (by omega), show (8 * zlb mu 1 + zlb mu 0) / 8 = zlb mu 1 by omega, show (8 * zlb mu 1 + zlb mu 0) % 8 = zlb mu 0 by omega, l1, l0, show (mu 78 0 - 0).toNat = (mu 78 0).toNat by omega, show 64 * 0 + (8 * zlb mu 1 + zlb mu 0) = 64 * 0 + 8 * zlb mu 1 + zlb mu 0 by omega, ← t1, ← k1, ← g1, zB_congr (pl' := -1) gg ss (Or.inr (by omega)) _ (by omega) _ _ (-1) (Or.inr (by omega)), hall] at U2
    rw [T2, U2]
    refine ⟨⟨by omega, by omega⟩, fun c3 => ?_, fun c3 => ⟨by rw [hr, if_pos c3], _, hJ3⟩⟩
    have gp : 0 < zgcd some_ all := by
      rw [zgcd_comm]
      exact zgcd_pos (by omega)
    have gl : zgcd some_ all ≤ all := by
      rw [zgcd_comm]
      exact zgcd_le (by omega)
    refine m_common hK' bsome ball ⟨_, rfl, fun c4 => ⟨⟨by omega, by omega⟩, gp, ?_, _, hJ3⟩, fun c4 => ⟨⟨by omega, by omega⟩, ⟨by omega, by omega⟩, gp, ?_, _, hJ3⟩⟩
    · rw [hr, if_neg c3, if_neg c4]
    · rw [hr, if_neg c3, if_pos c4]
  have bad : (¬ (0 ≤ a1 ∧ a1 < mu 22 4) ∨ ¬ (0 ≤ a2 ∧ a2 < mu (mu 0 3) 0) ∨ ¬ (a3 = 0 ∨ a3 = 1)) → zC 93 3 mX9_odds [zR 64, zI a1, zI a2, zI a3] mu (fun v' nu' => v' = zJ (-1) ∧ ∃ P', jJ nu' P') := fun w => by
    refine ce_X9_odds (sg_X9_odds_0 (by omega) hK' ⟨ha, ⟨by omega, by omega⟩, s_in hK' (zil_of ha) ⟨by omega, by omega⟩ ⟨by omega, by omega⟩ ⟨_, rfl, zbin _, fun c => ⟨rfl, _, hJ0⟩, fun c => ?_⟩⟩)
    refine m_isThing (by omega) hK' hb (by omega) ⟨_, rfl, zbin _, fun c2 => ⟨rfl, _, hJ0⟩, fun c2 => ⟨hc, ?_⟩⟩
    refine s_in hK' (zil_of hc) ⟨by omega, by omega⟩ ⟨by omega, by omega⟩ ⟨_, rfl, zbin _, fun c3 => ?_, fun c3 => ⟨rfl, _, hJ0⟩⟩
    exfalso
    split at c <;> split at c2 <;> split at c3 <;> omega
  refine ce_X8_odds (sg_X8_odds_0 (by omega) hK (s_isGift (by omega) hK ha ⟨g2, g3⟩ ⟨_, rfl, zbin _, fun c => ?_, fun c => ?_⟩))
  · exact ⟨_, ⟨by omega, by omega⟩, rfl, bad (Or.inl (by split at c <;> omega))⟩
  refine s_isThing (by omega) hK hPi hb ⟨t2, t3⟩ ⟨_, rfl, zbin _, fun c2 => ?_, fun c2 => ?_⟩
  · exact ⟨_, ⟨by omega, by omega⟩, rfl, bad (Or.inr (Or.inl (by split at c2 <;> omega)))⟩
  refine s_within hK hc ⟨by omega, by omega⟩ ⟨by omega, by omega⟩ ⟨_, rfl, zbin _, fun c3 => ⟨hPi, ?_⟩, fun c3 => ?_⟩
  · have w1 : 0 ≤ a1 ∧ a1 < mu 22 4 := by split at c <;> omega
    have w2 : 0 ≤ a2 ∧ a2 < mu (mu 0 3) 0 := by split at c2 <;> omega
    have w3 : a3 = 0 ∨ a3 = 1 := by split at c3 <;> omega
    refine s_remembersTwo hK hPi ⟨by omega, by omega⟩ ⟨_, rfl, zbin _, fun c4 => ?_, fun c4 => ?_⟩
    · have csh : mu 67 0 = 0 ∨ mu 67 0 = 3 := by split at c4 <;> omega
      refine s_weight (by omega) hK hPi hS rfl hpo hgp (fun nu hz => ⟨_, rfl, ?_⟩)
      rw [hall]
      have e : ∀ k : Int, k ≠ 54 → k ≠ 55 → nu k = mu k := fun k q1 q2 => hz k (by simp only [List.mem_cons, List.not_mem_nil, or_false]; omega)
      have e0 := e 0 (by omega) (by omega)
      have eP := e (mu 0 3) (by omega) (by omega)
      refine ⟨⟨by omega, by omega⟩, fun c5 => ?_, fun c5 => ⟨_, ⟨by omega, by omega⟩, rfl, fin nu _ hz w1 w2 w3 csh (by rw [if_pos (by omega)])⟩⟩
      rw [e0]
      have gp2 : zGP nu (mu 0 3) 22 := by
        unfold zGP at hgp ⊢
        rw [e 22 (by omega) (by omega), e (22 + 4) (by omega) (by omega), e (mu 0 3 + 4) (by omega) (by omega)]
        exact hgp
      refine s_weightWith (by omega) hK hPi hS rfl (hpo.c5 hP2 (fun k hk => e k (by omega) (by omega))) gp2 ha hb (fun xi hx => ⟨_, rfl, ?_⟩)
      have hzx : zsm [54, 55] mu xi := hz.tr hx
      rw [eP, e 22 (by omega) (by omega), e (22 + 4) (by omega) (by omega), e (mu 0 3 + 4) (by omega) (by omega), zab_congr eP (e (mu 0 3 + 1) (by omega) (by omega)), zab_congr eP (e (mu 0 3 + 1) (by omega) (by omega)), hsome]
      have gp : 0 < zgcd all some_ := zgcd_pos c5
      have gl : zgcd all some_ ≤ all := zgcd_le c5
      refine s_commonDivisor hK ball bsome ⟨_, rfl, ⟨by omega, by omega⟩, fun c6 => ⟨hc, fun c7 => ⟨c6, _, ztd ball gp, rfl, fin xi _ hzx w1 w2 w3 csh ?_⟩, fun c7 => ⟨⟨by omega, by omega⟩, c6, _, ztd bsome gp, rfl, fin xi _ hzx w1 w2 w3 csh ?_⟩⟩, fun c6 => absurd gp c6⟩
      · rw [if_neg (by omega), if_neg c7, zgcd_comm]
      · rw [if_neg (by omega), if_pos c7, zgcd_comm]
    · refine ⟨_, ⟨by omega, by omega⟩, rfl, ?_⟩
      refine ce_X9_odds (sg_X9_odds_0 (by omega) hK' ⟨ha, ⟨by omega, by omega⟩, s_in hK' (zil_of ha) ⟨by omega, by omega⟩ ⟨by omega, by omega⟩ ⟨_, rfl, zbin _, fun c5 => by exfalso; split at c5 <;> omega, fun c5 => ?_⟩⟩)
      refine m_isThing (by omega) hK' hb (by omega) ⟨_, rfl, zbin _, fun c6 => by exfalso; split at c6 <;> omega, fun c6 => ⟨hc, ?_⟩⟩
      refine s_in hK' (zil_of hc) ⟨by omega, by omega⟩ ⟨by omega, by omega⟩ ⟨_, rfl, zbin _, fun c7 => ?_, fun c7 => by exfalso; split at c7 <;> omega⟩
      refine m_isShort hK' ⟨by omega, by omega⟩ ⟨_, rfl, zbin _, fun c8 => ?_, fun c8 => ⟨rfl, _, hJ0⟩⟩
      exfalso
      rw [← k1] at c8
      exact c8 c4
  · exact ⟨_, ⟨by omega, by omega⟩, rfl, bad (Or.inr (Or.inr (by split at c3 <;> omega)))⟩
