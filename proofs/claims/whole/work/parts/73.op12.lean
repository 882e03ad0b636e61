/-! the operations strangers, ahead -/
theorem zSl_bd {kind : Int} {t n : Nat} {w : Int → Int} {set : Nat} (h : zSQ kind t n w) : ∀ (f r : Nat), r ≤ n → ∀ (a b : Int) (i : Nat), 0 ≤ ((zSl kind t n w set f r a b).getD i (0, 0)).1 ∧ ((zSl kind t n w set f r a b).getD i (0, 0)).1 ≤ 6 ∧ 0 ≤ ((zSl kind t n w set f r a b).getD i (0, 0)).2 ∧ ((zSl kind t n w set f r a b).getD i (0, 0)).2 ≤ 10
  | 0, _, _, _, _, i => by
    rw [zSl, List.getD_nil]
    exact ⟨by decide, by decide, by decide, by decide⟩
  | f + 1, 0, _, _, _, i => by
    rw [zSl, List.getD_nil]
    exact ⟨by decide, by decide, by decide, by decide⟩
  | f + 1, r + 1, hr, a, b, i => by
    rw [zSl]
    have ht := h.t
    have hn := h.n
    rcases zfs_ok (set := set) h hr (a := a) (b := b) with ⟨q, x, x0, x1, -⟩ | ⟨q, -⟩
    · rw [if_pos q, x0]
      match i with
      | 0 =>
        rw [List.getD_cons_zero]
        dsimp only
        omega
      | i + 1 =>
        rw [List.getD_cons_succ]
        exact zSl_bd h f (r + 1) hr _ _ i
    · rw [if_neg q]
      exact zSl_bd h f r (by omega) _ _ i
theorem op_strangers (a1 a2 : Int) (ha : zin a1) (hb : zin a2) : zOp 7 5 mX8_strangers mX9_strangers [zI a1, zI a2] := by
  intro mu P hJ
  have hK : 64 ≤ 93 := by decide
  have hK' : 93 ≤ 93 := by decide
  have hJ0 := hJ
  obtain ⟨h1, h2, h3, h4, h5, h6, h7⟩ := hJ
  have hPi := h1.isP hK
  have hP2 := hPi.2
  obtain ⟨rfl, -⟩ := h1
  have hpo := h2.po
  have hlb := h2.lb
  obtain ⟨⟨t1, t2, t3⟩, ⟨k1, k2, k3⟩, ⟨b1, b2, b3⟩, ⟨n1, n2, n3⟩, -, -, hwi, -⟩ := h2
  obtain ⟨l1, l0, lb1, lb0⟩ := hlb
  have pb := zpow_bd (n := mu (mu 0 3) 3) (by omega) (by omega)
  have pe : ((2 ^ (mu (mu 0 3) 3).toNat : Nat) : Int) = 2 ^ (mu (mu 0 3) 3).toNat := by rw [Int.natCast_pow]; rfl
  have ww : ∀ i : Nat, i < (mu (mu 0 3) 3).toNat → mu (mu 0 3 + 2) i = mu 71 i := fun i hi => (hwi i (by omega) (by omega)).1
  have fin : ∀ (nu : Mem) (r : Int), zsm [46, 47, 48, 49, 50] mu nu → jSr nu (mu 0 3) → nu 46 3 = a1 → (0 ≤ a1 ∧ a1 < 2 ^ (mu (mu 0 3) 3).toNat) → (-1 ≤ a2 ∧ a2 ≤ 11) → (mu 67 0 = 0 ∨ mu 67 0 = 3) → r = (if a2 = -1 then nu 46 2 else if a2 < nu 46 2 then nu 47 a2 else -4) → zC 93 5 mX9_strangers [zR 64, zI a1, zI a2] nu (fun v' nu' => v' = zI r ∧ ∃ P', jJ nu' P') := fun nu r hz hsr h46 w1 w2 hsh hr => by
    have e : ∀ k : Int, k < 46 ∨ 51 ≤ k → nu k = mu k := fun k q => hz k (by simp only [List.mem_cons, List.not_mem_nil, or_false]; omega)
    have eP := e (mu 0 3) (by omega)
    have eP1 := e (mu 0 3 + 1) (by omega)
    have eP2 := e (mu 0 3 + 2) (by omega)
    have e66 := e 66 (by omega)
    have e67 := e 67 (by omega)
    have e68 := e 68 (by omega)
    have e69 := e 69 (by omega)
    have e70 := e 70 (by omega)
    have e71 := e 71 (by omega)
    obtain ⟨S, hS⟩ : ∃ S : Nat, a1 = S := ⟨a1.toNat, by omega⟩
    subst hS
    have hRQ : zRQ nu S := by
      unfold zRQ
      rw [e66, e67, e70, e71]
      exact ⟨by omega, hsh, by omega, fun i i0 i1 => by
        have q := (hwi i i0 (by omega)).2
        omega, by rw [← n1]; omega⟩
    have hJn : jJ nu (mu 0 3) := by
      refine hJ0.fnd ⟨fun k hk h64 => ?_, by rw [e 64 (by omega)], by rw [e 64 (by omega)]⟩ (h6.c eP eP1 eP2 (e _ (by omega)) (e _ (by omega))) hsr
      have q1 : k ≠ 46 := fun q => hk (by rw [q]; decide)
      have q2 : k ≠ 47 := fun q => hk (by rw [q]; decide)
      have q3 : k ≠ 48 := fun q => hk (by rw [q]; decide)
      have q4 : k ≠ 49 := fun q => hk (by rw [q]; decide)
      have q5 : k ≠ 50 := fun q => hk (by rw [q]; decide)
      exact hz k (by simp only [List.mem_cons, List.not_mem_nil, or_false]; omega)
    have el : ∀ k, zlb nu k = zlb mu k := fun k => by
      unfold zlb
      rw [e68, e69]
    have hN : nu 46 2 = zNm nu S (nu 70 0).toNat (ze (zlb nu 1)) (ze (zlb nu 0)) ∧ nu 46 2 ≤ 12 ∧ ∀ i, 0 ≤ i → i < nu 46 2 → (nu 47 i, nu 48 i) = (zSl (nu 67 0) (nu 66 0).toNat (nu 70 0).toNat (nu 71) S 22 (nu 70 0).toNat (ze (zlb nu 1)) (ze (zlb nu 0))).getD i.toNat (0, 0) := by
      rcases hsr with q | ⟨q1, q2, q3, q4, q5⟩
      · rw [h46] at q
        omega
      · rw [h46, eP, eP2, zab_congr eP eP1, zab_congr eP eP1, show ((S : Nat) : Int).toNat = S by omega] at q3 q5
        have c := zSl_congr (kind := mu (mu 0 3) 1) (t := (mu (mu 0 3) 0).toNat) (set := S) ww 22 (mu (mu 0 3) 3).toNat (Nat.le_refl _) (zab mu (mu 0 3) 2) (zab mu (mu 0 3) 1)
        rw [c, k1, t1, n1, ← l1, ← l0] at q3 q5
        have sq := hRQ.sq
        rw [e66, e67, e70, e71] at sq
        have bd := zNd_bd (set := S) sq (mu 70 0).toNat (Nat.le_refl _) (ze (zlb mu 1)) (ze (zlb mu 0))
        have ln := zSl_len (set := S) sq 22 (mu 70 0).toNat (ze (zlb mu 1)) (ze (zlb mu 0)) (Nat.le_refl _) (by omega)
        unfold zNm
        rw [e66, e67, e70, e71, el, el]
        exact ⟨q3.trans ln, q4, q5⟩
    obtain ⟨N1, N2, N3⟩ := hN
    have N0 : 0 ≤ nu 46 2 := by
      rw [N1]
      exact (zNd_bd (set := S) hRQ.sq _ (Nat.le_refl _) _ _).1
    have w2' : 0 ≤ (S : Int) ∧ (S : Int) ≤ 2 ^ (nu 70 0).toNat - 1 := by rw [e70, ← n1]; omega
    refine ce_X9_strangers (sg_X9_strangers_0 (by omega) hK' (m_isQueue (by omega) hK' ha (by rw [e70]; omega) ⟨_, rfl, zbin _, fun c => by exfalso; rw [if_pos w2'] at c; omega, fun c => ⟨hb, ?_⟩⟩))
    refine s_in hK' (zil_of hb) ⟨by omega, by omega⟩ ⟨by omega, by omega⟩ ⟨_, rfl, zbin _, fun c3 => ?_, fun c3 => by exfalso; rw [if_pos w2] at c3; omega⟩
    refine m_isShort hK' (by rw [e67]; exact ⟨by omega, by omega⟩) ⟨_, rfl, zbin _, fun c2 => ?_, fun c2 => by exfalso; rw [e67, if_pos hsh] at c2; omega⟩
    refine m_layStrangers (by omega) hK' hRQ (by rw [e68]; omega) (by rw [el]; exact lb1) (by rw [el]; exact lb0) (fun xi hx hX => ⟨_, rfl, ?_⟩)
    rw [← N1]
    have jx := hJn.same hx.J
    refine ⟨fun q => ⟨by rw [hr, if_pos (by omega)], _, jx⟩, fun q => ⟨⟨by omega, by omega⟩, fun _ => ⟨fun q2 => ⟨by rw [hr, if_neg (by omega), if_neg (by omega)], _, jx⟩, fun q2 => ⟨by omega, by omega, ?_, _, jx⟩⟩, fun q2 => absurd N0 q2⟩⟩
    rw [hr, if_neg (by omega), if_pos (by omega)]
    have a := N3 a2 (by omega) (by omega)
    have b := hX a2.toNat (by omega)
    rw [show ((a2.toNat : Nat) : Int) = a2 by omega, ← a] at b
    rw [(Prod.mk.inj b).1]
  have bad : (¬ (0 ≤ a1 ∧ a1 < 2 ^ (mu (mu 0 3) 3).toNat) ∨ ¬ (-1 ≤ a2 ∧ a2 ≤ 11)) → zC 93 5 mX9_strangers [zR 64, zI a1, zI a2] mu (fun v' nu' => v' = zI (-1) ∧ ∃ P', jJ nu' P') := fun w => by
    refine ce_X9_strangers (sg_X9_strangers_0 (by omega) hK' (m_isQueue (by omega) hK' ha (by omega) ⟨_, rfl, zbin _, fun c => ⟨rfl, _, hJ0⟩, fun c => ⟨hb, ?_⟩⟩))
    refine s_in hK' (zil_of hb) ⟨by omega, by omega⟩ ⟨by omega, by omega⟩ ⟨_, rfl, zbin _, fun c3 => ?_, fun c3 => ⟨rfl, _, hJ0⟩⟩
    exfalso
    rw [← n1] at c
    split at c <;> split at c3 <;> omega
  have no : (0 ≤ a1 ∧ a1 < 2 ^ (mu (mu 0 3) 3).toNat) → (-1 ≤ a2 ∧ a2 ≤ 11) → ¬ (mu 67 0 = 0 ∨ mu 67 0 = 3) → zC 93 5 mX9_strangers [zR 64, zI a1, zI a2] mu (fun v' nu' => v' = zI (-2) ∧ ∃ P', jJ nu' P') := fun w1 w2 hsh => by
    refine ce_X9_strangers (sg_X9_strangers_0 (by omega) hK' (m_isQueue (by omega) hK' ha (by omega) ⟨_, rfl, zbin _, fun c => by exfalso; rw [← n1, if_pos (by omega)] at c; omega, fun c => ⟨hb, ?_⟩⟩))
    refine s_in hK' (zil_of hb) ⟨by omega, by omega⟩ ⟨by omega, by omega⟩ ⟨_, rfl, zbin _, fun c3 => ?_, fun c3 => by exfalso; rw [if_pos w2] at c3; omega⟩
    exact m_isShort hK' ⟨by omega, by omega⟩ ⟨_, rfl, zbin _, fun c2 => by exfalso; rw [if_neg hsh] at c2; omega, fun c2 => ⟨rfl, _, hJ0⟩⟩
  have ob : ∀ nu : Mem, zsm [46, 47, 48, 49, 50] mu nu → jSr nu (mu 0 3) → nu 46 3 = a1 → 0 ≤ a1 → (mu (mu 0 3) 1 = 0 ∨ mu (mu 0 3) 1 = 3) → (0 ≤ nu 46 2 ∧ nu 46 2 ≤ 12) ∧ (0 ≤ a2 → a2 < nu 46 2 → zin (nu 47 a2) ∧ zin (nu 48 a2)) := fun nu hz hsr h46 w hkd => by
    have e : ∀ k : Int, k < 46 ∨ 51 ≤ k → nu k = mu k := fun k q => hz k (by simp only [List.mem_cons, List.not_mem_nil, or_false]; omega)
    rcases hsr with q | ⟨q1, q2, q3, q4, q5⟩
    · omega
    · refine ⟨⟨by omega, q4⟩, fun u1 u2 => ?_⟩
      have q := q5 a2 u1 u2
      have bd := zSl_bd (kind := nu (mu 0 3) 1) (t := (nu (mu 0 3) 0).toNat) (n := (nu (mu 0 3) 3).toNat) (w := nu (mu 0 3 + 2)) (set := (nu 46 3).toNat) (by rw [e (mu 0 3) (by omega), e (mu 0 3 + 2) (by omega)]; exact hpo.sq hkd) 22 (nu (mu 0 3) 3).toNat (Nat.le_refl _) (zab nu (mu 0 3) 2) (zab nu (mu 0 3) 1) a2.toNat
      rw [← q] at bd
      exact ⟨⟨by have := bd.1; dsimp only at this; omega, by have := bd.2.1; dsimp only at this; omega⟩, ⟨by have := bd.2.2.1; dsimp only at this; omega, by have := bd.2.2.2; dsimp only at this; omega⟩⟩
  refine ce_X8_strangers (sg_X8_strangers_0 (by omega) hK (s_isSet (by omega) hK hPi ha ⟨n2, n3⟩ ⟨_, rfl, zbin _, fun c => ⟨_, ⟨by omega, by omega⟩, rfl, bad (Or.inl (by split at c <;> omega))⟩, fun c => ?_⟩))
  have w1 : 0 ≤ a1 ∧ a1 < 2 ^ (mu (mu 0 3) 3).toNat := by split at c <;> omega
  refine s_within hK hb ⟨by omega, by omega⟩ ⟨by omega, by omega⟩ ⟨_, rfl, zbin _, fun c5 => ⟨hPi, ?_⟩, fun c5 => ⟨_, ⟨by omega, by omega⟩, rfl, bad (Or.inr (by split at c5 <;> omega))⟩⟩
  have w2 : -1 ≤ a2 ∧ a2 ≤ 11 := by split at c5 <;> omega
  refine s_remembersTwo hK hPi ⟨by omega, by omega⟩ ⟨_, rfl, zbin _, fun c4 => ?_, fun c4 => ⟨_, ⟨by omega, by omega⟩, rfl, no w1 w2 (by split at c4 <;> omega)⟩⟩
  have csh : mu 67 0 = 0 ∨ mu 67 0 = 3 := by split at c4 <;> omega
  obtain ⟨S, hS⟩ : ∃ S : Nat, a1 = S := ⟨a1.toNat, by omega⟩
  have fo := s_findS (K := 93) (d := 6) (mu := mu) (P := mu 0 3) (S := S) (Q := fun v_ nu12 => v_ = zV ∧ (zin a2 ∧ ((¬ a2 = (-1) → zC 93 0 mX7_isOne [zR 46, zI a2] nu12 (fun v_ nu15 => ∃ r14, v_ = zI r14 ∧ (zin r14 ∧ ((r14 = 0 → (∃ r, zin r ∧ zI (-4) = zI r ∧ zC 93 5 mX9_strangers [zR 64, zI a1, zI a2] nu15 (fun v' nu' => v' = zI r ∧ ∃ P', jJ nu' P'))) ∧ (¬ r14 = 0 → (0 ≤ a2 ∧ a2 < 12 ∧ (∃ r, zin r ∧ zI (nu15 47 a2) = zI r ∧ zC 93 5 mX9_strangers [zR 64, zI a1, zI a2] nu15 (fun v' nu' => v' = zI r ∧ ∃ P', jJ nu' P')))))))) ∧ (a2 = (-1) → (zin (nu12 46 2) ∧ ((12 < (nu12 46 2) → zC 93 0 mX7_isOne [zR 46, zI a2] nu12 (fun v_ nu15 => ∃ r14, v_ = zI r14 ∧ (zin r14 ∧ ((r14 = 0 → (∃ r, zin r ∧ zI (-4) = zI r ∧ zC 93 5 mX9_strangers [zR 64, zI a1, zI a2] nu15 (fun v' nu' => v' = zI r ∧ ∃ P', jJ nu' P'))) ∧ (¬ r14 = 0 → (0 ≤ a2 ∧ a2 < 12 ∧ (∃ r, zin r ∧ zI (nu15 47 a2) = zI r ∧ zC 93 5 mX9_strangers [zR 64, zI a1, zI a2] nu15 (fun v' nu' => v' = zI r ∧ ∃ P', jJ nu' P')))))))) ∧ (¬ 12 < (nu12 46 2) → (∃ r, zin r ∧ zI (nu12 46 2) = zI r ∧ zC 93 5 mX9_strangers [zR 64, zI a1, zI a2] nu12 (fun v' nu' => v' = zI r ∧ ∃ P', jJ nu' P'))))))))) (by omega) hK hPi hpo (by omega) (by omega) h7 (fun nu hz hsr h46 => ?_)
  · rw [← hS] at fo
    exact fo
  rw [← hS] at h46
  have o := ob nu hz hsr h46 w1.1 (by omega)
  refine ⟨rfl, hb, fun q => ?_, fun q => ⟨⟨by omega, by omega⟩, fun q2 => absurd q2 (by omega), fun q2 => ⟨_, ⟨by omega, by omega⟩, rfl, fin nu _ hz hsr h46 w1 w2 csh (by rw [if_pos q])⟩⟩⟩
  refine ce_X7_isOne (sg_X7_isOne_0 (by omega) hK ⟨⟨by omega, by omega⟩, fun q2 => absurd q2 (by omega), fun _ => ⟨hb, fun q3 => absurd q3 (by omega), fun q3 => ⟨fun q4 => ?_, fun q4 => ?_⟩⟩⟩)
  · exact ⟨_, rfl, ⟨by omega, by omega⟩, fun _ => ⟨_, ⟨by omega, by omega⟩, rfl, fin nu _ hz hsr h46 w1 w2 csh (by rw [if_neg q, if_neg (by omega)])⟩, fun q5 => absurd rfl q5⟩
  · exact ⟨_, rfl, ⟨by omega, by omega⟩, fun q5 => absurd q5 (by omega), fun _ => ⟨by omega, by omega, _, (o.2 (by omega) (by omega)).1, rfl, fin nu _ hz hsr h46 w1 w2 csh (by rw [if_neg q, if_pos (by omega)])⟩⟩
theorem op_ahead (a1 a2 : Int) (ha : zin a1) (hb : zin a2) : zOp 7 5 mX8_ahead mX9_ahead [zI a1, zI a2] := by
  intro mu P hJ
  have hK : 64 ≤ 93 := by decide
  have hK' : 93 ≤ 93 := by decide
  have hJ0 := hJ
  obtain ⟨h1, h2, h3, h4, h5, h6, h7⟩ := hJ
  have hPi := h1.isP hK
  have hP2 := hPi.2
  obtain ⟨rfl, -⟩ := h1
  have hpo := h2.po
  have hlb := h2.lb
  obtain ⟨⟨t1, t2, t3⟩, ⟨k1, k2, k3⟩, ⟨b1, b2, b3⟩, ⟨n1, n2, n3⟩, -, -, hwi, -⟩ := h2
  obtain ⟨l1, l0, lb1, lb0⟩ := hlb
  have pb := zpow_bd (n := mu (mu 0 3) 3) (by omega) (by omega)
  have pe : ((2 ^ (mu (mu 0 3) 3).toNat : Nat) : Int) = 2 ^ (mu (mu 0 3) 3).toNat := by rw [Int.natCast_pow]; rfl
  have ww : ∀ i : Nat, i < (mu (mu 0 3) 3).toNat → mu (mu 0 3 + 2) i = mu 71 i := fun i hi => (hwi i (by omega) (by omega)).1
  have fin : ∀ (nu : Mem) (r : Int), zsm [46, 47, 48, 49, 50] mu nu → jSr nu (mu 0 3) → nu 46 3 = a1 → (0 ≤ a1 ∧ a1 < 2 ^ (mu (mu 0 3) 3).toNat) → (0 ≤ a2 ∧ a2 ≤ 11) → (mu 67 0 = 0 ∨ mu 67 0 = 3) → r = (if a2 < nu 46 2 then nu 48 a2 else -4) → zC 93 5 mX9_ahead [zR 64, zI a1, zI a2] nu (fun v' nu' => v' = zI r ∧ ∃ P', jJ nu' P') := fun nu r hz hsr h46 w1 w2 hsh hr => by
    have e : ∀ k : Int, k < 46 ∨ 51 ≤ k → nu k = mu k := fun k q => hz k (by simp only [List.mem_cons, List.not_mem_nil, or_false]; omega)
    have eP := e (mu 0 3) (by omega)
    have eP1 := e (mu 0 3 + 1) (by omega)
    have eP2 := e (mu 0 3 + 2) (by omega)
    have e66 := e 66 (by omega)
    have e67 := e 67 (by omega)
    have e68 := e 68 (by omega)
    have e69 := e 69 (by omega)
    have e70 := e 70 (by omega)
    have e71 := e 71 (by omega)
    obtain ⟨S, hS⟩ : ∃ S : Nat, a1 = S := ⟨a1.toNat, by omega⟩
    subst hS
    have hRQ : zRQ nu S := by
      unfold zRQ
      rw [e66, e67, e70, e71]
      exact ⟨by omega, hsh, by omega, fun i i0 i1 => by
        have q := (hwi i i0 (by omega)).2
        omega, by rw [← n1]; omega⟩
    have hJn : jJ nu (mu 0 3) := by
      refine hJ0.fnd ⟨fun k hk h64 => ?_, by rw [e 64 (by omega)], by rw [e 64 (by omega)]⟩ (h6.c eP eP1 eP2 (e _ (by omega)) (e _ (by omega))) hsr
      have q1 : k ≠ 46 := fun q => hk (by rw [q]; decide)
      have q2 : k ≠ 47 := fun q => hk (by rw [q]; decide)
      have q3 : k ≠ 48 := fun q => hk (by rw [q]; decide)
      have q4 : k ≠ 49 := fun q => hk (by rw [q]; decide)
      have q5 : k ≠ 50 := fun q => hk (by rw [q]; decide)
      exact hz k (by simp only [List.mem_cons, List.not_mem_nil, or_false]; omega)
    have el : ∀ k, zlb nu k = zlb mu k := fun k => by
      unfold zlb
      rw [e68, e69]
    have hN : nu 46 2 = zNm nu S (nu 70 0).toNat (ze (zlb nu 1)) (ze (zlb nu 0)) ∧ nu 46 2 ≤ 12 ∧ ∀ i, 0 ≤ i → i < nu 46 2 → (nu 47 i, nu 48 i) = (zSl (nu 67 0) (nu 66 0).toNat (nu 70 0).toNat (nu 71) S 22 (nu 70 0).toNat (ze (zlb nu 1)) (ze (zlb nu 0))).getD i.toNat (0, 0) := by
      rcases hsr with q | ⟨q1, q2, q3, q4, q5⟩
      · rw [h46] at q
        omega
      · rw [h46, eP, eP2, zab_congr eP eP1, zab_congr eP eP1, show ((S : Nat) : Int).toNat = S by omega] at q3 q5
        have c := zSl_congr (kind := mu (mu 0 3) 1) (t := (mu (mu 0 3) 0).toNat) (set := S) ww 22 (mu (mu 0 3) 3).toNat (Nat.le_refl _) (zab mu (mu 0 3) 2) (zab mu (mu 0 3) 1)
        rw [c, k1, t1, n1, ← l1, ← l0] at q3 q5
        have sq := hRQ.sq
        rw [e66, e67, e70, e71] at sq
        have bd := zNd_bd (set := S) sq (mu 70 0).toNat (Nat.le_refl _) (ze (zlb mu 1)) (ze (zlb mu 0))
        have ln := zSl_len (set := S) sq 22 (mu 70 0).toNat (ze (zlb mu 1)) (ze (zlb mu 0)) (Nat.le_refl _) (by omega)
        unfold zNm
        rw [e66, e67, e70, e71, el, el]
        exact ⟨q3.trans ln, q4, q5⟩
    obtain ⟨N1, N2, N3⟩ := hN
    have N0 : 0 ≤ nu 46 2 := by
      rw [N1]
      exact (zNd_bd (set := S) hRQ.sq _ (Nat.le_refl _) _ _).1
    have w2' : 0 ≤ (S : Int) ∧ (S : Int) ≤ 2 ^ (nu 70 0).toNat - 1 := by rw [e70, ← n1]; omega
    refine ce_X9_ahead (sg_X9_ahead_0 (by omega) hK' (m_isQueue (by omega) hK' ha (by rw [e70]; omega) ⟨_, rfl, zbin _, fun c => by exfalso; rw [if_pos w2'] at c; omega, fun c => ⟨hb, ?_⟩⟩))
    refine s_in hK' (zil_of hb) ⟨by omega, by omega⟩ ⟨by omega, by omega⟩ ⟨_, rfl, zbin _, fun c3 => ?_, fun c3 => by exfalso; rw [if_pos w2] at c3; omega⟩
    refine m_isShort hK' (by rw [e67]; exact ⟨by omega, by omega⟩) ⟨_, rfl, zbin _, fun c2 => ?_, fun c2 => by exfalso; rw [e67, if_pos hsh] at c2; omega⟩
    refine m_layStrangers (by omega) hK' hRQ (by rw [e68]; omega) (by rw [el]; exact lb1) (by rw [el]; exact lb0) (fun xi hx hX => ⟨_, rfl, ?_⟩)
    rw [← N1]
    have jx := hJn.same hx.J
    refine ⟨⟨by omega, by omega⟩, fun q2 => ⟨by rw [hr, if_neg (by omega)], _, jx⟩, fun q2 => ⟨by omega, by omega, ?_, _, jx⟩⟩
    rw [hr, if_pos (by omega)]
    have a := N3 a2 (by omega) (by omega)
    have b := hX a2.toNat (by omega)
    rw [show ((a2.toNat : Nat) : Int) = a2 by omega, ← a] at b
    rw [(Prod.mk.inj b).2]
  have bad : (¬ (0 ≤ a1 ∧ a1 < 2 ^ (mu (mu 0 3) 3).toNat) ∨ ¬ (0 ≤ a2 ∧ a2 ≤ 11)) → zC 93 5 mX9_ahead [zR 64, zI a1, zI a2] mu (fun v' nu' => v' = zI (-1) ∧ ∃ P', jJ nu' P') := fun w => by
    refine ce_X9_ahead (sg_X9_ahead_0 (by omega) hK' (m_isQueue (by omega) hK' ha (by omega) ⟨_, rfl, zbin _, fun c => ⟨rfl, _, hJ0⟩, fun c => ⟨hb, ?_⟩⟩))
    refine s_in hK' (zil_of hb) ⟨by omega, by omega⟩ ⟨by omega, by omega⟩ ⟨_, rfl, zbin _, fun c3 => ?_, fun c3 => ⟨rfl, _, hJ0⟩⟩
    exfalso
    rw [← n1] at c
    split at c <;> split at c3 <;> omega
  have no : (0 ≤ a1 ∧ a1 < 2 ^ (mu (mu 0 3) 3).toNat) → (0 ≤ a2 ∧ a2 ≤ 11) → ¬ (mu 67 0 = 0 ∨ mu 67 0 = 3) → zC 93 5 mX9_ahead [zR 64, zI a1, zI a2] mu (fun v' nu' => v' = zI (-2) ∧ ∃ P', jJ nu' P') := fun w1 w2 hsh => by
    refine ce_X9_ahead (sg_X9_ahead_0 (by omega) hK' (m_isQueue (by omega) hK' ha (by omega) ⟨_, rfl, zbin _, fun c => by exfalso; rw [← n1, if_pos (by omega)] at c; omega, fun c => ⟨hb, ?_⟩⟩))
    refine s_in hK' (zil_of hb) ⟨by omega, by omega⟩ ⟨by omega, by omega⟩ ⟨_, rfl, zbin _, fun c3 => ?_, fun c3 => by exfalso; rw [if_pos w2] at c3; omega⟩
    exact m_isShort hK' ⟨by omega, by omega⟩ ⟨_, rfl, zbin _, fun c2 => by exfalso; rw [if_neg hsh] at c2; omega, fun c2 => ⟨rfl, _, hJ0⟩⟩
  have ob : ∀ nu : Mem, zsm [46, 47, 48, 49, 50] mu nu → jSr nu (mu 0 3) → nu 46 3 = a1 → 0 ≤ a1 → (mu (mu 0 3) 1 = 0 ∨ mu (mu 0 3) 1 = 3) → (0 ≤ nu 46 2 ∧ nu 46 2 ≤ 12) ∧ (0 ≤ a2 → a2 < nu 46 2 → zin (nu 47 a2) ∧ zin (nu 48 a2)) := fun nu hz hsr h46 w hkd => by
    have e : ∀ k : Int, k < 46 ∨ 51 ≤ k → nu k = mu k := fun k q => hz k (by simp only [List.mem_cons, List.not_mem_nil, or_false]; omega)
    rcases hsr with q | ⟨q1, q2, q3, q4, q5⟩
    · omega
    · refine ⟨⟨by omega, q4⟩, fun u1 u2 => ?_⟩
      have q := q5 a2 u1 u2
      have bd := zSl_bd (kind := nu (mu 0 3) 1) (t := (nu (mu 0 3) 0).toNat) (n := (nu (mu 0 3) 3).toNat) (w := nu (mu 0 3 + 2)) (set := (nu 46 3).toNat) (by rw [e (mu 0 3) (by omega), e (mu 0 3 + 2) (by omega)]; exact hpo.sq hkd) 22 (nu (mu 0 3) 3).toNat (Nat.le_refl _) (zab nu (mu 0 3) 2) (zab nu (mu 0 3) 1) a2.toNat
      rw [← q] at bd
      exact ⟨⟨by have := bd.1; dsimp only at this; omega, by have := bd.2.1; dsimp only at this; omega⟩, ⟨by have := bd.2.2.1; dsimp only at this; omega, by have := bd.2.2.2; dsimp only at this; omega⟩⟩
  refine ce_X8_ahead (sg_X8_ahead_0 (by omega) hK (s_isSet (by omega) hK hPi ha ⟨n2, n3⟩ ⟨_, rfl, zbin _, fun c => ⟨_, ⟨by omega, by omega⟩, rfl, bad (Or.inl (by split at c <;> omega))⟩, fun c => ?_⟩))
  have w1 : 0 ≤ a1 ∧ a1 < 2 ^ (mu (mu 0 3) 3).toNat := by split at c <;> omega
  refine s_within hK hb ⟨by omega, by omega⟩ ⟨by omega, by omega⟩ ⟨_, rfl, zbin _, fun c5 => ⟨hPi, ?_⟩, fun c5 => ⟨_, ⟨by omega, by omega⟩, rfl, bad (Or.inr (by split at c5 <;> omega))⟩⟩
  have w2 : 0 ≤ a2 ∧ a2 ≤ 11 := by split at c5 <;> omega
  refine s_remembersTwo hK hPi ⟨by omega, by omega⟩ ⟨_, rfl, zbin _, fun c4 => ?_, fun c4 => ⟨_, ⟨by omega, by omega⟩, rfl, no w1 w2 (by split at c4 <;> omega)⟩⟩
  have csh : mu 67 0 = 0 ∨ mu 67 0 = 3 := by split at c4 <;> omega
  obtain ⟨S, hS⟩ : ∃ S : Nat, a1 = S := ⟨a1.toNat, by omega⟩
  have fo := s_findS (K := 93) (d := 6) (mu := mu) (P := mu 0 3) (S := S) (Q := fun v_ nu12 => v_ = zV ∧ zC 93 0 mX7_isOne [zR 46, zI a2] nu12 (fun v_ nu15 => ∃ r14, v_ = zI r14 ∧ (zin r14 ∧ ((r14 = 0 → (∃ r, zin r ∧ zI (-4) = zI r ∧ zC 93 5 mX9_ahead [zR 64, zI a1, zI a2] nu15 (fun v' nu' => v' = zI r ∧ ∃ P', jJ nu' P'))) ∧ (¬ r14 = 0 → (0 ≤ a2 ∧ a2 < 12 ∧ (∃ r, zin r ∧ zI (nu15 48 a2) = zI r ∧ zC 93 5 mX9_ahead [zR 64, zI a1, zI a2] nu15 (fun v' nu' => v' = zI r ∧ ∃ P', jJ nu' P')))))))) (by omega) hK hPi hpo (by omega) (by omega) h7 (fun nu hz hsr h46 => ?_)
  · rw [← hS] at fo
    exact fo
  rw [← hS] at h46
  have o := ob nu hz hsr h46 w1.1 (by omega)
  refine ⟨rfl, ?_⟩
  refine ce_X7_isOne (sg_X7_isOne_0 (by omega) hK ⟨⟨by omega, by omega⟩, fun q2 => absurd q2 (by omega), fun _ => ⟨hb, fun q3 => absurd q3 (by omega), fun q3 => ⟨fun q4 => ?_, fun q4 => ?_⟩⟩⟩)
  · exact ⟨_, rfl, ⟨by omega, by omega⟩, fun _ => ⟨_, ⟨by omega, by omega⟩, rfl, fin nu _ hz hsr h46 w1 w2 csh (by rw [if_neg (by omega)])⟩, fun q5 => absurd rfl q5⟩
  · exact ⟨_, rfl, ⟨by omega, by omega⟩, fun q5 => absurd q5 (by omega), fun _ => ⟨by omega, by omega, _, (o.2 (by omega) (by omega)).2, rfl, fin nu _ hz hsr h46 w1 w2 csh (by rw [if_pos (by omega)])⟩⟩
