/-! strangers, ahead -/
def zsM (mu nu : Mem) : Prop := (∀ k : Int, k ≠ 64 → k ≠ 83 → k ≠ 84 → k ≠ 85 → nu k = mu k) ∧ ∀ j : Int, j ≠ 25 → nu 64 j = mu 64 j
theorem zsM.J {mu nu : Mem} (h : zsM mu nu) : zsm' (zXs ++ zMs) mu nu := by
  refine ⟨fun k hk h64 => h.1 k h64 (fun q => hk (by rw [q]; decide)) (fun q => hk (by rw [q]; decide)) (fun q => hk (by rw [q]; decide)), h.2 0 (by decide), h.2 16 (by decide)⟩
section S72
variable {K d : Nat} {mu : Mem} {Q : AV → Mem → Prop}
theorem m_layStrangers {S : Nat} (hd : 4 ≤ d) (hK : 93 ≤ K) (hR : zRQ mu S) (h68 : 0 ≤ mu 68 0 ∧ mu 68 0 ≤ 6) (lb1 : 0 ≤ zlb mu 1 ∧ zlb mu 1 ≤ 7) (lb0 : 0 ≤ zlb mu 0 ∧ zlb mu 0 ≤ 7)
    (h : ∀ nu, zsM mu nu → (∀ i : Nat, (i : Int) < zNm mu S (mu 70 0).toNat (ze (zlb mu 1)) (ze (zlb mu 0)) → (nu 84 i, nu 85 i) = (zSl (mu 67 0) (mu 66 0).toNat (mu 70 0).toNat (mu 71) S 22 (mu 70 0).toNat (ze (zlb mu 1)) (ze (zlb mu 0))).getD i (0, 0)) → Q (zI (zNm mu S (mu 70 0).toNat (ze (zlb mu 1)) (ze (zlb mu 0)))) nu) : zC K d mX9_layStrangers [zR 64, zI S] mu Q := by
  have hR0 := hR
  have sq := hR.sq
  obtain ⟨ht, hk, hn, hw, hS⟩ := hR
  have nb : ∀ (r : Nat) (a b : Int), r ≤ (mu 70 0).toNat → 0 ≤ zNm mu S r a b ∧ zNm mu S r a b ≤ (r : Int) := fun r a b hr => zNd_bd (set := S) sq r hr a b
  refine ce_X9_layStrangers (sg_X9_layStrangers_0 hd hK (m_layNeeds (by omega) hK hR0 (fun n1 z1 L1 => ⟨rfl, ?_⟩)))
  have e1 : ∀ k : Int, k ≠ 83 → n1 k = mu k := fun k q => z1 k (by simp only [List.mem_cons, List.not_mem_nil, or_false]; omega)
  have el : ∀ k, zlb n1 k = zlb mu k := fun k => by
    unfold zlb
    rw [e1 68 (by decide), e1 69 (by decide)]
  refine m_lastBut hK (Or.inr rfl) (by rw [e1 68 (by decide)]; omega) ⟨_, rfl, ?_⟩
  refine m_lastBut hK (Or.inl rfl) (by rw [e1 68 (by decide)]; omega) ⟨_, rfl, ?_⟩
  rw [el, el]
  refine m_stand hK ⟨_, rfl, by omega, by omega, ?_⟩
  -- table entries
  have T : ∀ (i a b : Int), 0 ≤ i → i ≤ mu 70 0 → (0 ≤ a ∧ a ≤ 7) → (0 ≤ b ∧ b ≤ 7) → n1 83 (64 * i + 8 * a + b) = zNm mu S (mu 70 0 - i).toNat (ze a) (ze b) := fun i a b i0 i1 ha hb => by
    have := L1 i (8 * a + b) (by omega) i0 i1 (by omega) (by omega)
    rw [show (8 * a + b) / 8 = a by omega, show (8 * a + b) % 8 = b by omega, show 64 * i + (8 * a + b) = 64 * i + 8 * a + b by omega] at this
    exact this
  have T0 := T 0 (zlb mu 1) (zlb mu 0) (by omega) (by omega) lb1 lb0
  rw [show (mu 70 0 - 0).toNat = (mu 70 0).toNat by omega] at T0
  rw [T0]
  have u := nb (mu 70 0).toNat (ze (zlb mu 1)) (ze (zlb mu 0)) (by omega)
  refine ⟨⟨by omega, by omega⟩, fun _ => ?_, fun w => absurd (by omega) w⟩
  have l : ∀ (f r : Nat) (i a b come : Int) (xi : Mem), i + r = mu 70 0 → 0 ≤ i → (0 ≤ a ∧ a ≤ 7) → (0 ≤ b ∧ b ≤ 7) → 0 ≤ come → come + zNm mu S r (ze a) (ze b) ≤ 10 → (r : Int) + zNm mu S r (ze a) (ze b) ≤ f → zsM mu xi → xi 83 = n1 83 → xi 64 25 = come → (∀ om, zsM mu om → (∀ j : Int, 0 ≤ j → j < come → om 84 j = xi 84 j ∧ om 85 j = xi 85 j) → (∀ j : Nat, (j : Int) < zNm mu S r (ze a) (ze b) → (om 84 (come + j), om 85 (come + j)) = (zSl (mu 67 0) (mu 66 0).toNat (mu 70 0).toNat (mu 71) S f r (ze a) (ze b)).getD j (0, 0)) → Q (zI (come + zNm mu S r (ze a) (ze b))) om) → zG K d mX9_layStrangers 48 [zR 64, zI S, zI a, zI b, zI i, zU, zU, zU, zU, zU] [] xi Q := by
    intro f
    induction f with
    | zero =>
      intro r i a b come xi hi i0 ha hb c0 c1 hfr hx h83 h25 k
      have u := nb r (ze a) (ze b) (by omega)
      have er : r = 0 := by omega
      subst er
      have e70 : xi 70 = mu 70 := hx.1 70 (by decide) (by decide) (by decide) (by decide)
      refine sg_X9_layStrangers_48 hd hK ⟨⟨by omega, by omega⟩, by rw [e70]; exact ⟨by omega, by omega⟩, fun _ => ?_, fun w => absurd (by rw [e70]; omega) w⟩
      rw [h25, show come = come + zNm mu S 0 (ze a) (ze b) by omega]
      exact k xi hx (fun j _ _ => ⟨rfl, rfl⟩) (fun j hj => absurd hj (by omega))
    | succ f ih =>
      intro r i a b come xi hi i0 ha hb c0 c1 hfr hx h83 h25 k
      have e70 : xi 70 = mu 70 := hx.1 70 (by decide) (by decide) (by decide) (by decide)
      have e71 : xi 71 = mu 71 := hx.1 71 (by decide) (by decide) (by decide) (by decide)
      have e66 : xi 66 = mu 66 := hx.1 66 (by decide) (by decide) (by decide) (by decide)
      have e67 : xi 67 = mu 67 := hx.1 67 (by decide) (by decide) (by decide) (by decide)
      have u := nb r (ze a) (ze b) (by omega)
      refine sg_X9_layStrangers_48 hd hK ⟨⟨by omega, by omega⟩, by rw [e70]; exact ⟨by omega, by omega⟩, fun w => ?_, fun w => ?_⟩
      · rw [e70] at w
        have er : r = 0 := by omega
        subst er
        rw [h25, show come = come + zNm mu S 0 (ze a) (ze b) by omega]
        exact k xi hx (fun j _ _ => ⟨rfl, rfl⟩) (fun j hj => absurd hj (by omega))
      · rw [e70] at w
        obtain ⟨s, rfl⟩ : ∃ s, r = s + 1 := ⟨r - 1, by omega⟩
        have ei : (((mu 70 0).toNat - (s + 1) : Nat) : Int) = i := by omega
        have wi := hw i i0 (by omega)
        refine m_stand hK ⟨_, rfl, by omega, by omega, ?_⟩
        rw [h83, T i a b i0 (by omega) ha hb, show (mu 70 0 - i).toNat = s + 1 by omega]
        have Tx : ∀ x : Int, 0 ≤ x → x < 6 → xi 83 (64 * i + 8 * b + x) = zNm mu S (s + 1) (ze b) x := fun x x0 x1 => by
          rw [h83, T i b x i0 (by omega) hb ⟨by omega, by omega⟩, ze_s x1, show (mu 70 0 - i).toNat = s + 1 by omega]
        have by_ : ∀ (Q' : AV → Mem → Prop), Q' (zI (min 99 (zAm mu S s (ze a) (ze b)))) xi → zC K 2 mX9_byQueue [zR 64, zI S, zI i, zI a, zI b] xi Q' := fun Q' q => by
          refine m_byQueue (mu := mu) (by omega) hK hR0 e66 e67 e70 e71 ⟨i0, by omega⟩ ha hb (fun i' k' q1 q2 q3 q4 q5 => ?_) (by rw [show (mu 70 0 - i - 1).toNat = s by omega]; exact q)
          rw [h83]
          exact L1 i' k' (by omega) q2 q3 q4 q5
        have abd : 0 ≤ zAm mu S s (ze a) (ze b) ∧ (zAm mu S s (ze a) (ze b) ≤ 10 ∨ zAm mu S s (ze a) (ze b) = 100) := zAq_bd (set := S) sq (by omega)
        have nbx : ∀ x : Int, 0 ≤ zNm mu S (s + 1) (ze b) x ∧ zNm mu S (s + 1) (ze b) x ≤ ((s + 1 : Nat) : Int) := fun x => nb (s + 1) (ze b) x (by omega)
        rcases zfs_ok (set := S) sq (show s + 1 ≤ (mu 70 0).toNat by omega) (a := ze a) (b := ze b) with ⟨q, X, X0, X1, X2, X3, X4⟩ | ⟨q, q1, q2, q3⟩
        · -- a stranger
          rw [ei] at X3
          have X2 : zNm mu S (s + 1) (ze b) X + 1 = zNm mu S (s + 1) (ze a) (ze b) := X2
          have X3 : zAm mu S s (ze a) (ze b) = zNm mu S (s + 1) (ze a) (ze b) → (X : Int) < mu 71 i := X3
          have X4 : ∀ y : Nat, y < X → ¬ zNm mu S (s + 1) (ze b) y + 1 = zNm mu S (s + 1) (ze a) (ze b) := X4
          have found : zG K d mX9_layStrangers 82 [zR 64, zI S, zI a, zI b, zI i, zU, zI (zNm mu S (s + 1) (ze a) (ze b)), zI 0, zI X, zI 1] [] xi Q := by
            refine sg_X9_layStrangers_82 hd hK ⟨⟨by omega, by omega⟩, fun _ => ⟨⟨by omega, by omega⟩, fun _ => ?_, fun z => absurd rfl z⟩, fun z => absurd z (by omega)⟩
            rw [zup_cell _ (by decide), h25]
            refine ⟨by omega, by omega, by omega, by omega, ?_⟩
            rw [zup_cell _ (by decide), zup_cell _ (by decide), h25]
            have hX6 : (X : Int) < 6 := by omega
            refine ih (s + 1) i b X (come + 1) _ hi i0 hb ⟨by omega, by omega⟩ (by omega) (by rw [ze_s hX6]; omega) (by rw [ze_s hX6]; omega) ⟨fun k q1 q2 q3 q4 => ?_, fun j hj => ?_⟩ ?_ (by rw [zup_same]) (fun om hom k1 k2 => ?_)
            · rw [zup_row _ q1, zup_row _ q4, zup_row _ q3]
              exact hx.1 k q1 q2 q3 q4
            · rw [zup_slot _ hj, zup_cell _ (by decide), zup_cell _ (by decide)]
              exact hx.2 j hj
            · rw [zup_row _ (by decide), zup_row _ (by decide), zup_row _ (by decide), h83]
            · rw [ze_s hX6] at k2 ⊢
              rw [show come + 1 + zNm mu S (s + 1) (ze b) X = come + zNm mu S (s + 1) (ze a) (ze b) by omega]
              refine k om hom (fun j j0 j1 => ?_) (fun j hj => ?_)
              · have := k1 j j0 (by omega)
                rw [zup_cell _ (by decide), zup_cell _ (by decide), zup_slot _ (by omega), zup_cell _ (by decide), zup_slot _ (by omega), zup_cell _ (by decide)] at this
                exact this
              · rw [zSl, if_pos q, X0, ei]
                match j, hj with
                | 0, _ =>
                  have := k1 come c0 (by omega)
                  rw [zup_cell _ (by decide), zup_cell _ (by decide), zup_same, zup_cell _ (by decide), zup_same] at this
                  rw [show come + ((0 : Nat) : Int) = come by omega, this.1, this.2]
                  rfl
                | j + 1, hj =>
                  have := k2 j (by omega)
                  rw [show come + ((j + 1 : Nat) : Int) = come + 1 + (j : Int) by omega, this]
                  rfl
          have scan : ∀ (p x : Nat), x + p = X → zG K d mX9_layStrangers 82 [zR 64, zI S, zI a, zI b, zI i, zU, zI (zNm mu S (s + 1) (ze a) (ze b)), zI 0, zI x, zI 0] [] xi Q := by
            intro p
            induction p with
            | zero =>
              intro x hxx
              have ex : x = X := by omega
              subst ex
              have n1 := nbx x
              refine sg_X9_layStrangers_82 hd hK ⟨⟨by omega, by omega⟩, fun z => absurd rfl z, fun _ => ⟨i0, by omega, ?_⟩⟩
              rw [e71]
              refine ⟨⟨by omega, by omega⟩, ⟨by omega, by omega⟩, fun z => m_stand hK ⟨_, rfl, by omega, by omega, ?_⟩, fun z => by_ _ ⟨_, rfl, ⟨by omega, by omega⟩, ⟨by omega, by omega⟩, fun z2 => m_stand hK ⟨_, rfl, by omega, by omega, ?_⟩, fun z2 => ?_⟩⟩
              · rw [Tx x (by omega) (by omega), X2, Int.add_zero]
                exact ⟨⟨by omega, by omega⟩, ⟨by omega, by omega⟩, fun z2 => absurd rfl z2, fun _ => found⟩
              · rw [Tx x (by omega) (by omega), X2, Int.add_zero]
                exact ⟨⟨by omega, by omega⟩, fun z2 => absurd rfl z2, fun _ => found⟩
              · exfalso
                have := X3 (by omega)
                omega
            | succ p ihp =>
              intro x hxx
              have nx := ihp (x + 1) (by omega)
              have n1 := nbx x
              have ne := X4 x (by omega)
              refine sg_X9_layStrangers_82 hd hK ⟨⟨by omega, by omega⟩, fun z => absurd rfl z, fun _ => ⟨i0, by omega, ?_⟩⟩
              rw [e71]
              refine ⟨⟨by omega, by omega⟩, ⟨by omega, by omega⟩, fun z => m_stand hK ⟨_, rfl, by omega, by omega, ?_⟩, fun z => by_ _ ⟨_, rfl, ⟨by omega, by omega⟩, ⟨by omega, by omega⟩, fun z2 => m_stand hK ⟨_, rfl, by omega, by omega, ?_⟩, fun z2 => ?_⟩⟩
              · rw [Tx x (by omega) (by omega)]
                exact ⟨⟨by omega, by omega⟩, ⟨by omega, by omega⟩, fun _ => nx, fun z2 => absurd z2 ne⟩
              · rw [Tx x (by omega) (by omega)]
                exact ⟨⟨by omega, by omega⟩, fun _ => nx, fun z2 => absurd z2 ne⟩
              · exfalso
                have := X3 (by omega)
                omega
          exact scan X 0 (by omega)
        · -- his own turn
          rw [ei] at q3
          have q2 : zAm mu S s (ze a) (ze b) = zNm mu S (s + 1) (ze a) (ze b) := q2
          have q3 : ∀ y : Nat, (y : Int) < mu 71 i → ¬ zNm mu S (s + 1) (ze b) y + 1 = zNm mu S (s + 1) (ze a) (ze b) := q3
          have own : zNm mu S s (ze b) (mu 71 i) = zNm mu S (s + 1) (ze a) (ze b) := by
            have := zAq_own (set := S) sq (show s + 1 ≤ (mu 70 0).toNat by omega) q2
            rw [ei] at this
            exact this
          have ezw := ze_s (show mu 71 i < 6 by omega)
          have found : zG K d mX9_layStrangers 82 [zR 64, zI S, zI a, zI b, zI i, zU, zI (zNm mu S (s + 1) (ze a) (ze b)), zI 1, zI (mu 71 i), zI 1] [] xi Q := by
            refine sg_X9_layStrangers_82 hd hK ⟨⟨by omega, by omega⟩, fun _ => ⟨⟨by omega, by omega⟩, fun z => absurd z (by omega), fun _ => ?_⟩, fun z => absurd z (by omega)⟩
            refine ih s (i + 1) b (mu 71 i) come xi (by omega) (by omega) hb ⟨by omega, by omega⟩ c0 (by rw [ezw]; omega) (by rw [ezw]; omega) hx h83 h25 (fun om hom k1 k2 => ?_)
            rw [ezw] at k2 ⊢
            rw [own]
            refine k om hom k1 (fun j hj => ?_)
            rw [zSl, if_neg q, ei]
            exact k2 j (by omega)
          have scan : ∀ (p x : Nat), x + p = mu 71 i → zG K d mX9_layStrangers 82 [zR 64, zI S, zI a, zI b, zI i, zU, zI (zNm mu S (s + 1) (ze a) (ze b)), zI 0, zI x, zI 0] [] xi Q := by
            intro p
            induction p with
            | zero =>
              intro x hxx
              have ex : mu 71 i = x := by omega
              refine sg_X9_layStrangers_82 hd hK ⟨⟨by omega, by omega⟩, fun z => absurd rfl z, fun _ => ⟨i0, by omega, ?_⟩⟩
              rw [e71]
              refine ⟨⟨by omega, by omega⟩, ⟨by omega, by omega⟩, fun z => absurd ex z, fun z => by_ _ ⟨_, rfl, ⟨by omega, by omega⟩, ⟨by omega, by omega⟩, fun z2 => absurd (by omega) z2, fun z2 => ?_⟩⟩
              rw [Int.add_zero, ← ex]
              exact found
            | succ p ihp =>
              intro x hxx
              have nx := ihp (x + 1) (by omega)
              have n1 := nbx x
              have ne := q3 x (by omega)
              refine sg_X9_layStrangers_82 hd hK ⟨⟨by omega, by omega⟩, fun z => absurd rfl z, fun _ => ⟨i0, by omega, ?_⟩⟩
              rw [e71]
              refine ⟨⟨by omega, by omega⟩, ⟨by omega, by omega⟩, fun z => m_stand hK ⟨_, rfl, by omega, by omega, ?_⟩, fun z => absurd z (by omega)⟩
              rw [Tx x (by omega) (by omega)]
              exact ⟨⟨by omega, by omega⟩, ⟨by omega, by omega⟩, fun _ => nx, fun z2 => absurd z2 ne⟩
          exact scan (mu 71 i).toNat 0 (by omega)
  have := l 22 (mu 70 0).toNat 0 (zlb mu 1) (zlb mu 0) 0 (zup n1 64 25 0) (by omega) (by omega) lb1 lb0 (by omega) (by omega) (by omega) ⟨fun k q1 q2 q3 q4 => by rw [zup_row _ q1, e1 k q2], fun j hj => by rw [zup_slot _ hj, e1 64 (by decide)]⟩ (zup_row _ (by decide)) (zup_same _ _ _ _) (fun om hom k1 k2 => ?_)
  · exact this
  · rw [Int.zero_add]
    exact h om hom (fun i hi => by
      have := k2 i hi
      rw [show (0 : Int) + (i : Int) = i by omega] at this
      exact this)
end S72
