/-! orders: what may be left out -/
theorem zmx_ge {f : Nat → Int} : ∀ {n k : Nat}, k < n → f k ≤ zmx f n
  | n + 1, k, h => by
    rw [zmx]
    by_cases q : k = n
    · rw [q]; omega
    · have := zmx_ge (f := f) (n := n) (k := k) (by omega)
      omega
theorem zmx_m1 {f : Nat → Int} : ∀ n : Nat, -1 ≤ zmx f n
  | 0 => by rw [zmx]; omega
  | n + 1 => by
    rw [zmx]
    have := zmx_m1 (f := f) n
    omega
theorem zmx_le {f : Nat → Int} {c : Int} (hc : -1 ≤ c) : ∀ n : Nat, (∀ k, k < n → f k ≤ c) → zmx f n ≤ c
  | 0, _ => by rw [zmx]; exact hc
  | n + 1, h => by
    rw [zmx]
    have h1 := zmx_le hc n (fun k hk => h k (by omega))
    have h2 := h n (by omega)
    omega
theorem zmx_at {f : Nat → Int} : ∀ n : Nat, 0 ≤ zmx f n → ∃ k, k < n ∧ f k = zmx f n
  | 0, h => by rw [zmx] at h; omega
  | n + 1, h => by
    rw [zmx] at h ⊢
    by_cases q : zmx f n ≤ f n
    · exact ⟨n, by omega, by omega⟩
    · obtain ⟨k, k0, k1⟩ := zmx_at (f := f) n (by omega)
      exact ⟨k, by omega, by omega⟩
theorem zmx_eq {f g : Nat → Int} {n : Nat} (h1 : ∀ k, k < n → ∃ l, l < n ∧ f k ≤ g l) (h2 : ∀ k, k < n → ∃ l, l < n ∧ g k ≤ f l) : zmx f n = zmx g n := by
  have a : zmx f n ≤ zmx g n := zmx_le (zmx_m1 n) n (fun k hk => by
    obtain ⟨l, l0, l1⟩ := h1 k hk
    have := zmx_ge (f := g) l0
    omega)
  have b : zmx g n ≤ zmx f n := zmx_le (zmx_m1 n) n (fun k hk => by
    obtain ⟨l, l0, l1⟩ := h2 k hk
    have := zmx_ge (f := f) l0
    omega)
  omega
theorem zmx_congr {f g : Nat → Int} {n : Nat} (h : ∀ k, k < n → f k = g k) : zmx f n = zmx g n :=
  zmx_eq (fun k hk => ⟨k, hk, by rw [h k hk]; exact Int.le_refl _⟩) (fun k hk => ⟨k, hk, by rw [h k hk]; exact Int.le_refl _⟩)
/-- two change places -/
def zchp (i j k : Nat) : Nat := if k = i then j else if k = j then i else k
theorem zchp_sw {i j k : Nat} : zchp i j (zchp i j k) = k := by
  unfold zchp
  repeat' split
  all_goals omega
theorem zchp_lt {i j k n : Nat} (hi : i < n) (hj : j < n) (hk : k < n) : zchp i j k < n := by
  unfold zchp
  repeat' split
  all_goals omega
def zal (w : Int → Int) (set : Nat) (i j : Nat) : Prop := w i = w j ∧ set.testBit i = set.testBit j
theorem zchp_w {w : Int → Int} {set i j k : Nat} (h : zal w set i j) : w (zchp i j k : Nat) = w k ∧ set.testBit (zchp i j k) = set.testBit k := by
  unfold zchp
  by_cases q1 : k = i
  · rw [if_pos q1, q1]; exact ⟨h.1.symm, h.2.symm⟩
  · rw [if_neg q1]
    by_cases q2 : k = j
    · rw [if_pos q2, q2]; exact h
    · rw [if_neg q2]; exact ⟨rfl, rfl⟩
def zsE (i j c c' : Nat) : Prop := ∀ k, c'.testBit k = c.testBit (zchp i j k)
theorem zsE.sy {i j c c' : Nat} (h : zsE i j c c') : zsE i j c' c := fun k => by rw [h (zchp i j k), zchp_sw]
theorem zor_bit {c i k : Nat} : (c ||| 2 ^ i).testBit k = (c.testBit k || decide (i = k)) := by
  rw [Nat.testBit_or, Nat.testBit_two_pow]
theorem zsE.or {i j c c' k : Nat} (h : zsE i j c c') : zsE i j (c ||| 2 ^ k) (c' ||| 2 ^ (zchp i j k)) := fun l => by
  rw [zor_bit, zor_bit, h l]
  congr 1
  by_cases q : zchp i j k = l
  · rw [decide_eq_true q, ← q, zchp_sw]; simp
  · have : ¬ k = zchp i j l := fun e => q (by rw [e, zchp_sw])
    simp [q, this]
theorem zbr_congr {kind : Int} {w : Int → Int} {set : Nat} {v v' a b : Int} {i j : Nat} (hv : v = v') (h : w i = w j ∧ set.testBit i = set.testBit j) : zbr kind w set v a b i = zbr kind w set v' a b j := by
  unfold zbr
  rw [hv, h.1, h.2]
theorem zOv_sw {kind : Int} {n : Nat} {w : Int → Int} {set i j : Nat} (hi : i < n) (hj : j < n) (h : zal w set i j) : ∀ (m c c' : Nat) (a b : Int), zsE i j c c' → zOv kind n w set m c a b = zOv kind n w set m c' a b
  | 0, _, _, _, _, _ => by rw [zOv, zOv]
  | m + 1, c, c', a, b, e => by
    rw [zOv, zOv]
    have key : ∀ (c c' : Nat), zsE i j c c' → (∀ (k : Nat), zOv kind n w set m (c ||| 2 ^ k) b (w k) = zOv kind n w set m (c' ||| 2 ^ (zchp i j k)) b (w k)) → ∀ k, k < n → ∃ l, l < n ∧ (if c.testBit k = true then -1 else zbr kind w set (zOv kind n w set m (c ||| 2 ^ k) b (w k)) a b k) ≤ (if c'.testBit l = true then -1 else zbr kind w set (zOv kind n w set m (c' ||| 2 ^ l) b (w l)) a b l) := fun c c' e ih k hk => by
      refine ⟨zchp i j k, zchp_lt hi hj hk, ?_⟩
      have hw := zchp_w (k := k) h
      have ec : c'.testBit (zchp i j k) = c.testBit k := by rw [e, zchp_sw]
      rw [ec]
      by_cases q : c.testBit k = true
      · rw [if_pos q, if_pos q]; exact Int.le_refl _
      · rw [if_neg q, if_neg q, zbr_congr (v' := zOv kind n w set m (c' ||| 2 ^ (zchp i j k)) b (w (zchp i j k : Nat))) (j := zchp i j k) (by rw [ih k, hw.1]) ⟨hw.1.symm, hw.2.symm⟩]
        exact Int.le_refl _
    apply zmx_eq
    · exact key c c' e (fun k => zOv_sw hi hj h m _ _ _ _ e.or)
    · exact key c' c e.sy (fun k => zOv_sw hi hj h m _ _ _ _ e.sy.or)
/-- whom the class lets come: not come, and no lower one alike still to come -/
def zmay (w : Int → Int) (set c i : Nat) : Prop := ¬ c.testBit i = true ∧ ∀ j, j < i → zal w set j i → c.testBit j = true
theorem zal_tr {w : Int → Int} {set i j k : Nat} (h1 : zal w set i j) (h2 : zal w set j k) : zal w set i k := ⟨h1.1.trans h2.1, h1.2.trans h2.2⟩
theorem zmay_ex {w : Int → Int} {set c : Nat} : ∀ i : Nat, ¬ c.testBit i = true → ∃ j, j ≤ i ∧ zal w set j i ∧ zmay w set c j := by
  intro i
  induction i using Nat.strongRecOn with
  | ind i ih =>
    intro hc
    by_cases q : ∃ j, j < i ∧ zal w set j i ∧ ¬ c.testBit j = true
    · obtain ⟨j, j0, j1, j2⟩ := q
      obtain ⟨k, k0, k1, k2⟩ := ih j j0 j2
      exact ⟨k, by omega, zal_tr k1 j1, k2⟩
    · refine ⟨i, Nat.le_refl _, ⟨rfl, rfl⟩, hc, fun j hj ha => ?_⟩
      by_cases q2 : c.testBit j = true
      · exact q2
      · exact absurd ⟨j, hj, ha, q2⟩ q
theorem zbr_al {kind : Int} {n : Nat} {w : Int → Int} {set i j m c : Nat} {a b : Int} (hi : i < n) (hj : j < n) (h : zal w set j i) (hci : ¬ c.testBit i = true) (hcj : ¬ c.testBit j = true) : zbr kind w set (zOv kind n w set m (c ||| 2 ^ j) b (w j)) a b j = zbr kind w set (zOv kind n w set m (c ||| 2 ^ i) b (w i)) a b i := by
  refine zbr_congr ?_ h
  rw [h.1]
  refine zOv_sw hi hj ⟨h.1.symm, h.2.symm⟩ m _ _ _ _ (fun k => ?_)
  rw [zor_bit, zor_bit]
  unfold zchp
  by_cases q1 : k = i
  · rw [if_pos q1, q1]; simp [hci, hcj]
  · rw [if_neg q1]
    by_cases q2 : k = j
    · rw [if_pos q2, q2]
      have : ¬ i = j := fun e => q1 (q2.trans e.symm)
      have t2 : ¬ j = i := fun e => this e.symm
      simp [hcj, hci, this, t2]
    · rw [if_neg q2]
      have e1 : ¬ i = k := fun e => q1 e.symm
      have e2 : ¬ j = k := fun e => q2 e.symm
      simp [e1, e2]
/-- the most over those whom the class lets come is the most of all -/
theorem zmx_may {kind : Int} {n : Nat} {w : Int → Int} {set m c : Nat} {a b : Int} [DecidablePred (zmay w set c)] : zmx (fun i => if zmay w set c i then zbr kind w set (zOv kind n w set m (c ||| 2 ^ i) b (w i)) a b i else -1) n = zOv kind n w set (m + 1) c a b := by
  rw [zOv]
  apply zmx_eq
  · intro k hk
    refine ⟨k, hk, ?_⟩
    by_cases q : zmay w set c k
    · rw [if_pos q, if_neg q.1]; exact Int.le_refl _
    · rw [if_neg q]
      split
      · exact Int.le_refl _
      · unfold zbr
        split
        · exact Int.le_refl _
        · rename_i q2
          split <;> omega
  · intro k hk
    by_cases q : c.testBit k = true
    · refine ⟨k, hk, ?_⟩
      rw [if_pos q, if_neg (fun h => h.1 q)]
      exact Int.le_refl _
    · obtain ⟨j, j0, j1, j2⟩ := zmay_ex (w := w) (set := set) k q
      refine ⟨j, by omega, ?_⟩
      rw [if_neg q, if_pos j2, zbr_al hk (by omega) j1 q j2.1]
      exact Int.le_refl _
/-- who comes first of all is one whom the class lets come -/
theorem zpk_ok {kind : Int} {n : Nat} {w : Int → Int} {set m c : Nat} {a b : Int} (h0 : 0 ≤ zOv kind n w set (m + 1) c a b) : ∃ i : Nat, zpk kind n w set m c a b = i ∧ i < n ∧ zmay w set c i ∧ zbr kind w set (zOv kind n w set m (c ||| 2 ^ i) b (w i)) a b i = zOv kind n w set (m + 1) c a b ∧ ∀ k, k < i → ¬ c.testBit k = true → ¬ zbr kind w set (zOv kind n w set m (c ||| 2 ^ k) b (w k)) a b k = zOv kind n w set (m + 1) c a b := by
  have hat : ∃ k, k < n ∧ ¬ c.testBit k = true ∧ zbr kind w set (zOv kind n w set m (c ||| 2 ^ k) b (w k)) a b k = zOv kind n w set (m + 1) c a b := by
    rw [zOv] at h0 ⊢
    obtain ⟨k, k0, k1⟩ := zmx_at n h0
    rw [← k1] at h0
    split at h0
    · omega
    · rename_i q
      rw [if_neg q] at k1
      exact ⟨k, k0, q, k1⟩
  obtain ⟨k, k0, k1, k2⟩ := hat
  have hp : ∀ x : Nat, ((fun i : Int => !c.testBit i.toNat && decide (zbr kind w set (zOv kind n w set m (c ||| 2 ^ i.toNat) b (w i)) a b i.toNat = zOv kind n w set (m + 1) c a b)) x = true) ↔ (¬ c.testBit x = true ∧ zbr kind w set (zOv kind n w set m (c ||| 2 ^ x) b (w x)) a b x = zOv kind n w set (m + 1) c a b) := fun x => by
    simp
  have bd := zfirst_bd (fun i : Int => !c.testBit i.toNat && decide (zbr kind w set (zOv kind n w set m (c ||| 2 ^ i.toNat) b (w i)) a b i.toNat = zOv kind n w set (m + 1) c a b)) n 0
  have le := zfirst_le (p := fun i : Int => !c.testBit i.toNat && decide (zbr kind w set (zOv kind n w set m (c ||| 2 ^ i.toNat) b (w i)) a b i.toNat = zOv kind n w set (m + 1) c a b)) (x := k) ((hp k).mpr ⟨k1, k2⟩) n 0 (by omega) (by omega)
  have hit := zfirst_hit (p := fun i : Int => !c.testBit i.toNat && decide (zbr kind w set (zOv kind n w set m (c ||| 2 ^ i.toNat) b (w i)) a b i.toNat = zOv kind n w set (m + 1) c a b)) n 0 (by omega)
  have e : zpk kind n w set m c a b = ((zpk kind n w set m c a b).toNat : Nat) := by
    unfold zpk
    omega
  have hmin : ∀ x : Nat, x < (zpk kind n w set m c a b).toNat → ¬ c.testBit x = true → ¬ zbr kind w set (zOv kind n w set m (c ||| 2 ^ x) b (w x)) a b x = zOv kind n w set (m + 1) c a b := fun x hx q1 q2 => by
    have := zfirst_le (p := fun i : Int => !c.testBit i.toNat && decide (zbr kind w set (zOv kind n w set m (c ||| 2 ^ i.toNat) b (w i)) a b i.toNat = zOv kind n w set (m + 1) c a b)) (x := x) ((hp x).mpr ⟨q1, q2⟩) n 0 (by omega) (by unfold zpk at hx; omega)
    unfold zpk at hx
    omega
  have hh : (fun i : Int => !c.testBit i.toNat && decide (zbr kind w set (zOv kind n w set m (c ||| 2 ^ i.toNat) b (w i)) a b i.toNat = zOv kind n w set (m + 1) c a b)) ((zpk kind n w set m c a b).toNat : Nat) = true := by
    rw [← e]
    exact hit
  have h2 := (hp _).mp hh
  refine ⟨(zpk kind n w set m c a b).toNat, e, by unfold zpk; omega, ⟨h2.1, fun j hj ha => ?_⟩, h2.2, hmin⟩
  by_cases q : c.testBit j = true
  · exact q
  · exfalso
    refine hmin j hj q ?_
    rw [zbr_al (by unfold zpk; omega) (by unfold zpk at hj; omega) ha h2.1 q]
    exact h2.2
/-- how many have come -/
def zcmn (c : Nat) : Nat → Nat
  | 0 => 0
  | n + 1 => zcmn c n + (if c.testBit n = true then 1 else 0)
theorem zcmn_le {c : Nat} : ∀ n, zcmn c n ≤ n
  | 0 => Nat.le_refl _
  | n + 1 => by
    rw [zcmn]
    have := zcmn_le (c := c) n
    split <;> omega
theorem zcmn_or {c i : Nat} (hc : ¬ c.testBit i = true) : ∀ n, zcmn (c ||| 2 ^ i) n = zcmn c n + (if i < n then 1 else 0)
  | 0 => by rw [zcmn, zcmn, if_neg (by omega)]
  | n + 1 => by
    rw [zcmn, zcmn, zcmn_or hc n, zor_bit]
    by_cases q : i = n
    · subst q
      rw [if_neg (Nat.lt_irrefl i), if_pos (Nat.lt_succ_self i)]
      simp [hc]
    · have e : (c.testBit n || decide (i = n)) = c.testBit n := by simp [q]
      rw [e]
      by_cases q2 : i < n
      · rw [if_pos q2, if_pos (Nat.lt_succ_of_lt q2)]
        omega
      · rw [if_neg q2, if_neg (show ¬ i < n + 1 by omega)]
        omega
theorem zcmn_lt {c i : Nat} (hc : ¬ c.testBit i = true) {n : Nat} (hi : i < n) : zcmn c n < n := by
  have := zcmn_or hc n
  rw [if_pos hi] at this
  have := zcmn_le (c := c ||| 2 ^ i) n
  omega
theorem zcmn_0 : ∀ n, zcmn 0 n = 0
  | 0 => rfl
  | n + 1 => by rw [zcmn, zcmn_0 n]; simp
theorem zbr_bd {kind : Int} {w : Int → Int} {set i : Nat} {v a b M : Int} (h : v ≤ M) (hM : -1 ≤ M) : -1 ≤ zbr kind w set v a b i ∧ zbr kind w set v a b i ≤ M + 1 := by
  unfold zbr
  split
  · constructor <;> omega
  · split <;> constructor <;> omega
theorem zOv_bd {kind : Int} {n : Nat} {w : Int → Int} {set : Nat} : ∀ (m c : Nat) (a b : Int), -1 ≤ zOv kind n w set m c a b ∧ zOv kind n w set m c a b ≤ m
  | 0, _, _, _ => by rw [zOv]; constructor <;> omega
  | m + 1, c, a, b => by
    rw [zOv]
    refine ⟨zmx_m1 n, zmx_le (by omega) n (fun k hk => ?_)⟩
    split
    · omega
    · have := zbr_bd (kind := kind) (w := w) (set := set) (i := k) (a := a) (b := b) (zOv_bd (kind := kind) (n := n) (w := w) (set := set) m (c ||| 2 ^ k) b (w k)).2 (by omega)
      omega
/-- zbr of what is not below 0 -/
theorem zbr_pos {kind : Int} {w : Int → Int} {set i : Nat} {v a b : Int} (h : 0 ≤ zbr kind w set v a b i) : 0 ≤ v := by
  unfold zbr at h
  split at h
  · omega
  · rename_i q
    by_cases q2 : v < 0
    · exact absurd (Or.inl q2) q
    · omega
