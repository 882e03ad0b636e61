/-! strangers as functions -/
theorem zmn_le {f : Nat → Int} : ∀ {n k : Nat}, k < n → zmn f n ≤ f k
  | n + 1, k, h => by
    rw [zmn]
    by_cases q : k = n
    · rw [q]; omega
    · have := zmn_le (f := f) (n := n) (k := k) (by omega)
      omega
theorem zmn_100 {f : Nat → Int} : ∀ n : Nat, zmn f n ≤ 100
  | 0 => by rw [zmn]; omega
  | n + 1 => by
    rw [zmn]
    have := zmn_100 (f := f) n
    omega
theorem zmn_ge {f : Nat → Int} {c : Int} (hc : c ≤ 100) : ∀ n : Nat, (∀ k, k < n → c ≤ f k) → c ≤ zmn f n
  | 0, _ => by rw [zmn]; exact hc
  | n + 1, h => by
    rw [zmn]
    have h1 := zmn_ge hc n (fun k hk => h k (by omega))
    have h2 := h n (by omega)
    omega
theorem zmn_at {f : Nat → Int} : ∀ n : Nat, zmn f n < 100 → ∃ k, k < n ∧ f k = zmn f n
  | 0, h => by rw [zmn] at h; omega
  | n + 1, h => by
    rw [zmn] at h ⊢
    by_cases q : f n ≤ zmn f n
    · exact ⟨n, by omega, by omega⟩
    · obtain ⟨k, k0, k1⟩ := zmn_at (f := f) n (by omega)
      exact ⟨k, by omega, by omega⟩
theorem zmn_congr {f g : Nat → Int} : ∀ n : Nat, (∀ k, k < n → f k = g k) → zmn f n = zmn g n
  | 0, _ => rfl
  | n + 1, h => by
    rw [zmn, zmn, zmn_congr n (fun k hk => h k (by omega)), h n (by omega)]
/-- the next of the queue (r + 1 being left) at once -/
abbrev zAq (kind : Int) (t n : Nat) (w : Int → Int) (set r : Nat) (a b : Int) : Int := zat kind w set (zNd kind t n w set r) (n - (r + 1)) a b
theorem zNd_s {kind : Int} {t n : Nat} {w : Int → Int} {set r : Nat} {a b : Int} : zNd kind t n w set (r + 1) a b = min (min (zAq kind t n w set r a b) (zmn (fun x => zmn (fun y => zAq kind t n w set r x y) t) t + 2)) (zmn (fun x => zAq kind t n w set r b x) t + 1) := by
  rw [zNd]
/-- what is asked of plan and queue -/
def zSQ (kind : Int) (t n : Nat) (w : Int → Int) : Prop := (kind = 0 ∨ kind = 3) ∧ (2 ≤ t ∧ t ≤ 6) ∧ (1 ≤ n ∧ n ≤ 10) ∧ ∀ i : Nat, i < n → 0 ≤ w i ∧ w i < t
theorem zSQ.k {kind : Int} {t n : Nat} {w : Int → Int} (h : zSQ kind t n w) : kind = 0 ∨ kind = 3 := h.1
theorem zSQ.t {kind : Int} {t n : Nat} {w : Int → Int} (h : zSQ kind t n w) : 2 ≤ t ∧ t ≤ 6 := h.2.1
theorem zSQ.n {kind : Int} {t n : Nat} {w : Int → Int} (h : zSQ kind t n w) : 1 ≤ n ∧ n ≤ 10 := h.2.2.1
theorem zSQ.w {kind : Int} {t n : Nat} {w : Int → Int} (h : zSQ kind t n w) : ∀ i : Nat, i < n → 0 ≤ w i ∧ w i < t := h.2.2.2
theorem zgb_ww {kind b c : Int} (h : kind = 0 ∨ kind = 3) : zgb kind b c c = c := by
  unfold zgb zmaj
  rcases h with rfl | rfl
  · rw [if_neg (by omega), if_pos (Or.inr rfl)]
  · rw [if_pos rfl]
theorem zNd_bd {kind : Int} {t n : Nat} {w : Int → Int} {set : Nat} (h : zSQ kind t n w) : ∀ (r : Nat), r ≤ n → ∀ a b : Int, 0 ≤ zNd kind t n w set r a b ∧ zNd kind t n w set r a b ≤ r
  | 0, _, _, _ => by rw [zNd]; constructor <;> omega
  | r + 1, hr, a, b => by
    have ih := zNd_bd (set := set) h r (by omega)
    have hw := h.w (n - (r + 1)) (by have := h.n; omega)
    have ht := h.t
    have hn := h.n
    have a0 : ∀ x y : Int, 0 ≤ zAq kind t n w set r x y := fun x y => by
      unfold zAq zat
      split
      · omega
      · exact (ih _ _).1
    rw [zNd_s]
    constructor
    · have z1 := zmn_ge (f := fun x => zAq kind t n w set r b x) (c := 0) (by omega) t (fun x _ => a0 _ _)
      have z2 := zmn_ge (f := fun x => zmn (fun y => zAq kind t n w set r x y) t) (c := 0) (by omega) t (fun x _ => zmn_ge (by omega) t (fun y _ => a0 _ _))
      have := a0 a b
      omega
    · have z1 := zmn_le (f := fun x => zAq kind t n w set r b x) (n := t) (k := (w ((n - (r + 1) : Nat) : Int)).toNat) (by omega)
      have e : zAq kind t n w set r b (((w ((n - (r + 1) : Nat) : Int)).toNat : Nat) : Int) ≤ r := by
        rw [show (((w ((n - (r + 1) : Nat) : Int)).toNat : Nat) : Int) = w ((n - (r + 1) : Nat) : Int) by omega]
        unfold zAq zat
        rw [if_neg (fun q => q.2 (zgb_ww h.k))]
        exact (ih _ _).2
      omega
theorem zNd_le {kind : Int} {t n : Nat} {w : Int → Int} {set r x : Nat} {a b : Int} (hx : x < t) : zNd kind t n w set (r + 1) a b ≤ zNd kind t n w set (r + 1) b x + 1 := by
  rw [zNd_s, zNd_s]
  have h1 := zmn_le (f := fun x => zAq kind t n w set r b x) hx
  have h2 := zmn_le (f := fun x => zmn (fun y => zAq kind t n w set r x y) t) hx
  omega
theorem zNd_at {kind : Int} {t n : Nat} {w : Int → Int} {set r : Nat} {a b : Int} : zNd kind t n w set (r + 1) a b ≤ zAq kind t n w set r a b := by
  rw [zNd_s]
  omega
theorem zNd_ex {kind : Int} {t n : Nat} {w : Int → Int} {set r : Nat} (h : zSQ kind t n w) (hr : r + 1 ≤ n) {a b : Int} (hne : ¬ zAq kind t n w set r a b = zNd kind t n w set (r + 1) a b) : ∃ x : Nat, x < t ∧ zNd kind t n w set (r + 1) b x + 1 = zNd kind t n w set (r + 1) a b := by
  have bd := zNd_bd (set := set) h (r + 1) hr a b
  have hn := h.n
  have key : ∀ x : Nat, x < t → zNd kind t n w set (r + 1) b x + 1 ≤ zNd kind t n w set (r + 1) a b → ∃ x : Nat, x < t ∧ zNd kind t n w set (r + 1) b x + 1 = zNd kind t n w set (r + 1) a b := fun x hx q => by
    have := zNd_le (kind := kind) (n := n) (w := w) (set := set) (r := r) (a := a) (b := b) hx
    exact ⟨x, hx, by omega⟩
  have e := zNd_s (kind := kind) (t := t) (n := n) (w := w) (set := set) (r := r) (a := a) (b := b)
  by_cases q : zNd kind t n w set (r + 1) a b = zmn (fun x => zAq kind t n w set r b x) t + 1
  · obtain ⟨x, x0, x1⟩ := zmn_at (f := fun x => zAq kind t n w set r b x) t (by omega)
    have := zNd_at (kind := kind) (t := t) (n := n) (w := w) (set := set) (r := r) (a := b) (b := x)
    exact key x x0 (by omega)
  · obtain ⟨x, x0, x1⟩ := zmn_at (f := fun x => zmn (fun y => zAq kind t n w set r x y) t) t (by omega)
    have s := zNd_s (kind := kind) (t := t) (n := n) (w := w) (set := set) (r := r) (a := b) (b := x)
    exact key x x0 (by omega)
/-- the reference's rounds -/
def zE (kind : Int) (t n : Nat) (w : Int → Int) (set r : Nat) : Nat → Int → Int → Int
  | 0, _, _ => 99
  | ρ + 1, a, b => min (min 99 (zAq kind t n w set r a b)) (zmn (fun x => zE kind t n w set r ρ b x) t + 1)
theorem zE_dn {kind : Int} {t n : Nat} {w : Int → Int} {set r : Nat} : ∀ (ρ : Nat) (a b : Int), zE kind t n w set r (ρ + 1) a b ≤ zE kind t n w set r ρ a b
  | 0, a, b => by
    rw [zE, zE]
    omega
  | ρ + 1, a, b => by
    rw [zE, zE]
    have : zmn (fun x => zE kind t n w set r (ρ + 1) b x) t ≤ zmn (fun x => zE kind t n w set r ρ b x) t := zmn_ge (zmn_100 t) t (fun k hk => Int.le_trans (zmn_le hk) (zE_dn ρ b k))
    omega
theorem zE_mono {kind : Int} {t n : Nat} {w : Int → Int} {set r : Nat} {a b : Int} : ∀ (k ρ : Nat), zE kind t n w set r (ρ + k) a b ≤ zE kind t n w set r ρ a b
  | 0, ρ => Int.le_refl _
  | k + 1, ρ => Int.le_trans (zE_dn (ρ + k) a b) (zE_mono k ρ)
theorem zE_3 {kind : Int} {t n : Nat} {w : Int → Int} {set r : Nat} {a b : Int} : zE kind t n w set r 3 a b ≤ zNd kind t n w set (r + 1) a b := by
  have h1 : ∀ x y : Int, zE kind t n w set r 1 x y ≤ zAq kind t n w set r x y := fun x y => by
    rw [zE]
    omega
  have h2a : ∀ x y : Int, zE kind t n w set r 2 x y ≤ zAq kind t n w set r x y := fun x y => by
    rw [zE]
    omega
  have h2b : ∀ x y : Int, zE kind t n w set r 2 x y ≤ zmn (fun z => zAq kind t n w set r y z) t + 1 := fun x y => by
    rw [zE]
    have : zmn (fun z => zE kind t n w set r 1 y z) t ≤ zmn (fun z => zAq kind t n w set r y z) t := zmn_ge (zmn_100 t) t (fun k hk => Int.le_trans (zmn_le hk) (h1 y k))
    omega
  rw [zE, zNd_s]
  have i1 : zmn (fun x => zE kind t n w set r 2 b x) t ≤ zmn (fun x => zAq kind t n w set r b x) t := zmn_ge (zmn_100 t) t (fun k hk => Int.le_trans (zmn_le hk) (h2a b k))
  have i2 : zmn (fun x => zE kind t n w set r 2 b x) t - 1 ≤ zmn (fun x => zmn (fun z => zAq kind t n w set r x z) t) t := zmn_ge (by have := zmn_100 (f := fun x => zE kind t n w set r 2 b (x : Nat)) t; omega) t (fun k hk => by
    have u1 := zmn_le (f := fun x => zE kind t n w set r 2 b (x : Nat)) hk
    have u2 := h2b b k
    omega)
  omega
theorem zE_13 {kind : Int} {t n : Nat} {w : Int → Int} {set r : Nat} {a b : Int} : zE kind t n w set r 13 a b ≤ zNd kind t n w set (r + 1) a b := Int.le_trans (zE_mono 10 3) zE_3
/-- the rows of strangers -/
theorem zfs_ok {kind : Int} {t n : Nat} {w : Int → Int} {set r : Nat} (h : zSQ kind t n w) (hr : r + 1 ≤ n) {a b : Int} :
    (zfs kind t n w set r a b < zfb kind t n w set r a b ∧ ∃ x : Nat, zfs kind t n w set r a b = x ∧ x < t ∧ zNd kind t n w set (r + 1) b x + 1 = zNd kind t n w set (r + 1) a b ∧ (zAq kind t n w set r a b = zNd kind t n w set (r + 1) a b → (x : Int) < w ((n - (r + 1) : Nat) : Int)) ∧ ∀ y : Nat, y < x → ¬ zNd kind t n w set (r + 1) b y + 1 = zNd kind t n w set (r + 1) a b) ∨
    (¬ zfs kind t n w set r a b < zfb kind t n w set r a b ∧ zfs kind t n w set r a b = zfb kind t n w set r a b ∧ zAq kind t n w set r a b = zNd kind t n w set (r + 1) a b ∧ ∀ y : Nat, (y : Int) < w ((n - (r + 1) : Nat) : Int) → ¬ zNd kind t n w set (r + 1) b y + 1 = zNd kind t n w set (r + 1) a b) := by
  have hw := h.w (n - (r + 1)) (by have := h.n; omega)
  have ht := h.t
  have be : zfb kind t n w set r a b = ((if zAq kind t n w set r a b = zNd kind t n w set (r + 1) a b then (w ((n - (r + 1) : Nat) : Int)).toNat else t : Nat) : Int) := by
    unfold zfb
    by_cases q : zAq kind t n w set r a b = zNd kind t n w set (r + 1) a b
    · rw [if_pos q, if_pos q]; omega
    · rw [if_neg q, if_neg q]
  have fe : zfs kind t n w set r a b = zfirst (fun x => decide (zNd kind t n w set (r + 1) b x + 1 = zNd kind t n w set (r + 1) a b)) (if zAq kind t n w set r a b = zNd kind t n w set (r + 1) a b then (w ((n - (r + 1) : Nat) : Int)).toNat else t) 0 := rfl
  have bd := zfirst_bd (fun x => decide (zNd kind t n w set (r + 1) b x + 1 = zNd kind t n w set (r + 1) a b)) (if zAq kind t n w set r a b = zNd kind t n w set (r + 1) a b then (w ((n - (r + 1) : Nat) : Int)).toNat else t) 0
  have mis : ∀ y : Nat, (y : Int) < zfs kind t n w set r a b → ¬ zNd kind t n w set (r + 1) b y + 1 = zNd kind t n w set (r + 1) a b := fun y hy q => by
    rw [fe] at hy
    have := zfirst_le (p := fun x => decide (zNd kind t n w set (r + 1) b x + 1 = zNd kind t n w set (r + 1) a b)) (x := y) (decide_eq_true q) (if zAq kind t n w set r a b = zNd kind t n w set (r + 1) a b then (w ((n - (r + 1) : Nat) : Int)).toNat else t) 0 (by omega) (by omega)
    omega
  by_cases hlt : zfs kind t n w set r a b < zfb kind t n w set r a b
  · left
    have hit := zfirst_hit (p := fun x => decide (zNd kind t n w set (r + 1) b x + 1 = zNd kind t n w set (r + 1) a b)) (if zAq kind t n w set r a b = zNd kind t n w set (r + 1) a b then (w ((n - (r + 1) : Nat) : Int)).toNat else t) 0 (by rw [be, fe] at hlt; omega)
    have hit := of_decide_eq_true hit
    have e : zfs kind t n w set r a b = ((zfs kind t n w set r a b).toNat : Nat) := by
      rw [fe]
      omega
    refine ⟨hlt, (zfs kind t n w set r a b).toNat, e, ?_, ?_, fun q => ?_, fun y hy => mis y (by omega)⟩
    · rw [be] at hlt
      split at hlt <;> omega
    · rw [← e]
      exact hit
    · rw [be, if_pos q] at hlt
      omega
  · right
    have eq : zfs kind t n w set r a b = zfb kind t n w set r a b := by
      have : zfs kind t n w set r a b ≤ zfb kind t n w set r a b := by
        rw [be]
        rw [fe]
        omega
      omega
    have hat : zAq kind t n w set r a b = zNd kind t n w set (r + 1) a b := by
      by_cases q : zAq kind t n w set r a b = zNd kind t n w set (r + 1) a b
      · exact q
      · exfalso
        obtain ⟨x, x0, x1⟩ := zNd_ex h hr q
        rw [be, if_neg q] at eq
        exact mis x (by omega) x1
    refine ⟨hlt, eq, hat, fun y hy => mis y ?_⟩
    rw [eq, be, if_pos hat]
    omega
/-- how many there are -/
theorem zSl_len {kind : Int} {t n : Nat} {w : Int → Int} {set : Nat} (h : zSQ kind t n w) : ∀ (f r : Nat) (a b : Int), r ≤ n → (r : Int) + zNd kind t n w set r a b ≤ f → ((zSl kind t n w set f r a b).length : Int) = zNd kind t n w set r a b
  | 0, 0, _, _, _, _ => by rw [zSl, zNd]; rfl
  | 0, r + 1, a, b, hr, hf => by
    have := zNd_bd (set := set) h (r + 1) hr a b
    omega
  | f + 1, 0, _, _, _, _ => by rw [zSl, zNd]; rfl
  | f + 1, r + 1, a, b, hr, hf => by
    rw [zSl]
    rcases zfs_ok (set := set) h hr (a := a) (b := b) with ⟨q, x, x0, x1, x2, x3⟩ | ⟨q, q1, q2, q3⟩
    · rw [if_pos q, List.length_cons, x0]
      have := zSl_len (set := set) h f (r + 1) b x hr (by omega)
      omega
    · rw [if_neg q]
      have hA : zAq kind t n w set r a b = zNd kind t n w set r b (w ((n - (r + 1) : Nat) : Int)) := by
        have bd := zNd_bd (set := set) h (r + 1) hr a b
        have hn := h.n
        rw [← q2] at bd
        unfold zAq zat at bd ⊢
        split
        · rename_i u
          rw [if_pos u] at bd
          omega
        · rfl
      have := zSl_len (set := set) h f r b (w ((n - (r + 1) : Nat) : Int)) (by omega) (by omega)
      omega
/-- at once, when it is the fewest -/
theorem zAq_own {kind : Int} {t n : Nat} {w : Int → Int} {set r : Nat} (h : zSQ kind t n w) (hr : r + 1 ≤ n) {a b : Int} (q : zAq kind t n w set r a b = zNd kind t n w set (r + 1) a b) : zNd kind t n w set r b (w ((n - (r + 1) : Nat) : Int)) = zNd kind t n w set (r + 1) a b := by
  have bd := zNd_bd (set := set) h (r + 1) hr a b
  have hn := h.n
  rw [← q] at bd ⊢
  unfold zAq zat at bd ⊢
  split
  · rename_i u
    rw [if_pos u] at bd
    omega
  · rfl
theorem zAq_bd {kind : Int} {t n : Nat} {w : Int → Int} {set r : Nat} (h : zSQ kind t n w) (hr : r + 1 ≤ n) {a b : Int} : 0 ≤ zAq kind t n w set r a b ∧ (zAq kind t n w set r a b ≤ 10 ∨ zAq kind t n w set r a b = 100) := by
  have bd := zNd_bd (set := set) h r (by omega) b (w ((n - (r + 1) : Nat) : Int))
  have hn := h.n
  unfold zAq zat
  split
  · exact ⟨by omega, Or.inr rfl⟩
  · exact ⟨by omega, Or.inl (by omega)⟩
