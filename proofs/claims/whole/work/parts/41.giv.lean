/-! what a memory gives, as a function; the two codes of it -/
def zcn (row : Int → Int) (x lo : Int) : Nat → Int
  | 0 => 0
  | n + 1 => zcn row x lo n + (if row (lo + n) = x then 1 else 0)
theorem zcn_bd (row : Int → Int) (x lo : Int) (n : Nat) : 0 ≤ zcn row x lo n ∧ zcn row x lo n ≤ n := by
  induction n with
  | zero => exact ⟨by simp [zcn], by simp [zcn]⟩
  | succ n ih =>
    unfold zcn
    split <;> constructor <;> omega
theorem zcn_congr {row row' : Int → Int} {x lo : Int} {n : Nat} (h : ∀ i, lo ≤ i → i < lo + n → row i = row' i) : zcn row x lo n = zcn row' x lo n := by
  induction n with
  | zero => rfl
  | succ n ih =>
    unfold zcn
    rw [ih (fun i h1 h2 => h i h1 (by omega)), h (lo + n) (by omega) (by omega)]
theorem zcn_front (row : Int → Int) (x lo : Int) (n : Nat) : zcn row x lo (n + 1) = zcn row x (lo + 1) n + (if row lo = x then 1 else 0) := by
  induction n with
  | zero => simp [zcn]
  | succ n ih =>
    have e : lo + ((n + 1 : Nat) : Int) = lo + 1 + (n : Int) := by omega
    rw [zcn, ih, zcn, e]
    omega
def zfirst (p : Int → Bool) : Nat → Int → Int
  | 0, x => x
  | m + 1, x => if p x = true then x else zfirst p m (x + 1)
theorem zfirst_congr {p q : Int → Bool} : ∀ (m : Nat) (x : Int), (∀ i, x ≤ i → i < x + m → p i = q i) → zfirst p m x = zfirst q m x
  | 0, _, _ => rfl
  | m + 1, x, h => by
    unfold zfirst
    rw [h x (by omega) (by omega), zfirst_congr m (x + 1) (fun i h1 h2 => h i (by omega) (by omega))]
theorem zfirst_bd (p : Int → Bool) : ∀ (m : Nat) (x : Int), x ≤ zfirst p m x ∧ zfirst p m x ≤ x + m
  | 0, x => ⟨by simp [zfirst], by simp [zfirst]⟩
  | m + 1, x => by
    have := zfirst_bd p m (x + 1)
    unfold zfirst
    split <;> constructor <;> omega
def zmo (row : Int → Int) (many last need : Int) : Int := zfirst (fun x => decide (need ≤ zcn row x (max 0 (many - last)) (many - max 0 (many - last)).toNat)) 6 0
def zgf (kind : Int) (row : Int → Int) (many : Int) : Int := if kind = 3 then (if many < 2 then 6 else row (many - 2)) else zmo row many (3 + 2 * kind) (2 + kind)
theorem zmo_congr {row row' : Int → Int} {many last need : Int} (h : ∀ i, 0 ≤ i → i < many → row i = row' i) : zmo row many last need = zmo row' many last need := by
  unfold zmo
  apply zfirst_congr
  intro x _ _
  rw [zcn_congr (fun i h1 h2 => h i (by omega) (by omega))]
theorem zgf_congr {kind : Int} {row row' : Int → Int} {many : Int} (h : ∀ i, 0 ≤ i → i < many → row i = row' i) : zgf kind row many = zgf kind row' many := by
  unfold zgf
  rw [zmo_congr h]
  by_cases h2 : many < 2
  · rw [if_pos h2, if_pos h2]
  · rw [if_neg h2, if_neg h2, h _ (by omega) (by omega)]
theorem zmo_bd (row : Int → Int) (many last need : Int) : 0 ≤ zmo row many last need ∧ zmo row many last need ≤ 6 := by
  unfold zmo
  have := zfirst_bd (fun x => decide (need ≤ zcn row x (max 0 (many - last)) (many - max 0 (many - last)).toNat)) 6 0
  omega
section S41
variable {K d : Nat} {mu : Mem} {Q : AV → Mem → Prop}
theorem l_givesFor_58 {a0 A a2 a3 a4 : Int} {n : Nat} (hd : 1 ≤ d) (hK : 64 ≤ K) (hA : zAr K 11 A n) (h0 : 0 ≤ a0 ∧ a0 ≤ 3) (h2 : 0 ≤ a2 ∧ a2 ≤ n) (h3 : 0 ≤ a3 ∧ a3 ≤ a2) (h4 : 0 ≤ a4 ∧ a4 < 6) (hr : ∀ j, 0 ≤ j → j < a2 → zin (mu A j))
    (e1 : zcn (mu A) a4 a3 (a2 - a3).toNat < 2 + a0 → zG K d mX8_givesFor 45 [zI a0, zR A, zI a2, zI a3, zI (a4 + 1), zU, zU] [] mu Q) (e2 : ¬ zcn (mu A) a4 a3 (a2 - a3).toNat < 2 + a0 → Q (zI a4) mu) :
    ∀ (m : Nat) (a5 a6 : Int), a6 + m = a2 → a3 ≤ a6 → a5 = zcn (mu A) a4 a3 (a6 - a3).toNat → zG K d mX8_givesFor 58 [zI a0, zR A, zI a2, zI a3, zI a4, zI a5, zI a6] [] mu Q := by
  have hn := hA.le
  intro m
  induction m with
  | zero =>
    intro a5 a6 h5 h6 h7
    have hb := zcn_bd (mu A) a4 a3 (a6 - a3).toNat
    have e : a6 = a2 := by omega
    subst e
    rw [← h7] at e1 e2 hb
    refine sg_X8_givesFor_58 hd hK hA ⟨⟨by omega, by omega⟩, ⟨by omega, by omega⟩, fun _ => ⟨⟨by omega, by omega⟩, ⟨by omega, by omega⟩, e1, e2⟩, fun c => absurd c (by omega)⟩
  | succ m ih =>
    intro a5 a6 h5 h6 h7
    have hb := zcn_bd (mu A) a4 a3 (a6 - a3).toNat
    have e : (a6 + 1 - a3).toNat = (a6 - a3).toNat + 1 := by omega
    have e3 : a3 + (((a6 - a3).toNat : Nat) : Int) = a6 := by omega
    have hz := hr a6 (by omega) (by omega)
    refine sg_X8_givesFor_58 hd hK hA ⟨⟨by omega, by omega⟩, ⟨by omega, by omega⟩, fun c => absurd c (by omega), fun _ => ⟨by omega, by omega, hz, ⟨by omega, by omega⟩, fun c => ?_, fun c => ?_⟩⟩
    · refine ih _ _ (by omega) (by omega) ?_
      rw [e, zcn, e3, if_neg c]
      omega
    · refine ih _ _ (by omega) (by omega) ?_
      rw [e, zcn, e3, if_pos c]
      omega
theorem l_givesFor_45 {a0 A a2 a3 : Int} {n : Nat} (hd : 1 ≤ d) (hK : 64 ≤ K) (hA : zAr K 11 A n) (h0 : 0 ≤ a0 ∧ a0 ≤ 3) (h2 : 0 ≤ a2 ∧ a2 ≤ n) (h3 : 0 ≤ a3 ∧ a3 ≤ a2) (hr : ∀ j, 0 ≤ j → j < a2 → zin (mu A j)) :
    ∀ (m : Nat) (a4 : Int), 0 ≤ a4 → a4 + m = 6 → Q (zI (zfirst (fun x => decide (2 + a0 ≤ zcn (mu A) x a3 (a2 - a3).toNat)) m a4)) mu → zG K d mX8_givesFor 45 [zI a0, zR A, zI a2, zI a3, zI a4, zU, zU] [] mu Q := by
  intro m
  induction m with
  | zero =>
    intro a4 h4 h5 h
    have e : a4 = 6 := by omega
    subst e
    exact sg_X8_givesFor_45 hd hK hA ⟨⟨by omega, by omega⟩, fun _ => h, fun c => absurd c (by omega)⟩
  | succ m ih =>
    intro a4 h4 h5 h
    refine sg_X8_givesFor_45 hd hK hA ⟨⟨by omega, by omega⟩, fun c => absurd c (by omega), fun _ => ?_⟩
    unfold zfirst at h
    refine l_givesFor_58 hd hK hA h0 h2 h3 ⟨h4, by omega⟩ hr (fun c => ?_) (fun c => ?_) (a2 - a3).toNat 0 a3 (by omega) (by omega) (by simp [zcn])
    · rw [if_neg (by simp only [decide_eq_true_eq]; omega)] at h
      exact ih _ (by omega) (by omega) h
    · rwa [if_pos (by simp only [decide_eq_true_eq]; omega)] at h
theorem s_givesFor {k A many : Int} {n : Nat} (hd : 1 ≤ d) (hK : 64 ≤ K) (hA : zAr K 11 A n) (h0 : 0 ≤ k ∧ k ≤ 3) (h2 : 0 ≤ many ∧ many ≤ n) (hr : ∀ j, 0 ≤ j → j < many → zin (mu A j)) (h : Q (zI (zgf k (mu A) many)) mu) : zC K d mX8_givesFor [zI k, zR A, zI many] mu Q := by
  have hn := hA.le
  unfold zgf at h
  refine ce_X8_givesFor (sg_X8_givesFor_0 hd hK hA ⟨⟨by omega, by omega⟩, ⟨by omega, by omega⟩, fun _ => ⟨⟨by omega, by omega⟩, fun c => ⟨⟨by omega, by omega⟩, ?_⟩, fun c => ⟨fun c2 => ?_, fun c2 => ⟨by omega, by omega, ?_⟩⟩⟩, fun c => absurd h2.2 c⟩)
  · rw [if_neg c, zmo, show many - (3 + 2 * k) = many - 3 - 2 * k by omega] at h
    exact l_givesFor_45 hd hK hA h0 h2 ⟨by omega, by omega⟩ hr 6 0 (by omega) (by omega) h
  · rwa [if_pos c, if_pos c2] at h
  · rwa [if_pos c, if_neg c2] at h
/-! the reference -/
theorem l_mostOf_19 {a1 a2 a3 : Int} (hK : 93 ≤ K) (hm : 0 ≤ mu 64 22 ∧ mu 64 22 ≤ 16) (h1 : 0 ≤ a1 ∧ a1 ≤ 7) (h2 : 0 ≤ a2 ∧ a2 ≤ 7) (h3 : 0 ≤ a3 ∧ a3 < 6) (hr : ∀ j, 0 ≤ j → j < mu 64 22 → zin (mu 81 j)) (lo : Int) (hlo : lo = max 0 (mu 64 22 - a1))
    (e1 : zcn (mu 81) a3 lo (mu 64 22 - lo).toNat < a2 → zG K d mX9_mostOf 2 [zR 64, zI a1, zI a2, zI (a3 + 1), zU, zU] [] mu Q) (e2 : ¬ zcn (mu 81) a3 lo (mu 64 22 - lo).toNat < a2 → Q (zI a3) mu) :
    ∀ (m : Nat) (a4 a5 : Int), a5 + 1 = lo + m → a5 + 1 ≤ mu 64 22 → a4 = zcn (mu 81) a3 (a5 + 1) (mu 64 22 - (a5 + 1)).toNat → zG K d mX9_mostOf 19 [zR 64, zI a1, zI a2, zI a3, zI a4, zI a5] [] mu Q := by
  intro m
  induction m with
  | zero =>
    intro a4 a5 h5 h6 h7
    have hb := zcn_bd (mu 81) a3 (a5 + 1) (mu 64 22 - (a5 + 1)).toNat
    have e : a5 + 1 = lo := by omega
    rw [e] at h7 hb
    rw [← h7] at e1 e2 hb
    refine sg_X9_mostOf_19 (by omega) hK ⟨⟨by omega, by omega⟩, fun _ => ⟨⟨by omega, by omega⟩, ⟨by omega, by omega⟩, e1, e2⟩, fun c => ⟨⟨by omega, by omega⟩, fun _ => ⟨⟨by omega, by omega⟩, ⟨by omega, by omega⟩, e1, e2⟩, fun c2 => absurd c2 (by omega)⟩⟩
  | succ m ih =>
    intro a4 a5 h5 h6 h7
    have hb := zcn_bd (mu 81) a3 (a5 + 1) (mu 64 22 - (a5 + 1)).toNat
    have hz := hr a5 (by omega) (by omega)
    have e : (mu 64 22 - (a5 + -1 + 1)).toNat = (mu 64 22 - (a5 + 1)).toNat + 1 := by omega
    have e3 : a5 + -1 + 1 = a5 := by omega
    refine sg_X9_mostOf_19 (by omega) hK ⟨⟨by omega, by omega⟩, fun c => absurd c (by omega), fun _ => ⟨⟨by omega, by omega⟩, fun c => absurd c (by omega), fun _ => ⟨by omega, by omega, hz, ⟨by omega, by omega⟩, fun c => ?_, fun c => ?_⟩⟩⟩
    · refine ih _ _ (by omega) (by omega) ?_
      rw [e, e3, zcn_front, if_neg c, h7]
    · refine ih _ _ (by omega) (by omega) ?_
      rw [e, e3, zcn_front, if_pos c, h7]
theorem l_mostOf_2 {a1 a2 : Int} (hK : 93 ≤ K) (hm : 0 ≤ mu 64 22 ∧ mu 64 22 ≤ 16) (h1 : 0 ≤ a1 ∧ a1 ≤ 7) (h2 : 0 ≤ a2 ∧ a2 ≤ 7) (hr : ∀ j, 0 ≤ j → j < mu 64 22 → zin (mu 81 j)) :
    ∀ (m : Nat) (a3 : Int), 0 ≤ a3 → a3 + m = 6 → Q (zI (zfirst (fun x => decide (a2 ≤ zcn (mu 81) x (max 0 (mu 64 22 - a1)) (mu 64 22 - max 0 (mu 64 22 - a1)).toNat)) m a3)) mu → zG K d mX9_mostOf 2 [zR 64, zI a1, zI a2, zI a3, zU, zU] [] mu Q := by
  intro m
  induction m with
  | zero =>
    intro a3 h4 h5 h
    have e : a3 = 6 := by omega
    subst e
    exact sg_X9_mostOf_2 (by omega) hK ⟨⟨by omega, by omega⟩, fun _ => h, fun c => absurd c (by omega)⟩
  | succ m ih =>
    intro a3 h4 h5 h
    refine sg_X9_mostOf_2 (by omega) hK ⟨⟨by omega, by omega⟩, fun c => absurd c (by omega), fun _ => ?_⟩
    unfold zfirst at h
    refine l_mostOf_19 hK hm h1 h2 ⟨h4, by omega⟩ hr _ rfl (fun c => ?_) (fun c => ?_) (mu 64 22 - max 0 (mu 64 22 - a1)).toNat 0 (mu 64 22 - 1) (by omega) (by omega) ?_
    · rw [if_neg (by simp only [decide_eq_true_eq]; omega)] at h
      exact ih _ (by omega) (by omega) h
    · rwa [if_pos (by simp only [decide_eq_true_eq]; omega)] at h
    · rw [show (mu 64 22 - (mu 64 22 - 1 + 1)).toNat = 0 by omega]
      rfl
theorem s_mostOf {last need : Int} (hK : 93 ≤ K) (hm : 0 ≤ mu 64 22 ∧ mu 64 22 ≤ 16) (h1 : 0 ≤ last ∧ last ≤ 7) (h2 : 0 ≤ need ∧ need ≤ 7) (hr : ∀ j, 0 ≤ j → j < mu 64 22 → zin (mu 81 j)) (h : Q (zI (zmo (mu 81) (mu 64 22) last need)) mu) : zC K d mX9_mostOf [zR 64, zI last, zI need] mu Q :=
  ce_X9_mostOf (sg_X9_mostOf_0 (by omega) hK (l_mostOf_2 hK hm h1 h2 hr 6 0 (by omega) (by omega) h))
theorem s_gives {k : Int} (hd : 1 ≤ d) (hK : 93 ≤ K) (hm : 0 ≤ mu 64 22 ∧ mu 64 22 ≤ 16) (hk : 0 ≤ k ∧ k ≤ 3) (hr : ∀ j, 0 ≤ j → j < mu 64 22 → zin (mu 81 j)) (h : Q (zI (zgf k (mu 81) (mu 64 22))) mu) : zC K d mX9_gives [zR 64, zI k] mu Q := by
  unfold zgf at h
  refine ce_X9_gives (sg_X9_gives_0 (by omega) hK ⟨(by first | assumption | omega | exact ⟨by omega, by omega⟩ | (split <;> omega) | (unfold zin at *; omega)), ⟨fun c1 => ⟨fun c2 => ⟨fun c3 => ?_, fun c3 => ?_⟩, fun c2 => ?_⟩, fun c1 => ⟨(by first | assumption | omega | exact ⟨by omega, by omega⟩ | (split <;> omega) | (unfold zin at *; omega)), ⟨fun c2 => ?_, fun c2 => ⟨(by first | assumption | omega | exact ⟨by omega, by omega⟩ | (split <;> omega) | (unfold zin at *; omega)), (by first | assumption | omega | exact ⟨by omega, by omega⟩ | (split <;> omega) | (unfold zin at *; omega)), ?_⟩⟩⟩⟩⟩)
  · rw [if_neg c1, show k = 2 by omega] at h
    exact s_mostOf hK hm (by omega) (by omega) hr ⟨_, rfl, h⟩
  · rw [if_neg c1, c3] at h
    exact s_mostOf hK hm (by omega) (by omega) hr ⟨_, rfl, h⟩
  · rw [if_neg c1, c2] at h
    exact s_mostOf hK hm (by omega) (by omega) hr ⟨_, rfl, h⟩
  · rwa [if_pos c1, if_pos (by omega)] at h
  · rwa [if_pos c1, if_neg (by omega)] at h
end S41
