/-! specs of the small methods -/
def zmaj (a b c : Int) : Int := if c = a ∨ c = b then c else if a = b then a else 6
def zgb (kind a b c : Int) : Int := if kind = 3 then b else zmaj a b c
section S40
variable {K d : Nat} {mu : Mem} {Q : AV → Mem → Prop}
theorem s_within {x lo hi : Int} (hK : 64 ≤ K) (hx : zin x) (hl : zin lo) (hh : zin hi) (h : Q (zI (if lo ≤ x ∧ x ≤ hi then 1 else 0)) mu) : zC K d mX8_within [zI x, zI lo, zI hi] mu Q := by
  refine ce_X8_within (sg_X8_within_0 (by omega) hK ⟨hx, hl, fun c => ?_, fun c => ⟨hh, fun c2 => ?_, fun c2 => ?_⟩⟩)
  · rwa [if_neg (by omega)] at h
  · rwa [if_neg (by omega)] at h
  · rwa [if_pos (by omega)] at h
theorem s_majority {a b c : Int} (hK : 64 ≤ K) (ha : zin a) (hb : zin b) (hc : zin c) (h : Q (zI (zmaj a b c)) mu) : zC K d mX8_majority [zI a, zI b, zI c] mu Q := by
  unfold zmaj at h
  refine ce_X8_majority (sg_X8_majority_0 (by omega) hK ⟨hc, ha, fun c => ?_, fun c => ⟨hb, fun c2 => ⟨fun c3 => ?_, fun c3 => ?_⟩, fun c2 => ?_⟩⟩)
  · rwa [if_pos (by omega)] at h
  · rwa [if_neg (by omega), if_neg (by omega)] at h
  · rwa [if_neg (by omega), if_pos (by omega)] at h
  · rwa [if_pos (by omega)] at h
theorem s_givesBehind {k a b c : Int} (hd : 1 ≤ d) (hK : 64 ≤ K) (hk : zin k) (ha : zin a) (hb : zin b) (hc : zin c) (h : Q (zI (zgb k a b c)) mu) : zC K d mX8_givesBehind [zI k, zI a, zI b, zI c] mu Q := by
  unfold zgb at h
  refine ce_X8_givesBehind (sg_X8_givesBehind_0 hd hK ⟨hk, fun c => ?_, fun c => ?_⟩)
  · rw [if_neg c] at h
    exact s_majority hK ha hb hc ⟨_, rfl, h⟩
  · rwa [if_pos c] at h
theorem s_worthOf {P w g : Int} (hK : 64 ≤ K) (hP : isP K P) (hw : 0 ≤ w ∧ w < 6) (hg : 0 ≤ g ∧ g < 7) (h : Q (zI (mu (P + 3) (w * 7 + g))) mu) : zC K d mX2_worthOf [zR P, zI w, zI g] mu Q :=
  ce_X2_worthOf (sg_X2_worthOf_0 (by omega) hK hP ⟨by omega, by omega, h⟩)
theorem s_remembersTwo {P : Int} (hK : 64 ≤ K) (hP : isP K P) (h1 : zin (mu P 1)) (h : Q (zI (if mu P 1 = 0 ∨ mu P 1 = 3 then 1 else 0)) mu) : zC K d mX2_remembersTwo [zR P] mu Q := by
  refine ce_X2_remembersTwo (sg_X2_remembersTwo_0 (by omega) hK hP ⟨h1, fun c => ?_, fun c => ⟨fun c2 => ?_, fun c2 => ?_⟩⟩)
  · rwa [if_pos (by omega)] at h
  · rwa [if_neg (by omega)] at h
  · rwa [if_pos (by omega)] at h
/-- the ask that is b back, ahead of the queue -/
def zab (mu : Mem) (P b : Int) : Int := if 0 ≤ mu P 2 - b then mu (P + 1) (mu P 2 - b) else 6
theorem s_askedBack {P b : Int} (hK : 64 ≤ K) (hP : isP K P) (h2 : 0 ≤ mu P 2 ∧ mu P 2 ≤ 6) (hb : b = 1 ∨ b = 2) (h : Q (zI (zab mu P b)) mu) : zC K d mX2_askedBack [zR P, zI b] mu Q := by
  unfold zab at h
  refine ce_X2_askedBack (sg_X2_askedBack_0 (by omega) hK hP ⟨⟨by omega, by omega⟩, fun c => ?_, fun c => ⟨⟨by omega, by omega⟩, fun c2 => ?_, fun c2 => ⟨by omega, by omega, ?_⟩⟩⟩)
  · rwa [if_neg (by omega)] at h
  · exact absurd c2 (by omega)
  · rwa [if_pos (by omega)] at h
def zpa (mu : Mem) (P : Int) : Int := zab mu P 2 * 7 + zab mu P 1
theorem s_pairAhead {P : Int} (hd : 1 ≤ d) (hK : 64 ≤ K) (hP : isP K P) (h2 : 0 ≤ mu P 2 ∧ mu P 2 ≤ 6) (h : Q (zI (zpa mu P)) mu) : zC K d mX2_pairAhead [zR P] mu Q :=
  ce_X2_pairAhead (sg_X2_pairAhead_0 hd hK hP (s_askedBack hK hP h2 (Or.inr rfl) ⟨_, rfl, s_askedBack hK hP h2 (Or.inl rfl) ⟨_, rfl, h⟩⟩))
theorem zgb_has {k a b w : Int} (hk : k = 0 ∨ k = 3) (hw : w < 6) : zgb k a b w = w ↔ (b = w ∨ (k = 0 ∧ a = w)) := by
  unfold zgb zmaj
  rcases hk with rfl | rfl
  · rw [if_neg (by decide)]
    constructor
    · intro h
      split at h
      · omega
      · split at h <;> omega
    · intro h
      rw [if_pos (by omega)]
  · rw [if_pos rfl]
    omega
theorem s_hasBehind {P p i : Int} (hd : 2 ≤ d) (hK : 64 ≤ K) (hP : isP K P) (hp : 0 ≤ p ∧ p < 49) (hi : 0 ≤ i ∧ i < 10) (hk : mu P 1 = 0 ∨ mu P 1 = 3) (hw : 0 ≤ mu (P + 2) i ∧ mu (P + 2) i < 6) (h : Q (zI (if zgb (mu P 1) (p / 7) (p % 7) (mu (P + 2) i) = mu (P + 2) i then 1 else 0)) mu) : zC K d mX2_hasBehind [zR P, zI p, zI i] mu Q := by
  have e1 : p.tdiv 7 = p / 7 := Int.tdiv_eq_ediv_of_nonneg hp.1
  have e2 : p.tmod 7 = p % 7 := Int.tmod_eq_emod_of_nonneg hp.1
  have q := zgb_has (a := p / 7) (b := p % 7) hk hw.2
  refine ce_X2_hasBehind (sg_X2_hasBehind_0 hd hK hP ⟨hi.1, hi.2, ⟨by omega, by omega⟩, ?_⟩)
  rw [e1, e2]
  refine ⟨⟨by omega, by omega⟩, ⟨by omega, by omega⟩, fun c => ?_, fun c => ⟨⟨by omega, by omega⟩, fun c2 => ?_, fun c2 => ⟨⟨by omega, by omega⟩, fun c3 => ?_, fun c3 => ?_⟩⟩⟩
  · rwa [if_pos (q.mpr (Or.inl c))] at h
  · rwa [if_neg (fun z => by have := q.mp z; omega)] at h
  · rwa [if_neg (fun z => by have := q.mp z; omega)] at h
  · rwa [if_pos (q.mpr (Or.inr ⟨c2, c3⟩))] at h
end S40
