/-! the class: slots, walks, endings -/
section
variable {li : Int32} {c z ar le ls sc st la ap ly jn : Nat → Int32}
def cx_zk (z : Nat → Int32) : Prop := ∀ s, s < 3 → z s = nI (cx_d z s) ∧ cx_d z s ≤ 24
theorem cx_blt {a b : Nat} (h : a < b) : Nat.blt a b = true := Nat.ble_eq_true_of_le h
theorem cx_bnlt {a b : Nat} (h : b ≤ a) : Nat.blt a b = false := by
  cases hh : Nat.blt a b
  · rfl
  · have := cx_l hh
    omega
theorem cx_beq {a b : Nat} (h : a = b) : Nat.beq a b = true := by rw [h]; exact Nat.beq_refl b
theorem cx_bne {a b : Nat} (h : a ≠ b) : Nat.beq a b = false := by
  cases hh : Nat.beq a b
  · rfl
  · exact absurd (cx_e hh) h
theorem cx_24 (s i : Nat) : nI s * 24 + nI i = nI (24 * s + i) := by
  rw [show (24 : Int32) = nI 24 from rfl, pk_mul, nI_add, Nat.mul_comm]
theorem cx_4r (s i : Nat) : nI s * 4 + nI i = nI (4 * s + i) := by
  rw [show (4 : Int32) = nI 4 from rfl, pk_mul, nI_add, Nat.mul_comm]
theorem cx_12 (s i : Nat) : nI s * 120 + nI i = nI (120 * s + i) := by
  rw [show (120 : Int32) = nI 120 from rfl, pk_mul, nI_add, Nat.mul_comm]
theorem cx_24l (s i : Nat) : 24 * nI s + nI i = nI (24 * s + i) := by
  rw [show (24 : Int32) = nI 24 from rfl, pk_mul, nI_add]
theorem cx_4l (s i : Nat) : 4 * nI s + nI i = nI (4 * s + i) := by
  rw [show (4 : Int32) = nI 4 from rfl, pk_mul, nI_add]
theorem cx_5l (s i : Nat) : 5 * nI s + nI i = nI (5 * s + i) := by
  rw [show (5 : Int32) = nI 5 from rfl, pk_mul, nI_add]
theorem cx_10 : ¬ (1 : Int32) = 0 := by decide
theorem cx_cl {n : Nat} (h : n < 100000) : (nI n).toNatClampNeg = n := nI_clamp (by omega)
theorem cx_slot (s : Int32) : (s < 0 ∨ nI 3 ≤ s) ∨ ∃ j, j < 3 ∧ s = nI j := by
  rcases pk_ix s (n := 3) (by decide) with h | h | h
  · exact Or.inl (Or.inl h)
  · exact Or.inl (Or.inr h)
  · exact Or.inr h
theorem xs_ok {post : Int32 → Prop} {s : Nat} (hs : s < 3) (h : post 1) : wpX_isSlot post (nI s) := br_f (nI_pos (by omega)) (br_f (nI_ge (b := 3) hs (by decide)) h)
theorem xs_no {post : Int32 → Prop} {s : Int32} (hs : s < 0 ∨ nI 3 ≤ s) (h : post 0) : wpX_isSlot post s := by
  by_cases h0 : s < 0
  · exact br_t h0 h
  · rcases hs with h1 | h1
    · exact absurd h1 h0
    · exact br_f h0 (br_t h1 h)
theorem xw_walk_l {post : Int32 → Prop} {s k : Nat} (hs : s < 3) (hk : k ≤ 24) (hz : z s = nI k) (hc : cx_ok c) (hap : ∀ i, i < 480 → ap i = nI (cx_A i)) : ∀ d i t, i + d = k → t < 120 → post (nI (cx_w c d (24 * s + i) t)) → wX_walk_5 post (nI s) li c z ar le ls sc st la ap ly jn (d + 1) (nI t) (nI i) := by
  have e1 : (nI s).toNatClampNeg = s := cx_cl (by omega)
  intro d
  induction d with
  | zero =>
    intro i t hi ht hp
    rw [wX_walk_5]
    simp only [e1, hz]
    exact ⟨vp_in_nI hs (by decide), br_t (nI_le (by omega) (by omega)) hp⟩
  | succ d ih =>
    intro i t hi ht hp
    obtain ⟨e4, h4⟩ := hc (24 * s + i) (by omega)
    have e2 := cx_24 s i
    have e3 : (nI (24 * s + i)).toNatClampNeg = 24 * s + i := cx_cl (by omega)
    have e5 := cx_4r t (cx_d c (24 * s + i))
    have e6 : (nI (4 * t + cx_d c (24 * s + i))).toNatClampNeg = 4 * t + cx_d c (24 * s + i) := cx_cl (by omega)
    have e7 := hap (4 * t + cx_d c (24 * s + i)) (by omega)
    rw [wX_walk_5]
    simp only [e1, hz, e2, e3, e4, e5, e6, e7]
    exact ⟨vp_in_nI hs (by decide), br_f (nI_ge (by omega) (by omega)) ⟨vp_in_nI (by omega) (by decide), vp_in_nI (by omega) (by decide), nm_e (nm_r (nI_1 i) (ih (i + 1) _ (by omega) (cx_A_lt (by omega)) hp))⟩⟩
theorem xw_walk {post : Int32 → Prop} {s k t : Nat} (hs : s < 3) (hk : k ≤ 24) (hz : z s = nI k) (hc : cx_ok c) (hap : ∀ i, i < 480 → ap i = nI (cx_A i)) (ht : t < 120) (hp : post (nI (cx_w c k (24 * s) t))) : wpX_walk post (li, c, z, ar, le, ls, sc, st, la, ap, ly, jn) (nI t) (nI s) := by
  show ∃ n, wX_walk_5 post (nI s) li c z ar le ls sc st la ap ly jn n (nI t) 0
  exact ⟨k + 1, xw_walk_l hs hk hz hc hap k 0 t (by omega) ht hp⟩
theorem xw_val {post : Int32 → Prop} {s k : Nat} (hs : s < 3) (hk : k ≤ 24) (hz : z s = nI k) (hc : cx_ok c) (hap : ∀ i, i < 480 → ap i = nI (cx_A i)) (hp : post (nI (cx_w c k (24 * s) 0))) : wpX_valueOf post (li, c, z, ar, le, ls, sc, st, la, ap, ly, jn) (nI s) := by
  unfold wpX_valueOf
  exact xw_walk (t := 0) hs hk hz hc hap (by decide) hp
theorem xw_turned_l {post : Int32 → Prop} {s k : Nat} (hs : s < 3) (hk : k ≤ 24) (hc : cx_ok c) (hap : ∀ i, i < 480 → ap i = nI (cx_A i)) : ∀ d t, d ≤ k → t < 120 → post (nI (cx_r c (24 * s) d t)) → wX_valueOfTurned_11 post (nI s) li c z ar le ls sc st la ap ly jn (d + 1) (nI t) (nI d - 1) := by
  intro d
  induction d with
  | zero =>
    intro t hd ht hp
    rw [wX_valueOfTurned_11]
    exact br_t (by decide) hp
  | succ d ih =>
    intro t hd ht hp
    obtain ⟨e4, h4⟩ := hc (24 * s + d) (by omega)
    have e2 := cx_24 s d
    have e3 : (nI (24 * s + d)).toNatClampNeg = 24 * s + d := cx_cl (by omega)
    have e5 := cx_4r t (cx_d c (24 * s + d))
    have e6 : (nI (4 * t + cx_d c (24 * s + d))).toNatClampNeg = 4 * t + cx_d c (24 * s + d) := cx_cl (by omega)
    have e7 := hap (4 * t + cx_d c (24 * s + d)) (by omega)
    rw [nI_pred, wX_valueOfTurned_11]
    simp only [e2, e3, e4, e5, e6, e7]
    exact br_f (nI_pos (by omega)) ⟨vp_in_nI (by omega) (by decide), vp_in_nI (by omega) (by decide), nm_e (nm_r (Int32.sub_eq_add_neg (nI d) 1).symm (ih _ (by omega) (cx_A_lt (by omega)) hp))⟩
theorem xw_turned {post : Int32 → Prop} {s k : Nat} (hs : s < 3) (hk : k ≤ 24) (hz : z s = nI k) (hc : cx_ok c) (hap : ∀ i, i < 480 → ap i = nI (cx_A i)) (hp : post (nI (cx_I (cx_w c k (24 * s) 0)))) : wpX_valueOfTurned post (li, c, z, ar, le, ls, sc, st, la, ap, ly, jn) (nI s) := by
  have e1 : (nI s).toNatClampNeg = s := cx_cl (by omega)
  unfold wpX_valueOfTurned
  dsimp only
  simp only [e1, hz]
  rw [← cx_r_I hc k (24 * s) (by omega)] at hp
  exact ⟨vp_in_nI hs (by decide), nm_e ⟨k + 1, xw_turned_l hs hk hc hap k 0 (Nat.le_refl k) (by decide) hp⟩⟩
theorem xw_isE {post : Int32 → Prop} {v a : Nat} (hv : v < 120) (ha : a < 4) (hle : ∀ i, i < 120 → le i = nI (cx_L i)) (hap : ∀ i, i < 480 → ap i = nI (cx_A i)) (hp : post (bif cx_en v a then 1 else 0)) : wpX_isEnding post (li, c, z, ar, le, ls, sc, st, la, ap, ly, jn) (nI v) (nI a) := by
  have hA : cx_A (4 * v + a) < 120 := cx_A_lt (by omega)
  have hL := cx_L_lt hv
  have hL2 := cx_L_lt hA
  have e1 : (nI v).toNatClampNeg = v := cx_cl (by omega)
  have e5 := cx_4r v a
  have e6 : (nI (4 * v + a)).toNatClampNeg = 4 * v + a := cx_cl (by omega)
  have e7 := hap (4 * v + a) (by omega)
  have e8 : (nI (cx_A (4 * v + a))).toNatClampNeg = cx_A (4 * v + a) := cx_cl (by omega)
  have e9 := hle (cx_A (4 * v + a)) hA
  have e10 := hle v hv
  unfold wpX_isEnding
  dsimp only
  simp only [e1, e5, e6, e7, e8, e9, e10]
  refine ⟨vp_in_nI (by omega) (by decide), vp_in_nI hA (by decide), vp_in_nI hv (by decide), pk_le (cx_L v) (cx_L (cx_A (4 * v + a))) (fun h => ?_) (fun h => ?_) rfl rfl (by omega) (by omega)⟩
  · have e : cx_en v a = false := cx_bnlt h
    rw [e] at hp
    exact hp
  · have e : cx_en v a = true := cx_blt h
    rw [e] at hp
    exact hp
theorem xw_set_l {post : Int32 → Prop} {v : Nat} (hv : v < 120) (hle : ∀ i, i < 120 → le i = nI (cx_L i)) (hap : ∀ i, i < 480 → ap i = nI (cx_A i)) : ∀ d i s, i + d = 4 → post (cx_fs (cx_en v) d i s) → wX_endingSet_4 post (nI v) li c z ar le ls sc st la ap ly jn (d + 1) s (nI i) := by
  intro d
  induction d with
  | zero =>
    intro i s hi hp
    rw [wX_endingSet_4]
    exact br_t (nI_le (a := 4) (by omega) (by omega)) hp
  | succ d ih =>
    intro i s hi hp
    rw [wX_endingSet_4]
    refine br_f (nI_ge (b := 4) (by omega) (by decide)) (xw_isE hv (by omega) hle hap ?_)
    have hq : post (cx_fs (cx_en v) d (i + 1) (bif cx_en v i then s ||| ((1 : Int32) <<< (nI i &&& 31)) else s)) := hp
    cases h : cx_en v i
    · rw [h] at hq
      exact br_t rfl (nm_r (nI_1 i) (ih (i + 1) s (by omega) hq))
    · rw [h] at hq
      exact br_f cx_10 (nm_e (nm_r (nI_1 i) (ih (i + 1) _ (by omega) hq)))
theorem xw_set {post : Int32 → Prop} {v : Nat} (hv : v < 120) (hle : ∀ i, i < 120 → le i = nI (cx_L i)) (hap : ∀ i, i < 480 → ap i = nI (cx_A i)) (hp : post (cx_fs (cx_en v) 4 0 0)) : wpX_endingSet post (li, c, z, ar, le, ls, sc, st, la, ap, ly, jn) (nI v) := by
  show ∃ n, wX_endingSet_4 post (nI v) li c z ar le ls sc st la ap ly jn n 0 0
  exact ⟨5, xw_set_l hv hle hap 4 0 0 rfl hp⟩
theorem xw_first_l {post : Int32 → Prop} {v : Nat} (hv : v < 120) (hle : ∀ i, i < 120 → le i = nI (cx_L i)) (hap : ∀ i, i < 480 → ap i = nI (cx_A i)) : ∀ d i, i + d = 3 → post (nI (cx_ft (cx_en v) 3 d i)) → wX_firstEnding_2 post (nI v) li c z ar le ls sc st la ap ly jn (d + 1) (nI i) := by
  intro d
  induction d with
  | zero =>
    intro i hi hp
    rw [wX_firstEnding_2]
    exact br_t (nI_le (a := 3) (by omega) (by omega)) hp
  | succ d ih =>
    intro i hi hp
    rw [wX_firstEnding_2]
    refine br_f (nI_ge (b := 3) (by omega) (by decide)) (xw_isE hv (by omega) hle hap ?_)
    have hq : post (nI (bif cx_en v i then i else cx_ft (cx_en v) 3 d (i + 1))) := hp
    cases h : cx_en v i
    · rw [h] at hq
      exact br_t rfl (nm_r (nI_1 i) (ih (i + 1) (by omega) hq))
    · rw [h] at hq
      exact br_f cx_10 hq
theorem xw_first {post : Int32 → Prop} {v : Nat} (hv : v < 120) (hle : ∀ i, i < 120 → le i = nI (cx_L i)) (hap : ∀ i, i < 480 → ap i = nI (cx_A i)) (hp : post (nI (cx_fe v))) : wpX_firstEnding post (li, c, z, ar, le, ls, sc, st, la, ap, ly, jn) (nI v) := by
  show ∃ n, wX_firstEnding_2 post (nI v) li c z ar le ls sc st la ap ly jn n 0
  exact ⟨4, xw_first_l hv hle hap 3 0 rfl hp⟩
theorem xw_short_l {post : Int32 → SX → Prop} {s m t : Nat} (hs : s < 3) (hm : m ≤ 10) (ht : t < 120) (hle : ∀ i, i < 120 → le i = nI (cx_L i)) (hap : ∀ i, i < 480 → ap i = nI (cx_A i)) (hp : post (nI m) (li, cx_put c (24 * s) (cx_hl t) m, upd z s (nI m), ar, le, ls, sc, st, la, ap, ly, jn)) : ∀ d i, i + d = m → wX_shorten_25 post (nI s) (nI m) li (d + 1) (nI (cx_rs t i)) (nI i) (cx_put c (24 * s) (cx_hl t) i) z ar le ls sc st la ap ly jn := by
  have e1 : (nI s).toNatClampNeg = s := cx_cl (by omega)
  intro d
  induction d with
  | zero =>
    intro i hi
    obtain rfl : i = m := by omega
    rw [wX_shorten_25]
    simp only [e1]
    exact br_t (nI_le (by omega) (by omega)) ⟨vp_in_nI hs (by decide), nm_e hp⟩
  | succ d ih =>
    intro i hi
    have h1 := cx_rs_lt ht i
    have h2 := cx_fe_lt (cx_rs t i)
    have e2 := cx_24 s i
    have e3 : (nI (24 * s + i)).toNatClampNeg = 24 * s + i := cx_cl (by omega)
    have e5 := cx_4r (cx_rs t i) (cx_fe (cx_rs t i))
    have e6 : (nI (4 * cx_rs t i + cx_fe (cx_rs t i))).toNatClampNeg = 4 * cx_rs t i + cx_fe (cx_rs t i) := cx_cl (by omega)
    have e7 := hap (4 * cx_rs t i + cx_fe (cx_rs t i)) (by omega)
    rw [wX_shorten_25]
    refine br_f (nI_ge (by omega) (by omega)) (xw_first h1 hle hap ?_)
    simp only [e2, e3, e5, e6, e7]
    exact ⟨vp_in_nI (by omega) (by decide), nm_e ⟨vp_in_nI (by omega) (by decide), nm_e (nm_r (nI_1 i) (ih (i + 1) (by omega)))⟩⟩
end
