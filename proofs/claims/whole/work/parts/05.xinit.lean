/-! the class: its constructor -/
section
variable {li : Int32} {c z ar le ls sc st la ap ly jn : Nat → Int32}
theorem cx_li1 {v a : Nat} (hv : v < 120) (ha : a < 4) : (cx_A (4 * v + a) < cx_N (4 * v + a) ∧ cx_N (4 * v + a + 1) = cx_N (4 * v + a)) ∨ (cx_A (4 * v + a) = cx_N (4 * v + a) ∧ cx_N (4 * v + a + 1) = cx_A (4 * v + a) + 1 ∧ cx_P (cx_A (4 * v + a)) = v ∧ cx_Q (cx_A (4 * v + a)) = a ∧ cx_L (cx_A (4 * v + a)) = cx_L v + 1 ∧ nI (cx_S v) ||| ((1 : Int32) <<< (nI a &&& 31)) = nI (cx_S (cx_A (4 * v + a)))) := by
  have h := cx_li hv ha
  cases h1 : Nat.blt (cx_A (4 * v + a)) (cx_N (4 * v + a))
  · rw [h1, cond_false] at h
    simp only [Bool.and_eq_true] at h
    obtain ⟨a1, a2, a3, a4, a5, a6⟩ := h
    exact Or.inr ⟨cx_e a1, cx_e a2, cx_e a3, cx_e a4, cx_e a5, of_decide_eq_true a6⟩
  · rw [h1, cond_true] at h
    exact Or.inl ⟨cx_l h1, cx_e h⟩
theorem cx_Rne {i j : Nat} (hi : i < j) (hj : j < 120) : cx_R i ≠ cx_R j := by
  have h := cx_Rin (j := j) (i := i) hj (by omega)
  rw [cx_blt hi, cond_true] at h
  intro e
  rw [cx_beq e, cond_true] at h
  exact Bool.noConfusion h
theorem xw_swap {post : Int32 → Prop} {v a : Nat} (hv : v < 120) (ha : a < 4) (hp : post (nI (cx_R (cx_A (4 * v + a))))) : wpX_swapPlaces post (nI (cx_R v)) (nI a) := by
  rw [← cx_swp hv ha] at hp
  exact nm_e (nm_e (nm_e hp))
theorem xw_find_l {post : Int32 → Prop} {N j : Nat} (hN : N ≤ 120) (hj : j ≤ N) (hj2 : j < 120) (har : ∀ i, i < N → ar i = nI (cx_R i)) (hp : post (nI j)) : ∀ d i, i + d = j → wX_find_2 post (nI (cx_R j)) (nI N) c z ar le ls sc st la ap ly jn (d + 1) (nI i) := by
  have hR := cx_R_lt hj2
  intro d
  induction d with
  | zero =>
    intro i hi
    obtain rfl : i = j := by omega
    have e3 : (nI i).toNatClampNeg = i := cx_cl (by omega)
    rw [wX_find_2]
    by_cases h : i = N
    · subst h
      exact br_t (nI_le (Nat.le_refl _) (by omega)) hp
    · have e := har i (by omega)
      exact br_f (nI_ge (by omega) (by omega)) ⟨vp_in_nI (by omega) (by decide), br_t (by rw [e3, e]) hp⟩
  | succ d ih =>
    intro i hi
    have e3 : (nI i).toNatClampNeg = i := cx_cl (by omega)
    have e := har i (by omega)
    have hi2 := cx_R_lt (v := i) (by omega)
    rw [wX_find_2]
    refine br_f (nI_ge (by omega) (by omega)) ⟨vp_in_nI (by omega) (by decide), br_f ?_ (nm_r (nI_1 i) (ih (i + 1) (by omega)))⟩
    rw [e3, e]
    intro hh
    exact cx_Rne (i := i) (j := j) (by omega) hj2 ((nI_eq (by omega) (by omega)).mp hh)
theorem xw_find {post : Int32 → Prop} {N j : Nat} (hN : N ≤ 120) (hj : j ≤ N) (hj2 : j < 120) (har : ∀ i, i < N → ar i = nI (cx_R i)) (hp : post (nI j)) : wpX_find post (nI N, c, z, ar, le, ls, sc, st, la, ap, ly, jn) (nI (cx_R j)) := by
  show ∃ n, wX_find_2 post (nI (cx_R j)) (nI N) c z ar le ls sc st la ap ly jn n 0
  exact ⟨j + 1, xw_find_l hN hj hj2 har hp j 0 (by omega)⟩
theorem xw_list {post : SX → Prop} {N v a : Nat} {x : Int32} (hN : N < 120) (hv : v < 120) (hp : post (nI (N + 1), c, z, upd ar N x, upd le N (le v + 1), upd ls N (ls v ||| ((1 : Int32) <<< (nI a &&& 31))), sc, upd st N (nI v), upd la N (nI a), ap, ly, jn)) : wpX_list post (nI N, c, z, ar, le, ls, sc, st, la, ap, ly, jn) x (nI v) (nI a) := by
  have e1 : (nI N).toNatClampNeg = N := cx_cl (by omega)
  have e2 : (nI v).toNatClampNeg = v := cx_cl (by omega)
  have iN : vp_in (nI N) 120 := vp_in_nI hN (by decide)
  have iv : vp_in (nI v) 120 := vp_in_nI hv (by decide)
  unfold wpX_list
  dsimp only
  simp only [e1, e2]
  exact ⟨iN, nm_e ⟨iN, nm_e ⟨iN, nm_e ⟨iv, iN, nm_e ⟨iv, iN, nm_e (nm_r (nI_1 N) hp)⟩⟩⟩⟩⟩
abbrev cx_Lv (n : Nat) (li : Int32) (ar le ls st la ap : Nat → Int32) : Prop := li = nI (cx_N n) ∧ (∀ i, i < cx_N n → ar i = nI (cx_R i) ∧ le i = nI (cx_L i) ∧ ls i = nI (cx_S i) ∧ st i = nI (cx_P i) ∧ la i = nI (cx_Q i)) ∧ (∀ i, i < n → ap i = nI (cx_A i))
theorem cx_Lv_a {n : Nat} (h3 : ∀ i, i < n → ap i = nI (cx_A i)) : ∀ i, i < n + 1 → upd ap n (nI (cx_A n)) i = nI (cx_A i) := by
  intro i hi
  by_cases hn : i = n
  · rw [hn]
    exact pk_us
  · rw [pk_un hn]
    exact h3 i (by omega)
theorem cx_Lv_old {n : Nat} (h : cx_Lv n li ar le ls st la ap) (e : cx_N (n + 1) = cx_N n) : cx_Lv (n + 1) li ar le ls st la (upd ap n (nI (cx_A n))) := by
  obtain ⟨h1, h2, h3⟩ := h
  refine ⟨by rw [e]; exact h1, by rw [e]; exact h2, cx_Lv_a h3⟩
theorem cx_Lv_new {n v a : Nat} (h : cx_Lv n (nI (cx_N n)) ar le ls st la ap) (hv : v < cx_N n) (l1 : cx_A n = cx_N n) (l2 : cx_N (n + 1) = cx_A n + 1) (l3 : cx_P (cx_A n) = v) (l4 : cx_Q (cx_A n) = a) (l5 : cx_L (cx_A n) = cx_L v + 1) (l6 : nI (cx_S v) ||| ((1 : Int32) <<< (nI a &&& 31)) = nI (cx_S (cx_A n))) : cx_Lv (n + 1) (nI (cx_N n + 1)) (upd ar (cx_N n) (nI (cx_R (cx_A n)))) (upd le (cx_N n) (le v + 1)) (upd ls (cx_N n) (ls v ||| ((1 : Int32) <<< (nI a &&& 31)))) (upd st (cx_N n) (nI v)) (upd la (cx_N n) (nI a)) (upd ap n (nI (cx_A n))) := by
  obtain ⟨h1, h2, h3⟩ := h
  obtain ⟨q1, q2, q3, q4, q5⟩ := h2 v hv
  rw [l1] at l2 l3 l4 l5 l6
  refine ⟨by rw [l2], ?_, cx_Lv_a h3⟩
  intro i hi
  rw [l2] at hi
  by_cases e : i = cx_N n
  · subst e
    refine ⟨by rw [pk_us, l1], by rw [pk_us, q2, nI_1, l5], by rw [pk_us, q3, l6], by rw [pk_us, l3], by rw [pk_us, l4]⟩
  · rw [pk_un e, pk_un e, pk_un e, pk_un e, pk_un e]
    exact h2 i (by omega)
theorem xw_72 {post : SX → Prop} {J16 J24 : Int32 → Int32 → (Nat → Int32) → (Nat → Int32) → (Nat → Int32) → (Nat → Int32) → (Nat → Int32) → (Nat → Int32) → (Nat → Int32) → (Nat → Int32) → (Nat → Int32) → (Nat → Int32) → (Nat → Int32) → Prop} {v a : Nat} {x : Int32} (hv : v < 120) (ha : a < 4) (hp : J24 (nI (a + 1)) li c z ar le ls sc st la (upd ap (4 * v + a) x) ly jn) : wX_listValues_72 post J16 J24 (nI v) (nI a) x li c z ar le ls sc st la ap ly jn := by
  have e5 := cx_4r v a
  have e6 : (nI (4 * v + a)).toNatClampNeg = 4 * v + a := cx_cl (by omega)
  unfold wX_listValues_72
  simp only [e5, e6]
  exact ⟨vp_in_nI (by omega) (by decide), nm_e (nm_r (nI_1 a) hp)⟩
theorem xw_lv_in {post : SX → Prop} {J16 : Int32 → Int32 → (Nat → Int32) → (Nat → Int32) → (Nat → Int32) → (Nat → Int32) → (Nat → Int32) → (Nat → Int32) → (Nat → Int32) → (Nat → Int32) → (Nat → Int32) → (Nat → Int32) → (Nat → Int32) → Prop} {v : Nat} (hv : v < 120) (hJ : ∀ li ar le ls st la ap, cx_Lv (4 * (v + 1)) li ar le ls st la ap → J16 (nI (v + 1)) li c z ar le ls sc st la ap ly jn) : ∀ d a li ar le ls st la ap, a + d = 4 → cx_Lv (4 * v + a) li ar le ls st la ap → wX_listValues_24 post J16 (nI v) (d + 1) (nI a) li c z ar le ls sc st la ap ly jn := by
  intro d
  induction d with
  | zero =>
    intro a li ar le ls st la ap hd h
    obtain rfl : a = 4 := by omega
    rw [wX_listValues_24]
    exact br_t (nI_le (a := 4) (Nat.le_refl _) (by decide)) (nm_r (nI_1 v) (hJ li ar le ls st la ap h))
  | succ d ih =>
    intro a li ar le ls st la ap hd h
    have ha : a < 4 := by omega
    have hNv := cx_Nv hv ha
    have hN := cx_N_lt (n := 4 * v + a) (by omega)
    have hA : cx_A (4 * v + a) < 120 := cx_A_lt (by omega)
    obtain ⟨h1, h2, h3⟩ := h
    subst h1
    have e1 : (nI v).toNatClampNeg = v := cx_cl (by omega)
    have e2 : ar v = nI (cx_R v) := (h2 v hNv).1
    rw [wX_listValues_24]
    refine br_f (nI_ge (b := 4) (by omega) (by decide)) ⟨vp_in_nI hv (by decide), ?_⟩
    rw [e1, e2]
    refine xw_swap hv ha ?_
    rcases cx_li1 hv ha with ⟨l1, l2⟩ | ⟨l1, l2, l3, l4, l5, l6⟩
    · refine xw_find (by omega) (Nat.le_of_lt l1) hA (fun i hi => (h2 i hi).1) ?_
      refine br_f (fun hh => ?_) (xw_72 hv ha (ih (a + 1) _ _ _ _ _ _ _ (by omega) (cx_Lv_old ⟨rfl, h2, h3⟩ l2)))
      have := (nI_eq (by omega) (by omega)).mp hh
      omega
    · refine xw_find (by omega) (Nat.le_of_eq l1) hA (fun i hi => (h2 i hi).1) ?_
      refine br_t (congrArg nI l1) (br_f (nI_ge (b := 120) (by omega) (by decide)) (xw_list (by omega) hv (xw_72 hv ha (ih (a + 1) _ _ _ _ _ _ _ (by omega) (cx_Lv_new ⟨rfl, h2, h3⟩ hNv l1 l2 l3 l4 l5 l6)))))
theorem xw_lv_out {post : SX → Prop} (hp : ∀ li ar le ls st la ap, cx_Lv 480 li ar le ls st la ap → post (li, c, z, ar, le, ls, sc, st, la, ap, ly, jn)) : ∀ d v li ar le ls st la ap, v + d = 120 → cx_Lv (4 * v) li ar le ls st la ap → wX_listValues_16 post (d + 1) (nI v) li c z ar le ls sc st la ap ly jn := by
  intro d
  induction d with
  | zero =>
    intro v li ar le ls st la ap hd h
    obtain rfl : v = 120 := by omega
    rw [wX_listValues_16]
    exact br_t (nI_le (a := 120) (Nat.le_refl _) (by decide)) (hp li ar le ls st la ap h)
  | succ d ih =>
    intro v li ar le ls st la ap hd h
    rw [wX_listValues_16]
    exact br_f (nI_ge (b := 120) (by omega) (by decide)) ⟨5, xw_lv_in (by omega) (fun li ar le ls st la ap h' => ih (v + 1) li ar le ls st la ap (by omega) h') 4 0 li ar le ls st la ap rfl h⟩
theorem cx_Lv_0 : cx_Lv 0 1 (upd (fun _ => 0) 0 18056) (fun _ => 0) (fun _ => 0) (fun _ => 0) (fun _ => 0) (fun _ => 0) := by
  have e : cx_N 0 = 1 := by decide +kernel
  refine ⟨by decide +kernel, fun i hi => ?_, fun i hi => absurd hi (Nat.not_lt_zero i)⟩
  obtain rfl : i = 0 := by omega
  exact ⟨by decide +kernel, by decide +kernel, by decide +kernel, by decide +kernel, by decide +kernel⟩
theorem xw_lv {post : SX → Prop} (hp : ∀ li ar le ls st la ap, cx_Lv 480 li ar le ls st la ap → post (li, c, z, ar, le, ls, sc, st, la, ap, ly, jn)) : wpX_listValues post (0, c, z, (fun _ => 0), (fun _ => 0), (fun _ => 0), sc, (fun _ => 0), (fun _ => 0), (fun _ => 0), ly, jn) := by
  unfold wpX_listValues
  exact nm_e ⟨121, xw_lv_out hp 120 0 _ _ _ _ _ _ _ rfl cx_Lv_0⟩
theorem xw_cs_in {post : SX → Prop} {J9 : Int32 → (Nat → Int32) → (Nat → Int32) → (Nat → Int32) → (Nat → Int32) → (Nat → Int32) → (Nat → Int32) → (Nat → Int32) → (Nat → Int32) → (Nat → Int32) → (Nat → Int32) → (Nat → Int32) → Prop} {v : Nat} (hv0 : 0 < v) (hv : v < 120) (hle : ∀ i, i < 120 → le i = nI (cx_L i)) (hap : ∀ i, i < 480 → ap i = nI (cx_A i)) (hJ : ∀ sc, (∀ i, i < v + 1 → sc i = nI (cx_C i)) → (∀ i, v + 1 ≤ i → sc i = 0) → J9 (nI (v + 1)) c z ar le ls sc st la ap ly jn) : ∀ d a sc, a + d = 4 → (∀ i, i < v → sc i = nI (cx_C i)) → sc v = nI (cx_cp v a) → (∀ i, v + 1 ≤ i → sc i = 0) → wX_countShortWords_17 post J9 (nI v) li (d + 1) (nI a) c z ar le ls sc st la ap ly jn := by
  intro d
  induction d with
  | zero =>
    intro a sc hd h1 h2 h3
    obtain rfl : a = 4 := by omega
    rw [wX_countShortWords_17]
    refine br_t (nI_le (a := 4) (Nat.le_refl _) (by decide)) (nm_r (nI_1 v) (hJ sc ?_ h3))
    intro i hi
    by_cases e : i = v
    · subst e
      obtain ⟨w, rfl⟩ : ∃ w, i = w + 1 := ⟨i - 1, by omega⟩
      rw [h2, cx_cpC (w := w) (by omega)]
    · exact h1 i (by omega)
  | succ d ih =>
    intro a sc hd h1 h2 h3
    have ha : a < 4 := by omega
    have hA : cx_A (4 * v + a) < 120 := cx_A_lt (by omega)
    rw [wX_countShortWords_17]
    refine br_f (nI_ge (b := 4) (by omega) (by decide)) (xw_isE hv ha hle hap ?_)
    have hc : cx_cp v (a + 1) = cx_cp v a + (bif cx_en v a then cx_C (cx_A (4 * v + a)) else 0) := rfl
    have hen := cx_enA hv ha
    cases h : cx_en v a
    · rw [h, cond_false, Nat.add_zero] at hc
      exact br_t rfl (nm_r (nI_1 a) (ih (a + 1) sc (by omega) h1 (by rw [hc]; exact h2) h3))
    · rw [h, cond_true] at hc
      rw [h, cond_true] at hen
      have hlt := cx_l hen
      have e1 : (nI v).toNatClampNeg = v := cx_cl (by omega)
      have e5 := cx_4r v a
      have e6 : (nI (4 * v + a)).toNatClampNeg = 4 * v + a := cx_cl (by omega)
      have e7 := hap (4 * v + a) (by omega)
      have e8 : (nI (cx_A (4 * v + a))).toNatClampNeg = cx_A (4 * v + a) := cx_cl (by omega)
      have e9 := h1 _ hlt
      have iv : vp_in (nI v) 120 := vp_in_nI hv (by decide)
      refine br_f cx_10 ?_
      simp only [e1, e5, e6, e7, e8, e9, h2, nI_add]
      refine ⟨iv, vp_in_nI (by omega) (by decide), vp_in_nI hA (by decide), iv, nm_e (nm_r (nI_1 a) (ih (a + 1) _ (by omega) ?_ ?_ ?_))⟩
      · intro i hi
        rw [pk_un (by omega)]
        exact h1 i hi
      · rw [pk_us, hc]
      · intro i hi
        rw [pk_un (by omega)]
        exact h3 i hi
theorem xw_cs_out {post : SX → Prop} (hle : ∀ i, i < 120 → le i = nI (cx_L i)) (hap : ∀ i, i < 480 → ap i = nI (cx_A i)) (hp : ∀ sc, (∀ i, i < 120 → sc i = nI (cx_C i)) → post (li, c, z, ar, le, ls, sc, st, la, ap, ly, jn)) : ∀ d v sc, 0 < v → v + d = 120 → (∀ i, i < v → sc i = nI (cx_C i)) → (∀ i, v ≤ i → sc i = 0) → wX_countShortWords_9 post li (d + 1) (nI v) c z ar le ls sc st la ap ly jn := by
  intro d
  induction d with
  | zero =>
    intro v sc h0 hd h1 h2
    obtain rfl : v = 120 := by omega
    rw [wX_countShortWords_9]
    exact br_t (nI_le (a := 120) (Nat.le_refl _) (by decide)) (hp sc h1)
  | succ d ih =>
    intro v sc h0 hd h1 h2
    rw [wX_countShortWords_9]
    exact br_f (nI_ge (b := 120) (by omega) (by decide)) ⟨5, xw_cs_in h0 (by omega) hle hap (fun sc' g1 g2 => ih (v + 1) sc' (by omega) (by omega) g1 g2) 4 0 sc rfl h1 (h2 v (Nat.le_refl v)) (fun i hi => h2 i (by omega))⟩
theorem cx_C0 : cx_C 0 = 1 := by decide +kernel
theorem xw_cs {post : SX → Prop} (hle : ∀ i, i < 120 → le i = nI (cx_L i)) (hap : ∀ i, i < 480 → ap i = nI (cx_A i)) (hp : ∀ sc, (∀ i, i < 120 → sc i = nI (cx_C i)) → post (li, c, z, ar, le, ls, sc, st, la, ap, ly, jn)) : wpX_countShortWords post (li, c, z, ar, le, ls, (fun _ => 0), st, la, ap, ly, jn) := by
  unfold wpX_countShortWords
  refine nm_e ⟨120, xw_cs_out hle hap hp 119 1 _ (by decide) rfl ?_ ?_⟩
  · intro i hi
    obtain rfl : i = 0 := by omega
    rw [pk_us, cx_C0]
    rfl
  · intro i hi
    rw [pk_un (by omega)]
/-- row w of the lying table when u of its steps are done -/
def cx_pt (w u y : Nat) : Nat := bif (Nat.blt y u && Nat.beq (cx_Y (cx_P w) y) 1) || (Nat.blt (cx_A (4 * y + cx_Q w)) u && Nat.beq (cx_Y (cx_P w) (cx_A (4 * y + cx_Q w))) 1) then 1 else 0
theorem cx_bl1 {y u : Nat} (h : y ≠ u) : Nat.blt y (u + 1) = Nat.blt y u := by
  by_cases h2 : y < u
  · rw [cx_blt h2, cx_blt (by omega)]
  · rw [cx_bnlt (by omega), cx_bnlt (by omega)]
theorem cx_pt_0 (w y : Nat) : cx_pt w 0 y = 0 := rfl
theorem cx_b01 : Nat.beq 0 1 = false := rfl
theorem cx_pt_n {w u y : Nat} (h : cx_Y (cx_P w) u = 0) : cx_pt w (u + 1) y = cx_pt w u y := by
  unfold cx_pt
  by_cases h1 : y = u
  · subst h1
    rw [h]
    by_cases h2 : cx_A (4 * y + cx_Q w) = y
    · rw [h2, h]
      simp only [cx_b01, Bool.and_false, Bool.or_false]
    · rw [cx_bl1 h2]
      simp only [cx_b01, Bool.and_false, Bool.false_or]
  · rw [cx_bl1 h1]
    by_cases h2 : cx_A (4 * y + cx_Q w) = u
    · rw [h2, h]
      simp only [cx_b01, Bool.and_false, Bool.or_false]
    · rw [cx_bl1 h2]
theorem cx_pt_u {w u : Nat} (h : cx_Y (cx_P w) u = 1) : cx_pt w (u + 1) u = 1 := by
  unfold cx_pt
  rw [h, cx_blt (Nat.lt_succ_self u)]
  rfl
theorem cx_pt_a {w u y : Nat} (h : cx_Y (cx_P w) u = 1) (e : cx_A (4 * y + cx_Q w) = u) : cx_pt w (u + 1) y = 1 := by
  unfold cx_pt
  rw [e, h, cx_blt (Nat.lt_succ_self u)]
  simp
theorem cx_pt_o {w u y : Nat} (h1 : y ≠ u) (h2 : cx_A (4 * y + cx_Q w) ≠ u) : cx_pt w (u + 1) y = cx_pt w u y := by
  unfold cx_pt
  rw [cx_bl1 h1, cx_bl1 h2]
theorem cx_pt_e {w y : Nat} (hw : w + 1 < 120) (hy : y < 120) : cx_pt (w + 1) 120 y = cx_Y (w + 1) y := by
  have hP := cx_P_lt (v := w + 1) hw
  have hQ := cx_Q_lt (v := w + 1) hw
  have h := cx_YA hP hQ hy
  rw [cx_PQ (w := w) (by omega), cx_blt (cx_PL (w := w) (by omega)), cond_true] at h
  have h' := cx_e h
  rw [h']
  unfold cx_pt
  rw [cx_blt hy, cx_blt (cx_A_lt (by omega))]
  rcases cx_Yb (cx_P (w + 1)) y with e1 | e1 <;> rcases cx_Yb (cx_P (w + 1)) (cx_A (4 * y + cx_Q (w + 1))) with e2 | e2 <;> rw [e1, e2] <;> rfl
def cx_lq (w u x y : Nat) : Nat := if x < w then cx_Y x y else if x = w then cx_pt w u y else 0
theorem cx_lq_ix {x y w u : Nat} (hy : y < 120) (hu : u < 120) (h : ¬ (x = w ∧ y = u)) : 120 * x + y ≠ 120 * w + u := by
  omega
theorem xw_fl_in {post : SX → Prop} {J9 : Int32 → (Nat → Int32) → (Nat → Int32) → (Nat → Int32) → (Nat → Int32) → (Nat → Int32) → (Nat → Int32) → (Nat → Int32) → (Nat → Int32) → (Nat → Int32) → (Nat → Int32) → (Nat → Int32) → Prop} {w : Nat} (hw0 : 0 < w) (hw : w < 120) (hst : ∀ i, i < 120 → st i = nI (cx_P i)) (hla : ∀ i, i < 120 → la i = nI (cx_Q i)) (hap : ∀ i, i < 480 → ap i = nI (cx_A i)) (hJ : ∀ ly, (∀ x y, x < 120 → y < 120 → ly (120 * x + y) = nI (cx_lq (w + 1) 0 x y)) → J9 (nI (w + 1)) c z ar le ls sc st la ap ly jn) : ∀ d u ly, u + d = 120 → (∀ x y, x < 120 → y < 120 → ly (120 * x + y) = nI (cx_lq w u x y)) → wX_findLying_17 post J9 (nI w) li (d + 1) (nI u) c z ar le ls sc st la ap ly jn := by
  have e1 : (nI w).toNatClampNeg = w := cx_cl (by omega)
  have e2 := hst w hw
  have e3 := hla w hw
  have hP := cx_P_lt hw
  have hQ := cx_Q_lt hw
  have hPw : cx_P w < w := by
    obtain ⟨w', rfl⟩ : ∃ w', w = w' + 1 := ⟨w - 1, by omega⟩
    exact cx_Pl (w := w') (by omega)
  have iw : vp_in (nI w) 120 := vp_in_nI hw (by decide)
  intro d
  induction d with
  | zero =>
    intro u ly hd h
    obtain rfl : u = 120 := by omega
    rw [wX_findLying_17]
    refine br_t (nI_le (a := 120) (Nat.le_refl _) (by decide)) (nm_r (nI_1 w) (hJ ly ?_))
    intro x y hx hy
    rw [h x y hx hy]
    congr 1
    unfold cx_lq
    by_cases h1 : x < w
    · rw [if_pos h1, if_pos (by omega)]
    · by_cases h2 : x = w
      · rw [if_neg h1, if_pos h2, if_pos (by omega), h2]
        obtain ⟨w', rfl⟩ : ∃ w', w = w' + 1 := ⟨w - 1, by omega⟩
        exact cx_pt_e hw hy
      · rw [if_neg h1, if_neg h2, if_neg (by omega)]
        by_cases h3 : x = w + 1
        · rw [if_pos h3, cx_pt_0]
        · rw [if_neg h3]
  | succ d ih =>
    intro u ly hd h
    have hu : u < 120 := by omega
    have hA : cx_A (4 * u + cx_Q w) < 120 := cx_A_lt (by omega)
    have e4 := cx_12 (cx_P w) u
    have e5 : (nI (120 * cx_P w + u)).toNatClampNeg = 120 * cx_P w + u := cx_cl (by omega)
    have e6 : ly (120 * cx_P w + u) = nI (cx_Y (cx_P w) u) := by
      rw [h _ _ hP hu]
      unfold cx_lq
      rw [if_pos hPw]
    have e7 := cx_12 w u
    have e8 : (nI (120 * w + u)).toNatClampNeg = 120 * w + u := cx_cl (by omega)
    have e9 := cx_4r u (cx_Q w)
    have e10 : (nI (4 * u + cx_Q w)).toNatClampNeg = 4 * u + cx_Q w := cx_cl (by omega)
    have e11 := hap (4 * u + cx_Q w) (by omega)
    have e12 := cx_12 w (cx_A (4 * u + cx_Q w))
    have e13 : (nI (120 * w + cx_A (4 * u + cx_Q w))).toNatClampNeg = 120 * w + cx_A (4 * u + cx_Q w) := cx_cl (by omega)
    rw [wX_findLying_17]
    refine br_f (nI_ge (b := 120) (by omega) (by decide)) ?_
    simp only [e1, e2, e3, e4, e5, e6, e7, e8, e9, e10, e11, e12, e13]
    refine ⟨iw, vp_in_nI (by omega) (by decide), ?_⟩
    rcases cx_Yb (cx_P w) u with y0 | y1
    · rw [y0]
      refine br_t rfl (nm_r (nI_1 u) (ih (u + 1) ly (by omega) ?_))
      intro x y hx hy
      rw [h x y hx hy]
      congr 1
      unfold cx_lq
      rw [cx_pt_n y0]
    · rw [y1]
      refine br_f cx_10 ⟨vp_in_nI (by omega) (by decide), nm_e ⟨iw, vp_in_nI (by omega) (by decide), vp_in_nI (by omega) (by decide), nm_e (nm_r (nI_1 u) (ih (u + 1) _ (by omega) ?_))⟩⟩
      intro x y hx hy
      by_cases c1 : x = w
      · subst c1
        have el : cx_lq x (u + 1) x y = cx_pt x (u + 1) y := by
          unfold cx_lq
          rw [if_neg (by omega), if_pos rfl]
        have eo : cx_lq x u x y = cx_pt x u y := by
          unfold cx_lq
          rw [if_neg (by omega), if_pos rfl]
        rw [el]
        by_cases c2 : y = cx_A (4 * u + cx_Q x)
        · have ea : cx_A (4 * y + cx_Q x) = u := by
            rw [c2]
            exact cx_AA hu hQ
          rw [cx_pt_a y1 ea, c2, pk_us]
          rfl
        · rw [pk_un (cx_lq_ix hy hA (fun q => c2 q.2))]
          by_cases c3 : y = u
          · rw [c3, pk_us, cx_pt_u y1]
            rfl
          · have ea : cx_A (4 * y + cx_Q x) ≠ u := by
              intro q
              apply c2
              rw [← q, cx_AA hy hQ]
            rw [pk_un (cx_lq_ix hy hu (fun q => c3 q.2)), h x y hx hy, eo, cx_pt_o c3 ea]
      · rw [pk_un (cx_lq_ix hy hA (fun q => c1 q.1)), pk_un (cx_lq_ix hy hu (fun q => c1 q.1)), h x y hx hy]
        congr 1
        unfold cx_lq
        by_cases h1 : x < w
        · rw [if_pos h1, if_pos h1]
        · rw [if_neg h1, if_neg h1, if_neg c1, if_neg c1]
theorem xw_fl_out {post : SX → Prop} (hst : ∀ i, i < 120 → st i = nI (cx_P i)) (hla : ∀ i, i < 120 → la i = nI (cx_Q i)) (hap : ∀ i, i < 480 → ap i = nI (cx_A i)) (hp : ∀ ly, (∀ x y, x < 120 → y < 120 → ly (120 * x + y) = nI (cx_Y x y)) → post (li, c, z, ar, le, ls, sc, st, la, ap, ly, jn)) : ∀ d w ly, 0 < w → w + d = 120 → (∀ x y, x < 120 → y < 120 → ly (120 * x + y) = nI (cx_lq w 0 x y)) → wX_findLying_9 post li (d + 1) (nI w) c z ar le ls sc st la ap ly jn := by
  intro d
  induction d with
  | zero =>
    intro w ly h0 hd h
    obtain rfl : w = 120 := by omega
    rw [wX_findLying_9]
    refine br_t (nI_le (a := 120) (Nat.le_refl _) (by decide)) (hp ly ?_)
    intro x y hx hy
    rw [h x y hx hy]
    unfold cx_lq
    rw [if_pos hx]
  | succ d ih =>
    intro w ly h0 hd h
    rw [wX_findLying_9]
    exact br_f (nI_ge (b := 120) (by omega) (by decide)) ⟨121, xw_fl_in h0 (by omega) hst hla hap (fun ly' g => ih (w + 1) ly' (by omega) (by omega) g) 120 0 ly rfl h⟩
theorem cx_nb1 : vp_nar .boolean 1 = 1 := rfl
theorem cx_nb0 : vp_nar .boolean 0 = 0 := rfl
theorem xw_fl {post : SX → Prop} (hst : ∀ i, i < 120 → st i = nI (cx_P i)) (hla : ∀ i, i < 120 → la i = nI (cx_Q i)) (hap : ∀ i, i < 480 → ap i = nI (cx_A i)) (hp : ∀ ly, (∀ x y, x < 120 → y < 120 → ly (120 * x + y) = nI (cx_Y x y)) → post (li, c, z, ar, le, ls, sc, st, la, ap, ly, jn)) : wpX_findLying post (li, c, z, ar, le, ls, sc, st, la, ap, (fun _ => 0), jn) := by
  unfold wpX_findLying
  refine nm_e ⟨120, xw_fl_out hst hla hap hp 119 1 _ (by decide) rfl ?_⟩
  intro x y hx hy
  unfold cx_lq
  by_cases h1 : x < 1
  · obtain rfl : x = 0 := by omega
    rw [if_pos h1, cx_Y0 hy]
    by_cases h2 : y = 0
    · subst h2
      rfl
    · rw [pk_un (by omega), cx_bne h2]
      rfl
  · rw [if_neg h1, pk_un (by omega)]
    by_cases h2 : x = 1
    · rw [if_pos h2, cx_pt_0]
      rfl
    · rw [if_neg h2]
      rfl
abbrev cx_TX (le ls sc st la ap ly : Nat → Int32) : Prop := (∀ i, i < 120 → le i = nI (cx_L i)) ∧ (∀ i, i < 120 → ls i = nI (cx_S i)) ∧ (∀ i, i < 120 → sc i = nI (cx_C i)) ∧ (∀ i, i < 120 → st i = nI (cx_P i)) ∧ (∀ i, i < 120 → la i = nI (cx_Q i)) ∧ (∀ i, i < 480 → ap i = nI (cx_A i)) ∧ (∀ x y, x < 120 → y < 120 → ly (120 * x + y) = nI (cx_Y x y))
theorem cx_N480 : cx_N 480 = 120 := by decide +kernel
theorem xw_init {post : SX → Prop} (hp : ∀ li ar le ls sc st la ap ly, cx_TX le ls sc st la ap ly → post (li, (fun _ => 0), (fun _ => 0), ar, le, ls, sc, st, la, ap, ly, (fun _ => 0))) : wpX_init post := by
  unfold wpX_init
  refine xw_lv ?_
  intro li ar le ls st la ap h
  obtain ⟨h1, h2, h3⟩ := h
  rw [cx_N480] at h2
  refine xw_cs (fun i hi => (h2 i hi).2.1) h3 ?_
  intro sc h4
  refine xw_fl (fun i hi => (h2 i hi).2.2.2.1) (fun i hi => (h2 i hi).2.2.2.2) h3 ?_
  intro ly h5
  exact hp _ _ _ _ _ _ _ _ _ ⟨fun i hi => (h2 i hi).2.1, fun i hi => (h2 i hi).2.2.1, h4, fun i hi => (h2 i hi).2.2.2.1, fun i hi => (h2 i hi).2.2.2.2, h3, h5⟩
end
