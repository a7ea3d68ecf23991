/-! the reference: ways, and what lies inside -/
section
variable {wd sz ro nx wr ins wy rr sh : Nat → Int32}
theorem cx_wy_p {z m p : Nat} (h : cx_W p = z) : cx_wy z m p = cx_C (cx_G p) := by
  unfold cx_wy
  rw [Nat.ble_eq_true_of_le (Nat.le_of_eq h)]
  rfl
theorem cx_sw_s {z q p a : Nat} (ha : a < 4) : cx_sw z q (4 * p + a + 1) = cx_sw z q (4 * p + a) + (bif Nat.beq (cx_E (4 * p + a)) q && Nat.beq (cx_W p) z then cx_C (cx_G p) else 0) := by
  have e : (4 * p + a) / 4 = p := by omega
  show cx_sw z q (4 * p + a) + (bif Nat.beq (cx_E (4 * p + a)) q && Nat.beq (cx_W ((4 * p + a) / 4)) z then cx_C (cx_G ((4 * p + a) / 4)) else 0) = _
  rw [e]
theorem cx_wy_s1 {z q p a : Nat} (ha : a < 4) (h : cx_W p ≠ z) : cx_wy z (4 * p + a + 1) q = cx_wy z (4 * p + a) q := by
  unfold cx_wy
  rw [cx_sw_s ha, cx_bne h, Bool.and_false]
  rfl
theorem cx_wy_s2 {z q p a : Nat} (ha : a < 4) (h : q ≠ cx_E (4 * p + a) ∨ cx_W q ≤ z) : cx_wy z (4 * p + a + 1) q = cx_wy z (4 * p + a) q := by
  unfold cx_wy
  rcases h with h | h
  · rw [cx_sw_s ha, cx_bne (Ne.symm h), Bool.false_and]
    rfl
  · rw [Nat.ble_eq_true_of_le h]
    rfl
theorem cx_wy_s3 {z p a : Nat} (ha : a < 4) (h1 : cx_W p = z) (h2 : z < cx_W (cx_E (4 * p + a))) : cx_wy z (4 * p + a + 1) (cx_E (4 * p + a)) = cx_wy z (4 * p + a) (cx_E (4 * p + a)) + cx_C (cx_G p) := by
  unfold cx_wy
  have h3 : Nat.ble (cx_W (cx_E (4 * p + a))) z = false := by
    cases h : Nat.ble (cx_W (cx_E (4 * p + a))) z
    · rfl
    · have := Nat.le_of_ble_eq_true h
      omega
  rw [h3, cx_sw_s ha, cx_beq rfl, cx_beq h1]
  rfl
theorem cx_upd_same {f : Nat → Int32} {k : Nat} : upd f k (f k) = f := by
  funext j
  by_cases e : j = k
  · rw [e, pk_us]
  · rw [pk_un e]
theorem yw_aw_in {post : SY → Prop} {J2 : Int32 → (Nat → Int32) → (Nat → Int32) → (Nat → Int32) → (Nat → Int32) → (Nat → Int32) → (Nat → Int32) → (Nat → Int32) → (Nat → Int32) → (Nat → Int32) → Prop} {zz p : Nat} (hzz : zz < 10) (h120 : p < 120) (hnx : ∀ i, i < 480 → nx i = nI (cx_E i)) (hwr : ∀ i, i < 120 → wr i = nI (cx_W i)) (hJ : ∀ wy, (∀ q, q < 120 → wy q = nI (cx_wy zz (4 * (p + 1)) q)) → J2 (nI (p + 1)) wd sz ro nx wr ins wy rr sh) : ∀ d a wy, a + d = 4 → (∀ q, q < 120 → wy q = nI (cx_wy zz (4 * p + a) q)) → wY_addWays_10 post J2 (nI zz) (nI p) (d + 1) (nI a) wd sz ro nx wr ins wy rr sh := by
  have e1 : (nI p).toNatClampNeg = p := cx_cl (by omega)
  have e2 := hwr p h120
  have ip : vp_in (nI p) 120 := vp_in_nI h120 (by decide)
  have hWp := cx_W_lt h120
  intro d
  induction d with
  | zero =>
    intro a wy hd h
    obtain rfl : a = 4 := by omega
    rw [wY_addWays_10]
    exact br_t (nI_le (a := 4) (Nat.le_refl _) (by decide)) (nm_r (nI_1 p) (hJ wy h))
  | succ d ih =>
    intro a wy hd h
    have ha : a < 4 := by omega
    have hE : cx_E (4 * p + a) < 120 := cx_E_lt (by omega)
    have hWq := cx_W_lt hE
    have e5 := cx_4l p a
    have e6 : (nI (4 * p + a)).toNatClampNeg = 4 * p + a := cx_cl (by omega)
    have e7 := hnx (4 * p + a) (by omega)
    have e8 : (nI (cx_E (4 * p + a))).toNatClampNeg = cx_E (4 * p + a) := cx_cl (by omega)
    have e9 := hwr _ hE
    have iE : vp_in (nI (cx_E (4 * p + a))) 120 := vp_in_nI hE (by decide)
    rw [wY_addWays_10]
    refine br_f (nI_ge (b := 4) (by omega) (by decide)) ?_
    simp only [e5, e6, e7]
    refine ⟨vp_in_nI (by omega) (by decide), nm_e ?_⟩
    simp only [e1, e2, e8, e9, cx_upd_same]
    refine ⟨ip, pk_eq (cx_W p) zz (fun h1 => ⟨iE, pk_le (cx_W (cx_E (4 * p + a))) zz (fun h2 => ⟨iE, iE, nm_e (nm_r (nI_1 a) (ih (a + 1) _ (by omega) ?_))⟩) (fun h2 => ⟨iE, ip, iE, nm_e (nm_r (nI_1 a) (ih (a + 1) _ (by omega) ?_))⟩) rfl rfl (by omega) (by omega)⟩) (fun h1 => ⟨iE, iE, nm_e (nm_r (nI_1 a) (ih (a + 1) _ (by omega) ?_))⟩) rfl rfl (by omega) (by omega)⟩
    · intro q hq
      rw [h q hq]
      congr 1
      by_cases c : q = cx_E (4 * p + a)
      · exact (cx_wy_s2 ha (Or.inr (by rw [c]; exact h2))).symm
      · exact (cx_wy_s2 ha (Or.inl c)).symm
    · intro q hq
      by_cases c : q = cx_E (4 * p + a)
      · rw [c, pk_us, h _ hE, h p h120, nI_add, cx_wy_p h1]
        congr 1
        exact (cx_wy_s3 ha h1 h2).symm
      · rw [pk_un c, h q hq]
        congr 1
        exact (cx_wy_s2 ha (Or.inl c)).symm
    · intro q hq
      rw [h q hq]
      congr 1
      exact (cx_wy_s1 ha h1).symm
theorem yw_aw_out {post : SY → Prop} {zz : Nat} (hzz : zz < 10) (hnx : ∀ i, i < 480 → nx i = nI (cx_E i)) (hwr : ∀ i, i < 120 → wr i = nI (cx_W i)) (hp : ∀ wy, (∀ q, q < 120 → wy q = nI (cx_wy (zz + 1) 0 q)) → post (wd, sz, ro, nx, wr, ins, wy, rr, sh)) : ∀ d p wy, p + d = 120 → (∀ q, q < 120 → wy q = nI (cx_wy zz (4 * p) q)) → wY_addWays_2 post (nI zz) (d + 1) (nI p) wd sz ro nx wr ins wy rr sh := by
  intro d
  induction d with
  | zero =>
    intro p wy hd h
    obtain rfl : p = 120 := by omega
    rw [wY_addWays_2]
    refine br_t (nI_le (a := 120) (Nat.le_refl _) (by decide)) (hp wy ?_)
    intro q hq
    rw [h q hq, ← cx_wy_e hq]
  | succ d ih =>
    intro p wy hd h
    rw [wY_addWays_2]
    exact br_f (nI_ge (b := 120) (by omega) (by decide)) ⟨5, yw_aw_in hzz (by omega) hnx hwr (fun wy' g => ih (p + 1) wy' (by omega) g) 4 0 wy rfl h⟩
theorem yw_aw {post : SY → Prop} {zz : Nat} (hzz : zz < 10) (hnx : ∀ i, i < 480 → nx i = nI (cx_E i)) (hwr : ∀ i, i < 120 → wr i = nI (cx_W i)) (h : ∀ q, q < 120 → wy q = nI (cx_wy zz 0 q)) (hp : ∀ wy, (∀ q, q < 120 → wy q = nI (cx_wy (zz + 1) 0 q)) → post (wd, sz, ro, nx, wr, ins, wy, rr, sh)) : wpY_addWays post (wd, sz, ro, nx, wr, ins, wy, rr, sh) (nI zz) := by
  show ∃ n, wY_addWays_2 post (nI zz) n 0 wd sz ro nx wr ins wy rr sh
  exact ⟨121, yw_aw_out hzz hnx hwr hp 120 0 wy rfl h⟩
theorem yw_sw48 {post : Int32 → SY → Prop} {p : Nat} (h120 : p < 120) (hnx : ∀ i, i < 480 → nx i = nI (cx_E i)) (hwr : ∀ i, i < 120 → wr i = nI (cx_W i)) (hp : ∀ wy, post (nI (cx_C (cx_G p))) (wd, sz, ro, nx, wr, ins, wy, rr, sh)) : ∀ d i wy, i + d = 10 → (∀ q, q < 120 → wy q = nI (cx_wy i 0 q)) → wY_shortWords_48 post (nI p) (d + 1) (nI i) wd sz ro nx wr ins wy rr sh := by
  have e1 : (nI p).toNatClampNeg = p := cx_cl (by omega)
  intro d
  induction d with
  | zero =>
    intro i wy hd h
    obtain rfl : i = 10 := by omega
    have e2 := h p h120
    rw [cx_wy_10 h120] at e2
    rw [wY_shortWords_48]
    refine br_t (nI_le (a := 10) (Nat.le_refl _) (by decide)) ⟨vp_in_nI h120 (by decide), ?_⟩
    rw [e1, e2]
    exact hp wy
  | succ d ih =>
    intro i wy hd h
    rw [wY_shortWords_48]
    exact br_f (nI_ge (b := 10) (by omega) (by decide)) (yw_aw (by omega) hnx hwr h (fun wy' g => nm_r (nI_1 i) (ih (i + 1) wy' (by omega) g)))
theorem yw_sw19 {post : Int32 → SY → Prop} {p : Nat} (h120 : p < 120) (hnx : ∀ i, i < 480 → nx i = nI (cx_E i)) (hwr : ∀ i, i < 120 → wr i = nI (cx_W i)) (hp : ∀ wy, post (nI (cx_C (cx_G p))) (wd, sz, ro, nx, wr, ins, wy, rr, sh)) : ∀ d i wy, i + d = 120 → (∀ q, q < i → wy q = nI (cx_wy 0 0 q)) → wY_shortWords_19 post (nI p) (d + 1) (nI i) wd sz ro nx wr ins wy rr sh := by
  intro d
  induction d with
  | zero =>
    intro i wy hd h
    obtain rfl : i = 120 := by omega
    rw [wY_shortWords_19]
    exact br_t (nI_le (a := 120) (Nat.le_refl _) (by decide)) ⟨11, yw_sw48 h120 hnx hwr hp 10 0 wy rfl h⟩
  | succ d ih =>
    intro i wy hd h
    have e1 : (nI i).toNatClampNeg = i := cx_cl (by omega)
    have ii : vp_in (nI i) 120 := vp_in_nI (by omega) (by decide)
    have h0 := cx_wy_0 (q := i) (by omega)
    rw [wY_shortWords_19]
    refine br_f (nI_ge (b := 120) (by omega) (by decide)) ?_
    simp only [e1]
    refine pk_eq i 0 (fun h1 => ⟨ii, nm_e (nm_r (nI_1 i) (ih (i + 1) _ (by omega) (cx_row (r := cx_wy 0 0) (y := 1) h ?_)))⟩) (fun h1 => ⟨ii, nm_e (nm_r (nI_1 i) (ih (i + 1) _ (by omega) (cx_row (r := cx_wy 0 0) (y := 0) h ?_)))⟩) rfl rfl (by omega) (by omega)
    · rw [h0, cx_beq h1]
      rfl
    · rw [h0, cx_bne h1]
      rfl
theorem cx_G0 : ∀ q, q < 120 → cx_Y 0 (cx_G q) = (bif Nat.beq q 0 then 1 else 0) := by
  intro q hq
  rw [cx_Y0 (cx_G_lt hq)]
  by_cases h : q = 0
  · subst h
    decide +kernel
  · rw [cx_bne h]
    by_cases h2 : cx_G q = 0
    · exfalso
      apply h
      have h3 := cx_FG hq
      rw [h2, cx_F0] at h3
      exact h3.symm
    · rw [cx_bne h2]
theorem cx_step {v i q : Nat} (hv : v < 120) (hi : i < cx_L v) (hq : q < 120) : cx_Y (cx_pf v (i + 1)) (cx_G q) = (bif Nat.beq (cx_Y (cx_pf v i) (cx_G q)) 0 then cx_Y (cx_pf v i) (cx_G (cx_E (4 * q + cx_hl (cx_I v) i))) else 1) := by
  have hL := cx_L_lt hv
  have h1 := cx_pfi (v := v) (i := i) hv (by omega)
  rw [cx_blt hi, cond_true] at h1
  have ha := cx_hl_lt (cx_I v) i
  have h2 := cx_YA (cx_pf_lt hv i) ha (cx_G_lt hq)
  have h3 : Nat.blt (cx_L (cx_pf v i)) (cx_L (cx_A (4 * cx_pf v i + cx_hl (cx_I v) i))) = true := h1
  rw [h3, cond_true] at h2
  have h4 := cx_e h2
  rw [cx_lor (cx_Yb _ _) (cx_Yb _ _)] at h4
  rw [cx_GE hq ha]
  exact h4
theorem yw_112 {post : SY → Prop} {J43 : Int32 → (Nat → Int32) → (Nat → Int32) → (Nat → Int32) → (Nat → Int32) → (Nat → Int32) → (Nat → Int32) → (Nat → Int32) → (Nat → Int32) → (Nat → Int32) → Prop} {x1 : Int32} {i : Nat} {f : Nat → Nat} (hf : ∀ q, f q = 0 ∨ f q = 1) (hwy : ∀ q, q < 120 → wy q = nI (f q)) (hJ : ∀ ins, (∀ q, q < 120 → ins q = nI (f q)) → J43 (nI (i + 1)) wd sz ro nx wr ins wy rr sh) : ∀ d q ins, q + d = 120 → (∀ j, j < q → ins j = nI (f j)) → wY_markInside_112 post J43 x1 (nI i) (d + 1) (nI q) wd sz ro nx wr ins wy rr sh := by
  intro d
  induction d with
  | zero =>
    intro q ins hd h
    obtain rfl : q = 120 := by omega
    rw [wY_markInside_112]
    exact br_t (nI_le (a := 120) (Nat.le_refl _) (by decide)) (nm_r (nI_1 i) (hJ ins h))
  | succ d ih =>
    intro q ins hd h
    have e1 : (nI q).toNatClampNeg = q := cx_cl (by omega)
    have e2 := hwy q (by omega)
    have iq : vp_in (nI q) 120 := vp_in_nI (by omega) (by decide)
    rw [wY_markInside_112]
    refine br_f (nI_ge (b := 120) (by omega) (by decide)) ?_
    simp only [e1, e2, cx_nb1, cx_nb0]
    refine ⟨iq, pk_eq (f q) 1 (fun h1 => ⟨iq, nm_e (nm_r (nI_1 q) (ih (q + 1) _ (by omega) (cx_row (r := f) (y := 1) h h1.symm)))⟩) (fun h1 => ⟨iq, nm_e (nm_r (nI_1 q) (ih (q + 1) _ (by omega) (cx_row (r := f) (y := 0) h ?_)))⟩) rfl rfl ?_ (by omega)⟩
    · rcases hf q with h2 | h2
      · exact h2.symm
      · exact absurd h2 h1
    · rcases hf q with h2 | h2 <;> rw [h2] <;> decide
theorem yw_55 {post : SY → Prop} {J43 : Int32 → (Nat → Int32) → (Nat → Int32) → (Nat → Int32) → (Nat → Int32) → (Nat → Int32) → (Nat → Int32) → (Nat → Int32) → (Nat → Int32) → (Nat → Int32) → Prop} {x1 : Int32} {v i : Nat} (hv : v < 120) (hi : i < cx_L v) (hnx : ∀ i, i < 480 → nx i = nI (cx_E i)) (hsh : ∀ i, i < cx_L v → sh i = nI (cx_hl (cx_I v) i)) (hin : ∀ q, q < 120 → ins q = nI (cx_Y (cx_pf v i) (cx_G q))) (hJ : ∀ ins wy, (∀ q, q < 120 → ins q = nI (cx_Y (cx_pf v (i + 1)) (cx_G q))) → J43 (nI (i + 1)) wd sz ro nx wr ins wy rr sh) : ∀ d q wy, q + d = 120 → (∀ j, j < q → wy j = nI (cx_Y (cx_pf v (i + 1)) (cx_G j))) → wY_markInside_55 post J43 x1 (nI i) (d + 1) (nI q) wd sz ro nx wr ins wy rr sh := by
  have hL := cx_L_lt hv
  intro d
  induction d with
  | zero =>
    intro q wy hd h
    obtain rfl : q = 120 := by omega
    rw [wY_markInside_55]
    exact br_t (nI_le (a := 120) (Nat.le_refl _) (by decide)) ⟨121, yw_112 (f := fun q => cx_Y (cx_pf v (i + 1)) (cx_G q)) (fun q => cx_Yb _ _) h (fun ins' g => hJ ins' wy g) 120 0 ins rfl (fun j hj => absurd hj (Nat.not_lt_zero j))⟩
  | succ d ih =>
    intro q wy hd h
    have hq : q < 120 := by omega
    have ha := cx_hl_lt (cx_I v) i
    have hE : cx_E (4 * q + cx_hl (cx_I v) i) < 120 := cx_E_lt (by omega)
    have e1 : (nI q).toNatClampNeg = q := cx_cl (by omega)
    have e2 : (nI i).toNatClampNeg = i := cx_cl (by omega)
    have e3 := hin q hq
    have e4 := hsh i hi
    have e5 := cx_4l q (cx_hl (cx_I v) i)
    have e6 : (nI (4 * q + cx_hl (cx_I v) i)).toNatClampNeg = 4 * q + cx_hl (cx_I v) i := cx_cl (by omega)
    have e7 := hnx (4 * q + cx_hl (cx_I v) i) (by omega)
    have e8 : (nI (cx_E (4 * q + cx_hl (cx_I v) i))).toNatClampNeg = cx_E (4 * q + cx_hl (cx_I v) i) := cx_cl (by omega)
    have e9 := hin _ hE
    have iq : vp_in (nI q) 120 := vp_in_nI hq (by decide)
    have hs := cx_step hv hi hq
    rw [wY_markInside_55]
    refine br_f (nI_ge (b := 120) (by omega) (by decide)) ?_
    simp only [e1, e2, e3, e4, e5, e6, e7, e8, e9]
    refine ⟨iq, ?_⟩
    rcases cx_Yb (cx_pf v i) (cx_G q) with y0 | y1
    · rw [y0] at hs ⊢
      refine br_t rfl ⟨vp_in_nI (by omega) (by decide), vp_in_nI (by omega) (by decide), vp_in_nI hE (by decide), ?_⟩
      rcases cx_Yb (cx_pf v i) (cx_G (cx_E (4 * q + cx_hl (cx_I v) i))) with z0 | z1
      · rw [z0] at hs ⊢
        exact br_t rfl ⟨iq, nm_e (nm_r (nI_1 q) (ih (q + 1) _ (by omega) (cx_row (r := fun j => cx_Y (cx_pf v (i + 1)) (cx_G j)) (y := 0) h hs.symm)))⟩
      · rw [z1] at hs ⊢
        exact br_f cx_10 ⟨iq, nm_e (nm_r (nI_1 q) (ih (q + 1) _ (by omega) (cx_row (r := fun j => cx_Y (cx_pf v (i + 1)) (cx_G j)) (y := 1) h hs.symm)))⟩
    · rw [y1] at hs ⊢
      exact br_f cx_10 ⟨iq, nm_e (nm_r (nI_1 q) (ih (q + 1) _ (by omega) (cx_row (r := fun j => cx_Y (cx_pf v (i + 1)) (cx_G j)) (y := 1) h hs.symm)))⟩
theorem yw_43 {post : SY → Prop} {v : Nat} (hv : v < 120) (hnx : ∀ i, i < 480 → nx i = nI (cx_E i)) (hwr : ∀ i, i < 120 → wr i = nI (cx_W i)) (hsh : ∀ i, i < cx_L v → sh i = nI (cx_hl (cx_I v) i)) (hp : ∀ ins wy, (∀ q, q < 120 → ins q = nI (cx_Y v (cx_G q))) → post (wd, sz, ro, nx, wr, ins, wy, rr, sh)) : ∀ d i ins wy, i + d = cx_L v → (∀ q, q < 120 → ins q = nI (cx_Y (cx_pf v i) (cx_G q))) → wY_markInside_43 post (nI (cx_F v)) (d + 1) (nI i) wd sz ro nx wr ins wy rr sh := by
  have hF := cx_F_lt hv
  have hL := cx_L_lt hv
  have e1 : (nI (cx_F v)).toNatClampNeg = cx_F v := cx_cl (by omega)
  have e2 := hwr _ hF
  rw [cx_LW hv] at e2
  have iF : vp_in (nI (cx_F v)) 120 := vp_in_nI hF (by decide)
  intro d
  induction d with
  | zero =>
    intro i ins wy hd h
    obtain rfl : i = cx_L v := by omega
    rw [cx_pfL hv] at h
    rw [wY_markInside_43]
    simp only [e1, e2]
    exact ⟨iF, br_t (nI_le (Nat.le_refl _) (by omega)) (hp ins wy h)⟩
  | succ d ih =>
    intro i ins wy hd h
    rw [wY_markInside_43]
    simp only [e1, e2]
    exact ⟨iF, br_f (nI_ge (by omega) (by omega)) ⟨121, yw_55 hv (by omega) hnx hsh h (fun ins' wy' g => ih (i + 1) ins' wy' (by omega) g) 120 0 wy rfl (fun j hj => absurd hj (Nat.not_lt_zero j))⟩⟩
theorem yw_7 {post : SY → Prop} {v : Nat} (hv : v < 120) (hnx : ∀ i, i < 480 → nx i = nI (cx_E i)) (hwr : ∀ i, i < 120 → wr i = nI (cx_W i)) (hsh : ∀ i, i < cx_L v → sh i = nI (cx_hl (cx_I v) i)) (hp : ∀ ins wy, (∀ q, q < 120 → ins q = nI (cx_Y v (cx_G q))) → post (wd, sz, ro, nx, wr, ins, wy, rr, sh)) : ∀ d q ins wy, q + d = 120 → (∀ j, j < q → ins j = nI (cx_Y 0 (cx_G j))) → wY_markInside_7 post (nI (cx_F v)) (d + 1) (nI q) wd sz ro nx wr ins wy rr sh := by
  intro d
  induction d with
  | zero =>
    intro q ins wy hd h
    obtain rfl : q = 120 := by omega
    rw [wY_markInside_7]
    exact br_t (nI_le (a := 120) (Nat.le_refl _) (by decide)) ⟨cx_L v + 1, yw_43 hv hnx hwr hsh hp (cx_L v) 0 ins wy (by omega) h⟩
  | succ d ih =>
    intro q ins wy hd h
    have hq : q < 120 := by omega
    have e1 : (nI q).toNatClampNeg = q := cx_cl (by omega)
    have iq : vp_in (nI q) 120 := vp_in_nI hq (by decide)
    have h0 := cx_G0 q hq
    rw [wY_markInside_7]
    refine br_f (nI_ge (b := 120) (by omega) (by decide)) ?_
    unfold wY_markInside_27
    simp only [e1, cx_nb1, cx_nb0]
    refine pk_eq q 0 (fun h1 => ⟨iq, nm_e ⟨iq, nm_e (nm_r (nI_1 q) (ih (q + 1) _ _ (by omega) (cx_row (r := fun j => cx_Y 0 (cx_G j)) (y := 1) h ?_)))⟩⟩) (fun h1 => ⟨iq, nm_e ⟨iq, nm_e (nm_r (nI_1 q) (ih (q + 1) _ _ (by omega) (cx_row (r := fun j => cx_Y 0 (cx_G j)) (y := 0) h ?_)))⟩⟩) rfl rfl (by omega) (by omega)
    · rw [cx_beq h1] at h0
      exact h0.symm
    · rw [cx_bne h1] at h0
      exact h0.symm
theorem yw_mi {post : SY → Prop} {v : Nat} (hv : v < 120) (ht : cx_TB ro nx wr) (hp : ∀ ins wy rr sh, (∀ q, q < 120 → ins q = nI (cx_Y v (cx_G q))) → post (wd, sz, ro, nx, wr, ins, wy, rr, sh)) : wpY_markInside post (wd, sz, ro, nx, wr, ins, wy, rr, sh) (nI (cx_F v)) := by
  obtain ⟨hro, hnx, hwr⟩ := ht
  unfold wpY_markInside
  refine yw_fs hv hro hwr ?_
  intro rr' sh' hsh
  exact ⟨121, yw_7 hv hnx hwr hsh (fun ins' wy' g => hp ins' wy' rr' sh' g) 120 0 ins wy rfl (fun j hj => absurd hj (Nat.not_lt_zero j))⟩
end
