/-! the reference: letters, shortest words, sets -/
section
variable {wd sz ro nx wr ins wy rr sh : Nat → Int32}
theorem yw_bw_l {post : Int32 → Prop} {p a : Nat} (h120 : p < 120) (ha : a < 4) (hro : ∀ j, j < 600 → ro j = nI (cx_O j)) : ∀ d i, i + d = 5 → post (bif cx_bf p a d i then 1 else 0) → wY_beginsWith_2 post (nI p) (nI a) wd sz ro nx wr ins wy rr sh (d + 1) (nI i) := by
  intro d
  induction d with
  | zero =>
    intro i hi hp
    rw [wY_beginsWith_2]
    exact br_t (nI_le (a := 5) (by omega) (by omega)) hp
  | succ d ih =>
    intro i hi hp
    have hO := cx_O_lt (i := 5 * p + i) (by omega)
    have e5 := cx_5l p i
    have e6 : (nI (5 * p + i)).toNatClampNeg = 5 * p + i := cx_cl (by omega)
    have e7 := hro (5 * p + i) (by omega)
    have e8 := nI_1 a
    have hq : post (bif (bif Nat.beq (cx_O (5 * p + i)) a then false else bif Nat.beq (cx_O (5 * p + i)) (a + 1) then true else cx_bf p a d (i + 1)) then 1 else 0) := hp
    rw [wY_beginsWith_2]
    refine br_f (nI_ge (b := 5) (by omega) (by decide)) ?_
    simp only [e5, e6, e7, e8]
    have ii : vp_in (nI (5 * p + i)) 600 := vp_in_nI (by omega) (by decide)
    refine ⟨ii, pk_eq (cx_O (5 * p + i)) a (fun h => ?_) (fun h => ⟨ii, pk_eq (cx_O (5 * p + i)) (a + 1) (fun h2 => ?_) (fun h2 => ?_) rfl rfl (by omega) (by omega)⟩) rfl rfl (by omega) (by omega)⟩
    · rw [cx_beq h] at hq
      exact hq
    · rw [cx_bne h, cx_beq h2] at hq
      exact hq
    · rw [cx_bne h, cx_bne h2] at hq
      exact nm_r (nI_1 i) (ih (i + 1) (by omega) hq)
theorem yw_bw {post : Int32 → Prop} {p a : Nat} (h120 : p < 120) (ha : a < 4) (hro : ∀ j, j < 600 → ro j = nI (cx_O j)) (hp : post (bif cx_bw p a then 1 else 0)) : wpY_beginsWith post (wd, sz, ro, nx, wr, ins, wy, rr, sh) (nI p) (nI a) := by
  show ∃ n, wY_beginsWith_2 post (nI p) (nI a) wd sz ro nx wr ins wy rr sh n 0
  exact ⟨6, yw_bw_l h120 ha hro 5 0 rfl hp⟩
theorem yw_fl_l {post : Int32 → Prop} {p : Nat} (h120 : p < 120) (hro : ∀ j, j < 600 → ro j = nI (cx_O j)) : ∀ d i, i + d = 4 → post (nI (cx_ft (cx_bw p) 3 d i)) → wY_firstLetter_2 post (nI p) wd sz ro nx wr ins wy rr sh (d + 1) (nI i) := by
  intro d
  induction d with
  | zero =>
    intro i hi hp
    rw [wY_firstLetter_2]
    exact br_t (nI_le (a := 4) (by omega) (by omega)) hp
  | succ d ih =>
    intro i hi hp
    rw [wY_firstLetter_2]
    refine br_f (nI_ge (b := 4) (by omega) (by decide)) (yw_bw h120 (by omega) hro ?_)
    have hq : post (nI (bif cx_bw p i then i else cx_ft (cx_bw p) 3 d (i + 1))) := hp
    cases h : cx_bw p i
    · rw [h] at hq
      exact br_t rfl (nm_r (nI_1 i) (ih (i + 1) (by omega) hq))
    · rw [h] at hq
      exact br_f cx_10 hq
theorem yw_fl {post : Int32 → Prop} {p : Nat} (h120 : p < 120) (hro : ∀ j, j < 600 → ro j = nI (cx_O j)) (hp : post (nI (cx_fl p))) : wpY_firstLetter post (wd, sz, ro, nx, wr, ins, wy, rr, sh) (nI p) := by
  show ∃ n, wY_firstLetter_2 post (nI p) wd sz ro nx wr ins wy rr sh n 0
  exact ⟨5, yw_fl_l h120 hro 4 0 rfl hp⟩
theorem cx_row {r : Nat → Nat} {x y : Nat} (hr : ∀ j, j < x → rr j = nI (r j)) (e : y = r x) : ∀ j, j < x + 1 → upd rr x (nI y) j = nI (r j) := by
  intro j hj
  by_cases h : j = x
  · rw [h, pk_us, e]
  · rw [pk_un h]
    exact hr j (by omega)
theorem cx_x2_lt {p a j : Nat} (h120 : p < 120) (ha : a < 4) (hj : j < 5) : cx_x2 p a j < 5 := by
  have hO := cx_O_lt (i := 5 * p + j) (by omega)
  unfold cx_x2
  cases Nat.beq (cx_O (5 * p + j)) a
  · cases Nat.beq (cx_O (5 * p + j)) (a + 1)
    · exact hO
    · show a < 5
      omega
  · show a + 1 < 5
    omega
theorem yw_wf_l {post : Int32 → SY → Prop} {p a : Nat} (h120 : p < 120) (ha : a < 4) (hro : ∀ j, j < 600 → ro j = nI (cx_O j)) (hp : ∀ rr, post (nI (cx_num (cx_x2 p a))) (wd, sz, ro, nx, wr, ins, wy, rr, sh)) : ∀ d x rr, x + d = 5 → (∀ j, j < x → rr j = nI (cx_x2 p a j)) → wY_withoutFirst_2 post (nI p) (nI a) (d + 1) (nI x) wd sz ro nx wr ins wy rr sh := by
  intro d
  induction d with
  | zero =>
    intro x rr hx hr
    obtain rfl : x = 5 := by omega
    rw [wY_withoutFirst_2]
    exact br_t (nI_le (a := 5) (Nat.le_refl _) (by decide)) (yw_nr (r := cx_x2 p a) (fun j hj => ⟨hr j hj, cx_x2_lt h120 ha hj⟩) (hp rr))
  | succ d ih =>
    intro x rr hx hr
    have hO := cx_O_lt (i := 5 * p + x) (by omega)
    have e1 : (nI x).toNatClampNeg = x := cx_cl (by omega)
    have e5 := cx_5l p x
    have e6 : (nI (5 * p + x)).toNatClampNeg = 5 * p + x := cx_cl (by omega)
    have e7 := hro (5 * p + x) (by omega)
    have e8 := nI_1 a
    have ix : vp_in (nI x) 5 := vp_in_nI (by omega) (by decide)
    rw [wY_withoutFirst_2]
    refine br_f (nI_ge (b := 5) (by omega) (by decide)) ?_
    simp only [e1, e5, e6, e7, e8]
    refine ⟨vp_in_nI (by omega) (by decide), nm_e (pk_eq (cx_O (5 * p + x)) a (fun h => ?_) (fun h => pk_eq (cx_O (5 * p + x)) (a + 1) (fun h2 => ?_) (fun h2 => ?_) rfl rfl (by omega) (by omega)) rfl rfl (by omega) (by omega))⟩
    · refine ⟨ix, nm_e (nm_r (nI_1 x) (ih (x + 1) _ (by omega) (cx_row hr ?_)))⟩
      unfold cx_x2
      rw [cx_beq h]
      rfl
    · refine ⟨ix, nm_e (nm_r (nI_1 x) (ih (x + 1) _ (by omega) (cx_row hr ?_)))⟩
      unfold cx_x2
      rw [cx_bne h, cx_beq h2]
      rfl
    · refine ⟨ix, nm_e (nm_r (nI_1 x) (ih (x + 1) _ (by omega) (cx_row hr ?_)))⟩
      unfold cx_x2
      rw [cx_bne h, cx_bne h2]
      rfl
theorem yw_wf {post : Int32 → SY → Prop} {p a : Nat} (h120 : p < 120) (ha : a < 4) (hro : ∀ j, j < 600 → ro j = nI (cx_O j)) (hp : ∀ rr, post (nI (cx_num (cx_x2 p a))) (wd, sz, ro, nx, wr, ins, wy, rr, sh)) : wpY_withoutFirst post (wd, sz, ro, nx, wr, ins, wy, rr, sh) (nI p) (nI a) := by
  show ∃ n, wY_withoutFirst_2 post (nI p) (nI a) n 0 wd sz ro nx wr ins wy rr sh
  exact ⟨6, yw_wf_l h120 ha hro hp 5 0 rr rfl (fun j hj => absurd hj (Nat.not_lt_zero j))⟩
theorem yw_fs_l {post : SY → Prop} {m t : Nat} (hm : m ≤ 10) (ht : t < 120) (hro : ∀ j, j < 600 → ro j = nI (cx_O j)) (hp : ∀ rr sh, (∀ i, i < m → sh i = nI (cx_hl t i)) → post (wd, sz, ro, nx, wr, ins, wy, rr, sh)) : ∀ d i rr sh, i + d = m → (∀ j, j < i → sh j = nI (cx_hl t j)) → wY_findShortest_12 post (nI m) (d + 1) (nI (cx_F (cx_I (cx_rs t i)))) (nI i) wd sz ro nx wr ins wy rr sh := by
  intro d
  induction d with
  | zero =>
    intro i rr sh hi h
    obtain rfl : i = m := by omega
    rw [wY_findShortest_12]
    exact br_t (nI_le (Nat.le_refl _) (by omega)) (hp rr sh h)
  | succ d ih =>
    intro i rr sh hi h
    have h1 := cx_rs_lt ht i
    have h2 := cx_fe_lt (cx_rs t i)
    have hF := cx_F_lt (cx_I_lt h1)
    have e1 : (nI i).toNatClampNeg = i := cx_cl (by omega)
    have ii : vp_in (nI i) 10 := vp_in_nI (by omega) (by decide)
    rw [wY_findShortest_12]
    refine br_f (nI_ge (by omega) (by omega)) (yw_fl hF hro ?_)
    rw [cx_flfe h1]
    simp only [e1]
    refine ⟨ii, nm_e ⟨ii, ?_⟩⟩
    rw [pk_us]
    refine yw_wf hF h2 hro (fun rr' => ?_)
    rw [cx_wf h1]
    exact nm_r (nI_1 i) (ih (i + 1) _ _ (by omega) (cx_row h rfl))
theorem yw_fs {post : SY → Prop} {v : Nat} (hv : v < 120) (hro : ∀ j, j < 600 → ro j = nI (cx_O j)) (hwr : ∀ i, i < 120 → wr i = nI (cx_W i)) (hp : ∀ rr sh, (∀ i, i < cx_L v → sh i = nI (cx_hl (cx_I v) i)) → post (wd, sz, ro, nx, wr, ins, wy, rr, sh)) : wpY_findShortest post (wd, sz, ro, nx, wr, ins, wy, rr, sh) (nI (cx_F v)) := by
  have hF := cx_F_lt hv
  have hL := cx_L_lt hv
  have e1 : (nI (cx_F v)).toNatClampNeg = cx_F v := cx_cl (by omega)
  have e2 := hwr _ hF
  rw [cx_LW hv] at e2
  unfold wpY_findShortest
  dsimp only
  simp only [e1, e2]
  refine ⟨vp_in_nI hF (by decide), nm_e ⟨cx_L v + 1, ?_⟩⟩
  have h := yw_fs_l (wd := wd) (sz := sz) (nx := nx) (wr := wr) (ins := ins) (wy := wy) (post := post) (show cx_L v ≤ 10 by omega) (cx_I_lt hv) hro hp (cx_L v) 0 rr sh (by omega) (fun j hj => absurd hj (Nat.not_lt_zero j))
  have e3 : cx_I (cx_rs (cx_I v) 0) = v := cx_II hv
  rw [e3] at h
  exact h
theorem yw_sh_l {post : Int32 → SY → Prop} {s m : Nat} {h : Nat → Nat} (hs : s < 3) (hm : m ≤ 10) (hz : sz s = nI m) (hsh : ∀ i, i < m → sh i = nI (h i)) (hp : post (nI m) (cx_put wd (24 * s) h m, sz, ro, nx, wr, ins, wy, rr, sh)) : ∀ d i, i + d = m → wY_shorten_36 post (nI s) (d + 1) (nI i) (cx_put wd (24 * s) h i) sz ro nx wr ins wy rr sh := by
  have e1 : (nI s).toNatClampNeg = s := cx_cl (by omega)
  have is : vp_in (nI s) 3 := vp_in_nI hs (by decide)
  intro d
  induction d with
  | zero =>
    intro i hi
    obtain rfl : i = m := by omega
    rw [wY_shorten_36]
    simp only [e1, hz]
    exact ⟨is, br_t (nI_le (Nat.le_refl _) (by omega)) ⟨is, hp⟩⟩
  | succ d ih =>
    intro i hi
    have e2 : (nI i).toNatClampNeg = i := cx_cl (by omega)
    have e3 := cx_24l s i
    have e4 : (nI (24 * s + i)).toNatClampNeg = 24 * s + i := cx_cl (by omega)
    have e5 := hsh i (by omega)
    rw [wY_shorten_36]
    simp only [e1, hz, e2, e3, e4, e5]
    exact ⟨is, br_f (nI_ge (by omega) (by omega)) ⟨vp_in_nI (by omega) (by decide), vp_in_nI (by omega) (by decide), nm_e (nm_r (nI_1 i) (ih (i + 1) (by omega)))⟩⟩
theorem yw_en_l {post : Int32 → Prop} {p : Nat} (h120 : p < 120) (hnx : ∀ i, i < 480 → nx i = nI (cx_E i)) (hwr : ∀ i, i < 120 → wr i = nI (cx_W i)) : ∀ d i s, i + d = 4 → post (cx_fs (fun a => Nat.blt (cx_W (cx_E (4 * p + a))) (cx_W p)) d i s) → wY_endings_22 post (nI p) wd sz ro nx wr ins wy rr sh (d + 1) s (nI i) := by
  intro d
  induction d with
  | zero =>
    intro i s hi hp
    rw [wY_endings_22]
    exact br_t (nI_le (a := 4) (by omega) (by omega)) hp
  | succ d ih =>
    intro i s hi hp
    have hE : cx_E (4 * p + i) < 120 := cx_E_lt (by omega)
    have hW := cx_W_lt h120
    have hW2 := cx_W_lt hE
    have e1 : (nI p).toNatClampNeg = p := cx_cl (by omega)
    have e5 := cx_4l p i
    have e6 : (nI (4 * p + i)).toNatClampNeg = 4 * p + i := cx_cl (by omega)
    have e7 := hnx (4 * p + i) (by omega)
    have e8 : (nI (cx_E (4 * p + i))).toNatClampNeg = cx_E (4 * p + i) := cx_cl (by omega)
    have e9 := hwr _ hE
    have e10 := hwr _ h120
    have hq : post (cx_fs (fun a => Nat.blt (cx_W (cx_E (4 * p + a))) (cx_W p)) d (i + 1) (bif Nat.blt (cx_W (cx_E (4 * p + i))) (cx_W p) then s ||| ((1 : Int32) <<< (nI i &&& 31)) else s)) := hp
    rw [wY_endings_22]
    refine br_f (nI_ge (b := 4) (by omega) (by decide)) ?_
    simp only [e1, e5, e6, e7, e8, e9, e10]
    refine ⟨vp_in_nI (by omega) (by decide), vp_in_nI hE (by decide), vp_in_nI h120 (by decide), pk_le (cx_W p) (cx_W (cx_E (4 * p + i))) (fun h => ?_) (fun h => ?_) rfl rfl (by omega) (by omega)⟩
    · rw [cx_bnlt h] at hq
      exact nm_r (nI_1 i) (ih (i + 1) _ (by omega) hq)
    · rw [cx_blt h] at hq
      exact nm_e (nm_r (nI_1 i) (ih (i + 1) _ (by omega) hq))
theorem yw_be_l {post : Int32 → Prop} {p : Nat} (h120 : p < 120) (hro : ∀ j, j < 600 → ro j = nI (cx_O j)) : ∀ d i s, i + d = 4 → post (cx_fs (cx_bw p) d i s) → wY_beginnings_22 post (nI p) wd sz ro nx wr ins wy rr sh (d + 1) s (nI i) := by
  intro d
  induction d with
  | zero =>
    intro i s hi hp
    rw [wY_beginnings_22]
    exact br_t (nI_le (a := 4) (by omega) (by omega)) hp
  | succ d ih =>
    intro i s hi hp
    rw [wY_beginnings_22]
    refine br_f (nI_ge (b := 4) (by omega) (by decide)) (yw_bw h120 (by omega) hro ?_)
    have hq : post (cx_fs (cx_bw p) d (i + 1) (bif cx_bw p i then s ||| ((1 : Int32) <<< (nI i &&& 31)) else s)) := hp
    cases h : cx_bw p i
    · rw [h] at hq
      exact br_t rfl (nm_r (nI_1 i) (ih (i + 1) s (by omega) hq))
    · rw [h] at hq
      exact br_f cx_10 (nm_e (nm_r (nI_1 i) (ih (i + 1) _ (by omega) hq)))
theorem yw_le_l {post : Int32 → SY → Prop} {p m : Nat} {h : Nat → Nat} (h120 : p < 120) (hm : m ≤ 10) (hw : wr p = nI m) (hsh : ∀ i, i < m → sh i = nI (h i)) (hp : post (cx_og h m) (wd, sz, ro, nx, wr, ins, wy, rr, sh)) : ∀ d i, i + d = m → wY_letters_27 post (nI p) wd sz ro nx wr ins wy rr sh (d + 1) (cx_og h i) (nI i) := by
  have e1 : (nI p).toNatClampNeg = p := cx_cl (by omega)
  have ip : vp_in (nI p) 120 := vp_in_nI h120 (by decide)
  intro d
  induction d with
  | zero =>
    intro i hi
    obtain rfl : i = m := by omega
    rw [wY_letters_27]
    simp only [e1, hw]
    exact ⟨ip, br_t (nI_le (Nat.le_refl _) (by omega)) hp⟩
  | succ d ih =>
    intro i hi
    have e2 : (nI i).toNatClampNeg = i := cx_cl (by omega)
    have e5 := hsh i (by omega)
    rw [wY_letters_27]
    simp only [e1, hw, e2, e5]
    exact ⟨ip, br_f (nI_ge (by omega) (by omega)) ⟨vp_in_nI (by omega) (by decide), nm_e (nm_r (nI_1 i) (ih (i + 1) (by omega)))⟩⟩
theorem cx_x3_lt {p q j : Nat} (h120 : p < 120) (hq : q < 120) (hj : j < 5) : cx_x3 p q j < 5 := by
  have hO := cx_O_lt (i := 5 * q + j) (by omega)
  exact cx_O_lt (i := 5 * p + cx_O (5 * q + j)) (by omega)
theorem yw_jo_l {post : Int32 → SY → Prop} {p q : Nat} (h120 : p < 120) (hq : q < 120) (hro : ∀ j, j < 600 → ro j = nI (cx_O j)) (hp : ∀ rr, post (nI (cx_num (cx_x3 p q))) (wd, sz, ro, nx, wr, ins, wy, rr, sh)) : ∀ d x rr, x + d = 5 → (∀ j, j < x → rr j = nI (cx_x3 p q j)) → wY_joined_2 post (nI p) (nI q) (d + 1) (nI x) wd sz ro nx wr ins wy rr sh := by
  intro d
  induction d with
  | zero =>
    intro x rr hx hr
    obtain rfl : x = 5 := by omega
    rw [wY_joined_2]
    exact br_t (nI_le (a := 5) (Nat.le_refl _) (by decide)) (yw_nr (r := cx_x3 p q) (fun j hj => ⟨hr j hj, cx_x3_lt h120 hq hj⟩) (hp rr))
  | succ d ih =>
    intro x rr hx hr
    have hO := cx_O_lt (i := 5 * q + x) (by omega)
    have e1 : (nI x).toNatClampNeg = x := cx_cl (by omega)
    have e5 := cx_5l q x
    have e6 : (nI (5 * q + x)).toNatClampNeg = 5 * q + x := cx_cl (by omega)
    have e7 := hro (5 * q + x) (by omega)
    have e8 := cx_5l p (cx_O (5 * q + x))
    have e9 : (nI (5 * p + cx_O (5 * q + x))).toNatClampNeg = 5 * p + cx_O (5 * q + x) := cx_cl (by omega)
    have e10 := hro (5 * p + cx_O (5 * q + x)) (by omega)
    rw [wY_joined_2]
    refine br_f (nI_ge (b := 5) (by omega) (by decide)) ?_
    simp only [e1, e5, e6, e7, e8, e9, e10]
    exact ⟨vp_in_nI (by omega) (by decide), vp_in_nI (by omega) (by decide), vp_in_nI (by omega) (by decide), nm_e (nm_r (nI_1 x) (ih (x + 1) _ (by omega) (cx_row hr rfl)))⟩
theorem yw_jo {post : Int32 → SY → Prop} {t x : Nat} (ht : t < 120) (hx : x < 120) (hro : ∀ j, j < 600 → ro j = nI (cx_O j)) (hp : ∀ rr, post (nI (cx_F (cx_M t x))) (wd, sz, ro, nx, wr, ins, wy, rr, sh)) : wpY_joined post (wd, sz, ro, nx, wr, ins, wy, rr, sh) (nI (cx_F t)) (nI (cx_F x)) := by
  show ∃ n, wY_joined_2 post (nI (cx_F t)) (nI (cx_F x)) n 0 wd sz ro nx wr ins wy rr sh
  rw [← cx_jo ht hx] at hp
  exact ⟨6, yw_jo_l (cx_F_lt ht) (cx_F_lt hx) hro hp 5 0 rr rfl (fun j hj => absurd hj (Nat.not_lt_zero j))⟩
end
