/-! between, order, alike, turn: the loops of both sides -/
section
variable {li : Int32} {c z ar le ls sc st la ap ly jn : Nat → Int32} {wd sz ro nx wr ins wy rr sh : Nat → Int32}
def cx_bt (lo hi v : Nat) : Bool := Nat.beq (cx_Y hi v) 1 && Nat.beq (cx_Y v lo) 1
theorem xw_bt_l {post : Int32 → Prop} {lo hi : Nat} (hlo : lo < 120) (hhi : hi < 120) (hly : ∀ x y, x < 120 → y < 120 → ly (120 * x + y) = nI (cx_Y x y)) (hp : post (nI (cx_ct (cx_bt lo hi) 120))) : ∀ d v, v + d = 120 → wX_between_35 post (nI lo) (nI hi) li c z ar le ls sc st la ap ly jn (d + 1) (nI (cx_ct (cx_bt lo hi) v)) (nI v) := by
  intro d
  induction d with
  | zero =>
    intro v hd
    obtain rfl : v = 120 := by omega
    rw [wX_between_35]
    exact br_t (nI_le (a := 120) (Nat.le_refl _) (by decide)) hp
  | succ d ih =>
    intro v hd
    have hv : v < 120 := by omega
    have hh := ih (v + 1) (by omega)
    have hct : cx_ct (cx_bt lo hi) (v + 1) = cx_ct (cx_bt lo hi) v + (bif cx_bt lo hi v then 1 else 0) := rfl
    have hb : cx_bt lo hi v = (Nat.beq (cx_Y hi v) 1 && Nat.beq (cx_Y v lo) 1) := rfl
    have e1 := cx_12 hi v
    have e2 : (nI (120 * hi + v)).toNatClampNeg = 120 * hi + v := cx_cl (by omega)
    have e3 := hly hi v hhi hv
    have e4 := cx_12 v lo
    have e5 : (nI (120 * v + lo)).toNatClampNeg = 120 * v + lo := cx_cl (by omega)
    have e6 := hly v lo hv hlo
    rw [wX_between_35]
    refine br_f (nI_ge (b := 120) (by omega) (by decide)) ?_
    simp only [e1, e2, e3, e4, e5, e6]
    refine ⟨vp_in_nI (by omega) (by decide), ?_⟩
    rcases cx_Yb hi v with y0 | y1
    · rw [y0] at hb ⊢
      rw [hct, hb] at hh
      exact br_t rfl (nm_r (nI_1 v) hh)
    · rw [y1] at hb ⊢
      refine br_f cx_10 ⟨vp_in_nI (by omega) (by decide), ?_⟩
      rcases cx_Yb v lo with z0 | z1
      · rw [z0] at hb ⊢
        rw [hct, hb] at hh
        exact br_t rfl (nm_r (nI_1 v) hh)
      · rw [z1] at hb ⊢
        rw [hct, hb] at hh
        exact br_f cx_10 (nm_r (nI_1 (cx_ct (cx_bt lo hi) v)) (nm_r (nI_1 v) hh))
theorem yw_mig {post : SY → Prop} {p : Nat} (hp120 : p < 120) (ht : cx_TB ro nx wr) (hp : ∀ ins wy rr sh, (∀ q, q < 120 → ins q = nI (cx_Y (cx_G p) (cx_G q))) → post (wd, sz, ro, nx, wr, ins, wy, rr, sh)) : wpY_markInside post (wd, sz, ro, nx, wr, ins, wy, rr, sh) (nI p) := by
  have h := yw_mi (wd := wd) (sz := sz) (ins := ins) (wy := wy) (rr := rr) (sh := sh) (cx_G_lt hp120) ht hp
  rw [cx_FG hp120] at h
  exact h
theorem yw_bt_l {post : Int32 → SY → Prop} {lo hi : Nat} (hlo : lo < 120) (hhi : hi < 120) (ht : cx_TB ro nx wr) (hp : ∀ ins wy rr sh, post (nI (cx_ct (fun p => cx_bt lo hi (cx_G p)) 120)) (wd, sz, ro, nx, wr, ins, wy, rr, sh)) : ∀ d p ins wy rr sh, p + d = 120 → wY_between_39 post (nI (cx_F lo)) (nI (cx_F hi)) (d + 1) (nI (cx_ct (fun p => cx_bt lo hi (cx_G p)) p)) (nI p) wd sz ro nx wr ins wy rr sh := by
  have hF := cx_F_lt hlo
  have e2 : (nI (cx_F lo)).toNatClampNeg = cx_F lo := cx_cl (by omega)
  intro d
  induction d with
  | zero =>
    intro p ins wy rr sh hd
    obtain rfl : p = 120 := by omega
    rw [wY_between_39]
    exact br_t (nI_le (a := 120) (Nat.le_refl _) (by decide)) (hp ins wy rr sh)
  | succ d ih =>
    intro p ins wy rr sh hd
    have h120 : p < 120 := by omega
    have hct : cx_ct (fun p => cx_bt lo hi (cx_G p)) (p + 1) = cx_ct (fun p => cx_bt lo hi (cx_G p)) p + (bif cx_bt lo hi (cx_G p) then 1 else 0) := rfl
    have hb : cx_bt lo hi (cx_G p) = (Nat.beq (cx_Y hi (cx_G p)) 1 && Nat.beq (cx_Y (cx_G p) lo) 1) := rfl
    have e1 : (nI p).toNatClampNeg = p := cx_cl (by omega)
    rw [wY_between_39]
    refine br_f (nI_ge (b := 120) (by omega) (by decide)) (yw_mi hhi ht ?_)
    intro ins1 wy1 rr1 sh1 h1
    have e3 := h1 p h120
    simp only [e1, e3]
    refine ⟨vp_in_nI h120 (by decide), nm_e ?_⟩
    rcases cx_Yb hi (cx_G p) with y0 | y1
    · rw [y0] at hb ⊢
      have hh := ih (p + 1) ins1 wy1 rr1 sh1 (by omega)
      rw [hct, hb] at hh
      exact br_t rfl (nm_r (nI_1 p) hh)
    · rw [y1] at hb ⊢
      refine br_f cx_10 (yw_mig h120 ht ?_)
      intro ins2 wy2 rr2 sh2 h2
      have e4 := h2 _ hF
      rw [cx_GF hlo] at e4
      simp only [e2, e4]
      refine ⟨vp_in_nI hF (by decide), ?_⟩
      have hh := ih (p + 1) ins2 wy2 rr2 sh2 (by omega)
      rcases cx_Yb (cx_G p) lo with z0 | z1
      · rw [z0] at hb ⊢
        rw [hct, hb] at hh
        exact br_t rfl (nm_r (nI_1 p) hh)
      · rw [z1] at hb ⊢
        rw [hct, hb] at hh
        exact br_f cx_10 (nm_r (nI_1 _) (nm_r (nI_1 p) hh))
theorem cx_pw_lt {x : Nat} (hx : x < 120) : ∀ k, cx_pw x k < 120
  | 0 => (by decide : 0 < 120)
  | k + 1 => cx_M_lt (cx_pw_lt hx k) hx
theorem cx_pw_n {x k : Nat} (hx : x < 120) (hk : k + 1 < cx_K x) : cx_pw x (k + 1) ≠ 0 := by
  have h0 := cx_K_lt hx
  have h := cx_Kn (x := x) (k := k + 1) hx (by omega)
  rw [cx_blt hk, cond_true] at h
  have h2 : Nat.blt 0 (cx_pw x (k + 1)) = true := h
  have := cx_l h2
  omega
theorem xw_or_l {post : Int32 → Prop} {s k x : Nat} (hs : s < 3) (hk : k ≤ 24) (hz : z s = nI k) (hc : cx_ok c) (hap : ∀ i, i < 480 → ap i = nI (cx_A i)) (hx : x = cx_w c k (24 * s) 0) (hx2 : x < 120) (hp : post (nI (cx_K x))) : ∀ d j, j + 1 + d = cx_K x → wX_order_13 post (nI s) li c z ar le ls sc st la ap ly jn (d + 1) (nI (cx_pw x j)) (nI (j + 1)) := by
  have hK := cx_K_lt hx2
  intro d
  induction d with
  | zero =>
    intro j hd
    have hw : cx_w c k (24 * s) (cx_pw x j) = cx_pw x (j + 1) := by
      rw [cx_w_0 hc (by omega) (cx_pw_lt hx2 j), ← hx]
      rfl
    have h0 : cx_pw x (j + 1) = 0 := by
      have e : j + 1 = cx_K x := hd
      rw [e]
      exact cx_K0 hx2
    rw [wX_order_13]
    refine br_f (nI_nlt (a := 120) (by omega) (by decide)) (xw_walk hs hk hz hc hap (cx_pw_lt hx2 j) ?_)
    rw [hw, h0]
    refine br_t rfl ?_
    have e : j + 1 = cx_K x := hd
    rw [e]
    exact hp
  | succ d ih =>
    intro j hd
    have hw : cx_w c k (24 * s) (cx_pw x j) = cx_pw x (j + 1) := by
      rw [cx_w_0 hc (by omega) (cx_pw_lt hx2 j), ← hx]
      rfl
    have hn := cx_pw_n hx2 (k := j) (by omega)
    have hl := cx_pw_lt hx2 (j + 1)
    rw [wX_order_13]
    refine br_f (nI_nlt (a := 120) (by omega) (by decide)) (xw_walk hs hk hz hc hap (cx_pw_lt hx2 j) ?_)
    rw [hw]
    exact br_f (nI_ne0 (by omega) (by omega)) (nm_r (nI_1 (j + 1)) (ih (j + 1) (by omega)))
theorem cx_F_n {v : Nat} (hv : v < 120) (h : v ≠ 0) : cx_F v ≠ 0 := by
  intro e
  apply h
  have h1 := cx_GF hv
  rw [e] at h1
  rw [← h1]
  decide +kernel
theorem yw_or_l {post : Int32 → Prop} {s k x : Nat} (hs : s < 3) (hk : k ≤ 24) (hz : sz s = nI k) (hc : cx_ok wd) (hnx : ∀ i, i < 480 → nx i = nI (cx_E i)) (hx : x = cx_w wd k (24 * s) 0) (hx2 : x < 120) (hp : post (nI (cx_K x))) : ∀ d j, j + 1 + d = cx_K x → wY_order_19 post (nI s) wd sz ro nx wr ins wy rr sh (d + 1) (nI (cx_F (cx_pw x (j + 1)))) (nI (j + 1)) := by
  have hK := cx_K_lt hx2
  intro d
  induction d with
  | zero =>
    intro j hd
    have e : j + 1 = cx_K x := hd
    rw [wY_order_19, e, cx_K0 hx2, cx_F0]
    exact br_t rfl hp
  | succ d ih =>
    intro j hd
    have hl := cx_pw_lt hx2 (j + 1)
    have hw : cx_w wd k (24 * s) (cx_pw x (j + 1)) = cx_pw x (j + 1 + 1) := by
      rw [cx_w_0 hc (by omega) hl, ← hx]
      rfl
    have hn := cx_F_n hl (cx_pw_n hx2 (k := j) (by omega))
    have hF := cx_F_lt hl
    rw [wY_order_19]
    refine br_f (nI_ne0 (by omega) (by omega)) (br_f (nI_ge (b := 100) (by omega) (by decide)) (yw_lead hs hk hz hc hnx hl ?_))
    rw [hw]
    exact nm_r (nI_1 (j + 1)) (ih (j + 1) (by omega))
theorem xw_jf_l {post : SX → Prop} {f : Nat} (hf : f < 120) (hst : ∀ i, i < 120 → st i = nI (cx_P i)) (hla : ∀ i, i < 120 → la i = nI (cx_Q i)) (hap : ∀ i, i < 480 → ap i = nI (cx_A i)) (hp : ∀ jn, (∀ i, i < 120 → jn i = nI (cx_M f i)) → post (li, c, z, ar, le, ls, sc, st, la, ap, ly, jn)) : ∀ d v jn, 0 < v → v + d = 120 → (∀ i, i < v → jn i = nI (cx_M f i)) → wX_joinInFront_9 post li (d + 1) (nI v) c z ar le ls sc st la ap ly jn := by
  intro d
  induction d with
  | zero =>
    intro v jn h0 hd h
    obtain rfl : v = 120 := by omega
    rw [wX_joinInFront_9]
    exact br_t (nI_le (a := 120) (Nat.le_refl _) (by decide)) (hp jn h)
  | succ d ih =>
    intro v jn h0 hd h
    have hv : v < 120 := by omega
    have hP := cx_P_lt hv
    have hQ := cx_Q_lt hv
    have hM := cx_M_lt hf hP
    have hPv : cx_P v < v ∧ cx_A (4 * cx_P v + cx_Q v) = v := by
      obtain ⟨w, rfl⟩ : ∃ w, v = w + 1 := ⟨v - 1, by omega⟩
      exact ⟨cx_Pl (w := w) (by omega), cx_PQ (w := w) (by omega)⟩
    have e1 : (nI v).toNatClampNeg = v := cx_cl (by omega)
    have e2 := hst v hv
    have e3 := hla v hv
    have e4 : (nI (cx_P v)).toNatClampNeg = cx_P v := cx_cl (by omega)
    have e5 := h _ hPv.1
    have e6 := cx_4r (cx_M f (cx_P v)) (cx_Q v)
    have e7 : (nI (4 * cx_M f (cx_P v) + cx_Q v)).toNatClampNeg = 4 * cx_M f (cx_P v) + cx_Q v := cx_cl (by omega)
    have e8 := hap (4 * cx_M f (cx_P v) + cx_Q v) (by omega)
    rw [← cx_MA hf hP hQ, hPv.2] at e8
    have iv : vp_in (nI v) 120 := vp_in_nI hv (by decide)
    rw [wX_joinInFront_9]
    refine br_f (nI_ge (b := 120) (by omega) (by decide)) ?_
    simp only [e1, e2, e3, e4, e5, e6, e7, e8]
    exact ⟨iv, vp_in_nI hP (by decide), iv, vp_in_nI (by omega) (by decide), iv, nm_e (nm_r (nI_1 v) (ih (v + 1) _ (by omega) (by omega) (cx_row h rfl)))⟩
theorem xw_jf {post : SX → Prop} {f : Nat} (hf : f < 120) (hst : ∀ i, i < 120 → st i = nI (cx_P i)) (hla : ∀ i, i < 120 → la i = nI (cx_Q i)) (hap : ∀ i, i < 480 → ap i = nI (cx_A i)) (hp : ∀ jn, (∀ i, i < 120 → jn i = nI (cx_M f i)) → post (li, c, z, ar, le, ls, sc, st, la, ap, ly, jn)) : wpX_joinInFront post (li, c, z, ar, le, ls, sc, st, la, ap, ly, jn) (nI f) := by
  unfold wpX_joinInFront
  refine nm_e ⟨120, xw_jf_l hf hst hla hap hp 119 1 _ (by decide) rfl ?_⟩
  intro i hi
  obtain rfl : i = 0 := by omega
  rw [pk_us, cx_M0 hf]
theorem xw_al_l {post : Int32 → SX → Prop} {s k x f : Nat} (hs : s < 3) (hk : k ≤ 24) (hz : z s = nI k) (hc : cx_ok c) (hap : ∀ i, i < 480 → ap i = nI (cx_A i)) (hx : x = cx_w c k (24 * s) 0) (hx2 : x < 120) (hf : f < 120) (hjn : ∀ i, i < 120 → jn i = nI (cx_M f i)) : ∀ d v, v + d = 120 → ((∃ y, v ≤ y ∧ y < 120 ∧ cx_M y x = cx_M f y) → post 1 (li, c, z, ar, le, ls, sc, st, la, ap, ly, jn)) → ((∀ y, v ≤ y → y < 120 → cx_M y x ≠ cx_M f y) → post 0 (li, c, z, ar, le, ls, sc, st, la, ap, ly, jn)) → wX_alike_30 post (nI s) li c z ar le ls sc st la ap ly jn (d + 1) (nI v) := by
  intro d
  induction d with
  | zero =>
    intro v hd h1 h0
    rw [wX_alike_30]
    exact br_t (nI_le (a := 120) (by omega) (by omega)) (h0 (fun y a b => by omega))
  | succ d ih =>
    intro v hd h1 h0
    have hv : v < 120 := by omega
    have e1 : (nI v).toNatClampNeg = v := cx_cl (by omega)
    have e2 := hjn v hv
    have hw : cx_w c k (24 * s) v = cx_M v x := by
      rw [cx_w_0 hc (by omega) hv, ← hx]
    have hM1 := cx_M_lt hv hx2
    have hM2 := cx_M_lt hf hv
    rw [wX_alike_30]
    refine br_f (nI_ge (b := 120) (by omega) (by decide)) (xw_walk hs hk hz hc hap hv ?_)
    rw [hw]
    simp only [e1, e2]
    refine ⟨vp_in_nI hv (by decide), pk_eq (cx_M v x) (cx_M f v) (fun h => h1 ⟨v, Nat.le_refl v, hv, h⟩) (fun h => nm_r (nI_1 v) (ih (v + 1) (by omega) (fun ⟨y, a, b, g⟩ => h1 ⟨y, by omega, b, g⟩) (fun g => h0 (fun y a b => ?_)))) rfl rfl (by omega) (by omega)⟩
    by_cases e : y = v
    · rw [e]
      exact h
    · exact g y (by omega) b
theorem yw_leadg {post : Int32 → Prop} {s k p : Nat} (hs : s < 3) (hk : k ≤ 24) (hz : sz s = nI k) (hc : cx_ok wd) (hnx : ∀ i, i < 480 → nx i = nI (cx_E i)) (h120 : p < 120) (hp : post (nI (cx_F (cx_w wd k (24 * s) (cx_G p))))) : wpY_lead post (wd, sz, ro, nx, wr, ins, wy, rr, sh) (nI p) (nI s) := by
  have h := yw_lead (ro := ro) (wr := wr) (ins := ins) (wy := wy) (rr := rr) (sh := sh) hs hk hz hc hnx (cx_G_lt h120) hp
  rw [cx_FG h120] at h
  exact h
theorem yw_jog {post : Int32 → SY → Prop} {t p : Nat} (ht : t < 120) (h120 : p < 120) (hro : ∀ j, j < 600 → ro j = nI (cx_O j)) (hp : ∀ rr, post (nI (cx_F (cx_M t (cx_G p)))) (wd, sz, ro, nx, wr, ins, wy, rr, sh)) : wpY_joined post (wd, sz, ro, nx, wr, ins, wy, rr, sh) (nI (cx_F t)) (nI p) := by
  have h := yw_jo (wd := wd) (sz := sz) (nx := nx) (wr := wr) (ins := ins) (wy := wy) (rr := rr) (sh := sh) ht (cx_G_lt h120) hro hp
  rw [cx_FG h120] at h
  exact h
theorem cx_F_i {a b : Nat} (ha : a < 120) (hb : b < 120) (h : cx_F a = cx_F b) : a = b := by
  have h1 := cx_GF ha
  rw [h, cx_GF hb] at h1
  exact h1.symm
theorem yw_al_l {post : Int32 → SY → Prop} {s k x f : Nat} (hs : s < 3) (hk : k ≤ 24) (hz : sz s = nI k) (hc : cx_ok wd) (ht : cx_TB ro nx wr) (hx : x = cx_w wd k (24 * s) 0) (hx2 : x < 120) (hf : f < 120) : ∀ d p rr, p + d = 120 → (∀ rr, (∃ y, p ≤ y ∧ y < 120 ∧ cx_M (cx_G y) x = cx_M f (cx_G y)) → post 1 (wd, sz, ro, nx, wr, ins, wy, rr, sh)) → (∀ rr, (∀ y, p ≤ y → y < 120 → cx_M (cx_G y) x ≠ cx_M f (cx_G y)) → post 0 (wd, sz, ro, nx, wr, ins, wy, rr, sh)) → wY_alike_28 post (nI s) (nI (cx_F f)) (d + 1) (nI p) wd sz ro nx wr ins wy rr sh := by
  obtain ⟨hro, hnx, hwr⟩ := ht
  intro d
  induction d with
  | zero =>
    intro p rr hd h1 h0
    rw [wY_alike_28]
    exact br_t (nI_le (a := 120) (by omega) (by omega)) (h0 rr (fun y a b => by omega))
  | succ d ih =>
    intro p rr hd h1 h0
    have h120 : p < 120 := by omega
    have hG := cx_G_lt h120
    have hw : cx_w wd k (24 * s) (cx_G p) = cx_M (cx_G p) x := by
      rw [cx_w_0 hc (by omega) hG, ← hx]
    have hM1 := cx_M_lt hG hx2
    have hM2 := cx_M_lt hf hG
    have hF1 := cx_F_lt hM1
    have hF2 := cx_F_lt hM2
    rw [wY_alike_28]
    refine br_f (nI_ge (b := 120) (by omega) (by decide)) (yw_jog hf h120 hro (fun rr' => yw_leadg hs hk hz hc hnx h120 ?_))
    rw [hw]
    refine pk_eq (cx_F (cx_M (cx_G p) x)) (cx_F (cx_M f (cx_G p))) (fun h => h1 rr' ⟨p, Nat.le_refl p, h120, cx_F_i hM1 hM2 h⟩) (fun h => nm_r (nI_1 p) (ih (p + 1) rr' (by omega) (fun r2 ⟨y, a, b, g⟩ => h1 r2 ⟨y, by omega, b, g⟩) (fun r2 g => h0 r2 (fun y a b => ?_)))) rfl rfl (by omega) (by omega)
    by_cases e : y = p
    · rw [e]
      exact fun q => h (congrArg cx_F q)
    · exact g y (by omega) b
/-- the cells when i pairs have been swapped -/
def cx_tn (c : Nat → Int32) (b k : Nat) : Nat → Nat → Int32
  | 0 => c
  | i + 1 => upd (upd (cx_tn c b k i) (b + i) (cx_tn c b k i (b + (k - 1 - i)))) (b + (k - 1 - i)) (cx_tn c b k i (b + i))
theorem cx_ok_cp {c' : Nat → Int32} (hc : cx_ok c) {y j : Nat} (hc' : cx_ok c') (hy : y < 72) : cx_ok (upd c' j (c y)) := by
  obtain ⟨e, h⟩ := hc y hy
  rw [e]
  exact cx_ok_upd hc' h
theorem cx_ok_tn (hc : cx_ok c) {b k : Nat} (hb : b + k ≤ 72) : ∀ i, i ≤ k / 2 → cx_ok (cx_tn c b k i)
  | 0, _ => hc
  | i + 1, hi => by
    have h := cx_ok_tn hc hb i (by omega)
    exact cx_ok_cp h (cx_ok_cp h h (by omega)) (by omega)
theorem xw_tn_l {post : Int32 → SX → Prop} {s k : Nat} (hs : s < 3) (hk : k ≤ 24) (hp : post (nI k) (li, cx_tn c (24 * s) k (k / 2), z, ar, le, ls, sc, st, la, ap, ly, jn)) : ∀ d i, i + d = k / 2 → wX_turn_24 post (nI k) (nI (24 * s)) li (d + 1) (nI i) (cx_tn c (24 * s) k i) z ar le ls sc st la ap ly jn := by
  have ed : nI k / 2 = nI (k / 2) := pk_div (d := 2) (by omega) (by decide) (by decide)
  intro d
  induction d with
  | zero =>
    intro i hi
    obtain rfl : i = k / 2 := by omega
    rw [wX_turn_24]
    simp only [ed]
    exact ⟨by decide, br_t (nI_le (Nat.le_refl _) (by omega)) hp⟩
  | succ d ih =>
    intro i hi
    have e1 : nI k - 1 - nI i = nI (k - 1 - i) := by
      rw [show nI k - 1 = nI (k - 1) from pk_sub (b := 1) (by omega), pk_sub (by omega)]
    have e2 := nI_add (24 * s) i
    have e3 : (nI (24 * s + i)).toNatClampNeg = 24 * s + i := cx_cl (by omega)
    have e4 := nI_add (24 * s) (k - 1 - i)
    have e5 : (nI (24 * s + (k - 1 - i))).toNatClampNeg = 24 * s + (k - 1 - i) := cx_cl (by omega)
    have i1 : vp_in (nI (24 * s + i)) 72 := vp_in_nI (by omega) (by decide)
    have i2 : vp_in (nI (24 * s + (k - 1 - i))) 72 := vp_in_nI (by omega) (by decide)
    rw [wX_turn_24]
    simp only [ed, e1]
    refine ⟨by decide, br_f (nI_ge (by omega) (by omega)) (nm_e ?_)⟩
    simp only [e2, e3, e4, e5]
    exact ⟨i1, nm_e ⟨i2, i1, nm_e ⟨i2, nm_e (nm_r (nI_1 i) (ih (i + 1) (by omega)))⟩⟩⟩
theorem yw_tn_l {post : Int32 → SY → Prop} {s k : Nat} (hs : s < 3) (hk : k ≤ 24) (hz : sz s = nI k) (hp : post (nI k) (cx_tn wd (24 * s) k (k / 2), sz, ro, nx, wr, ins, wy, rr, sh)) : ∀ d i, i + d = k / 2 → wY_turn_12 post (nI s) (d + 1) (nI i) (cx_tn wd (24 * s) k i) sz ro nx wr ins wy rr sh := by
  have ed : nI k / 2 = nI (k / 2) := pk_div (d := 2) (by omega) (by decide) (by decide)
  have e0 : (nI s).toNatClampNeg = s := cx_cl (by omega)
  have is : vp_in (nI s) 3 := vp_in_nI hs (by decide)
  intro d
  induction d with
  | zero =>
    intro i hi
    obtain rfl : i = k / 2 := by omega
    rw [wY_turn_12]
    simp only [e0, hz, ed]
    exact ⟨is, by decide, br_t (nI_le (Nat.le_refl _) (by omega)) ⟨is, hp⟩⟩
  | succ d ih =>
    intro i hi
    have e1 : nI k - 1 - nI i = nI (k - 1 - i) := by
      rw [show nI k - 1 = nI (k - 1) from pk_sub (b := 1) (by omega), pk_sub (by omega)]
    have e2 := cx_24l s i
    have e3 : (nI (24 * s + i)).toNatClampNeg = 24 * s + i := cx_cl (by omega)
    have e4 := cx_24l s (k - 1 - i)
    have e5 : (nI (24 * s + (k - 1 - i))).toNatClampNeg = 24 * s + (k - 1 - i) := cx_cl (by omega)
    have i1 : vp_in (nI (24 * s + i)) 72 := vp_in_nI (by omega) (by decide)
    have i2 : vp_in (nI (24 * s + (k - 1 - i))) 72 := vp_in_nI (by omega) (by decide)
    rw [wY_turn_12]
    simp only [e0, hz, ed, e1]
    refine ⟨is, by decide, br_f (nI_ge (by omega) (by omega)) ⟨is, nm_e ?_⟩⟩
    simp only [e2, e3, e4, e5]
    exact ⟨i1, nm_e ⟨i2, i1, nm_e ⟨i2, nm_e (nm_r (nI_1 i) (ih (i + 1) (by omega)))⟩⟩⟩
theorem cx_zk_upd (hz : cx_zk z) {s m : Nat} (hm : m ≤ 24) : cx_zk (upd z s (nI m)) := by
  intro i hi
  by_cases e : i = s
  · subst e
    have h1 : upd z i (nI m) i = nI m := pk_us
    have h2 : cx_d (upd z i (nI m)) i = m := by
      show (upd z i (nI m) i).toNatClampNeg = m
      rw [h1, nI_clamp (by omega)]
    rw [h2]
    exact ⟨h1, hm⟩
  · have h1 : upd z s (nI m) i = z i := pk_un e
    have h2 : cx_d (upd z s (nI m)) i = cx_d z i := by
      show (upd z s (nI m) i).toNatClampNeg = (z i).toNatClampNeg
      rw [h1]
    rw [h1, h2]
    exact hz i hi
end
