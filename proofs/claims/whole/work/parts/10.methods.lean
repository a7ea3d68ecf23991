/-! the relation, and every method from related states -/
def i_Rel (k : Nat) (u : SX) (v : SY) : Prop := match u, v with
  | (li, c, z, ar, le, ls, sc, st, la, ap, ly, jn), (wd, sz, ro, nx, wr, ins, wy, rr, sh) => c = wd ∧ z = sz ∧ cx_ok c ∧ cx_zk z ∧ cx_TX le ls sc st la ap ly ∧ cx_TB ro nx wr
section
variable {li : Int32} {c z ar le ls sc st la ap ly jn : Nat → Int32} {ro nx wr ins wy rr sh : Nat → Int32} {k : Nat}
theorem cx_mk (hc : cx_ok c) (hz : cx_zk z) (tx : cx_TX le ls sc st la ap ly) (ty : cx_TB ro nx wr) : i_Rel k (li, c, z, ar, le, ls, sc, st, la, ap, ly, jn) (c, z, ro, nx, wr, ins, wy, rr, sh) := by
  show c = c ∧ z = z ∧ cx_ok c ∧ cx_zk z ∧ cx_TX le ls sc st la ap ly ∧ cx_TB ro nx wr
  exact ⟨rfl, rfl, hc, hz, tx, ty⟩
theorem xm_size (hc : cx_ok c) (hz : cx_zk z) (tx : cx_TX le ls sc st la ap ly) (ty : cx_TB ro nx wr) (v1 : Int32) : wpX_size (fun r => wpY_size (fun r' => r' = r ∧ i_Rel k (li, c, z, ar, le, ls, sc, st, la, ap, ly, jn) (c, z, ro, nx, wr, ins, wy, rr, sh)) (c, z, ro, nx, wr, ins, wy, rr, sh) v1) (li, c, z, ar, le, ls, sc, st, la, ap, ly, jn) v1 := by
  unfold wpX_size wpY_size
  rcases cx_slot v1 with hb | ⟨s, hs, rfl⟩
  · exact xs_no hb (br_t rfl (ys_no hb (br_t rfl ⟨rfl, cx_mk hc hz tx ty⟩)))
  · have is : vp_in (nI s) 3 := vp_in_nI hs (by decide)
    exact xs_ok hs (br_f cx_10 ⟨is, ys_ok hs (br_f cx_10 ⟨is, rfl, cx_mk hc hz tx ty⟩)⟩)
theorem xm_clear (hc : cx_ok c) (hz : cx_zk z) (tx : cx_TX le ls sc st la ap ly) (ty : cx_TB ro nx wr) (v1 : Int32) : wpX_clear (fun r u' => wpY_clear (fun r' v' => r' = r ∧ i_Rel k u' v') (c, z, ro, nx, wr, ins, wy, rr, sh) v1) (li, c, z, ar, le, ls, sc, st, la, ap, ly, jn) v1 := by
  unfold wpX_clear wpY_clear
  rcases cx_slot v1 with hb | ⟨s, hs, rfl⟩
  · exact xs_no hb (br_t rfl (ys_no hb (br_t rfl ⟨rfl, cx_mk hc hz tx ty⟩)))
  · have is : vp_in (nI s) 3 := vp_in_nI hs (by decide)
    have e1 : (nI s).toNatClampNeg = s := cx_cl (by omega)
    have hz' : cx_zk (upd z s 0) := cx_zk_upd hz (m := 0) (by omega)
    refine xs_ok hs (br_f cx_10 ⟨is, nm_e ⟨is, nm_e (ys_ok hs (br_f cx_10 ⟨is, nm_e ⟨is, nm_e ⟨rfl, ?_⟩⟩⟩))⟩⟩)
    rw [e1]
    exact cx_mk hc hz' tx ty
theorem xm_letter (hc : cx_ok c) (hz : cx_zk z) (tx : cx_TX le ls sc st la ap ly) (ty : cx_TB ro nx wr) (v1 v2 : Int32) : wpX_letter (fun r => wpY_letter (fun r' => r' = r ∧ i_Rel k (li, c, z, ar, le, ls, sc, st, la, ap, ly, jn) (c, z, ro, nx, wr, ins, wy, rr, sh)) (c, z, ro, nx, wr, ins, wy, rr, sh) v1 v2) (li, c, z, ar, le, ls, sc, st, la, ap, ly, jn) v1 v2 := by
  unfold wpX_letter wpY_letter
  rcases cx_slot v1 with hb | ⟨s, hs, rfl⟩
  · exact xs_no hb (br_t rfl (ys_no hb (br_t rfl ⟨rfl, cx_mk hc hz tx ty⟩)))
  · have is : vp_in (nI s) 3 := vp_in_nI hs (by decide)
    have e1 : (nI s).toNatClampNeg = s := cx_cl (by omega)
    obtain ⟨e2, h2⟩ := hz s hs
    refine xs_ok hs (br_f cx_10 ?_)
    by_cases h0 : v2 < 0
    · exact br_t h0 (ys_ok hs (br_f cx_10 (br_t h0 ⟨rfl, cx_mk hc hz tx ty⟩)))
    · obtain ⟨i, hi, rfl⟩ := nI_of h0
      refine br_f h0 ⟨is, ?_⟩
      rw [e1, e2]
      refine pk_lt i (cx_d z s) (fun h => ?_) (fun h => ?_) rfl rfl hi (by omega)
      · have e3 := cx_24 s i
        have e4 : (nI (24 * s + i)).toNatClampNeg = 24 * s + i := cx_cl (by omega)
        have e5 := cx_24l s i
        have ii : vp_in (nI (24 * s + i)) 72 := vp_in_nI (by omega) (by decide)
        rw [e3]
        refine ⟨ii, ys_ok hs (br_f cx_10 (br_f h0 ⟨is, ?_⟩))⟩
        rw [e2, e5]
        exact br_f (nI_ge h (by omega)) ⟨ii, rfl, cx_mk hc hz tx ty⟩
      · refine ys_ok hs (br_f cx_10 (br_f h0 ⟨is, ?_⟩))
        rw [e2]
        exact br_t (nI_le h hi) ⟨rfl, cx_mk hc hz tx ty⟩
theorem xm_push (hc : cx_ok c) (hz : cx_zk z) (tx : cx_TX le ls sc st la ap ly) (ty : cx_TB ro nx wr) (v1 v2 : Int32) : wpX_push (fun r u' => wpY_push (fun r' v' => r' = r ∧ i_Rel k u' v') (c, z, ro, nx, wr, ins, wy, rr, sh) v1 v2) (li, c, z, ar, le, ls, sc, st, la, ap, ly, jn) v1 v2 := by
  unfold wpX_push wpY_push
  rcases cx_slot v1 with hb | ⟨s, hs, rfl⟩
  · exact xs_no hb (br_t rfl (ys_no hb (br_t rfl ⟨rfl, cx_mk hc hz tx ty⟩)))
  · have is : vp_in (nI s) 3 := vp_in_nI hs (by decide)
    have e1 : (nI s).toNatClampNeg = s := cx_cl (by omega)
    obtain ⟨e2, h2⟩ := hz s hs
    refine xs_ok hs (br_f cx_10 ?_)
    by_cases h0 : v2 < 0
    · exact br_t h0 (ys_ok hs (br_f cx_10 (br_t h0 ⟨rfl, cx_mk hc hz tx ty⟩)))
    · obtain ⟨a, ha, rfl⟩ := nI_of h0
      refine br_f h0 ?_
      refine pk_lt a 4 (fun h => ?_) (fun h => ?_) rfl rfl ha (by decide)
      · refine ⟨is, ?_⟩
        rw [e1, e2]
        refine nm_e (pk_lt (cx_d z s) 24 (fun h3 => ?_) (fun h3 => ?_) rfl rfl (by omega) (by decide))
        · have e3 := cx_24 s (cx_d z s)
          have e4 : (nI (24 * s + cx_d z s)).toNatClampNeg = 24 * s + cx_d z s := cx_cl (by omega)
          have e5 := cx_24l s (cx_d z s)
          have ii : vp_in (nI (24 * s + cx_d z s)) 72 := vp_in_nI (by omega) (by decide)
          have e6 := nI_1 (cx_d z s)
          rw [e3, e4, e6]
          refine ⟨ii, nm_e ⟨is, nm_e (ys_ok hs (br_f cx_10 (br_f h0 (br_t (nI_le (b := 3) (by omega) (by decide)) ⟨is, ?_⟩))))⟩⟩
          simp only [e1, e2, e5, e4, e6]
          refine br_f (fun q => ?_) ⟨is, ii, nm_e ⟨is, is, nm_e ⟨is, pk_us, cx_mk (cx_ok_upd hc h) (cx_zk_upd hz (by omega)) tx ty⟩⟩⟩
          have := (nI_eq (b := 24) (by omega) (by decide)).mp q
          omega
        · refine ys_ok hs (br_f cx_10 (br_f h0 (br_t (nI_le (b := 3) (by omega) (by decide)) ⟨is, ?_⟩)))
          rw [e2]
          exact br_t (congrArg nI (show cx_d z s = 24 by omega)) ⟨rfl, cx_mk hc hz tx ty⟩
      · exact ys_ok hs (br_f cx_10 (br_f h0 (br_f (nI_ge (b := a) (a := 3) (by omega) ha) ⟨rfl, cx_mk hc hz tx ty⟩)))
theorem xm_pop (hc : cx_ok c) (hz : cx_zk z) (tx : cx_TX le ls sc st la ap ly) (ty : cx_TB ro nx wr) (v1 : Int32) : wpX_pop (fun r u' => wpY_pop (fun r' v' => r' = r ∧ i_Rel k u' v') (c, z, ro, nx, wr, ins, wy, rr, sh) v1) (li, c, z, ar, le, ls, sc, st, la, ap, ly, jn) v1 := by
  unfold wpX_pop wpY_pop
  rcases cx_slot v1 with hb | ⟨s, hs, rfl⟩
  · exact xs_no hb (br_t rfl (ys_no hb (br_t rfl ⟨rfl, cx_mk hc hz tx ty⟩)))
  · have is : vp_in (nI s) 3 := vp_in_nI hs (by decide)
    have e1 : (nI s).toNatClampNeg = s := cx_cl (by omega)
    obtain ⟨e2, h2⟩ := hz s hs
    refine xs_ok hs (br_f cx_10 ⟨is, ?_⟩)
    rw [e1, e2]
    refine nm_e (pk_lt 0 (cx_d z s) (fun h => ?_) (fun h => ?_) rfl rfl (by decide) (by omega))
    · obtain ⟨n, hn⟩ : ∃ n, cx_d z s = n + 1 := ⟨cx_d z s - 1, by omega⟩
      have e3 : nI s * 24 + nI (n + 1) - 1 = nI (24 * s + n) := by
        rw [cx_24]
        exact nI_pred (24 * s + n)
      have e4 : (nI (24 * s + n)).toNatClampNeg = 24 * s + n := cx_cl (by omega)
      have e5 := cx_24l s n
      have e6 := nI_pred n
      have ii : vp_in (nI (24 * s + n)) 72 := vp_in_nI (by omega) (by decide)
      rw [hn] at e2
      rw [hn, e3, e6, e4]
      refine ⟨is, nm_e ⟨ii, ys_ok hs (br_f cx_10 ⟨is, ?_⟩)⟩⟩
      simp only [e1, e2, e6]
      refine br_f (nI_ne0 (by omega) (by omega)) ⟨is, is, nm_e ⟨is, ?_⟩⟩
      rw [pk_us, e5, e4]
      exact ⟨ii, rfl, cx_mk hc (cx_zk_upd hz (by omega)) tx ty⟩
    · refine ys_ok hs (br_f cx_10 ⟨is, ?_⟩)
      rw [e2]
      exact br_t (congrArg nI (show cx_d z s = 0 by omega)) ⟨rfl, cx_mk hc hz tx ty⟩
theorem xm_turn (hc : cx_ok c) (hz : cx_zk z) (tx : cx_TX le ls sc st la ap ly) (ty : cx_TB ro nx wr) (v1 : Int32) : wpX_turn (fun r u' => wpY_turn (fun r' v' => r' = r ∧ i_Rel k u' v') (c, z, ro, nx, wr, ins, wy, rr, sh) v1) (li, c, z, ar, le, ls, sc, st, la, ap, ly, jn) v1 := by
  unfold wpX_turn wpY_turn
  rcases cx_slot v1 with hb | ⟨s, hs, rfl⟩
  · exact xs_no hb (br_t rfl (ys_no hb (br_t rfl ⟨rfl, cx_mk hc hz tx ty⟩)))
  · have is : vp_in (nI s) 3 := vp_in_nI hs (by decide)
    have e1 : (nI s).toNatClampNeg = s := cx_cl (by omega)
    obtain ⟨e2, h2⟩ := hz s hs
    have e3 : nI s * 24 = nI (24 * s) := by
      rw [show (24 : Int32) = nI 24 from rfl, pk_mul, Nat.mul_comm]
    refine xs_ok hs (br_f cx_10 ⟨is, ?_⟩)
    rw [e1, e2, e3]
    refine nm_e (nm_e ⟨cx_d z s / 2 + 1, xw_tn_l hs h2 ?_ (cx_d z s / 2) 0 (by omega)⟩)
    refine ys_ok hs (br_f cx_10 ⟨cx_d z s / 2 + 1, yw_tn_l hs h2 e2 ?_ (cx_d z s / 2) 0 (by omega)⟩)
    exact ⟨rfl, cx_mk (cx_ok_tn hc (by omega) _ (Nat.le_refl _)) hz tx ty⟩
theorem xm_shorten (hc : cx_ok c) (hz : cx_zk z) (tx : cx_TX le ls sc st la ap ly) (ty : cx_TB ro nx wr) (v1 : Int32) : wpX_shorten (fun r u' => wpY_shorten (fun r' v' => r' = r ∧ i_Rel k u' v') (c, z, ro, nx, wr, ins, wy, rr, sh) v1) (li, c, z, ar, le, ls, sc, st, la, ap, ly, jn) v1 := by
  unfold wpX_shorten wpY_shorten
  rcases cx_slot v1 with hb | ⟨s, hs, rfl⟩
  · exact xs_no hb (br_t rfl (ys_no hb (br_t rfl ⟨rfl, cx_mk hc hz tx ty⟩)))
  · have is : vp_in (nI s) 3 := vp_in_nI hs (by decide)
    have e1 : (nI s).toNatClampNeg = s := cx_cl (by omega)
    obtain ⟨e2, h2⟩ := hz s hs
    have tx' := tx
    have ty' := ty
    obtain ⟨hle, hls, hsc, hst, hla, hap, hly⟩ := tx'
    obtain ⟨hro, hnx, hwr⟩ := ty'
    have hv := cx_w_lt hc (cx_d z s) (24 * s) 0 (by omega) (by decide)
    refine xs_ok hs (br_f cx_10 (xw_turned hs h2 e2 hc hap ?_))
    generalize hw : cx_w c (cx_d z s) (24 * s) 0 = v at hv
    have hI := cx_I_lt hv
    have hL := cx_L_lt hv
    have hF := cx_F_lt hv
    have e3 : (nI (cx_I v)).toNatClampNeg = cx_I v := cx_cl (by omega)
    have e4 := hle _ hI
    rw [cx_LI hv] at e4
    have e5 : (nI (cx_F v)).toNatClampNeg = cx_F v := cx_cl (by omega)
    have e6 := hwr _ hF
    rw [cx_LW hv] at e6
    refine ⟨vp_in_nI hI (by decide), nm_r (by rw [e3, e4]) ⟨cx_L v + 1, xw_short_l hs (show cx_L v ≤ 10 by omega) hI hle hap ?_ (cx_L v) 0 (by omega)⟩⟩
    refine ys_ok hs (br_f cx_10 (yw_val hs h2 e2 hc hnx ?_))
    rw [hw]
    refine yw_fs hv hro hwr ?_
    intro rr' sh' hsh
    have hz' : cx_zk (upd z s (nI (cx_L v))) := cx_zk_upd hz (by omega)
    refine ⟨vp_in_nI hF (by decide), is, nm_r (by rw [e1, e5, e6]) ⟨cx_L v + 1, yw_sh_l hs (show cx_L v ≤ 10 by omega) pk_us hsh ?_ (cx_L v) 0 (by omega)⟩⟩
    exact ⟨rfl, cx_mk (cx_ok_put hc (cx_hl_lt (cx_I v)) _) hz' tx ty⟩
theorem xm_length (hc : cx_ok c) (hz : cx_zk z) (tx : cx_TX le ls sc st la ap ly) (ty : cx_TB ro nx wr) (v1 : Int32) : wpX_length (fun r => wpY_length (fun r' => r' = r ∧ i_Rel k (li, c, z, ar, le, ls, sc, st, la, ap, ly, jn) (c, z, ro, nx, wr, ins, wy, rr, sh)) (c, z, ro, nx, wr, ins, wy, rr, sh) v1) (li, c, z, ar, le, ls, sc, st, la, ap, ly, jn) v1 := by
  unfold wpX_length wpY_length
  rcases cx_slot v1 with hb | ⟨s, hs, rfl⟩
  · exact xs_no hb (br_t rfl (ys_no hb (br_t rfl ⟨rfl, cx_mk hc hz tx ty⟩)))
  · obtain ⟨e2, h2⟩ := hz s hs
    have hv := cx_w_lt hc (cx_d z s) (24 * s) 0 (by omega) (by decide)
    have hF := cx_F_lt hv
    refine xs_ok hs (br_f cx_10 (xw_val hs h2 e2 hc tx.2.2.2.2.2.1 ⟨vp_in_nI hv (by decide), ?_⟩))
    rw [cx_cl (by omega), tx.1 _ hv]
    refine ys_ok hs (br_f cx_10 (yw_val hs h2 e2 hc ty.2.1 ⟨vp_in_nI hF (by decide), ?_⟩))
    rw [cx_cl (by omega), ty.2.2 _ hF, cx_LW hv]
    exact ⟨rfl, cx_mk hc hz tx ty⟩
theorem xm_equal (hc : cx_ok c) (hz : cx_zk z) (tx : cx_TX le ls sc st la ap ly) (ty : cx_TB ro nx wr) (v1 v2 : Int32) : wpX_equal (fun r => wpY_equal (fun r' => r' = r ∧ i_Rel k (li, c, z, ar, le, ls, sc, st, la, ap, ly, jn) (c, z, ro, nx, wr, ins, wy, rr, sh)) (c, z, ro, nx, wr, ins, wy, rr, sh) v1 v2) (li, c, z, ar, le, ls, sc, st, la, ap, ly, jn) v1 v2 := by
  unfold wpX_equal wpY_equal
  rcases cx_slot v1 with hb | ⟨s, hs, rfl⟩
  · exact xs_no hb (br_t rfl (ys_no hb (br_t rfl ⟨rfl, cx_mk hc hz tx ty⟩)))
  · rcases cx_slot v2 with hb | ⟨r, hr, rfl⟩
    · exact xs_ok hs (br_f cx_10 (xs_no hb (br_t rfl (ys_ok hs (br_f cx_10 (ys_no hb (br_t rfl ⟨rfl, cx_mk hc hz tx ty⟩)))))))
    · obtain ⟨e2, h2⟩ := hz s hs
      obtain ⟨e3, h3⟩ := hz r hr
      have hv := cx_w_lt hc (cx_d z s) (24 * s) 0 (by omega) (by decide)
      have hw := cx_w_lt hc (cx_d z r) (24 * r) 0 (by omega) (by decide)
      have hF := cx_F_lt hv
      have hF2 := cx_F_lt hw
      refine xs_ok hs (br_f cx_10 (xs_ok hr (br_f cx_10 (xw_val hs h2 e2 hc tx.2.2.2.2.2.1 (xw_val hr h3 e3 hc tx.2.2.2.2.2.1 (pk_eq _ _ (fun h => ?_) (fun h => ?_) rfl rfl (by omega) (by omega)))))))
      · refine ys_ok hs (br_f cx_10 (ys_ok hr (br_f cx_10 (yw_val hs h2 e2 hc ty.2.1 (yw_val hr h3 e3 hc ty.2.1 (br_t ?_ ⟨rfl, cx_mk hc hz tx ty⟩))))))
        rw [h]
      · refine ys_ok hs (br_f cx_10 (ys_ok hr (br_f cx_10 (yw_val hs h2 e2 hc ty.2.1 (yw_val hr h3 e3 hc ty.2.1 (br_f (fun q => h (cx_F_i hv hw ((nI_eq (by omega) (by omega)).mp q))) ⟨rfl, cx_mk hc hz tx ty⟩))))))
theorem xm_endings (hc : cx_ok c) (hz : cx_zk z) (tx : cx_TX le ls sc st la ap ly) (ty : cx_TB ro nx wr) (v1 : Int32) : wpX_endings (fun r => wpY_endings (fun r' => r' = r ∧ i_Rel k (li, c, z, ar, le, ls, sc, st, la, ap, ly, jn) (c, z, ro, nx, wr, ins, wy, rr, sh)) (c, z, ro, nx, wr, ins, wy, rr, sh) v1) (li, c, z, ar, le, ls, sc, st, la, ap, ly, jn) v1 := by
  unfold wpX_endings wpY_endings
  rcases cx_slot v1 with hb | ⟨s, hs, rfl⟩
  · exact xs_no hb (br_t rfl (ys_no hb (br_t rfl ⟨rfl, cx_mk hc hz tx ty⟩)))
  · obtain ⟨e2, h2⟩ := hz s hs
    have hv := cx_w_lt hc (cx_d z s) (24 * s) 0 (by omega) (by decide)
    have hF := cx_F_lt hv
    refine xs_ok hs (br_f cx_10 (xw_val hs h2 e2 hc tx.2.2.2.2.2.1 (xw_set hv tx.1 tx.2.2.2.2.2.1 ?_)))
    refine ys_ok hs (br_f cx_10 (yw_val hs h2 e2 hc ty.2.1 ⟨5, yw_en_l hF ty.2.1 ty.2.2 4 0 0 rfl ⟨?_, cx_mk hc hz tx ty⟩⟩))
    refine cx_fs_c 4 0 0 (fun a h1 h3 => ?_)
    have ha : a < 4 := by omega
    show Nat.blt (cx_W (cx_E (4 * cx_F (cx_w c (cx_d z s) (24 * s) 0) + a))) (cx_W (cx_F (cx_w c (cx_d z s) (24 * s) 0))) = cx_en (cx_w c (cx_d z s) (24 * s) 0) a
    rw [← cx_FA hv ha, cx_LW hv, cx_LW (cx_A_lt (by omega))]
    rfl
theorem xm_beginnings (hc : cx_ok c) (hz : cx_zk z) (tx : cx_TX le ls sc st la ap ly) (ty : cx_TB ro nx wr) (v1 : Int32) : wpX_beginnings (fun r => wpY_beginnings (fun r' => r' = r ∧ i_Rel k (li, c, z, ar, le, ls, sc, st, la, ap, ly, jn) (c, z, ro, nx, wr, ins, wy, rr, sh)) (c, z, ro, nx, wr, ins, wy, rr, sh) v1) (li, c, z, ar, le, ls, sc, st, la, ap, ly, jn) v1 := by
  unfold wpX_beginnings wpY_beginnings
  rcases cx_slot v1 with hb | ⟨s, hs, rfl⟩
  · exact xs_no hb (br_t rfl (ys_no hb (br_t rfl ⟨rfl, cx_mk hc hz tx ty⟩)))
  · obtain ⟨e2, h2⟩ := hz s hs
    have hv := cx_w_lt hc (cx_d z s) (24 * s) 0 (by omega) (by decide)
    have hF := cx_F_lt hv
    have hI := cx_I_lt hv
    refine xs_ok hs (br_f cx_10 (xw_turned hs h2 e2 hc tx.2.2.2.2.2.1 (xw_set hI tx.1 tx.2.2.2.2.2.1 ?_)))
    refine ys_ok hs (br_f cx_10 (yw_val hs h2 e2 hc ty.2.1 ⟨5, yw_be_l hF ty.1 4 0 0 rfl ⟨?_, cx_mk hc hz tx ty⟩⟩))
    refine cx_fs_c 4 0 0 (fun a h1 h3 => ?_)
    have h := cx_bwe hI (show a < 4 by omega)
    rw [cx_II hv] at h
    exact h
theorem xm_letters (hc : cx_ok c) (hz : cx_zk z) (tx : cx_TX le ls sc st la ap ly) (ty : cx_TB ro nx wr) (v1 : Int32) : wpX_letters (fun r => wpY_letters (fun r' v' => r' = r ∧ i_Rel k (li, c, z, ar, le, ls, sc, st, la, ap, ly, jn) v') (c, z, ro, nx, wr, ins, wy, rr, sh) v1) (li, c, z, ar, le, ls, sc, st, la, ap, ly, jn) v1 := by
  unfold wpX_letters wpY_letters
  rcases cx_slot v1 with hb | ⟨s, hs, rfl⟩
  · exact xs_no hb (br_t rfl (ys_no hb (br_t rfl ⟨rfl, cx_mk hc hz tx ty⟩)))
  · obtain ⟨e2, h2⟩ := hz s hs
    have hv := cx_w_lt hc (cx_d z s) (24 * s) 0 (by omega) (by decide)
    have hF := cx_F_lt hv
    have hL := cx_L_lt hv
    have e3 := ty.2.2 _ hF
    rw [cx_LW hv] at e3
    refine xs_ok hs (br_f cx_10 (xw_val hs h2 e2 hc tx.2.2.2.2.2.1 ⟨vp_in_nI hv (by decide), ?_⟩))
    rw [cx_cl (by omega), tx.2.1 _ hv]
    refine ys_ok hs (br_f cx_10 (yw_val hs h2 e2 hc ty.2.1 (yw_fs hv ty.1 ty.2.2 (fun rr' sh' hsh => ⟨cx_L (cx_w c (cx_d z s) (24 * s) 0) + 1, yw_le_l hF (by omega) e3 hsh ⟨cx_ors hv, cx_mk hc hz tx ty⟩ _ 0 (by omega)⟩))))
theorem xm_shortWords (hc : cx_ok c) (hz : cx_zk z) (tx : cx_TX le ls sc st la ap ly) (ty : cx_TB ro nx wr) (v1 : Int32) : wpX_shortWords (fun r => wpY_shortWords (fun r' v' => r' = r ∧ i_Rel k (li, c, z, ar, le, ls, sc, st, la, ap, ly, jn) v') (c, z, ro, nx, wr, ins, wy, rr, sh) v1) (li, c, z, ar, le, ls, sc, st, la, ap, ly, jn) v1 := by
  unfold wpX_shortWords wpY_shortWords
  rcases cx_slot v1 with hb | ⟨s, hs, rfl⟩
  · exact xs_no hb (br_t rfl (ys_no hb (br_t rfl ⟨rfl, cx_mk hc hz tx ty⟩)))
  · obtain ⟨e2, h2⟩ := hz s hs
    have hv := cx_w_lt hc (cx_d z s) (24 * s) 0 (by omega) (by decide)
    have hF := cx_F_lt hv
    refine xs_ok hs (br_f cx_10 (xw_val hs h2 e2 hc tx.2.2.2.2.2.1 ⟨vp_in_nI hv (by decide), ?_⟩))
    rw [cx_cl (by omega), tx.2.2.1 _ hv]
    refine ys_ok hs (br_f cx_10 (yw_val hs h2 e2 hc ty.2.1 ⟨121, yw_sw19 hF ty.2.1 ty.2.2 (fun wy' => ⟨?_, cx_mk hc hz tx ty⟩) 120 0 wy rfl (fun j hj => absurd hj (Nat.not_lt_zero j))⟩))
    rw [cx_GF hv]
theorem cx_nar {y : Nat} (h : y = 0 ∨ y = 1) : narrow .boolean (.int (nI y)) = .int (nI y) := by
  rcases h with rfl | rfl <;> rfl
theorem xm_lies (hc : cx_ok c) (hz : cx_zk z) (tx : cx_TX le ls sc st la ap ly) (ty : cx_TB ro nx wr) (v1 v2 : Int32) : wpX_lies (fun r => wpY_lies (fun r' v' => r' = r ∧ i_Rel k (li, c, z, ar, le, ls, sc, st, la, ap, ly, jn) v') (c, z, ro, nx, wr, ins, wy, rr, sh) v1 v2) (li, c, z, ar, le, ls, sc, st, la, ap, ly, jn) v1 v2 := by
  unfold wpX_lies wpY_lies
  rcases cx_slot v1 with hb | ⟨s, hs, rfl⟩
  · exact xs_no hb (br_t rfl (ys_no hb (br_t rfl ⟨rfl, cx_mk hc hz tx ty⟩)))
  · rcases cx_slot v2 with hb | ⟨r, hr, rfl⟩
    · exact xs_ok hs (br_f cx_10 (xs_no hb (br_t rfl (ys_ok hs (br_f cx_10 (ys_no hb (br_t rfl ⟨rfl, cx_mk hc hz tx ty⟩)))))))
    · obtain ⟨e2, h2⟩ := hz s hs
      obtain ⟨e3, h3⟩ := hz r hr
      have hv := cx_w_lt hc (cx_d z s) (24 * s) 0 (by omega) (by decide)
      have hw := cx_w_lt hc (cx_d z r) (24 * r) 0 (by omega) (by decide)
      have hF := cx_F_lt hv
      refine xs_ok hs (br_f cx_10 (xs_ok hr (br_f cx_10 (xw_val hr h3 e3 hc tx.2.2.2.2.2.1 (xw_val hs h2 e2 hc tx.2.2.2.2.2.1 ?_)))))
      rw [cx_12, cx_cl (by omega), tx.2.2.2.2.2.2 _ _ hw hv]
      refine ⟨vp_in_nI (by omega) (by decide), cx_nar (cx_Yb _ _), ?_⟩
      refine ys_ok hs (br_f cx_10 (ys_ok hr (br_f cx_10 (yw_val hr h3 e3 hc ty.2.1 (yw_mi hw ty (fun ins' wy' rr' sh' g => yw_val hs h2 e2 hc ty.2.1 ?_))))))
      have e4 := g _ hF
      rw [cx_GF hv] at e4
      rw [cx_cl (by omega), e4]
      exact ⟨vp_in_nI hF (by decide), cx_nar (cx_Yb _ _), rfl, cx_mk hc hz tx ty⟩
theorem xm_between (hc : cx_ok c) (hz : cx_zk z) (tx : cx_TX le ls sc st la ap ly) (ty : cx_TB ro nx wr) (v1 v2 : Int32) : wpX_between (fun r => wpY_between (fun r' v' => r' = r ∧ i_Rel k (li, c, z, ar, le, ls, sc, st, la, ap, ly, jn) v') (c, z, ro, nx, wr, ins, wy, rr, sh) v1 v2) (li, c, z, ar, le, ls, sc, st, la, ap, ly, jn) v1 v2 := by
  unfold wpX_between wpY_between
  rcases cx_slot v1 with hb | ⟨s, hs, rfl⟩
  · exact xs_no hb (br_t rfl (ys_no hb (br_t rfl ⟨rfl, cx_mk hc hz tx ty⟩)))
  · rcases cx_slot v2 with hb | ⟨r, hr, rfl⟩
    · exact xs_ok hs (br_f cx_10 (xs_no hb (br_t rfl (ys_ok hs (br_f cx_10 (ys_no hb (br_t rfl ⟨rfl, cx_mk hc hz tx ty⟩)))))))
    · obtain ⟨e2, h2⟩ := hz s hs
      obtain ⟨e3, h3⟩ := hz r hr
      have hv := cx_w_lt hc (cx_d z s) (24 * s) 0 (by omega) (by decide)
      have hw := cx_w_lt hc (cx_d z r) (24 * r) 0 (by omega) (by decide)
      refine xs_ok hs (br_f cx_10 (xs_ok hr (br_f cx_10 (xw_val hs h2 e2 hc tx.2.2.2.2.2.1 (xw_val hr h3 e3 hc tx.2.2.2.2.2.1 ⟨121, xw_bt_l hv hw tx.2.2.2.2.2.2 ?_ 120 0 rfl⟩)))))
      refine ys_ok hs (br_f cx_10 (ys_ok hr (br_f cx_10 (yw_val hs h2 e2 hc ty.2.1 (yw_val hr h3 e3 hc ty.2.1 ⟨121, yw_bt_l hv hw ty (fun ins' wy' rr' sh' => ⟨?_, cx_mk hc hz tx ty⟩) 120 0 ins wy rr sh rfl⟩)))))
      rw [cx_ct_G]
theorem xm_order (hc : cx_ok c) (hz : cx_zk z) (tx : cx_TX le ls sc st la ap ly) (ty : cx_TB ro nx wr) (v1 : Int32) : wpX_order (fun r => wpY_order (fun r' => r' = r ∧ i_Rel k (li, c, z, ar, le, ls, sc, st, la, ap, ly, jn) (c, z, ro, nx, wr, ins, wy, rr, sh)) (c, z, ro, nx, wr, ins, wy, rr, sh) v1) (li, c, z, ar, le, ls, sc, st, la, ap, ly, jn) v1 := by
  unfold wpX_order wpY_order
  rcases cx_slot v1 with hb | ⟨s, hs, rfl⟩
  · exact xs_no hb (br_t rfl (ys_no hb (br_t rfl ⟨rfl, cx_mk hc hz tx ty⟩)))
  · obtain ⟨e2, h2⟩ := hz s hs
    have hv := cx_w_lt hc (cx_d z s) (24 * s) 0 (by omega) (by decide)
    have hK := cx_K1 hv
    refine xs_ok hs (br_f cx_10 ⟨cx_K (cx_w c (cx_d z s) (24 * s) 0) - 1 + 1, xw_or_l hs h2 e2 hc tx.2.2.2.2.2.1 rfl hv ?_ _ 0 (by omega)⟩)
    refine ys_ok hs (br_f cx_10 (yw_val hs h2 e2 hc ty.2.1 ⟨cx_K (cx_w c (cx_d z s) (24 * s) 0) - 1 + 1, ?_⟩))
    have h := yw_or_l (wd := c) (sz := z) (ro := ro) (nx := nx) (wr := wr) (ins := ins) (wy := wy) (rr := rr) (sh := sh) (post := fun r' => r' = nI (cx_K (cx_w c (cx_d z s) (24 * s) 0)) ∧ i_Rel k (li, c, z, ar, le, ls, sc, st, la, ap, ly, jn) (c, z, ro, nx, wr, ins, wy, rr, sh)) hs h2 e2 hc ty.2.1 rfl hv ⟨rfl, cx_mk hc hz tx ty⟩ (cx_K (cx_w c (cx_d z s) (24 * s) 0) - 1) 0 (by omega)
    have e5 : cx_pw (cx_w c (cx_d z s) (24 * s) 0) (0 + 1) = cx_w c (cx_d z s) (24 * s) 0 := cx_0M hv
    rw [e5] at h
    exact h
theorem xm_alike (hc : cx_ok c) (hz : cx_zk z) (tx : cx_TX le ls sc st la ap ly) (ty : cx_TB ro nx wr) (v1 v2 : Int32) : wpX_alike (fun r u' => wpY_alike (fun r' v' => r' = r ∧ i_Rel k u' v') (c, z, ro, nx, wr, ins, wy, rr, sh) v1 v2) (li, c, z, ar, le, ls, sc, st, la, ap, ly, jn) v1 v2 := by
  unfold wpX_alike wpY_alike
  rcases cx_slot v1 with hb | ⟨s, hs, rfl⟩
  · exact xs_no hb (br_t rfl (ys_no hb (br_t rfl ⟨rfl, cx_mk hc hz tx ty⟩)))
  · rcases cx_slot v2 with hb | ⟨r, hr, rfl⟩
    · exact xs_ok hs (br_f cx_10 (xs_no hb (br_t rfl (ys_ok hs (br_f cx_10 (ys_no hb (br_t rfl ⟨rfl, cx_mk hc hz tx ty⟩)))))))
    · obtain ⟨e2, h2⟩ := hz s hs
      obtain ⟨e3, h3⟩ := hz r hr
      have hv := cx_w_lt hc (cx_d z s) (24 * s) 0 (by omega) (by decide)
      have hw := cx_w_lt hc (cx_d z r) (24 * r) 0 (by omega) (by decide)
      refine xs_ok hs (br_f cx_10 (xs_ok hr (br_f cx_10 (xw_val hr h3 e3 hc tx.2.2.2.2.2.1 (xw_jf hw tx.2.2.2.1 tx.2.2.2.2.1 tx.2.2.2.2.2.1 ?_)))))
      intro jn' hjn
      refine ⟨121, xw_al_l hs h2 e2 hc tx.2.2.2.2.2.1 rfl hv hw hjn 120 0 rfl (fun H => ?_) (fun H => ?_)⟩
      · refine ys_ok hs (br_f cx_10 (ys_ok hr (br_f cx_10 (yw_val hr h3 e3 hc ty.2.1 ⟨121, yw_al_l hs h2 e2 hc ty rfl hv hw 120 0 rr rfl (fun rr' _ => ⟨rfl, cx_mk hc hz tx ty⟩) (fun rr' N => ?_)⟩))))
        obtain ⟨y, _, hy, g⟩ := H
        have hn := N (cx_F y) (Nat.zero_le _) (cx_F_lt hy)
        rw [cx_GF hy] at hn
        exact absurd g hn
      · refine ys_ok hs (br_f cx_10 (ys_ok hr (br_f cx_10 (yw_val hr h3 e3 hc ty.2.1 ⟨121, yw_al_l hs h2 e2 hc ty rfl hv hw 120 0 rr rfl (fun rr' E => ?_) (fun rr' _ => ⟨rfl, cx_mk hc hz tx ty⟩)⟩))))
        obtain ⟨y, _, hy, g⟩ := E
        exact absurd g (H (cx_G y) (Nat.zero_le _) (cx_G_lt hy))
end
