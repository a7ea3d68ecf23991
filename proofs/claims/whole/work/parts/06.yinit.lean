/-! the reference: slots, leads, rows, its constructor -/
section
variable {wd sz ro nx wr ins wy rr sh : Nat → Int32}
abbrev cx_TB (ro nx wr : Nat → Int32) : Prop := (∀ i, i < 600 → ro i = nI (cx_O i)) ∧ (∀ i, i < 480 → nx i = nI (cx_E i)) ∧ (∀ i, i < 120 → wr i = nI (cx_W i))
theorem ys_ok {post : Int32 → Prop} {s : Nat} (hs : s < 3) (h : post 1) : wpY_isSlot post (wd, sz, ro, nx, wr, ins, wy, rr, sh) (nI s) := by
  unfold wpY_isSlot
  exact br_f (nI_pos (by omega)) (br_f (nI_nlt (a := 2) (by omega) (by decide)) h)
theorem ys_no {post : Int32 → Prop} {s : Int32} (hs : s < 0 ∨ nI 3 ≤ s) (h : post 0) : wpY_isSlot post (wd, sz, ro, nx, wr, ins, wy, rr, sh) s := by
  unfold wpY_isSlot
  by_cases h0 : s < 0
  · exact br_t h0 h
  · rcases hs with h1 | h1
    · exact absurd h1 h0
    · obtain ⟨j, hj, rfl⟩ := nI_of h0
      rw [nI_leI (by decide) hj] at h1
      exact br_f h0 (br_t (nI_lt (a := 2) (by omega) hj) h)
theorem yw_lead_l {post : Int32 → Prop} {s k : Nat} (hs : s < 3) (hk : k ≤ 24) (hz : sz s = nI k) (hc : cx_ok wd) (hnx : ∀ i, i < 480 → nx i = nI (cx_E i)) : ∀ d i t, i + d = k → t < 120 → post (nI (cx_F (cx_w wd d (24 * s + i) t))) → wY_lead_8 post (nI s) wd sz ro nx wr ins wy rr sh (d + 1) (nI (cx_F t)) (nI (24 * s + i)) := by
  have e1 : (nI s).toNatClampNeg = s := cx_cl (by omega)
  have e2 := cx_24l s k
  intro d
  induction d with
  | zero =>
    intro i t hi ht hp
    rw [wY_lead_8]
    simp only [e1, hz, e2]
    exact ⟨vp_in_nI hs (by decide), br_t (nI_le (by omega) (by omega)) hp⟩
  | succ d ih =>
    intro i t hi ht hp
    obtain ⟨e4, h4⟩ := hc (24 * s + i) (by omega)
    have hF := cx_F_lt ht
    have e3 : (nI (24 * s + i)).toNatClampNeg = 24 * s + i := cx_cl (by omega)
    have e5 := cx_4l (cx_F t) (cx_d wd (24 * s + i))
    have e6 : (nI (4 * cx_F t + cx_d wd (24 * s + i))).toNatClampNeg = 4 * cx_F t + cx_d wd (24 * s + i) := cx_cl (by omega)
    have e7 := hnx (4 * cx_F t + cx_d wd (24 * s + i)) (by omega)
    rw [← cx_FA ht h4] at e7
    rw [wY_lead_8]
    simp only [e1, hz, e2, e3, e4, e5, e6, e7]
    exact ⟨vp_in_nI hs (by decide), br_f (nI_ge (by omega) (by omega)) ⟨vp_in_nI (by omega) (by decide), vp_in_nI (by omega) (by decide), nm_e (nm_r (nI_1 (24 * s + i)) (ih (i + 1) _ (by omega) (cx_A_lt (by omega)) hp))⟩⟩
theorem yw_lead {post : Int32 → Prop} {s k t : Nat} (hs : s < 3) (hk : k ≤ 24) (hz : sz s = nI k) (hc : cx_ok wd) (hnx : ∀ i, i < 480 → nx i = nI (cx_E i)) (ht : t < 120) (hp : post (nI (cx_F (cx_w wd k (24 * s) t)))) : wpY_lead post (wd, sz, ro, nx, wr, ins, wy, rr, sh) (nI (cx_F t)) (nI s) := by
  unfold wpY_lead
  exact nm_r (pk_mul 24 s) ⟨k + 1, yw_lead_l hs hk hz hc hnx k 0 t (by omega) ht hp⟩
theorem cx_F0 : cx_F 0 = 0 := by decide +kernel
theorem yw_val {post : Int32 → Prop} {s k : Nat} (hs : s < 3) (hk : k ≤ 24) (hz : sz s = nI k) (hc : cx_ok wd) (hnx : ∀ i, i < 480 → nx i = nI (cx_E i)) (hp : post (nI (cx_F (cx_w wd k (24 * s) 0)))) : wpY_lead post (wd, sz, ro, nx, wr, ins, wy, rr, sh) 0 (nI s) := by
  have h := yw_lead (ro := ro) (wr := wr) (ins := ins) (wy := wy) (rr := rr) (sh := sh) (t := 0) hs hk hz hc hnx (by decide) hp
  rw [cx_F0] at h
  exact h
theorem yw_unused_l {post : Int32 → Prop} {u : Nat} (hu : u < 32) : ∀ d x l, x + d = 5 → l < 5 → post (nI (cx_uu u d x l)) → wY_unused_5 post (nI u) wd sz ro nx wr ins wy rr sh (d + 1) (nI l) (nI x) := by
  intro d
  induction d with
  | zero =>
    intro x l hx hl hp
    rw [wY_unused_5]
    exact br_t (nI_le (a := 5) (by omega) (by omega)) hp
  | succ d ih =>
    intro x l hx hl hp
    have hb := cx_bit hu (show x < 5 by omega)
    have hq : post (nI (bif Nat.beq ((u >>> x) % 2) 0 then (bif Nat.beq l 0 then x else cx_uu u d (x + 1) (l - 1)) else cx_uu u d (x + 1) l)) := hp
    rw [wY_unused_5]
    refine br_f (nI_ge (b := 5) (by omega) (by decide)) ?_
    cases h : Nat.beq ((u >>> x) % 2) 0
    · rw [h, cond_false] at hq
      have hn : ¬ ((nI u >>> (nI x &&& 31)) &&& 1 = 0) := fun q => by
        rw [hb.mp q] at h
        exact Bool.noConfusion h
      exact br_f hn (nm_r (nI_1 x) (ih (x + 1) l (by omega) hl hq))
    · rw [h, cond_true] at hq
      refine br_t (hb.mpr h) ?_
      cases l with
      | zero => exact br_t rfl hq
      | succ l => exact br_f (nI_ne0 (by omega) (by omega)) (nm_r (pk_m1 l) (nm_r (nI_1 x) (ih (x + 1) l (by omega) (by omega) hq)))
theorem yw_unused {post : Int32 → Prop} {u l : Nat} (hu : u < 32) (hl : l < 5) (hp : post (nI (cx_uu u 5 0 l))) : wpY_unused post (wd, sz, ro, nx, wr, ins, wy, rr, sh) (nI u) (nI l) := by
  show ∃ n, wY_unused_5 post (nI u) wd sz ro nx wr ins wy rr sh n (nI l) 0
  exact ⟨6, yw_unused_l hu 5 0 l rfl hl hp⟩
theorem cx_un_b (i : Nat) : 0 < cx_un i ∧ cx_un i ≤ 24 := by
  unfold cx_un
  cases Nat.beq i 0 <;> cases Nat.beq i 1 <;> cases Nat.beq i 2 <;> decide
theorem cx_un_s {i : Nat} (h : i < 4) : cx_un i / (4 - i) = cx_un (i + 1) := by
  have : i = 0 ∨ i = 1 ∨ i = 2 ∨ i = 3 := by omega
  rcases this with rfl | rfl | rfl | rfl <;> rfl
theorem cx_un5 : nI (cx_un (4 + 1)) = 1 := by decide +kernel
theorem yw_mr_l {post : SY → Prop} {p : Nat} (h120 : p < 120) (hp : ∀ ro wr, (∀ j, j < 5 * p + 5 → ro j = nI (cx_O j)) → (∀ q, q < p + 1 → wr q = nI (cx_W q)) → (∀ q, p + 1 ≤ q → wr q = 0) → post (wd, sz, ro, nx, wr, ins, wy, rr, sh)) : ∀ d i ro wr, i + d = 5 → (∀ j, j < 5 * p + i → ro j = nI (cx_O j)) → (∀ q, q < p → wr q = nI (cx_W q)) → wr p = nI (cx_wr p i) → (∀ q, p + 1 ≤ q → wr q = 0) → wY_makeRow_11 post (nI p) (d + 1) (nI (cx_re p i)) (nI (cx_us p i)) (nI (cx_un i)) (nI i) wd sz ro nx wr ins wy rr sh := by
  have e1 : (nI p).toNatClampNeg = p := cx_cl (by omega)
  have ip : vp_in (nI p) 120 := vp_in_nI h120 (by decide)
  intro d
  induction d with
  | zero =>
    intro i ro wr hi h1 h2 h3 h4
    obtain rfl : i = 5 := by omega
    rw [wY_makeRow_11]
    refine br_t (nI_le (a := 5) (Nat.le_refl _) (by decide)) (hp ro wr h1 ?_ h4)
    intro q hq
    by_cases e : q = p
    · rw [e, h3, cx_wrW h120]
    · exact h2 q (by omega)
  | succ d ih =>
    intro i ro wr hi h1 h2 h3 h4
    have hi5 : i < 5 := by omega
    obtain ⟨u0, u1⟩ := cx_un_b i
    have hre := cx_re_lt (i := i) h120 (by omega)
    have hus := cx_us_lt (i := i) h120 (by omega)
    have hsk := cx_sk_lt h120 hi5
    have hO := cx_O_lt (i := 5 * p + i) (by omega)
    have e5 := cx_5l p i
    have e6 : (nI (5 * p + i)).toNatClampNeg = 5 * p + i := cx_cl (by omega)
    have un0 : ¬ nI (cx_un i) = 0 := nI_ne0 u0 (by omega)
    rw [wY_makeRow_11]
    refine br_f (nI_ge (b := 5) (by omega) (by decide)) ⟨un0, nm_r (pk_div (by omega) u0 (by omega)) (yw_unused hus hsk ?_)⟩
    rw [cx_uuO h120 hi5]
    simp only [e1, e5, e6]
    have hr : ∀ j, j < 5 * p + (i + 1) → upd ro (5 * p + i) (nI (cx_O (5 * p + i))) j = nI (cx_O j) := by
      intro j hj
      by_cases e : j = 5 * p + i
      · rw [e, pk_us]
      · rw [pk_un e]
        exact h1 j (by omega)
    have hw2 : ∀ q, q < p → upd wr p (wr p + nI (cx_re p i / cx_un i)) q = nI (cx_W q) := by
      intro q hq
      rw [pk_un (by omega)]
      exact h2 q hq
    have hw3 : upd wr p (wr p + nI (cx_re p i / cx_un i)) p = nI (cx_wr p (i + 1)) := by
      rw [pk_us, h3, nI_add]
      rfl
    have hw4 : ∀ q, p + 1 ≤ q → upd wr p (wr p + nI (cx_re p i / cx_un i)) q = 0 := by
      intro q hq
      rw [pk_un (by omega)]
      exact h4 q hq
    have hh := ih (i + 1) _ _ (by omega) hr hw2 hw3 hw4
    refine ⟨vp_in_nI (by omega) (by decide), nm_e (nm_r (cx_sor hus hO) ⟨ip, ip, nm_e ⟨un0, nm_r (pk_rem (by omega) u0 (by omega)) ?_⟩⟩)⟩
    by_cases h4i : i = 4
    · subst h4i
      rw [cx_un5] at hh
      exact br_t (nI_le (a := 4) (Nat.le_refl _) (by decide)) (nm_r (nI_1 4) hh)
    · have es : (4 : Int32) - nI i = nI (4 - i) := pk_sub (a := 4) (by omega)
      have ed : nI (cx_un i) / nI (4 - i) = nI (cx_un (i + 1)) := by
        rw [pk_div (by omega) (by omega) (by omega), cx_un_s (by omega)]
      refine br_f (nI_ge (b := 4) (by omega) (by decide)) ?_
      rw [es]
      exact ⟨nI_ne0 (by omega) (by omega), nm_r ed (nm_r (nI_1 i) hh)⟩
theorem yw_mr {post : SY → Prop} {p : Nat} (h120 : p < 120) (h1 : ∀ j, j < 5 * p → ro j = nI (cx_O j)) (h2 : ∀ q, q < p → wr q = nI (cx_W q)) (h4 : ∀ q, p ≤ q → wr q = 0) (hp : ∀ ro wr, (∀ j, j < 5 * p + 5 → ro j = nI (cx_O j)) → (∀ q, q < p + 1 → wr q = nI (cx_W q)) → (∀ q, p + 1 ≤ q → wr q = 0) → post (wd, sz, ro, nx, wr, ins, wy, rr, sh)) : wpY_makeRow post (wd, sz, ro, nx, wr, ins, wy, rr, sh) (nI p) := by
  show ∃ n, wY_makeRow_11 post (nI p) n (nI p) 0 24 0 wd sz ro nx wr ins wy rr sh
  exact ⟨6, yw_mr_l h120 hp 5 0 ro wr rfl h1 h2 (h4 p (Nat.le_refl p)) (fun q hq => h4 q (by omega))⟩
theorem yw_nr_in {post : Int32 → Prop} {J4 : Int32 → Int32 → Prop} {r : Nat → Nat} {i nn : Nat} (hi : i < 5) (hr : ∀ j, j < 5 → rr j = nI (r j) ∧ r j < 5) : ∀ d j cc, j + d = 5 → J4 (nI (nn * (5 - i) + cx_lc r i d j cc)) (nI (i + 1)) → wY_numberOfRow_16 post J4 (nI nn) (nI i) wd sz ro nx wr ins wy rr sh (d + 1) (nI cc) (nI j) := by
  have e1 : (nI i).toNatClampNeg = i := cx_cl (by omega)
  intro d
  induction d with
  | zero =>
    intro j cc hj h
    have e : nI nn * (5 - nI i) + nI cc = nI (nn * (5 - i) + cc) := by
      rw [show (5 : Int32) - nI i = nI (5 - i) from pk_sub (a := 5) (by omega), pk_mul, nI_add]
    rw [wY_numberOfRow_16]
    exact br_t (nI_le (a := 5) (by omega) (by omega)) (nm_r e (nm_r (nI_1 i) h))
  | succ d ih =>
    intro j cc hj h
    have e2 : (nI j).toNatClampNeg = j := cx_cl (by omega)
    obtain ⟨r1, r2⟩ := hr i hi
    obtain ⟨r3, r4⟩ := hr j (by omega)
    have hq : J4 (nI (nn * (5 - i) + cx_lc r i d (j + 1) (bif Nat.blt (r j) (r i) then cc + 1 else cc))) (nI (i + 1)) := h
    rw [wY_numberOfRow_16]
    refine br_f (nI_ge (b := 5) (by omega) (by decide)) ⟨vp_in_nI (by omega) (by decide), vp_in_nI hi (by decide), ?_⟩
    rw [e1, e2, r1, r3]
    refine pk_le (r i) (r j) (fun hl => ?_) (fun hl => ?_) rfl rfl (by omega) (by omega)
    · rw [cx_bnlt hl] at hq
      exact nm_r (nI_1 j) (ih (j + 1) cc (by omega) hq)
    · rw [cx_blt hl] at hq
      exact nm_r (nI_1 cc) (nm_r (nI_1 j) (ih (j + 1) (cc + 1) (by omega) hq))
theorem yw_nr_l {post : Int32 → Prop} {r : Nat → Nat} (hr : ∀ j, j < 5 → rr j = nI (r j) ∧ r j < 5) : ∀ d i nn, i + d = 5 → post (nI (cx_nu r d i nn)) → wY_numberOfRow_4 post wd sz ro nx wr ins wy rr sh (d + 1) (nI nn) (nI i) := by
  intro d
  induction d with
  | zero =>
    intro i nn hi hp
    rw [wY_numberOfRow_4]
    exact br_t (nI_le (a := 5) (by omega) (by omega)) hp
  | succ d ih =>
    intro i nn hi hp
    rw [wY_numberOfRow_4]
    exact br_f (nI_ge (b := 5) (by omega) (by decide)) (nm_r (nI_1 i) ⟨4 - i + 1, yw_nr_in (by omega) hr (4 - i) (i + 1) 0 (by omega) (ih (i + 1) _ (by omega) hp)⟩)
theorem yw_nr {post : Int32 → Prop} {r : Nat → Nat} (hr : ∀ j, j < 5 → rr j = nI (r j) ∧ r j < 5) (hp : post (nI (cx_num r))) : wpY_numberOfRow post (wd, sz, ro, nx, wr, ins, wy, rr, sh) := by
  show ∃ n, wY_numberOfRow_4 post wd sz ro nx wr ins wy rr sh n 0 0
  exact ⟨6, yw_nr_l hr 5 0 0 rfl hp⟩
theorem yw_ex_l {post : Int32 → SY → Prop} {p a : Nat} (h120 : p < 120) (ha : a < 4) (hro : ∀ j, j < 600 → ro j = nI (cx_O j)) (h : ∀ rr, post (nI (cx_E (4 * p + a))) (wd, sz, ro, nx, wr, ins, wy, rr, sh)) : ∀ d x rr, x + d = 5 → (∀ j, j < x → rr j = nI (cx_O (5 * p + j))) → wY_exchanged_2 post (nI p) (nI a) (d + 1) (nI x) wd sz ro nx wr ins wy rr sh := by
  intro d
  induction d with
  | zero =>
    intro x rr hx hr
    obtain rfl : x = 5 := by omega
    have e1 : (nI a).toNatClampNeg = a := cx_cl (by omega)
    have e2 := nI_1 a
    have e3 : (nI (a + 1)).toNatClampNeg = a + 1 := cx_cl (by omega)
    rw [wY_exchanged_2]
    refine br_t (nI_le (a := 5) (Nat.le_refl _) (by decide)) ?_
    simp only [e1, e2, e3]
    have ia : vp_in (nI a) 5 := vp_in_nI (by omega) (by decide)
    have ib : vp_in (nI (a + 1)) 5 := vp_in_nI (by omega) (by decide)
    refine ⟨ia, nm_e ⟨ib, ia, nm_e ⟨ib, nm_e (yw_nr (r := cx_x1 p a) ?_ ?_)⟩⟩⟩
    · intro j hj
      unfold cx_x1
      by_cases j1 : j = a + 1
      · subst j1
        rw [pk_us, cx_bne (show a + 1 ≠ a by omega), cond_false, cx_beq rfl, cond_true]
        exact ⟨hr a (by omega), cx_O_lt (by omega)⟩
      · rw [pk_un j1]
        by_cases j2 : j = a
        · subst j2
          rw [pk_us, cx_beq rfl, cond_true]
          exact ⟨hr (j + 1) (by omega), cx_O_lt (by omega)⟩
        · rw [pk_un j2, cx_bne j2, cx_bne j1, cond_false, cond_false]
          exact ⟨hr j hj, cx_O_lt (by omega)⟩
    · rw [cx_ex h120 ha]
      exact h _
  | succ d ih =>
    intro x rr hx hr
    have e1 : (nI x).toNatClampNeg = x := cx_cl (by omega)
    have e5 := cx_5l p x
    have e6 : (nI (5 * p + x)).toNatClampNeg = 5 * p + x := cx_cl (by omega)
    have e7 := hro (5 * p + x) (by omega)
    rw [wY_exchanged_2]
    refine br_f (nI_ge (b := 5) (by omega) (by decide)) ?_
    simp only [e1, e5, e6, e7]
    refine ⟨vp_in_nI (by omega) (by decide), vp_in_nI (by omega) (by decide), nm_e (nm_r (nI_1 x) (ih (x + 1) _ (by omega) ?_))⟩
    intro j hj
    by_cases e : j = x
    · rw [e, pk_us]
    · rw [pk_un e]
      exact hr j (by omega)
theorem yw_ex {post : Int32 → SY → Prop} {p a : Nat} (h120 : p < 120) (ha : a < 4) (hro : ∀ j, j < 600 → ro j = nI (cx_O j)) (h : ∀ rr, post (nI (cx_E (4 * p + a))) (wd, sz, ro, nx, wr, ins, wy, rr, sh)) : wpY_exchanged post (wd, sz, ro, nx, wr, ins, wy, rr, sh) (nI p) (nI a) := by
  show ∃ n, wY_exchanged_2 post (nI p) (nI a) n 0 wd sz ro nx wr ins wy rr sh
  exact ⟨6, yw_ex_l h120 ha hro h 5 0 rr rfl (fun j hj => absurd hj (Nat.not_lt_zero j))⟩
theorem yw_97 {post : SY → Prop} (hro : ∀ j, j < 600 → ro j = nI (cx_O j)) (hp : ∀ nx rr, (∀ i, i < 480 → nx i = nI (cx_E i)) → post (wd, sz, ro, nx, wr, ins, wy, rr, sh)) : ∀ d n nx rr, n + d = 480 → (∀ i, i < n → nx i = nI (cx_E i)) → wY_init_97 post (d + 1) (nI n) wd sz ro nx wr ins wy rr sh := by
  intro d
  induction d with
  | zero =>
    intro n nx rr hn h
    obtain rfl : n = 480 := by omega
    rw [wY_init_97]
    exact br_t (nI_le (a := 480) (Nat.le_refl _) (by decide)) (hp nx rr h)
  | succ d ih =>
    intro n nx rr hn h
    have e1 : nI n / 4 = nI (n / 4) := pk_div (d := 4) (by omega) (by decide) (by decide)
    have e2 : nI n - nI n / 4 * 4 = nI (n % 4) := pk_rem (d := 4) (by omega) (by decide) (by decide)
    have e3 : 4 * (n / 4) + n % 4 = n := by omega
    have e4 : (nI n).toNatClampNeg = n := cx_cl (by omega)
    rw [wY_init_97]
    refine br_f (nI_ge (b := 480) (by omega) (by decide)) ⟨by decide, by decide, ?_⟩
    rw [e2, e1]
    refine yw_ex (by omega) (by omega) hro ?_
    intro rr'
    rw [e3]
    simp only [e4]
    refine ⟨vp_in_nI (by omega) (by decide), nm_e (nm_r (nI_1 n) (ih (n + 1) _ _ (by omega) ?_))⟩
    intro i hi
    by_cases e : i = n
    · rw [e, pk_us]
    · rw [pk_un e]
      exact h i (by omega)
theorem yw_78 {post : SY → Prop} (hp : ∀ ro nx wr rr, cx_TB ro nx wr → post (wd, sz, ro, nx, wr, ins, wy, rr, sh)) : ∀ d p ro wr, p + d = 120 → (∀ j, j < 5 * p → ro j = nI (cx_O j)) → (∀ q, q < p → wr q = nI (cx_W q)) → (∀ q, p ≤ q → wr q = 0) → wY_init_78 post (d + 1) (nI p) wd sz ro nx wr ins wy rr sh := by
  intro d
  induction d with
  | zero =>
    intro p ro wr hd h1 h2 h3
    obtain rfl : p = 120 := by omega
    rw [wY_init_78]
    exact br_t (nI_le (a := 120) (Nat.le_refl _) (by decide)) ⟨481, yw_97 h1 (fun nx' rr' g => hp ro nx' wr rr' ⟨h1, g, h2⟩) 480 0 nx rr rfl (fun i hi => absurd hi (Nat.not_lt_zero i))⟩
  | succ d ih =>
    intro p ro wr hd h1 h2 h3
    rw [wY_init_78]
    exact br_f (nI_ge (b := 120) (by omega) (by decide)) (yw_mr (by omega) h1 h2 h3 (fun ro' wr' g1 g2 g3 => nm_r (nI_1 p) (ih (p + 1) ro' wr' (by omega) g1 g2 g3)))
theorem yw_init {post : SY → Prop} (hp : ∀ ro nx wr rr, cx_TB ro nx wr → post ((fun _ => 0), (fun _ => 0), ro, nx, wr, (fun _ => 0), (fun _ => 0), rr, (fun _ => 0))) : wpY_init post := by
  unfold wpY_init
  exact ⟨121, yw_78 hp 120 0 _ _ rfl (fun j hj => absurd hj (Nat.not_lt_zero j)) (fun j hj => absurd hj (Nat.not_lt_zero j)) (fun q _ => rfl)⟩
end
