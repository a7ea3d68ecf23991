/-! the owed statements -/
theorem i_up {k : Nat} {u : SX} {v : SY} (h : i_Rel k u v) : i_Rel (k + 3) u v := h
theorem i_vc0 : wpX_init (fun u => wpY_init (fun v => i_Rel 0 u v)) := by
  refine xw_init ?_
  intro li ar le ls sc st la ap ly tx
  refine yw_init ?_
  intro ro nx wr rr ty
  refine cx_mk ?_ ?_ tx ty
  · intro i _
    exact ⟨rfl, (by decide : 0 < 4)⟩
  · intro s _
    exact ⟨rfl, (by decide : 0 ≤ 24)⟩
theorem i_vc_push {k : Nat} {u : SX} {v : SY} (I : i_Rel k u v) (hk : k + 3 ≤ 1536) (v1 : Int32) (v2 : Int32) : wpX_push (fun r u' => wpY_push (fun r' v' => r' = r ∧ i_Rel (k + 3) u' v') v v1 v2) u v1 v2 := by
  obtain ⟨li, c, z, ar, le, ls, sc, st, la, ap, ly, jn⟩ := u
  obtain ⟨wd, sz, ro, nx, wr, ins, wy, rr, sh⟩ := v
  obtain ⟨h1, h2, hc, hz, tx, ty⟩ := I
  subst h1
  subst h2
  exact xm_push hc hz tx ty v1 v2
theorem i_vc_pop {k : Nat} {u : SX} {v : SY} (I : i_Rel k u v) (hk : k + 3 ≤ 1536) (v1 : Int32) : wpX_pop (fun r u' => wpY_pop (fun r' v' => r' = r ∧ i_Rel (k + 3) u' v') v v1) u v1 := by
  obtain ⟨li, c, z, ar, le, ls, sc, st, la, ap, ly, jn⟩ := u
  obtain ⟨wd, sz, ro, nx, wr, ins, wy, rr, sh⟩ := v
  obtain ⟨h1, h2, hc, hz, tx, ty⟩ := I
  subst h1
  subst h2
  exact xm_pop hc hz tx ty v1
theorem i_vc_clear {k : Nat} {u : SX} {v : SY} (I : i_Rel k u v) (hk : k + 3 ≤ 1536) (v1 : Int32) : wpX_clear (fun r u' => wpY_clear (fun r' v' => r' = r ∧ i_Rel (k + 3) u' v') v v1) u v1 := by
  obtain ⟨li, c, z, ar, le, ls, sc, st, la, ap, ly, jn⟩ := u
  obtain ⟨wd, sz, ro, nx, wr, ins, wy, rr, sh⟩ := v
  obtain ⟨h1, h2, hc, hz, tx, ty⟩ := I
  subst h1
  subst h2
  exact xm_clear hc hz tx ty v1
theorem i_vc_shorten {k : Nat} {u : SX} {v : SY} (I : i_Rel k u v) (hk : k + 3 ≤ 1536) (v1 : Int32) : wpX_shorten (fun r u' => wpY_shorten (fun r' v' => r' = r ∧ i_Rel (k + 3) u' v') v v1) u v1 := by
  obtain ⟨li, c, z, ar, le, ls, sc, st, la, ap, ly, jn⟩ := u
  obtain ⟨wd, sz, ro, nx, wr, ins, wy, rr, sh⟩ := v
  obtain ⟨h1, h2, hc, hz, tx, ty⟩ := I
  subst h1
  subst h2
  exact xm_shorten hc hz tx ty v1
theorem i_vc_turn {k : Nat} {u : SX} {v : SY} (I : i_Rel k u v) (hk : k + 3 ≤ 1536) (v1 : Int32) : wpX_turn (fun r u' => wpY_turn (fun r' v' => r' = r ∧ i_Rel (k + 3) u' v') v v1) u v1 := by
  obtain ⟨li, c, z, ar, le, ls, sc, st, la, ap, ly, jn⟩ := u
  obtain ⟨wd, sz, ro, nx, wr, ins, wy, rr, sh⟩ := v
  obtain ⟨h1, h2, hc, hz, tx, ty⟩ := I
  subst h1
  subst h2
  exact xm_turn hc hz tx ty v1
theorem i_vc_size {k : Nat} {u : SX} {v : SY} (I : i_Rel k u v) (hk : k + 3 ≤ 1536) (v1 : Int32) : wpX_size (fun r => wpY_size (fun r' => r' = r ∧ i_Rel (k + 3) u v) v v1) u v1 := by
  obtain ⟨li, c, z, ar, le, ls, sc, st, la, ap, ly, jn⟩ := u
  obtain ⟨wd, sz, ro, nx, wr, ins, wy, rr, sh⟩ := v
  obtain ⟨h1, h2, hc, hz, tx, ty⟩ := I
  subst h1
  subst h2
  exact xm_size hc hz tx ty v1
theorem i_vc_letter {k : Nat} {u : SX} {v : SY} (I : i_Rel k u v) (hk : k + 3 ≤ 1536) (v1 : Int32) (v2 : Int32) : wpX_letter (fun r => wpY_letter (fun r' => r' = r ∧ i_Rel (k + 3) u v) v v1 v2) u v1 v2 := by
  obtain ⟨li, c, z, ar, le, ls, sc, st, la, ap, ly, jn⟩ := u
  obtain ⟨wd, sz, ro, nx, wr, ins, wy, rr, sh⟩ := v
  obtain ⟨h1, h2, hc, hz, tx, ty⟩ := I
  subst h1
  subst h2
  exact xm_letter hc hz tx ty v1 v2
theorem i_vc_length {k : Nat} {u : SX} {v : SY} (I : i_Rel k u v) (hk : k + 3 ≤ 1536) (v1 : Int32) : wpX_length (fun r => wpY_length (fun r' => r' = r ∧ i_Rel (k + 3) u v) v v1) u v1 := by
  obtain ⟨li, c, z, ar, le, ls, sc, st, la, ap, ly, jn⟩ := u
  obtain ⟨wd, sz, ro, nx, wr, ins, wy, rr, sh⟩ := v
  obtain ⟨h1, h2, hc, hz, tx, ty⟩ := I
  subst h1
  subst h2
  exact xm_length hc hz tx ty v1
theorem i_vc_equal {k : Nat} {u : SX} {v : SY} (I : i_Rel k u v) (hk : k + 3 ≤ 1536) (v1 : Int32) (v2 : Int32) : wpX_equal (fun r => wpY_equal (fun r' => r' = r ∧ i_Rel (k + 3) u v) v v1 v2) u v1 v2 := by
  obtain ⟨li, c, z, ar, le, ls, sc, st, la, ap, ly, jn⟩ := u
  obtain ⟨wd, sz, ro, nx, wr, ins, wy, rr, sh⟩ := v
  obtain ⟨h1, h2, hc, hz, tx, ty⟩ := I
  subst h1
  subst h2
  exact xm_equal hc hz tx ty v1 v2
theorem i_vc_endings {k : Nat} {u : SX} {v : SY} (I : i_Rel k u v) (hk : k + 3 ≤ 1536) (v1 : Int32) : wpX_endings (fun r => wpY_endings (fun r' => r' = r ∧ i_Rel (k + 3) u v) v v1) u v1 := by
  obtain ⟨li, c, z, ar, le, ls, sc, st, la, ap, ly, jn⟩ := u
  obtain ⟨wd, sz, ro, nx, wr, ins, wy, rr, sh⟩ := v
  obtain ⟨h1, h2, hc, hz, tx, ty⟩ := I
  subst h1
  subst h2
  exact xm_endings hc hz tx ty v1
theorem i_vc_beginnings {k : Nat} {u : SX} {v : SY} (I : i_Rel k u v) (hk : k + 3 ≤ 1536) (v1 : Int32) : wpX_beginnings (fun r => wpY_beginnings (fun r' => r' = r ∧ i_Rel (k + 3) u v) v v1) u v1 := by
  obtain ⟨li, c, z, ar, le, ls, sc, st, la, ap, ly, jn⟩ := u
  obtain ⟨wd, sz, ro, nx, wr, ins, wy, rr, sh⟩ := v
  obtain ⟨h1, h2, hc, hz, tx, ty⟩ := I
  subst h1
  subst h2
  exact xm_beginnings hc hz tx ty v1
theorem i_vc_letters {k : Nat} {u : SX} {v : SY} (I : i_Rel k u v) (hk : k + 3 ≤ 1536) (v1 : Int32) : wpX_letters (fun r => wpY_letters (fun r' v' => r' = r ∧ i_Rel (k + 3) u v') v v1) u v1 := by
  obtain ⟨li, c, z, ar, le, ls, sc, st, la, ap, ly, jn⟩ := u
  obtain ⟨wd, sz, ro, nx, wr, ins, wy, rr, sh⟩ := v
  obtain ⟨h1, h2, hc, hz, tx, ty⟩ := I
  subst h1
  subst h2
  exact xm_letters hc hz tx ty v1
theorem i_vc_shortWords {k : Nat} {u : SX} {v : SY} (I : i_Rel k u v) (hk : k + 3 ≤ 1536) (v1 : Int32) : wpX_shortWords (fun r => wpY_shortWords (fun r' v' => r' = r ∧ i_Rel (k + 3) u v') v v1) u v1 := by
  obtain ⟨li, c, z, ar, le, ls, sc, st, la, ap, ly, jn⟩ := u
  obtain ⟨wd, sz, ro, nx, wr, ins, wy, rr, sh⟩ := v
  obtain ⟨h1, h2, hc, hz, tx, ty⟩ := I
  subst h1
  subst h2
  exact xm_shortWords hc hz tx ty v1
theorem i_vc_lies {k : Nat} {u : SX} {v : SY} (I : i_Rel k u v) (hk : k + 3 ≤ 1536) (v1 : Int32) (v2 : Int32) : wpX_lies (fun r => wpY_lies (fun r' v' => r' = r ∧ i_Rel (k + 3) u v') v v1 v2) u v1 v2 := by
  obtain ⟨li, c, z, ar, le, ls, sc, st, la, ap, ly, jn⟩ := u
  obtain ⟨wd, sz, ro, nx, wr, ins, wy, rr, sh⟩ := v
  obtain ⟨h1, h2, hc, hz, tx, ty⟩ := I
  subst h1
  subst h2
  exact xm_lies hc hz tx ty v1 v2
theorem i_vc_between {k : Nat} {u : SX} {v : SY} (I : i_Rel k u v) (hk : k + 3 ≤ 1536) (v1 : Int32) (v2 : Int32) : wpX_between (fun r => wpY_between (fun r' v' => r' = r ∧ i_Rel (k + 3) u v') v v1 v2) u v1 v2 := by
  obtain ⟨li, c, z, ar, le, ls, sc, st, la, ap, ly, jn⟩ := u
  obtain ⟨wd, sz, ro, nx, wr, ins, wy, rr, sh⟩ := v
  obtain ⟨h1, h2, hc, hz, tx, ty⟩ := I
  subst h1
  subst h2
  exact xm_between hc hz tx ty v1 v2
theorem i_vc_order {k : Nat} {u : SX} {v : SY} (I : i_Rel k u v) (hk : k + 3 ≤ 1536) (v1 : Int32) : wpX_order (fun r => wpY_order (fun r' => r' = r ∧ i_Rel (k + 3) u v) v v1) u v1 := by
  obtain ⟨li, c, z, ar, le, ls, sc, st, la, ap, ly, jn⟩ := u
  obtain ⟨wd, sz, ro, nx, wr, ins, wy, rr, sh⟩ := v
  obtain ⟨h1, h2, hc, hz, tx, ty⟩ := I
  subst h1
  subst h2
  exact xm_order hc hz tx ty v1
theorem i_vc_alike {k : Nat} {u : SX} {v : SY} (I : i_Rel k u v) (hk : k + 3 ≤ 1536) (v1 : Int32) (v2 : Int32) : wpX_alike (fun r u' => wpY_alike (fun r' v' => r' = r ∧ i_Rel (k + 3) u' v') v v1 v2) u v1 v2 := by
  obtain ⟨li, c, z, ar, le, ls, sc, st, la, ap, ly, jn⟩ := u
  obtain ⟨wd, sz, ro, nx, wr, ins, wy, rr, sh⟩ := v
  obtain ⟨h1, h2, hc, hz, tx, ty⟩ := I
  subst h1
  subst h2
  exact xm_alike hc hz tx ty v1 v2
