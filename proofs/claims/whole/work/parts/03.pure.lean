/-! walks over the tables, without any printed predicate -/
def cx_d (c : Nat → Int32) (i : Nat) : Nat := (c i).toNatClampNeg
/-- the cells hold letters -/
def cx_ok (c : Nat → Int32) : Prop := ∀ i, i < 72 → c i = nI (cx_d c i) ∧ cx_d c i < 4
def cx_w (c : Nat → Int32) : Nat → Nat → Nat → Nat
  | 0, _, t => t
  | n + 1, b, t => cx_w c n (b + 1) (cx_A (4 * t + cx_d c b))
def cx_r (c : Nat → Int32) (b : Nat) : Nat → Nat → Nat
  | 0, t => t
  | n + 1, t => cx_r c b n (cx_A (4 * t + cx_d c (b + n)))
theorem cx_w_lt {c : Nat → Int32} (hc : cx_ok c) : ∀ n b t, b + n ≤ 72 → t < 120 → cx_w c n b t < 120
  | 0, _, _, _, h => h
  | n + 1, b, t, hb, ht => by
    have h4 := (hc b (by omega)).2
    show cx_w c n (b + 1) (cx_A (4 * t + cx_d c b)) < 120
    exact cx_w_lt hc n (b + 1) _ (by omega) (cx_A_lt (by omega))
theorem cx_w_M {c : Nat → Int32} (hc : cx_ok c) {t : Nat} (ht : t < 120) : ∀ n b x, b + n ≤ 72 → x < 120 → cx_w c n b (cx_M t x) = cx_M t (cx_w c n b x)
  | 0, _, _, _, _ => rfl
  | n + 1, b, x, hb, hx => by
    have h4 := (hc b (by omega)).2
    show cx_w c n (b + 1) (cx_A (4 * cx_M t x + cx_d c b)) = cx_M t (cx_w c n (b + 1) (cx_A (4 * x + cx_d c b)))
    rw [← cx_MA ht hx h4]
    exact cx_w_M hc ht n (b + 1) _ (by omega) (cx_A_lt (by omega))
theorem cx_w_0 {c : Nat → Int32} (hc : cx_ok c) {n b t : Nat} (hb : b + n ≤ 72) (ht : t < 120) : cx_w c n b t = cx_M t (cx_w c n b 0) := by
  have h := cx_w_M hc ht n b 0 hb (by omega)
  rw [cx_M0 ht] at h
  exact h
theorem cx_r_f (c : Nat → Int32) : ∀ n b t, cx_r c b (n + 1) t = cx_A (4 * cx_r c (b + 1) n t + cx_d c b)
  | 0, _, _ => rfl
  | n + 1, b, t => by
    have e : b + (n + 1) = b + 1 + n := by omega
    show cx_r c b (n + 1) (cx_A (4 * t + cx_d c (b + (n + 1)))) = cx_A (4 * cx_r c (b + 1) n (cx_A (4 * t + cx_d c (b + 1 + n))) + cx_d c b)
    rw [cx_r_f c n b, e]
theorem cx_I0 : cx_I 0 = 0 := by decide +kernel
theorem cx_r_I {c : Nat → Int32} (hc : cx_ok c) : ∀ n b, b + n ≤ 72 → cx_r c b n 0 = cx_I (cx_w c n b 0)
  | 0, _, _ => cx_I0.symm
  | n + 1, b, hb => by
    have h4 := (hc b (by omega)).2
    have hw : cx_w c (n + 1) b 0 = cx_w c n (b + 1) (cx_A (4 * 0 + cx_d c b)) := rfl
    rw [cx_r_f, cx_r_I hc n (b + 1) (by omega), hw, Nat.mul_zero, Nat.zero_add, cx_w_0 hc (by omega) (cx_A_lt (by omega)), cx_IM h4 (cx_w_lt hc n (b + 1) 0 (by omega) (by omega))]
def cx_put (c : Nat → Int32) (b : Nat) (h : Nat → Nat) : Nat → Nat → Int32
  | 0 => c
  | n + 1 => upd (cx_put c b h n) (b + n) (nI (h n))
theorem cx_ok_upd {c : Nat → Int32} (hc : cx_ok c) {k a : Nat} (ha : a < 4) : cx_ok (upd c k (nI a)) := by
  intro i hi
  by_cases e : i = k
  · subst e
    have h1 : upd c i (nI a) i = nI a := pk_us
    have h2 : cx_d (upd c i (nI a)) i = a := by
      show (upd c i (nI a) i).toNatClampNeg = a
      rw [h1, nI_clamp (by omega)]
    rw [h2]
    exact ⟨h1, ha⟩
  · have h1 : upd c k (nI a) i = c i := pk_un e
    have h2 : cx_d (upd c k (nI a)) i = cx_d c i := by
      show (upd c k (nI a) i).toNatClampNeg = (c i).toNatClampNeg
      rw [h1]
    rw [h1, h2]
    exact hc i hi
theorem cx_ok_put {c : Nat → Int32} (hc : cx_ok c) {b : Nat} {h : Nat → Nat} (hh : ∀ i, h i < 4) : ∀ n, cx_ok (cx_put c b h n)
  | 0 => hc
  | n + 1 => cx_ok_upd (cx_ok_put hc hh n) (hh n)
theorem cx_ft_lt {f : Nat → Bool} : ∀ d i, i + d ≤ 4 → cx_ft f 3 d i < 4
  | 0, _, _ => (by decide : 3 < 4)
  | d + 1, i, h => by
    show (bif f i then i else cx_ft f 3 d (i + 1)) < 4
    cases f i
    · exact cx_ft_lt d (i + 1) (by omega)
    · show i < 4
      omega
theorem cx_fe_lt (v : Nat) : cx_fe v < 4 := cx_ft_lt 3 0 (by decide)
theorem cx_rs_lt {t : Nat} (ht : t < 120) : ∀ i, cx_rs t i < 120
  | 0 => ht
  | i + 1 => by
    have h1 := cx_rs_lt ht i
    have h2 := cx_fe_lt (cx_rs t i)
    exact cx_A_lt (i := 4 * cx_rs t i + cx_fe (cx_rs t i)) (by omega)
theorem cx_hl_lt (t i : Nat) : cx_hl t i < 4 := cx_fe_lt _
theorem cx_pf_lt {v : Nat} (hv : v < 120) : ∀ i, cx_pf v i < 120
  | 0 => (by decide : 0 < 120)
  | i + 1 => by
    have h1 := cx_pf_lt hv i
    have h2 := cx_hl_lt (cx_I v) i
    exact cx_A_lt (i := 4 * cx_pf v i + cx_hl (cx_I v) i) (by omega)
def cx_fs (f : Nat → Bool) : Nat → Nat → Int32 → Int32
  | 0, _, s => s
  | d + 1, i, s => cx_fs f d (i + 1) (bif f i then s ||| ((1 : Int32) <<< (nI i &&& 31)) else s)
theorem cx_fs_c {f g : Nat → Bool} : ∀ d i s, (∀ a, i ≤ a → a < i + d → f a = g a) → cx_fs f d i s = cx_fs g d i s
  | 0, _, _, _ => rfl
  | d + 1, i, s, h => by
    show cx_fs f d (i + 1) (bif f i then s ||| ((1 : Int32) <<< (nI i &&& 31)) else s) = cx_fs g d (i + 1) (bif g i then s ||| ((1 : Int32) <<< (nI i &&& 31)) else s)
    rw [h i (Nat.le_refl i) (by omega)]
    exact cx_fs_c d (i + 1) _ (fun a h1 h2 => h a (by omega) (by omega))
/-- how many of the first n numbers f takes -/
def cx_ct (f : Nat → Bool) : Nat → Nat
  | 0 => 0
  | n + 1 => cx_ct f n + (bif f n then 1 else 0)
theorem cx_ct_s (f : Nat → Bool) (n : Nat) : List.countP f [n] = (bif f n then 1 else 0) := by
  cases h : f n <;> simp [h]
theorem cx_ct_l (f : Nat → Bool) : ∀ n, cx_ct f n = List.countP f (List.range n)
  | 0 => rfl
  | n + 1 => by
    rw [List.range_succ, List.countP_append, ← cx_ct_l f n, cx_ct_s]
    rfl
theorem cx_ct_G (f : Nat → Bool) : cx_ct (fun p => f (cx_G p)) 120 = cx_ct f 120 := by
  have h := List.Perm.countP_eq f (List.isPerm_iff.mp cx_perm)
  rw [List.countP_map] at h
  rw [cx_ct_l, cx_ct_l]
  exact h
/-- the ways of the reference: all of size at most z are counted, and m of the steps from size z are done -/
def cx_wy (z m q : Nat) : Nat := bif Nat.ble (cx_W q) z then cx_C (cx_G q) else cx_sw z q m
theorem cx_sw_0 {z q : Nat} (h : z + 1 < cx_W q) : ∀ m, m ≤ 480 → cx_sw z q m = 0
  | 0, _ => rfl
  | m + 1, hm => by
    have ih := cx_sw_0 h m (by omega)
    show cx_sw z q m + (bif Nat.beq (cx_E m) q && Nat.beq (cx_W (m / 4)) z then cx_C (cx_G (m / 4)) else 0) = 0
    rw [ih]
    cases h1 : Nat.beq (cx_E m) q
    · rfl
    · cases h2 : Nat.beq (cx_W (m / 4)) z
      · rfl
      · exfalso
        have e1 := cx_e h1
        have e2 := cx_e h2
        have h3 := cx_WE (p := m / 4) (a := m % 4) (by omega) (by omega)
        have e3 : 4 * (m / 4) + m % 4 = m := by omega
        rw [e3, e1, e2, Bool.or_eq_true] at h3
        rcases h3 with h4 | h4
        · have := cx_e h4
          omega
        · have := cx_e h4
          omega
theorem cx_wy_e {z q : Nat} (hq : q < 120) : cx_wy z 480 q = cx_wy (z + 1) 0 q := by
  unfold cx_wy
  cases h1 : Nat.ble (cx_W q) z
  · have n1 : ¬ cx_W q ≤ z := fun hh => by rw [Nat.ble_eq_true_of_le hh] at h1; exact Bool.noConfusion h1
    cases h2 : Nat.ble (cx_W q) (z + 1)
    · have n2 : ¬ cx_W q ≤ z + 1 := fun hh => by rw [Nat.ble_eq_true_of_le hh] at h2; exact Bool.noConfusion h2
      show cx_sw z q 480 = 0
      exact cx_sw_0 (by omega) 480 (Nat.le_refl _)
    · have l2 := Nat.le_of_ble_eq_true h2
      have e : cx_W q = z + 1 := by omega
      have h3 := cx_swC hq
      rw [e] at h3
      exact cx_e h3
  · have l1 := Nat.le_of_ble_eq_true h1
    have h2 : Nat.ble (cx_W q) (z + 1) = true := Nat.ble_eq_true_of_le (by omega)
    rw [h2]
    rfl
theorem cx_CG0 : cx_C (cx_G 0) = 1 := by decide +kernel
theorem cx_wy_0 {q : Nat} (hq : q < 120) : cx_wy 0 0 q = (bif Nat.beq q 0 then 1 else 0) := by
  have h := cx_W0 hq
  unfold cx_wy
  cases h1 : Nat.beq q 0
  · rw [h1] at h
    have h2 : 0 < cx_W q := cx_l h
    cases h3 : Nat.ble (cx_W q) 0
    · rfl
    · have := Nat.le_of_ble_eq_true h3
      omega
  · rw [h1] at h
    have h2 : cx_W q = 0 := cx_e h
    have h4 : q = 0 := cx_e h1
    rw [h2, h4]
    exact cx_CG0
theorem cx_wy_10 {q : Nat} (hq : q < 120) : cx_wy 10 0 q = cx_C (cx_G q) := by
  have h := cx_W_lt hq
  unfold cx_wy
  rw [Nat.ble_eq_true_of_le (show cx_W q ≤ 10 by omega)]
  rfl
theorem cx_Yb (w u : Nat) : cx_Y w u = 0 ∨ cx_Y w u = 1 := by
  have h : cx_Y w u < 2 := Nat.mod_lt _ (by decide)
  omega
theorem cx_lor {x y : Nat} (hx : x = 0 ∨ x = 1) (hy : y = 0 ∨ y = 1) : Nat.lor x y = (bif Nat.beq x 0 then y else 1) := by
  rcases hx with rfl | rfl <;> rcases hy with rfl | rfl <;> rfl
