theorem cx_A_lt_c : cx_all (fun i => Nat.blt (cx_A i) 120) 480 = true := by decide +kernel
theorem cx_A_lt {i : Nat} (hi : i < 480) : cx_A i < 120 := cx_l (cx_at (f := fun i => Nat.blt (cx_A i) 120) cx_A_lt_c i hi)
theorem cx_E_lt_c : cx_all (fun i => Nat.blt (cx_E i) 120) 480 = true := by decide +kernel
theorem cx_E_lt {i : Nat} (hi : i < 480) : cx_E i < 120 := cx_l (cx_at (f := fun i => Nat.blt (cx_E i) 120) cx_E_lt_c i hi)
theorem cx_O_lt_c : cx_all (fun i => Nat.blt (cx_O i) 5) 600 = true := by decide +kernel
theorem cx_O_lt {i : Nat} (hi : i < 600) : cx_O i < 5 := cx_l (cx_at (f := fun i => Nat.blt (cx_O i) 5) cx_O_lt_c i hi)
theorem cx_F_lt_c : cx_all (fun v => Nat.blt (cx_F v) 120) 120 = true := by decide +kernel
theorem cx_F_lt {v : Nat} (hv : v < 120) : cx_F v < 120 := cx_l (cx_at (f := fun v => Nat.blt (cx_F v) 120) cx_F_lt_c v hv)
theorem cx_G_lt_c : cx_all (fun v => Nat.blt (cx_G v) 120) 120 = true := by decide +kernel
theorem cx_G_lt {v : Nat} (hv : v < 120) : cx_G v < 120 := cx_l (cx_at (f := fun v => Nat.blt (cx_G v) 120) cx_G_lt_c v hv)
theorem cx_I_lt_c : cx_all (fun v => Nat.blt (cx_I v) 120) 120 = true := by decide +kernel
theorem cx_I_lt {v : Nat} (hv : v < 120) : cx_I v < 120 := cx_l (cx_at (f := fun v => Nat.blt (cx_I v) 120) cx_I_lt_c v hv)
theorem cx_P_lt_c : cx_all (fun v => Nat.blt (cx_P v) 120) 120 = true := by decide +kernel
theorem cx_P_lt {v : Nat} (hv : v < 120) : cx_P v < 120 := cx_l (cx_at (f := fun v => Nat.blt (cx_P v) 120) cx_P_lt_c v hv)
theorem cx_Q_lt_c : cx_all (fun v => Nat.blt (cx_Q v) 4) 120 = true := by decide +kernel
theorem cx_Q_lt {v : Nat} (hv : v < 120) : cx_Q v < 4 := cx_l (cx_at (f := fun v => Nat.blt (cx_Q v) 4) cx_Q_lt_c v hv)
theorem cx_L_lt_c : cx_all (fun v => Nat.blt (cx_L v) 11) 120 = true := by decide +kernel
theorem cx_L_lt {v : Nat} (hv : v < 120) : cx_L v < 11 := cx_l (cx_at (f := fun v => Nat.blt (cx_L v) 11) cx_L_lt_c v hv)
theorem cx_W_lt_c : cx_all (fun v => Nat.blt (cx_W v) 11) 120 = true := by decide +kernel
theorem cx_W_lt {v : Nat} (hv : v < 120) : cx_W v < 11 := cx_l (cx_at (f := fun v => Nat.blt (cx_W v) 11) cx_W_lt_c v hv)
theorem cx_R_lt_c : cx_all (fun v => Nat.blt (cx_R v) 32768) 120 = true := by decide +kernel
theorem cx_R_lt {v : Nat} (hv : v < 120) : cx_R v < 32768 := cx_l (cx_at (f := fun v => Nat.blt (cx_R v) 32768) cx_R_lt_c v hv)
theorem cx_C_lt_c : cx_all (fun v => Nat.blt (cx_C v) 800) 120 = true := by decide +kernel
theorem cx_C_lt {v : Nat} (hv : v < 120) : cx_C v < 800 := cx_l (cx_at (f := fun v => Nat.blt (cx_C v) 800) cx_C_lt_c v hv)
theorem cx_S_lt_c : cx_all (fun v => Nat.blt (cx_S v) 16) 120 = true := by decide +kernel
theorem cx_S_lt {v : Nat} (hv : v < 120) : cx_S v < 16 := cx_l (cx_at (f := fun v => Nat.blt (cx_S v) 16) cx_S_lt_c v hv)
theorem cx_FA_c : cx_all (fun v => cx_all (fun a => Nat.beq (cx_F (cx_A (4 * v + a))) (cx_E (4 * cx_F v + a))) 4) 120 = true := by decide +kernel
theorem cx_FA {v a : Nat} (hv : v < 120) (ha : a < 4) : cx_F (cx_A (4 * v + a)) = cx_E (4 * cx_F v + a) := cx_e (cx_at2 (f := fun v a => Nat.beq (cx_F (cx_A (4 * v + a))) (cx_E (4 * cx_F v + a))) cx_FA_c hv ha)
theorem cx_GE_c : cx_all (fun q => cx_all (fun a => Nat.beq (cx_G (cx_E (4 * q + a))) (cx_A (4 * cx_G q + a))) 4) 120 = true := by decide +kernel
theorem cx_GE {q a : Nat} (hq : q < 120) (ha : a < 4) : cx_G (cx_E (4 * q + a)) = cx_A (4 * cx_G q + a) := cx_e (cx_at2 (f := fun q a => Nat.beq (cx_G (cx_E (4 * q + a))) (cx_A (4 * cx_G q + a))) cx_GE_c hq ha)
theorem cx_GF_c : cx_all (fun v => Nat.beq (cx_G (cx_F v)) v) 120 = true := by decide +kernel
theorem cx_GF {v : Nat} (hv : v < 120) : cx_G (cx_F v) = v := cx_e (cx_at (f := fun v => Nat.beq (cx_G (cx_F v)) v) cx_GF_c v hv)
theorem cx_FG_c : cx_all (fun v => Nat.beq (cx_F (cx_G v)) v) 120 = true := by decide +kernel
theorem cx_FG {v : Nat} (hv : v < 120) : cx_F (cx_G v) = v := cx_e (cx_at (f := fun v => Nat.beq (cx_F (cx_G v)) v) cx_FG_c v hv)
theorem cx_LW_c : cx_all (fun v => Nat.beq (cx_W (cx_F v)) (cx_L v)) 120 = true := by decide +kernel
theorem cx_LW {v : Nat} (hv : v < 120) : cx_W (cx_F v) = cx_L v := cx_e (cx_at (f := fun v => Nat.beq (cx_W (cx_F v)) (cx_L v)) cx_LW_c v hv)
theorem cx_II_c : cx_all (fun v => Nat.beq (cx_I (cx_I v)) v) 120 = true := by decide +kernel
theorem cx_II {v : Nat} (hv : v < 120) : cx_I (cx_I v) = v := cx_e (cx_at (f := fun v => Nat.beq (cx_I (cx_I v)) v) cx_II_c v hv)
theorem cx_LI_c : cx_all (fun v => Nat.beq (cx_L (cx_I v)) (cx_L v)) 120 = true := by decide +kernel
theorem cx_LI {v : Nat} (hv : v < 120) : cx_L (cx_I v) = cx_L v := cx_e (cx_at (f := fun v => Nat.beq (cx_L (cx_I v)) (cx_L v)) cx_LI_c v hv)
theorem cx_AA_c : cx_all (fun v => cx_all (fun a => Nat.beq (cx_A (4 * cx_A (4 * v + a) + a)) v) 4) 120 = true := by decide +kernel
theorem cx_AA {v a : Nat} (hv : v < 120) (ha : a < 4) : cx_A (4 * cx_A (4 * v + a) + a) = v := cx_e (cx_at2 (f := fun v a => Nat.beq (cx_A (4 * cx_A (4 * v + a) + a)) v) cx_AA_c hv ha)
theorem cx_M_lt_c : cx_all (fun t => cx_all (fun x => Nat.blt (cx_M t x) 120) 120) 120 = true := by decide +kernel
theorem cx_M_lt {t x : Nat} (ht : t < 120) (hx : x < 120) : cx_M t x < 120 := cx_l (cx_at2 (f := fun t x => Nat.blt (cx_M t x) 120) cx_M_lt_c ht hx)
theorem cx_M0_c : cx_all (fun t => Nat.beq (cx_M t 0) t) 120 = true := by decide +kernel
theorem cx_M0 {t : Nat} (ht : t < 120) : cx_M t 0 = t := cx_e (cx_at (f := fun t => Nat.beq (cx_M t 0) t) cx_M0_c t ht)
theorem cx_0M_c : cx_all (fun x => Nat.beq (cx_M 0 x) x) 120 = true := by decide +kernel
theorem cx_0M {x : Nat} (hx : x < 120) : cx_M 0 x = x := cx_e (cx_at (f := fun x => Nat.beq (cx_M 0 x) x) cx_0M_c x hx)
theorem cx_MA_c : cx_all (fun t => cx_all (fun x => cx_all (fun a => Nat.beq (cx_M t (cx_A (4 * x + a))) (cx_A (4 * cx_M t x + a))) 4) 120) 120 = true := by decide +kernel
theorem cx_MA {t x a : Nat} (ht : t < 120) (hx : x < 120) (ha : a < 4) : cx_M t (cx_A (4 * x + a)) = cx_A (4 * cx_M t x + a) := cx_e (cx_at3 (f := fun t x a => Nat.beq (cx_M t (cx_A (4 * x + a))) (cx_A (4 * cx_M t x + a))) cx_MA_c ht hx ha)
theorem cx_IM_c : cx_all (fun a => cx_all (fun y => Nat.beq (cx_I (cx_M (cx_A a) y)) (cx_A (4 * cx_I y + a))) 120) 4 = true := by decide +kernel
theorem cx_IM {a y : Nat} (ha : a < 4) (hy : y < 120) : cx_I (cx_M (cx_A a) y) = cx_A (4 * cx_I y + a) := cx_e (cx_at2 (f := fun a y => Nat.beq (cx_I (cx_M (cx_A a) y)) (cx_A (4 * cx_I y + a))) cx_IM_c ha hy)
theorem cx_bwe_c : cx_all (fun t => cx_all (fun a => decide (cx_bw (cx_F (cx_I t)) a = cx_en t a)) 4) 120 = true := by decide +kernel
theorem cx_bwe {t a : Nat} (ht : t < 120) (ha : a < 4) : cx_bw (cx_F (cx_I t)) a = cx_en t a := of_decide_eq_true (cx_at2 (f := fun t a => decide (cx_bw (cx_F (cx_I t)) a = cx_en t a)) cx_bwe_c ht ha)
theorem cx_flfe_c : cx_all (fun t => Nat.beq (cx_fl (cx_F (cx_I t))) (cx_fe t)) 120 = true := by decide +kernel
theorem cx_flfe {t : Nat} (ht : t < 120) : cx_fl (cx_F (cx_I t)) = cx_fe t := cx_e (cx_at (f := fun t => Nat.beq (cx_fl (cx_F (cx_I t))) (cx_fe t)) cx_flfe_c t ht)
theorem cx_wf_c : cx_all (fun t => Nat.beq (cx_num (cx_x2 (cx_F (cx_I t)) (cx_fe t))) (cx_F (cx_I (cx_A (4 * t + cx_fe t))))) 120 = true := by decide +kernel
theorem cx_wf {t : Nat} (ht : t < 120) : cx_num (cx_x2 (cx_F (cx_I t)) (cx_fe t)) = cx_F (cx_I (cx_A (4 * t + cx_fe t))) := cx_e (cx_at (f := fun t => Nat.beq (cx_num (cx_x2 (cx_F (cx_I t)) (cx_fe t))) (cx_F (cx_I (cx_A (4 * t + cx_fe t))))) cx_wf_c t ht)
theorem cx_ex_c : cx_all (fun p => cx_all (fun a => Nat.beq (cx_num (cx_x1 p a)) (cx_E (4 * p + a))) 4) 120 = true := by decide +kernel
theorem cx_ex {p a : Nat} (hp : p < 120) (ha : a < 4) : cx_num (cx_x1 p a) = cx_E (4 * p + a) := cx_e (cx_at2 (f := fun p a => Nat.beq (cx_num (cx_x1 p a)) (cx_E (4 * p + a))) cx_ex_c hp ha)
theorem cx_jo_c : cx_all (fun t => cx_all (fun x => Nat.beq (cx_num (cx_x3 (cx_F t) (cx_F x))) (cx_F (cx_M t x))) 120) 120 = true := by decide +kernel
theorem cx_jo {t x : Nat} (ht : t < 120) (hx : x < 120) : cx_num (cx_x3 (cx_F t) (cx_F x)) = cx_F (cx_M t x) := cx_e (cx_at2 (f := fun t x => Nat.beq (cx_num (cx_x3 (cx_F t) (cx_F x))) (cx_F (cx_M t x))) cx_jo_c ht hx)
theorem cx_ors_c : cx_all (fun v => decide (cx_og (cx_hl (cx_I v)) (cx_L v) = nI (cx_S v))) 120 = true := by decide +kernel
theorem cx_ors {v : Nat} (hv : v < 120) : cx_og (cx_hl (cx_I v)) (cx_L v) = nI (cx_S v) := of_decide_eq_true (cx_at (f := fun v => decide (cx_og (cx_hl (cx_I v)) (cx_L v) = nI (cx_S v))) cx_ors_c v hv)
theorem cx_pfL_c : cx_all (fun v => Nat.beq (cx_pf v (cx_L v)) v) 120 = true := by decide +kernel
theorem cx_pfL {v : Nat} (hv : v < 120) : cx_pf v (cx_L v) = v := cx_e (cx_at (f := fun v => Nat.beq (cx_pf v (cx_L v)) v) cx_pfL_c v hv)
theorem cx_pfi_c : cx_all (fun v => cx_all (fun i => (bif Nat.blt i (cx_L v) then Nat.blt (cx_L (cx_pf v i)) (cx_L (cx_pf v (i + 1))) else true)) 10) 120 = true := by decide +kernel
theorem cx_pfi {v i : Nat} (hv : v < 120) (hi : i < 10) : (bif Nat.blt i (cx_L v) then Nat.blt (cx_L (cx_pf v i)) (cx_L (cx_pf v (i + 1))) else true) = true := (cx_at2 (f := fun v i => (bif Nat.blt i (cx_L v) then Nat.blt (cx_L (cx_pf v i)) (cx_L (cx_pf v (i + 1))) else true)) cx_pfi_c hv hi)
theorem cx_YA_c : cx_all (fun v => cx_all (fun a => cx_all (fun u => (bif Nat.blt (cx_L v) (cx_L (cx_A (4 * v + a))) then Nat.beq (cx_Y (cx_A (4 * v + a)) u) (Nat.lor (cx_Y v u) (cx_Y v (cx_A (4 * u + a)))) else true)) 120) 4) 120 = true := by decide +kernel
theorem cx_YA {v a u : Nat} (hv : v < 120) (ha : a < 4) (hu : u < 120) : (bif Nat.blt (cx_L v) (cx_L (cx_A (4 * v + a))) then Nat.beq (cx_Y (cx_A (4 * v + a)) u) (Nat.lor (cx_Y v u) (cx_Y v (cx_A (4 * u + a)))) else true) = true := (cx_at3 (f := fun v a u => (bif Nat.blt (cx_L v) (cx_L (cx_A (4 * v + a))) then Nat.beq (cx_Y (cx_A (4 * v + a)) u) (Nat.lor (cx_Y v u) (cx_Y v (cx_A (4 * u + a)))) else true)) cx_YA_c hv ha hu)
theorem cx_Y0_c : cx_all (fun u => Nat.beq (cx_Y 0 u) (bif Nat.beq u 0 then 1 else 0)) 120 = true := by decide +kernel
theorem cx_Y0 {u : Nat} (hu : u < 120) : cx_Y 0 u = (bif Nat.beq u 0 then 1 else 0) := cx_e (cx_at (f := fun u => Nat.beq (cx_Y 0 u) (bif Nat.beq u 0 then 1 else 0)) cx_Y0_c u hu)
theorem cx_PQ_c : cx_all (fun w => Nat.beq (cx_A (4 * cx_P (w + 1) + cx_Q (w + 1))) (w + 1)) 119 = true := by decide +kernel
theorem cx_PQ {w : Nat} (hw : w < 119) : cx_A (4 * cx_P (w + 1) + cx_Q (w + 1)) = w + 1 := cx_e (cx_at (f := fun w => Nat.beq (cx_A (4 * cx_P (w + 1) + cx_Q (w + 1))) (w + 1)) cx_PQ_c w hw)
theorem cx_Pl_c : cx_all (fun w => Nat.blt (cx_P (w + 1)) (w + 1)) 119 = true := by decide +kernel
theorem cx_Pl {w : Nat} (hw : w < 119) : cx_P (w + 1) < w + 1 := cx_l (cx_at (f := fun w => Nat.blt (cx_P (w + 1)) (w + 1)) cx_Pl_c w hw)
theorem cx_PL_c : cx_all (fun w => Nat.blt (cx_L (cx_P (w + 1))) (cx_L (w + 1))) 119 = true := by decide +kernel
theorem cx_PL {w : Nat} (hw : w < 119) : cx_L (cx_P (w + 1)) < cx_L (w + 1) := cx_l (cx_at (f := fun w => Nat.blt (cx_L (cx_P (w + 1))) (cx_L (w + 1))) cx_PL_c w hw)
theorem cx_Rin_c : cx_all (fun j => cx_all (fun i => (bif Nat.blt i j then (bif Nat.beq (cx_R i) (cx_R j) then false else true) else true)) 120) 120 = true := by decide +kernel
theorem cx_Rin {j i : Nat} (hj : j < 120) (hi : i < 120) : (bif Nat.blt i j then (bif Nat.beq (cx_R i) (cx_R j) then false else true) else true) = true := (cx_at2 (f := fun j i => (bif Nat.blt i j then (bif Nat.beq (cx_R i) (cx_R j) then false else true) else true)) cx_Rin_c hj hi)
theorem cx_Nv_c : cx_all (fun v => cx_all (fun a => Nat.blt v (cx_N (4 * v + a))) 4) 120 = true := by decide +kernel
theorem cx_Nv {v a : Nat} (hv : v < 120) (ha : a < 4) : v < cx_N (4 * v + a) := cx_l (cx_at2 (f := fun v a => Nat.blt v (cx_N (4 * v + a))) cx_Nv_c hv ha)
theorem cx_N_lt_c : cx_all (fun n => Nat.blt (cx_N n) 121) 481 = true := by decide +kernel
theorem cx_N_lt {n : Nat} (hn : n < 481) : cx_N n < 121 := cx_l (cx_at (f := fun n => Nat.blt (cx_N n) 121) cx_N_lt_c n hn)
theorem cx_li_c : cx_all (fun v => cx_all (fun a => (bif Nat.blt (cx_A (4 * v + a)) (cx_N (4 * v + a)) then Nat.beq (cx_N (4 * v + a + 1)) (cx_N (4 * v + a)) else (Nat.beq (cx_A (4 * v + a)) (cx_N (4 * v + a)) && (Nat.beq (cx_N (4 * v + a + 1)) (cx_A (4 * v + a) + 1) && (Nat.beq (cx_P (cx_A (4 * v + a))) v && (Nat.beq (cx_Q (cx_A (4 * v + a))) a && (Nat.beq (cx_L (cx_A (4 * v + a))) (cx_L v + 1) && decide (nI (cx_S v) ||| ((1 : Int32) <<< (nI a &&& 31)) = nI (cx_S (cx_A (4 * v + a))))))))))) 4) 120 = true := by decide +kernel
theorem cx_li {v a : Nat} (hv : v < 120) (ha : a < 4) : (bif Nat.blt (cx_A (4 * v + a)) (cx_N (4 * v + a)) then Nat.beq (cx_N (4 * v + a + 1)) (cx_N (4 * v + a)) else (Nat.beq (cx_A (4 * v + a)) (cx_N (4 * v + a)) && (Nat.beq (cx_N (4 * v + a + 1)) (cx_A (4 * v + a) + 1) && (Nat.beq (cx_P (cx_A (4 * v + a))) v && (Nat.beq (cx_Q (cx_A (4 * v + a))) a && (Nat.beq (cx_L (cx_A (4 * v + a))) (cx_L v + 1) && decide (nI (cx_S v) ||| ((1 : Int32) <<< (nI a &&& 31)) = nI (cx_S (cx_A (4 * v + a)))))))))) = true := (cx_at2 (f := fun v a => (bif Nat.blt (cx_A (4 * v + a)) (cx_N (4 * v + a)) then Nat.beq (cx_N (4 * v + a + 1)) (cx_N (4 * v + a)) else (Nat.beq (cx_A (4 * v + a)) (cx_N (4 * v + a)) && (Nat.beq (cx_N (4 * v + a + 1)) (cx_A (4 * v + a) + 1) && (Nat.beq (cx_P (cx_A (4 * v + a))) v && (Nat.beq (cx_Q (cx_A (4 * v + a))) a && (Nat.beq (cx_L (cx_A (4 * v + a))) (cx_L v + 1) && decide (nI (cx_S v) ||| ((1 : Int32) <<< (nI a &&& 31)) = nI (cx_S (cx_A (4 * v + a))))))))))) cx_li_c hv ha)
theorem cx_swp_c : cx_all (fun v => cx_all (fun a => decide (cx_swI (nI (cx_R v)) (nI a) = nI (cx_R (cx_A (4 * v + a))))) 4) 120 = true := by decide +kernel
theorem cx_swp {v a : Nat} (hv : v < 120) (ha : a < 4) : cx_swI (nI (cx_R v)) (nI a) = nI (cx_R (cx_A (4 * v + a))) := of_decide_eq_true (cx_at2 (f := fun v a => decide (cx_swI (nI (cx_R v)) (nI a) = nI (cx_R (cx_A (4 * v + a))))) cx_swp_c hv ha)
theorem cx_enA_c : cx_all (fun v => cx_all (fun a => (bif cx_en v a then Nat.blt (cx_A (4 * v + a)) v else true)) 4) 120 = true := by decide +kernel
theorem cx_enA {v a : Nat} (hv : v < 120) (ha : a < 4) : (bif cx_en v a then Nat.blt (cx_A (4 * v + a)) v else true) = true := (cx_at2 (f := fun v a => (bif cx_en v a then Nat.blt (cx_A (4 * v + a)) v else true)) cx_enA_c hv ha)
theorem cx_cpC_c : cx_all (fun w => Nat.beq (cx_cp (w + 1) 4) (cx_C (w + 1))) 119 = true := by decide +kernel
theorem cx_cpC {w : Nat} (hw : w < 119) : cx_cp (w + 1) 4 = cx_C (w + 1) := cx_e (cx_at (f := fun w => Nat.beq (cx_cp (w + 1) 4) (cx_C (w + 1))) cx_cpC_c w hw)
theorem cx_swC_c : cx_all (fun q => (bif Nat.beq (cx_W q) 0 then true else Nat.beq (cx_sw (cx_W q - 1) q 480) (cx_C (cx_G q)))) 120 = true := by decide +kernel
theorem cx_swC {q : Nat} (hq : q < 120) : (bif Nat.beq (cx_W q) 0 then true else Nat.beq (cx_sw (cx_W q - 1) q 480) (cx_C (cx_G q))) = true := (cx_at (f := fun q => (bif Nat.beq (cx_W q) 0 then true else Nat.beq (cx_sw (cx_W q - 1) q 480) (cx_C (cx_G q)))) cx_swC_c q hq)
theorem cx_WE_c : cx_all (fun p => cx_all (fun a => (Nat.beq (cx_W (cx_E (4 * p + a))) (cx_W p + 1) || Nat.beq (cx_W (cx_E (4 * p + a)) + 1) (cx_W p))) 4) 120 = true := by decide +kernel
theorem cx_WE {p a : Nat} (hp : p < 120) (ha : a < 4) : (Nat.beq (cx_W (cx_E (4 * p + a))) (cx_W p + 1) || Nat.beq (cx_W (cx_E (4 * p + a)) + 1) (cx_W p)) = true := (cx_at2 (f := fun p a => (Nat.beq (cx_W (cx_E (4 * p + a))) (cx_W p + 1) || Nat.beq (cx_W (cx_E (4 * p + a)) + 1) (cx_W p))) cx_WE_c hp ha)
theorem cx_W0_c : cx_all (fun q => (bif Nat.beq q 0 then Nat.beq (cx_W q) 0 else Nat.blt 0 (cx_W q))) 120 = true := by decide +kernel
theorem cx_W0 {q : Nat} (hq : q < 120) : (bif Nat.beq q 0 then Nat.beq (cx_W q) 0 else Nat.blt 0 (cx_W q)) = true := (cx_at (f := fun q => (bif Nat.beq q 0 then Nat.beq (cx_W q) 0 else Nat.blt 0 (cx_W q))) cx_W0_c q hq)
theorem cx_uuO_c : cx_all (fun p => cx_all (fun i => Nat.beq (cx_uu (cx_us p i) 5 0 (cx_re p i / cx_un i)) (cx_O (5 * p + i))) 5) 120 = true := by decide +kernel
theorem cx_uuO {p i : Nat} (hp : p < 120) (hi : i < 5) : cx_uu (cx_us p i) 5 0 (cx_re p i / cx_un i) = cx_O (5 * p + i) := cx_e (cx_at2 (f := fun p i => Nat.beq (cx_uu (cx_us p i) 5 0 (cx_re p i / cx_un i)) (cx_O (5 * p + i))) cx_uuO_c hp hi)
theorem cx_us_lt_c : cx_all (fun p => cx_all (fun i => Nat.blt (cx_us p i) 32) 6) 120 = true := by decide +kernel
theorem cx_us_lt {p i : Nat} (hp : p < 120) (hi : i < 6) : cx_us p i < 32 := cx_l (cx_at2 (f := fun p i => Nat.blt (cx_us p i) 32) cx_us_lt_c hp hi)
theorem cx_sk_lt_c : cx_all (fun p => cx_all (fun i => Nat.blt (cx_re p i / cx_un i) 5) 5) 120 = true := by decide +kernel
theorem cx_sk_lt {p i : Nat} (hp : p < 120) (hi : i < 5) : cx_re p i / cx_un i < 5 := cx_l (cx_at2 (f := fun p i => Nat.blt (cx_re p i / cx_un i) 5) cx_sk_lt_c hp hi)
theorem cx_re_lt_c : cx_all (fun p => cx_all (fun i => Nat.blt (cx_re p i) 120) 6) 120 = true := by decide +kernel
theorem cx_re_lt {p i : Nat} (hp : p < 120) (hi : i < 6) : cx_re p i < 120 := cx_l (cx_at2 (f := fun p i => Nat.blt (cx_re p i) 120) cx_re_lt_c hp hi)
theorem cx_wrW_c : cx_all (fun p => Nat.beq (cx_wr p 5) (cx_W p)) 120 = true := by decide +kernel
theorem cx_wrW {p : Nat} (hp : p < 120) : cx_wr p 5 = cx_W p := cx_e (cx_at (f := fun p => Nat.beq (cx_wr p 5) (cx_W p)) cx_wrW_c p hp)
theorem cx_bit_c : cx_all (fun u => cx_all (fun x => decide (((nI u >>> (nI x &&& 31)) &&& 1 = 0) ↔ (Nat.beq ((u >>> x) % 2) 0 = true))) 5) 32 = true := by decide +kernel
theorem cx_bit {u x : Nat} (hu : u < 32) (hx : x < 5) : ((nI u >>> (nI x &&& 31)) &&& 1 = 0) ↔ (Nat.beq ((u >>> x) % 2) 0 = true) := of_decide_eq_true (cx_at2 (f := fun u x => decide (((nI u >>> (nI x &&& 31)) &&& 1 = 0) ↔ (Nat.beq ((u >>> x) % 2) 0 = true))) cx_bit_c hu hx)
theorem cx_sor_c : cx_all (fun u => cx_all (fun x => decide (nI u ||| ((1 : Int32) <<< (nI x &&& 31)) = nI (u ||| (1 <<< x)))) 5) 32 = true := by decide +kernel
theorem cx_sor {u x : Nat} (hu : u < 32) (hx : x < 5) : nI u ||| ((1 : Int32) <<< (nI x &&& 31)) = nI (u ||| (1 <<< x)) := of_decide_eq_true (cx_at2 (f := fun u x => decide (nI u ||| ((1 : Int32) <<< (nI x &&& 31)) = nI (u ||| (1 <<< x)))) cx_sor_c hu hx)
theorem cx_K0_c : cx_all (fun x => Nat.beq (cx_pw x (cx_K x)) 0) 120 = true := by decide +kernel
theorem cx_K0 {x : Nat} (hx : x < 120) : cx_pw x (cx_K x) = 0 := cx_e (cx_at (f := fun x => Nat.beq (cx_pw x (cx_K x)) 0) cx_K0_c x hx)
theorem cx_K_lt_c : cx_all (fun x => Nat.blt (cx_K x) 7) 120 = true := by decide +kernel
theorem cx_K_lt {x : Nat} (hx : x < 120) : cx_K x < 7 := cx_l (cx_at (f := fun x => Nat.blt (cx_K x) 7) cx_K_lt_c x hx)
theorem cx_K1_c : cx_all (fun x => Nat.blt 0 (cx_K x)) 120 = true := by decide +kernel
theorem cx_K1 {x : Nat} (hx : x < 120) : 0 < cx_K x := cx_l (cx_at (f := fun x => Nat.blt 0 (cx_K x)) cx_K1_c x hx)
theorem cx_Kn_c : cx_all (fun x => cx_all (fun k => (bif Nat.blt k (cx_K x) then (bif Nat.beq k 0 then true else Nat.blt 0 (cx_pw x k)) else true)) 6) 120 = true := by decide +kernel
theorem cx_Kn {x k : Nat} (hx : x < 120) (hk : k < 6) : (bif Nat.blt k (cx_K x) then (bif Nat.beq k 0 then true else Nat.blt 0 (cx_pw x k)) else true) = true := (cx_at2 (f := fun x k => (bif Nat.blt k (cx_K x) then (bif Nat.beq k 0 then true else Nat.blt 0 (cx_pw x k)) else true)) cx_Kn_c hx hk)
theorem cx_perm : (List.map cx_G (List.range 120)).isPerm (List.range 120) = true := by decide +kernel
