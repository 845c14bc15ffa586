set_option maxRecDepth 100000 in
set_option maxHeartbeats 4000000 in
theorem cl_X0_hold {b : Bool} {w : pW} {p : Program} {l : Launch} {e : Env} {R : Room} {s : State} {m : MethodId} {args : Array Value} {below : List Frame} {meth : Method} {c : Code} {cells slots : Nat} {d : Nat} {Q : pQ} (K : q_X b w p s m args c RX0 cX0_hold 5 R d cells slots) (hr : meth.sig.returnType = none) (hk : meth.locks = false) : p_Cl b (q_C l b w) tb_X0_hold d Q (q_Z b w p l e R s m args below meth c 5 cells slots (MQ below (q_Qc b w Q) args s cells slots (q_A b w))) := p_c0 (
  p_cc (n := 0) (s_al1 K dX0_hold_0 rfl) (
  p_cc (n := 1) (cV_X0_begin K dX0_hold_1 w_m_RX0_25) (
  p_cc (n := 2) (s_x) (
  p_cc (n := 3) (s_x) (
  p_cc (n := 4) (s_ic1 K dX0_hold_4 rfl) (
  p_cc (n := 5) (s_is1 K dX0_hold_5 rfl) (
  p_cc (n := 6) (s_il1 K dX0_hold_6 rfl) (
  p_cc (n := 7) (s_al1 K dX0_hold_7 rfl) (
  p_cc (n := 8) (s_giN K dX0_hold_8 (hc := rfl) (by decide) rfl inX2 (by decide) w_f_RX0_28 rfl) (
  p_cc (n := 9) (s_x) (
  p_cc (n := 10) (s_x) (
  p_cc (n := 11) (s_ige K dX0_hold_11 rfl) (
  p_cc (n := 12) (s_x) (
  p_cc (n := 13) (s_x) (
  p_cc (n := 14) (s_al1 K dX0_hold_14 rfl) (
  p_cc (n := 15) (s_gr (host := "") K dX0_hold_15 (hc := rfl) (by decide) rfl inX0 (by decide) w_f_RX0_12 rfl) (
  p_cc (n := 16) (s_x) (
  p_cc (n := 17) (s_x) (
  p_cc (n := 18) (s_giN K dX0_hold_18 (hc := rfl) (by decide) rfl inX1 (by decide) w_f_RX0_34 rfl) (
  p_cc (n := 19) (s_x) (
  p_cc (n := 20) (s_x) (
  p_cc (n := 21) (s_is1 K dX0_hold_21 rfl) (
  p_cc (n := 22) (s_al1 K dX0_hold_22 rfl) (
  p_cc (n := 23) (s_gr (host := "") K dX0_hold_23 (hc := rfl) (by decide) rfl inX0 (by decide) w_f_RX0_12 rfl) (
  p_cc (n := 24) (s_x) (
  p_cc (n := 25) (s_x) (
  p_cc (n := 26) (s_al1 K dX0_hold_26 rfl) (
  p_cc (n := 27) (s_il1 K dX0_hold_27 rfl) (
  p_cc (n := 28) (cVN_X1_take K dX0_hold_28 w_m_RX0_37) (
  p_cc (n := 29) (s_x) (
  p_cc (n := 30) (s_x) (
  p_cc (n := 31) (s_is2 K dX0_hold_31) (
  p_cc (n := 32) (s_x) (
  p_cc (n := 33) (s_al1 K dX0_hold_33 rfl) (
  p_cc (n := 34) (s_gr (host := "") K dX0_hold_34 (hc := rfl) (by decide) rfl inX0 (by decide) w_f_RX0_18 rfl) (
  p_cc (n := 35) (s_x) (
  p_cc (n := 36) (s_x) (
  p_cc (n := 37) (s_il1 K dX0_hold_37 rfl) (
  p_cc (n := 38) (s_il2 K dX0_hold_38) (
  p_cc (n := 39) (s_x) (
  p_cc (n := 40) (cSN_X7_put K dX0_hold_40 w_m_RX0_41) (
  p_cc (n := 41) (s_x) (
  p_cc (n := 42) (s_x) (
  p_cc (n := 43) (s_al1 K dX0_hold_43 rfl) (
  p_cc (n := 44) (s_al1 K dX0_hold_44 rfl) (
  p_cc (n := 45) (s_gi (host := "") K dX0_hold_45 (hc := rfl) (by decide) rfl inX0 (by decide) w_f_RX0_45 rfl) (
  p_cc (n := 46) (s_x) (
  p_cc (n := 47) (s_x) (
  p_cc (n := 48) (s_il2 K dX0_hold_48) (
  p_cc (n := 49) (s_x) (
  p_cc (n := 50) (s_mmax K dX0_hold_50 w_m_RX0_48 w_s_mmax w_I_Math w_c_mmax) (
  p_cc (n := 51) (s_x) (
  p_cc (n := 52) (s_x) (
  p_cc (n := 53) (s_pi (host := "") K dX0_hold_53 (hc := rfl) (by decide) rfl inX0 (by decide) w_f_RX0_45 rfl rfl tyX0 tyX0_ok nmX0 rfl) (
  p_cc (n := 54) (s_x) (
  p_cc (n := 55) (s_x) (
  p_cc (n := 56) (s_al1 K dX0_hold_56 rfl) (
  p_cc (n := 57) (s_gr (host := "") K dX0_hold_57 (hc := rfl) (by decide) rfl inX0 (by decide) w_f_RX0_12 rfl) (
  p_cc (n := 58) (s_x) (
  p_cc (n := 59) (s_x) (
  p_cc (n := 60) (s_giN K dX0_hold_60 (hc := rfl) (by decide) rfl inX1 (by decide) w_f_RX0_34 rfl) (
  p_cc (n := 61) (s_x) (
  p_cc (n := 62) (s_x) (
  p_cc (n := 63) (s_il1 K dX0_hold_63 rfl) (
  p_cc (n := 64) (s_ieq K dX0_hold_64 rfl) (
  p_cc (n := 65) (s_x) (
  p_cc (n := 66) (s_x) (
  p_cc (n := 67) (s_al1 K dX0_hold_67 rfl) (
  p_cc (n := 68) (s_gr (host := "") K dX0_hold_68 (hc := rfl) (by decide) rfl inX0 (by decide) w_f_RX0_22 rfl) (
  p_cc (n := 69) (s_x) (
  p_cc (n := 70) (s_x) (
  p_cc (n := 71) (s_al1 K dX0_hold_71 rfl) (
  p_cc (n := 72) (s_grN K dX0_hold_72 (hc := rfl) (by decide) rfl inX2 (by decide) w_f_RX0_54 rfl) (
  p_cc (n := 73) (s_x) (
  p_cc (n := 74) (s_x) (
  p_cc (n := 75) (s_il1 K dX0_hold_75 rfl) (
  p_cc (n := 76) (cSN_X7_at K dX0_hold_76 w_m_RX0_57) (
  p_cc (n := 77) (s_x) (
  p_cc (n := 78) (s_x) (
  p_cc (n := 79) (s_il1 K dX0_hold_79 rfl) (
  p_cc (n := 80) (cSN_X7_put K dX0_hold_80 w_m_RX0_41) (
  p_cc (n := 81) (s_x) (
  p_cc (n := 82) (s_x) (
  p_cc (n := 83) (s_ii K dX0_hold_83 rfl) (
  p_cc (n := 84) (s_x) (
  p_cc (n := 85) (s_x) (
  p_cc (n := 86) (s_goto K dX0_hold_86 rfl) (
  p_cc (n := 87) (s_x) (
  p_cc (n := 88) (s_x) (
  p_cc (n := 89) (s_vr K dX0_hold_89 hr hk) (p_cn)))))))))))))))))))))))))))))))))))))))))))))))))))))))))))))))))))))))))))))))))))))))))))
set_option maxRecDepth 100000 in
set_option maxHeartbeats 4000000 in
theorem cl_X0_begin {b : Bool} {w : pW} {p : Program} {l : Launch} {e : Env} {R : Room} {s : State} {m : MethodId} {args : Array Value} {below : List Frame} {meth : Method} {c : Code} {cells slots : Nat} {d : Nat} {Q : pQ} (K : q_X b w p s m args c RX0 cX0_begin 2 R d cells slots) (hr : meth.sig.returnType = none) (hk : meth.locks = false) : p_Cl b (q_C l b w) tb_X0_begin d Q (q_Z b w p l e R s m args below meth c 2 cells slots (MQ below (q_Qc b w Q) args s cells slots (q_A b w))) := p_c0 (
  p_cc (n := 0) (s_al1 K dX0_begin_0 rfl) (
  p_cc (n := 1) (s_gr (host := "") K dX0_begin_1 (hc := rfl) (by decide) rfl inX0 (by decide) w_f_RX0_12 rfl) (
  p_cc (n := 2) (s_x) (
  p_cc (n := 3) (s_x) (
  p_cc (n := 4) (cVN_X1_cool K dX0_begin_4 w_m_RX0_61) (
  p_cc (n := 5) (s_x) (
  p_cc (n := 6) (s_x) (
  p_cc (n := 7) (s_al1 K dX0_begin_7 rfl) (
  p_cc (n := 8) (s_ic1 K dX0_begin_8 rfl) (
  p_cc (n := 9) (s_pi (host := "") K dX0_begin_9 (hc := rfl) (by decide) rfl inX0 (by decide) w_f_RX0_45 rfl rfl tyX0 tyX0_ok nmX0 rfl) (
  p_cc (n := 10) (s_x) (
  p_cc (n := 11) (s_x) (
  p_cc (n := 12) (s_ic1 K dX0_begin_12 rfl) (
  p_cc (n := 13) (s_is1 K dX0_begin_13 rfl) (
  p_cc (n := 14) (s_il1 K dX0_begin_14 rfl) (
  p_cc (n := 15) (s_ic1 K dX0_begin_15 rfl) (
  p_cc (n := 16) (s_ige K dX0_begin_16 rfl) (
  p_cc (n := 17) (s_x) (
  p_cc (n := 18) (s_x) (
  p_cc (n := 19) (s_al1 K dX0_begin_19 rfl) (
  p_cc (n := 20) (s_gr (host := "") K dX0_begin_20 (hc := rfl) (by decide) rfl inX0 (by decide) w_f_RX0_22 rfl) (
  p_cc (n := 21) (s_x) (
  p_cc (n := 22) (s_x) (
  p_cc (n := 23) (s_il1 K dX0_begin_23 rfl) (
  p_cc (n := 24) (s_ic2 K dX0_begin_24 rfl) (
  p_cc (n := 25) (s_x) (
  p_cc (n := 26) (cSN_X7_put K dX0_begin_26 w_m_RX0_41) (
  p_cc (n := 27) (s_x) (
  p_cc (n := 28) (s_x) (
  p_cc (n := 29) (s_ii K dX0_begin_29 rfl) (
  p_cc (n := 30) (s_x) (
  p_cc (n := 31) (s_x) (
  p_cc (n := 32) (s_goto K dX0_begin_32 rfl) (
  p_cc (n := 33) (s_x) (
  p_cc (n := 34) (s_x) (
  p_cc (n := 35) (s_vr K dX0_begin_35 hr hk) (p_cn)))))))))))))))))))))))))))))))))))))
set_option maxRecDepth 100000 in
set_option maxHeartbeats 4000000 in
theorem cl_X1_cool {b : Bool} {w : pW} {p : Program} {l : Launch} {e : Env} {R : Room} {s : State} {m : MethodId} {args : Array Value} {below : List Frame} {meth : Method} {c : Code} {cells slots : Nat} {d : Nat} {Q : pQ} (K : q_X b w p s m args c RX1 cX1_cool 1 R d cells slots) (hr : meth.sig.returnType = none) (hk : meth.locks = false) : p_Cl b (q_C l b w) tb_X1_cool d Q (q_Z b w p l e R s m args below meth c 1 cells slots (MQ below (q_Qc b w Q) args s cells slots (q_A b w))) := p_c0 (
  p_cc (n := 0) (s_al1 K dX1_cool_0 rfl) (
  p_cc (n := 1) (s_ic1 K dX1_cool_1 rfl) (
  p_cc (n := 2) (s_pi (host := "") K dX1_cool_2 (hc := rfl) (by decide) rfl inX1 (by decide) w_f_RX1_9 rfl rfl tyX1 tyX1_ok nmX1 rfl) (
  p_cc (n := 3) (s_x) (
  p_cc (n := 4) (s_x) (
  p_cc (n := 5) (s_al1 K dX1_cool_5 rfl) (
  p_cc (n := 6) (s_ic1 K dX1_cool_6 rfl) (
  p_cc (n := 7) (s_pi (host := "") K dX1_cool_7 (hc := rfl) (by decide) rfl inX1 (by decide) w_f_RX1_15 rfl rfl tyX1 tyX1_ok nmX1 rfl) (
  p_cc (n := 8) (s_x) (
  p_cc (n := 9) (s_x) (
  p_cc (n := 10) (s_al1 K dX1_cool_10 rfl) (
  p_cc (n := 11) (s_ic1 K dX1_cool_11 rfl) (
  p_cc (n := 12) (s_pi (host := "") K dX1_cool_12 (hc := rfl) (by decide) rfl inX1 (by decide) w_f_RX1_18 rfl rfl tyX1 tyX1_ok nmX1 rfl) (
  p_cc (n := 13) (s_x) (
  p_cc (n := 14) (s_x) (
  p_cc (n := 15) (s_al1 K dX1_cool_15 rfl) (
  p_cc (n := 16) (s_ic1 K dX1_cool_16 rfl) (
  p_cc (n := 17) (s_pi (host := "") K dX1_cool_17 (hc := rfl) (by decide) rfl inX1 (by decide) w_f_RX1_21 rfl rfl tyX1 tyX1_ok nmX1 rfl) (
  p_cc (n := 18) (s_x) (
  p_cc (n := 19) (s_x) (
  p_cc (n := 20) (s_vr K dX1_cool_20 hr hk) (p_cn))))))))))))))))))))))
set_option maxRecDepth 100000 in
set_option maxHeartbeats 4000000 in
theorem cl_X1_copyFrom {b : Bool} {w : pW} {p : Program} {l : Launch} {e : Env} {R : Room} {s : State} {m : MethodId} {args : Array Value} {below : List Frame} {meth : Method} {c : Code} {cells slots : Nat} {d : Nat} {Q : pQ} (K : q_X b w p s m args c RX1 cX1_copyFrom 2 R d cells slots) (hr : meth.sig.returnType = none) (hk : meth.locks = false) : p_Cl b (q_C l b w) tb_X1_copyFrom d Q (q_Z b w p l e R s m args below meth c 2 cells slots (MQ below (q_Qc b w Q) args s cells slots (q_A b w))) := p_c0 (
  p_cc (n := 0) (s_al1 K dX1_copyFrom_0 rfl) (
  p_cc (n := 1) (s_al1 K dX1_copyFrom_1 rfl) (
  p_cc (n := 2) (s_gi (host := "") K dX1_copyFrom_2 (hc := rfl) (by decide) rfl inX1 (by decide) w_f_RX1_9 rfl) (
  p_cc (n := 3) (s_x) (
  p_cc (n := 4) (s_x) (
  p_cc (n := 5) (s_pi (host := "") K dX1_copyFrom_5 (hc := rfl) (by decide) rfl inX1 (by decide) w_f_RX1_9 rfl rfl tyX1 tyX1_ok nmX1 rfl) (
  p_cc (n := 6) (s_x) (
  p_cc (n := 7) (s_x) (
  p_cc (n := 8) (s_al1 K dX1_copyFrom_8 rfl) (
  p_cc (n := 9) (s_al1 K dX1_copyFrom_9 rfl) (
  p_cc (n := 10) (s_gi (host := "") K dX1_copyFrom_10 (hc := rfl) (by decide) rfl inX1 (by decide) w_f_RX1_15 rfl) (
  p_cc (n := 11) (s_x) (
  p_cc (n := 12) (s_x) (
  p_cc (n := 13) (s_pi (host := "") K dX1_copyFrom_13 (hc := rfl) (by decide) rfl inX1 (by decide) w_f_RX1_15 rfl rfl tyX1 tyX1_ok nmX1 rfl) (
  p_cc (n := 14) (s_x) (
  p_cc (n := 15) (s_x) (
  p_cc (n := 16) (s_al1 K dX1_copyFrom_16 rfl) (
  p_cc (n := 17) (s_al1 K dX1_copyFrom_17 rfl) (
  p_cc (n := 18) (s_gi (host := "") K dX1_copyFrom_18 (hc := rfl) (by decide) rfl inX1 (by decide) w_f_RX1_18 rfl) (
  p_cc (n := 19) (s_x) (
  p_cc (n := 20) (s_x) (
  p_cc (n := 21) (s_pi (host := "") K dX1_copyFrom_21 (hc := rfl) (by decide) rfl inX1 (by decide) w_f_RX1_18 rfl rfl tyX1 tyX1_ok nmX1 rfl) (
  p_cc (n := 22) (s_x) (
  p_cc (n := 23) (s_x) (
  p_cc (n := 24) (s_al1 K dX1_copyFrom_24 rfl) (
  p_cc (n := 25) (s_al1 K dX1_copyFrom_25 rfl) (
  p_cc (n := 26) (s_gi (host := "") K dX1_copyFrom_26 (hc := rfl) (by decide) rfl inX1 (by decide) w_f_RX1_21 rfl) (
  p_cc (n := 27) (s_x) (
  p_cc (n := 28) (s_x) (
  p_cc (n := 29) (s_pi (host := "") K dX1_copyFrom_29 (hc := rfl) (by decide) rfl inX1 (by decide) w_f_RX1_21 rfl rfl tyX1 tyX1_ok nmX1 rfl) (
  p_cc (n := 30) (s_x) (
  p_cc (n := 31) (s_x) (
  p_cc (n := 32) (s_vr K dX1_copyFrom_32 hr hk) (p_cn))))))))))))))))))))))))))))))))))
set_option maxRecDepth 100000 in
set_option maxHeartbeats 4000000 in
theorem cl_X1_take {b : Bool} {w : pW} {p : Program} {l : Launch} {e : Env} {R : Room} {s : State} {m : MethodId} {args : Array Value} {below : List Frame} {meth : Method} {c : Code} {cells slots : Nat} {d : Nat} {Q : pQ} (K : q_X b w p s m args c RX1 cX1_take 5 R d cells slots) (hr : meth.sig.returnType = (some .int)) (hk : meth.locks = false) : p_Cl b (q_C l b w) tb_X1_take d Q (q_Z b w p l e R s m args below meth c 5 cells slots (MQ below (q_Qc b w Q) args s cells slots (q_A b w))) := p_c0 (
  p_cc (n := 0) (s_al1 K dX1_take_0 rfl) (
  p_cc (n := 1) (s_grN K dX1_take_1 (hc := rfl) (by decide) rfl inX2 (by decide) w_f_RX1_24 rfl) (
  p_cc (n := 2) (s_x) (
  p_cc (n := 3) (s_x) (
  p_cc (n := 4) (s_il1 K dX1_take_4 rfl) (
  p_cc (n := 5) (cSN_X7_at K dX1_take_5 w_m_RX1_30) (
  p_cc (n := 6) (s_x) (
  p_cc (n := 7) (s_x) (
  p_cc (n := 8) (s_is1 K dX1_take_8 rfl) (
  p_cc (n := 9) (s_al1 K dX1_take_9 rfl) (
  p_cc (n := 10) (s_gi (host := "") K dX1_take_10 (hc := rfl) (by decide) rfl inX1 (by decide) w_f_RX1_21 rfl) (
  p_cc (n := 11) (s_x) (
  p_cc (n := 12) (s_x) (
  p_cc (n := 13) (s_il1 K dX1_take_13 rfl) (
  p_cc (n := 14) (cSN_X7_bit K dX1_take_14 w_m_RX1_34) (
  p_cc (n := 15) (s_x) (
  p_cc (n := 16) (s_x) (
  p_cc (n := 17) (s_ic1 K dX1_take_17 rfl) (
  p_cc (n := 18) (s_ine K dX1_take_18 rfl) (
  p_cc (n := 19) (s_x) (
  p_cc (n := 20) (s_x) (
  p_cc (n := 21) (s_ic2 K dX1_take_21 rfl) (
  p_cc (n := 22) (s_x) (
  p_cc (n := 23) (s_ir K dX1_take_23 hr hk) (
  p_cc (n := 24) (s_al1 K dX1_take_24 rfl) (
  p_cc (n := 25) (s_gi (host := "") K dX1_take_25 (hc := rfl) (by decide) rfl inX1 (by decide) w_f_RX1_15 rfl) (
  p_cc (n := 26) (s_x) (
  p_cc (n := 27) (s_x) (
  p_cc (n := 28) (s_il1 K dX1_take_28 rfl) (
  p_cc (n := 29) (s_ieq K dX1_take_29 rfl) (
  p_cc (n := 30) (s_x) (
  p_cc (n := 31) (s_x) (
  p_cc (n := 32) (s_al1 K dX1_take_32 rfl) (
  p_cc (n := 33) (s_dup K dX1_take_33) (
  p_cc (n := 34) (s_gi (host := "") K dX1_take_34 (hc := rfl) (by decide) rfl inX1 (by decide) w_f_RX1_9 rfl) (
  p_cc (n := 35) (s_x) (
  p_cc (n := 36) (s_x) (
  p_cc (n := 37) (s_ic1 K dX1_take_37 rfl) (
  p_cc (n := 38) (s_div K dX1_take_38) (
  p_cc (n := 39) (s_pi (host := "") K dX1_take_39 (hc := rfl) (by decide) rfl inX1 (by decide) w_f_RX1_9 rfl rfl tyX1 tyX1_ok nmX1 rfl) (
  p_cc (n := 40) (s_x) (
  p_cc (n := 41) (s_x) (
  p_cc (n := 42) (s_al1 K dX1_take_42 rfl) (
  p_cc (n := 43) (s_dup K dX1_take_43) (
  p_cc (n := 44) (s_gi (host := "") K dX1_take_44 (hc := rfl) (by decide) rfl inX1 (by decide) w_f_RX1_9 rfl) (
  p_cc (n := 45) (s_x) (
  p_cc (n := 46) (s_x) (
  p_cc (n := 47) (s_al1 K dX1_take_47 rfl) (
  p_cc (n := 48) (s_grN K dX1_take_48 (hc := rfl) (by decide) rfl inX2 (by decide) w_f_RX1_38 rfl) (
  p_cc (n := 49) (s_x) (
  p_cc (n := 50) (s_x) (
  p_cc (n := 51) (s_il1 K dX1_take_51 rfl) (
  p_cc (n := 52) (cSN_X7_at K dX1_take_52 w_m_RX1_30) (
  p_cc (n := 53) (s_x) (
  p_cc (n := 54) (s_x) (
  p_cc (n := 55) (s_al1 K dX1_take_55 rfl) (
  p_cc (n := 56) (s_il1 K dX1_take_56 rfl) (
  p_cc (n := 57) (cVN_X2_isFalse K dX1_take_57 w_m_RX1_41) (
  p_cc (n := 58) (s_x) (
  p_cc (n := 59) (s_x) (
  p_cc (n := 60) (s_al1 K dX1_take_60 rfl) (
  p_cc (n := 61) (s_grN K dX1_take_61 (hc := rfl) (by decide) rfl inX2 (by decide) w_f_RX1_45 rfl) (
  p_cc (n := 62) (s_x) (
  p_cc (n := 63) (s_x) (
  p_cc (n := 64) (s_il1 K dX1_take_64 rfl) (
  p_cc (n := 65) (cSN_X7_at K dX1_take_65 w_m_RX1_30) (
  p_cc (n := 66) (s_x) (
  p_cc (n := 67) (s_x) (
  p_cc (n := 68) (cS_X1_heating K dX1_take_68 w_m_RX1_48) (
  p_cc (n := 69) (s_x) (
  p_cc (n := 70) (s_x) (
  p_cc (n := 71) (s_add K dX1_take_71) (
  p_cc (n := 72) (s_pi (host := "") K dX1_take_72 (hc := rfl) (by decide) rfl inX1 (by decide) w_f_RX1_9 rfl rfl tyX1 tyX1_ok nmX1 rfl) (
  p_cc (n := 73) (s_x) (
  p_cc (n := 74) (s_x) (
  p_cc (n := 75) (s_al1 K dX1_take_75 rfl) (
  p_cc (n := 76) (s_il1 K dX1_take_76 rfl) (
  p_cc (n := 77) (s_pi (host := "") K dX1_take_77 (hc := rfl) (by decide) rfl inX1 (by decide) w_f_RX1_15 rfl rfl tyX1 tyX1_ok nmX1 rfl) (
  p_cc (n := 78) (s_x) (
  p_cc (n := 79) (s_x) (
  p_cc (n := 80) (s_al1 K dX1_take_80 rfl) (
  p_cc (n := 81) (s_dup K dX1_take_81) (
  p_cc (n := 82) (s_gi (host := "") K dX1_take_82 (hc := rfl) (by decide) rfl inX1 (by decide) w_f_RX1_18 rfl) (
  p_cc (n := 83) (s_x) (
  p_cc (n := 84) (s_x) (
  p_cc (n := 85) (s_ic1 K dX1_take_85 rfl) (
  p_cc (n := 86) (s_il1 K dX1_take_86 rfl) (
  p_cc (n := 87) (s_shl K dX1_take_87) (
  p_cc (n := 88) (s_or K dX1_take_88) (
  p_cc (n := 89) (s_pi (host := "") K dX1_take_89 (hc := rfl) (by decide) rfl inX1 (by decide) w_f_RX1_18 rfl rfl tyX1 tyX1_ok nmX1 rfl) (
  p_cc (n := 90) (s_x) (
  p_cc (n := 91) (s_x) (
  p_cc (n := 92) (s_al1 K dX1_take_92 rfl) (
  p_cc (n := 93) (s_gi (host := "") K dX1_take_93 (hc := rfl) (by decide) rfl inX1 (by decide) w_f_RX1_9 rfl) (
  p_cc (n := 94) (s_x) (
  p_cc (n := 95) (s_x) (
  p_cc (n := 96) (s_is2 K dX1_take_96) (
  p_cc (n := 97) (s_x) (
  p_cc (n := 98) (s_il2 K dX1_take_98) (
  p_cc (n := 99) (s_x) (
  p_cc (n := 100) (s_al1 K dX1_take_100 rfl) (
  p_cc (n := 101) (s_grN K dX1_take_101 (hc := rfl) (by decide) rfl inX2 (by decide) w_f_RX1_52 rfl) (
  p_cc (n := 102) (s_x) (
  p_cc (n := 103) (s_x) (
  p_cc (n := 104) (s_il1 K dX1_take_104 rfl) (
  p_cc (n := 105) (cSN_X7_at K dX1_take_105 w_m_RX1_30) (
  p_cc (n := 106) (s_x) (
  p_cc (n := 107) (s_x) (
  p_cc (n := 108) (s_ile K dX1_take_108 rfl) (
  p_cc (n := 109) (s_x) (
  p_cc (n := 110) (s_x) (
  p_cc (n := 111) (s_al1 K dX1_take_111 rfl) (
  p_cc (n := 112) (s_dup K dX1_take_112) (
  p_cc (n := 113) (s_gi (host := "") K dX1_take_113 (hc := rfl) (by decide) rfl inX1 (by decide) w_f_RX1_21 rfl) (
  p_cc (n := 114) (s_x) (
  p_cc (n := 115) (s_x) (
  p_cc (n := 116) (s_ic1 K dX1_take_116 rfl) (
  p_cc (n := 117) (s_il1 K dX1_take_117 rfl) (
  p_cc (n := 118) (s_shl K dX1_take_118) (
  p_cc (n := 119) (s_or K dX1_take_119) (
  p_cc (n := 120) (s_pi (host := "") K dX1_take_120 (hc := rfl) (by decide) rfl inX1 (by decide) w_f_RX1_21 rfl rfl tyX1 tyX1_ok nmX1 rfl) (
  p_cc (n := 121) (s_x) (
  p_cc (n := 122) (s_x) (
  p_cc (n := 123) (s_al1 K dX1_take_123 rfl) (
  p_cc (n := 124) (s_ic1 K dX1_take_124 rfl) (
  p_cc (n := 125) (s_pi (host := "") K dX1_take_125 (hc := rfl) (by decide) rfl inX1 (by decide) w_f_RX1_9 rfl rfl tyX1 tyX1_ok nmX1 rfl) (
  p_cc (n := 126) (s_x) (
  p_cc (n := 127) (s_x) (
  p_cc (n := 128) (s_il2 K dX1_take_128) (
  p_cc (n := 129) (s_x) (
  p_cc (n := 130) (s_ir K dX1_take_130 hr hk) (p_cn))))))))))))))))))))))))))))))))))))))))))))))))))))))))))))))))))))))))))))))))))))))))))))))))))))))))))))))))))))))))))))))))))))
set_option maxRecDepth 100000 in
set_option maxHeartbeats 4000000 in
theorem cl_X1_heating {b : Bool} {w : pW} {p : Program} {l : Launch} {e : Env} {R : Room} {s : State} {m : MethodId} {args : Array Value} {below : List Frame} {meth : Method} {c : Code} {cells slots : Nat} {d : Nat} {Q : pQ} (K : q_X b w p s m args c RX1 cX1_heating 4 R d cells slots) (hr : meth.sig.returnType = (some .int)) (hk : meth.locks = false) : p_Cl b (q_C l b w) tb_X1_heating d Q (q_Z b w p l e R s m args below meth c 4 cells slots (MQ below (q_Qc b w Q) args s cells slots (q_A b w))) := p_c0 (
  p_cc (n := 0) (s_il1 K dX1_heating_0 rfl) (
  p_cc (n := 1) (s_eq0 K dX1_heating_1 rfl) (
  p_cc (n := 2) (s_x) (
  p_cc (n := 3) (s_x) (
  p_cc (n := 4) (s_il1 K dX1_heating_4 rfl) (
  p_cc (n := 5) (s_goto K dX1_heating_5 rfl) (
  p_cc (n := 6) (s_x) (
  p_cc (n := 7) (s_x) (
  p_cc (n := 8) (s_ic1 K dX1_heating_8 rfl) (
  p_cc (n := 9) (s_is1 K dX1_heating_9 rfl) (
  p_cc (n := 10) (s_il1 K dX1_heating_10 rfl) (
  p_cc (n := 11) (s_tswB K dX1_heating_11 rfl (by decide +kernel) (by decide +kernel) rfl) (
  p_cc (n := 12) (s_x) (
  p_cc (n := 13) (s_x) (
  p_cc (n := 14) (s_x) (
  p_cc (n := 15) (s_x) (
  p_cc (n := 16) (s_x) (
  p_cc (n := 17) (s_x) (
  p_cc (n := 18) (s_x) (
  p_cc (n := 19) (s_x) (
  p_cc (n := 20) (s_x) (
  p_cc (n := 21) (s_x) (
  p_cc (n := 22) (s_x) (
  p_cc (n := 23) (s_x) (
  p_cc (n := 24) (s_x) (
  p_cc (n := 25) (s_x) (
  p_cc (n := 26) (s_x) (
  p_cc (n := 27) (s_x) (
  p_cc (n := 28) (s_x) (
  p_cc (n := 29) (s_x) (
  p_cc (n := 30) (s_x) (
  p_cc (n := 31) (s_x) (
  p_cc (n := 32) (s_x) (
  p_cc (n := 33) (s_x) (
  p_cc (n := 34) (s_x) (
  p_cc (n := 35) (s_x) (
  p_cc (n := 36) (s_il1 K dX1_heating_36 rfl) (
  p_cc (n := 37) (s_ic1 K dX1_heating_37 rfl) (
  p_cc (n := 38) (s_div K dX1_heating_38) (
  p_cc (n := 39) (s_ir K dX1_heating_39 hr hk) (
  p_cc (n := 40) (s_il1 K dX1_heating_40 rfl) (
  p_cc (n := 41) (s_eq0 K dX1_heating_41 rfl) (
  p_cc (n := 42) (s_x) (
  p_cc (n := 43) (s_x) (
  p_cc (n := 44) (s_ic1 K dX1_heating_44 rfl) (
  p_cc (n := 45) (s_il1 K dX1_heating_45 rfl) (
  p_cc (n := 46) (s_mul K dX1_heating_46) (
  p_cc (n := 47) (s_goto K dX1_heating_47 rfl) (
  p_cc (n := 48) (s_x) (
  p_cc (n := 49) (s_x) (
  p_cc (n := 50) (s_il1 K dX1_heating_50 rfl) (
  p_cc (n := 51) (s_ir K dX1_heating_51 hr hk) (
  p_cc (n := 52) (s_il1 K dX1_heating_52 rfl) (
  p_cc (n := 53) (s_ic1 K dX1_heating_53 rfl) (
  p_cc (n := 54) (s_add K dX1_heating_54) (
  p_cc (n := 55) (s_ir K dX1_heating_55 hr hk) (
  p_cc (n := 56) (s_il1 K dX1_heating_56 rfl) (
  p_cc (n := 57) (s_ir K dX1_heating_57 hr hk) (p_cn)))))))))))))))))))))))))))))))))))))))))))))))))))))))))))
set_option maxRecDepth 100000 in
set_option maxHeartbeats 4000000 in
theorem cl_X2_clear {b : Bool} {w : pW} {p : Program} {l : Launch} {e : Env} {R : Room} {s : State} {m : MethodId} {args : Array Value} {below : List Frame} {meth : Method} {c : Code} {cells slots : Nat} {d : Nat} {Q : pQ} (K : q_X b w p s m args c RX2 cX2_clear 1 R d cells slots) (hr : meth.sig.returnType = none) (hk : meth.locks = false) : p_Cl b (q_C l b w) tb_X2_clear d Q (q_Z b w p l e R s m args below meth c 1 cells slots (MQ below (q_Qc b w Q) args s cells slots (q_A b w))) := p_c0 (
  p_cc (n := 0) (s_al1 K dX2_clear_0 rfl) (
  p_cc (n := 1) (s_ic1 K dX2_clear_1 rfl) (
  p_cc (n := 2) (s_pi (host := "") K dX2_clear_2 (hc := rfl) (by decide) rfl inX2 (by decide) w_f_RX2_30 rfl rfl tyX2 tyX2_ok nmX2 rfl) (
  p_cc (n := 3) (s_x) (
  p_cc (n := 4) (s_x) (
  p_cc (n := 5) (s_al1 K dX2_clear_5 rfl) (
  p_cc (n := 6) (s_ic1 K dX2_clear_6 rfl) (
  p_cc (n := 7) (s_pi (host := "") K dX2_clear_7 (hc := rfl) (by decide) rfl inX2 (by decide) w_f_RX2_34 rfl rfl tyX2 tyX2_ok nmX2 rfl) (
  p_cc (n := 8) (s_x) (
  p_cc (n := 9) (s_x) (
  p_cc (n := 10) (s_al1 K dX2_clear_10 rfl) (
  p_cc (n := 11) (s_ic1 K dX2_clear_11 rfl) (
  p_cc (n := 12) (s_pi (host := "") K dX2_clear_12 (hc := rfl) (by decide) rfl inX2 (by decide) w_f_RX2_37 rfl rfl tyX2 tyX2_ok nmX2 rfl) (
  p_cc (n := 13) (s_x) (
  p_cc (n := 14) (s_x) (
  p_cc (n := 15) (s_al1 K dX2_clear_15 rfl) (
  p_cc (n := 16) (s_ic1 K dX2_clear_16 rfl) (
  p_cc (n := 17) (s_pi (host := "") K dX2_clear_17 (hc := rfl) (by decide) rfl inX2 (by decide) w_f_RX2_40 rfl rfl tyX2 tyX2_ok nmX2 rfl) (
  p_cc (n := 18) (s_x) (
  p_cc (n := 19) (s_x) (
  p_cc (n := 20) (s_vr K dX2_clear_20 hr hk) (p_cn))))))))))))))))))))))
set_option maxRecDepth 100000 in
set_option maxHeartbeats 4000000 in
theorem cl_X2_copyFrom {b : Bool} {w : pW} {p : Program} {l : Launch} {e : Env} {R : Room} {s : State} {m : MethodId} {args : Array Value} {below : List Frame} {meth : Method} {c : Code} {cells slots : Nat} {d : Nat} {Q : pQ} (K : q_X b w p s m args c RX2 cX2_copyFrom 2 R d cells slots) (hr : meth.sig.returnType = none) (hk : meth.locks = false) : p_Cl b (q_C l b w) tb_X2_copyFrom d Q (q_Z b w p l e R s m args below meth c 2 cells slots (MQ below (q_Qc b w Q) args s cells slots (q_A b w))) := p_c0 (
  p_cc (n := 0) (s_al1 K dX2_copyFrom_0 rfl) (
  p_cc (n := 1) (s_gr (host := "") K dX2_copyFrom_1 (hc := rfl) (by decide) rfl inX2 (by decide) w_f_RX2_9 rfl) (
  p_cc (n := 2) (s_x) (
  p_cc (n := 3) (s_x) (
  p_cc (n := 4) (s_al1 K dX2_copyFrom_4 rfl) (
  p_cc (n := 5) (s_gr (host := "") K dX2_copyFrom_5 (hc := rfl) (by decide) rfl inX2 (by decide) w_f_RX2_9 rfl) (
  p_cc (n := 6) (s_x) (
  p_cc (n := 7) (s_x) (
  p_cc (n := 8) (cSN_X7_copyRow K dX2_copyFrom_8 w_m_RX2_43) (
  p_cc (n := 9) (s_x) (
  p_cc (n := 10) (s_x) (
  p_cc (n := 11) (s_al1 K dX2_copyFrom_11 rfl) (
  p_cc (n := 12) (s_gr (host := "") K dX2_copyFrom_12 (hc := rfl) (by decide) rfl inX2 (by decide) w_f_RX2_15 rfl) (
  p_cc (n := 13) (s_x) (
  p_cc (n := 14) (s_x) (
  p_cc (n := 15) (s_al1 K dX2_copyFrom_15 rfl) (
  p_cc (n := 16) (s_gr (host := "") K dX2_copyFrom_16 (hc := rfl) (by decide) rfl inX2 (by decide) w_f_RX2_15 rfl) (
  p_cc (n := 17) (s_x) (
  p_cc (n := 18) (s_x) (
  p_cc (n := 19) (cSN_X7_copyRow K dX2_copyFrom_19 w_m_RX2_43) (
  p_cc (n := 20) (s_x) (
  p_cc (n := 21) (s_x) (
  p_cc (n := 22) (s_al1 K dX2_copyFrom_22 rfl) (
  p_cc (n := 23) (s_gr (host := "") K dX2_copyFrom_23 (hc := rfl) (by decide) rfl inX2 (by decide) w_f_RX2_18 rfl) (
  p_cc (n := 24) (s_x) (
  p_cc (n := 25) (s_x) (
  p_cc (n := 26) (s_al1 K dX2_copyFrom_26 rfl) (
  p_cc (n := 27) (s_gr (host := "") K dX2_copyFrom_27 (hc := rfl) (by decide) rfl inX2 (by decide) w_f_RX2_18 rfl) (
  p_cc (n := 28) (s_x) (
  p_cc (n := 29) (s_x) (
  p_cc (n := 30) (cSN_X7_copyRow K dX2_copyFrom_30 w_m_RX2_43) (
  p_cc (n := 31) (s_x) (
  p_cc (n := 32) (s_x) (
  p_cc (n := 33) (s_al1 K dX2_copyFrom_33 rfl) (
  p_cc (n := 34) (s_gr (host := "") K dX2_copyFrom_34 (hc := rfl) (by decide) rfl inX2 (by decide) w_f_RX2_21 rfl) (
  p_cc (n := 35) (s_x) (
  p_cc (n := 36) (s_x) (
  p_cc (n := 37) (s_al1 K dX2_copyFrom_37 rfl) (
  p_cc (n := 38) (s_gr (host := "") K dX2_copyFrom_38 (hc := rfl) (by decide) rfl inX2 (by decide) w_f_RX2_21 rfl) (
  p_cc (n := 39) (s_x) (
  p_cc (n := 40) (s_x) (
  p_cc (n := 41) (cSN_X7_copyRow K dX2_copyFrom_41 w_m_RX2_43) (
  p_cc (n := 42) (s_x) (
  p_cc (n := 43) (s_x) (
  p_cc (n := 44) (s_al1 K dX2_copyFrom_44 rfl) (
  p_cc (n := 45) (s_gr (host := "") K dX2_copyFrom_45 (hc := rfl) (by decide) rfl inX2 (by decide) w_f_RX2_24 rfl) (
  p_cc (n := 46) (s_x) (
  p_cc (n := 47) (s_x) (
  p_cc (n := 48) (s_al1 K dX2_copyFrom_48 rfl) (
  p_cc (n := 49) (s_gr (host := "") K dX2_copyFrom_49 (hc := rfl) (by decide) rfl inX2 (by decide) w_f_RX2_24 rfl) (
  p_cc (n := 50) (s_x) (
  p_cc (n := 51) (s_x) (
  p_cc (n := 52) (cSN_X7_copyRow K dX2_copyFrom_52 w_m_RX2_43) (
  p_cc (n := 53) (s_x) (
  p_cc (n := 54) (s_x) (
  p_cc (n := 55) (s_al1 K dX2_copyFrom_55 rfl) (
  p_cc (n := 56) (s_gr (host := "") K dX2_copyFrom_56 (hc := rfl) (by decide) rfl inX2 (by decide) w_f_RX2_27 rfl) (
  p_cc (n := 57) (s_x) (
  p_cc (n := 58) (s_x) (
  p_cc (n := 59) (s_al1 K dX2_copyFrom_59 rfl) (
  p_cc (n := 60) (s_gr (host := "") K dX2_copyFrom_60 (hc := rfl) (by decide) rfl inX2 (by decide) w_f_RX2_27 rfl) (
  p_cc (n := 61) (s_x) (
  p_cc (n := 62) (s_x) (
  p_cc (n := 63) (cSN_X7_copyRow K dX2_copyFrom_63 w_m_RX2_43) (
  p_cc (n := 64) (s_x) (
  p_cc (n := 65) (s_x) (
  p_cc (n := 66) (s_al1 K dX2_copyFrom_66 rfl) (
  p_cc (n := 67) (s_al1 K dX2_copyFrom_67 rfl) (
  p_cc (n := 68) (s_gi (host := "") K dX2_copyFrom_68 (hc := rfl) (by decide) rfl inX2 (by decide) w_f_RX2_30 rfl) (
  p_cc (n := 69) (s_x) (
  p_cc (n := 70) (s_x) (
  p_cc (n := 71) (s_pi (host := "") K dX2_copyFrom_71 (hc := rfl) (by decide) rfl inX2 (by decide) w_f_RX2_30 rfl rfl tyX2 tyX2_ok nmX2 rfl) (
  p_cc (n := 72) (s_x) (
  p_cc (n := 73) (s_x) (
  p_cc (n := 74) (s_al1 K dX2_copyFrom_74 rfl) (
  p_cc (n := 75) (s_al1 K dX2_copyFrom_75 rfl) (
  p_cc (n := 76) (s_gi (host := "") K dX2_copyFrom_76 (hc := rfl) (by decide) rfl inX2 (by decide) w_f_RX2_34 rfl) (
  p_cc (n := 77) (s_x) (
  p_cc (n := 78) (s_x) (
  p_cc (n := 79) (s_pi (host := "") K dX2_copyFrom_79 (hc := rfl) (by decide) rfl inX2 (by decide) w_f_RX2_34 rfl rfl tyX2 tyX2_ok nmX2 rfl) (
  p_cc (n := 80) (s_x) (
  p_cc (n := 81) (s_x) (
  p_cc (n := 82) (s_al1 K dX2_copyFrom_82 rfl) (
  p_cc (n := 83) (s_al1 K dX2_copyFrom_83 rfl) (
  p_cc (n := 84) (s_gi (host := "") K dX2_copyFrom_84 (hc := rfl) (by decide) rfl inX2 (by decide) w_f_RX2_37 rfl) (
  p_cc (n := 85) (s_x) (
  p_cc (n := 86) (s_x) (
  p_cc (n := 87) (s_pi (host := "") K dX2_copyFrom_87 (hc := rfl) (by decide) rfl inX2 (by decide) w_f_RX2_37 rfl rfl tyX2 tyX2_ok nmX2 rfl) (
  p_cc (n := 88) (s_x) (
  p_cc (n := 89) (s_x) (
  p_cc (n := 90) (s_al1 K dX2_copyFrom_90 rfl) (
  p_cc (n := 91) (s_al1 K dX2_copyFrom_91 rfl) (
  p_cc (n := 92) (s_gi (host := "") K dX2_copyFrom_92 (hc := rfl) (by decide) rfl inX2 (by decide) w_f_RX2_40 rfl) (
  p_cc (n := 93) (s_x) (
  p_cc (n := 94) (s_x) (
  p_cc (n := 95) (s_pi (host := "") K dX2_copyFrom_95 (hc := rfl) (by decide) rfl inX2 (by decide) w_f_RX2_40 rfl rfl tyX2 tyX2_ok nmX2 rfl) (
  p_cc (n := 96) (s_x) (
  p_cc (n := 97) (s_x) (
  p_cc (n := 98) (s_vr K dX2_copyFrom_98 hr hk) (p_cn))))))))))))))))))))))))))))))))))))))))))))))))))))))))))))))))))))))))))))))))))))))))))))))))))))
set_option maxRecDepth 100000 in
set_option maxHeartbeats 4000000 in
theorem cl_X2_isTeller {b : Bool} {w : pW} {p : Program} {l : Launch} {e : Env} {R : Room} {s : State} {m : MethodId} {args : Array Value} {below : List Frame} {meth : Method} {c : Code} {cells slots : Nat} {d : Nat} {Q : pQ} (K : q_X b w p s m args c RX2 cX2_isTeller 2 R d cells slots) (hr : meth.sig.returnType = (some .boolean)) (hk : meth.locks = false) : p_Cl b (q_C l b w) tb_X2_isTeller d Q (q_Z b w p l e R s m args below meth c 2 cells slots (MQ below (q_Qc b w Q) args s cells slots (q_A b w))) := p_c0 (
  p_cc (n := 0) (s_il1 K dX2_isTeller_0 rfl) (
  p_cc (n := 1) (s_lt0 K dX2_isTeller_1 rfl) (
  p_cc (n := 2) (s_x) (
  p_cc (n := 3) (s_x) (
  p_cc (n := 4) (s_il1 K dX2_isTeller_4 rfl) (
  p_cc (n := 5) (s_al1 K dX2_isTeller_5 rfl) (
  p_cc (n := 6) (s_gi (host := "") K dX2_isTeller_6 (hc := rfl) (by decide) rfl inX2 (by decide) w_f_RX2_30 rfl) (
  p_cc (n := 7) (s_x) (
  p_cc (n := 8) (s_x) (
  p_cc (n := 9) (s_ige K dX2_isTeller_9 rfl) (
  p_cc (n := 10) (s_x) (
  p_cc (n := 11) (s_x) (
  p_cc (n := 12) (s_ic1 K dX2_isTeller_12 rfl) (
  p_cc (n := 13) (s_goto K dX2_isTeller_13 rfl) (
  p_cc (n := 14) (s_x) (
  p_cc (n := 15) (s_x) (
  p_cc (n := 16) (s_ic1 K dX2_isTeller_16 rfl) (
  p_cc (n := 17) (s_zr K dX2_isTeller_17 hr hk) (p_cn)))))))))))))))))))
set_option maxRecDepth 100000 in
set_option maxHeartbeats 4000000 in
theorem cl_X2_isFact {b : Bool} {w : pW} {p : Program} {l : Launch} {e : Env} {R : Room} {s : State} {m : MethodId} {args : Array Value} {below : List Frame} {meth : Method} {c : Code} {cells slots : Nat} {d : Nat} {Q : pQ} (K : q_X b w p s m args c RX2 cX2_isFact 2 R d cells slots) (hr : meth.sig.returnType = (some .boolean)) (hk : meth.locks = false) : p_Cl b (q_C l b w) tb_X2_isFact d Q (q_Z b w p l e R s m args below meth c 2 cells slots (MQ below (q_Qc b w Q) args s cells slots (q_A b w))) := p_c0 (
  p_cc (n := 0) (s_il1 K dX2_isFact_0 rfl) (
  p_cc (n := 1) (s_lt0 K dX2_isFact_1 rfl) (
  p_cc (n := 2) (s_x) (
  p_cc (n := 3) (s_x) (
  p_cc (n := 4) (s_il1 K dX2_isFact_4 rfl) (
  p_cc (n := 5) (s_al1 K dX2_isFact_5 rfl) (
  p_cc (n := 6) (s_gi (host := "") K dX2_isFact_6 (hc := rfl) (by decide) rfl inX2 (by decide) w_f_RX2_34 rfl) (
  p_cc (n := 7) (s_x) (
  p_cc (n := 8) (s_x) (
  p_cc (n := 9) (s_ige K dX2_isFact_9 rfl) (
  p_cc (n := 10) (s_x) (
  p_cc (n := 11) (s_x) (
  p_cc (n := 12) (s_ic1 K dX2_isFact_12 rfl) (
  p_cc (n := 13) (s_goto K dX2_isFact_13 rfl) (
  p_cc (n := 14) (s_x) (
  p_cc (n := 15) (s_x) (
  p_cc (n := 16) (s_ic1 K dX2_isFact_16 rfl) (
  p_cc (n := 17) (s_zr K dX2_isFact_17 hr hk) (p_cn)))))))))))))))))))
set_option maxRecDepth 100000 in
set_option maxHeartbeats 4000000 in
theorem cl_X2_isClaim {b : Bool} {w : pW} {p : Program} {l : Launch} {e : Env} {R : Room} {s : State} {m : MethodId} {args : Array Value} {below : List Frame} {meth : Method} {c : Code} {cells slots : Nat} {d : Nat} {Q : pQ} (K : q_X b w p s m args c RX2 cX2_isClaim 2 R d cells slots) (hr : meth.sig.returnType = (some .boolean)) (hk : meth.locks = false) : p_Cl b (q_C l b w) tb_X2_isClaim d Q (q_Z b w p l e R s m args below meth c 2 cells slots (MQ below (q_Qc b w Q) args s cells slots (q_A b w))) := p_c0 (
  p_cc (n := 0) (s_il1 K dX2_isClaim_0 rfl) (
  p_cc (n := 1) (s_lt0 K dX2_isClaim_1 rfl) (
  p_cc (n := 2) (s_x) (
  p_cc (n := 3) (s_x) (
  p_cc (n := 4) (s_il1 K dX2_isClaim_4 rfl) (
  p_cc (n := 5) (s_al1 K dX2_isClaim_5 rfl) (
  p_cc (n := 6) (s_gi (host := "") K dX2_isClaim_6 (hc := rfl) (by decide) rfl inX2 (by decide) w_f_RX2_37 rfl) (
  p_cc (n := 7) (s_x) (
  p_cc (n := 8) (s_x) (
  p_cc (n := 9) (s_ige K dX2_isClaim_9 rfl) (
  p_cc (n := 10) (s_x) (
  p_cc (n := 11) (s_x) (
  p_cc (n := 12) (s_ic1 K dX2_isClaim_12 rfl) (
  p_cc (n := 13) (s_goto K dX2_isClaim_13 rfl) (
  p_cc (n := 14) (s_x) (
  p_cc (n := 15) (s_x) (
  p_cc (n := 16) (s_ic1 K dX2_isClaim_16 rfl) (
  p_cc (n := 17) (s_zr K dX2_isClaim_17 hr hk) (p_cn)))))))))))))))))))
set_option maxRecDepth 100000 in
set_option maxHeartbeats 4000000 in
theorem cl_X2_allowsClaim {b : Bool} {w : pW} {p : Program} {l : Launch} {e : Env} {R : Room} {s : State} {m : MethodId} {args : Array Value} {below : List Frame} {meth : Method} {c : Code} {cells slots : Nat} {d : Nat} {Q : pQ} (K : q_X b w p s m args c RX2 cX2_allowsClaim 5 R d cells slots) (hr : meth.sig.returnType = (some .boolean)) (hk : meth.locks = false) : p_Cl b (q_C l b w) tb_X2_allowsClaim d Q (q_Z b w p l e R s m args below meth c 5 cells slots (MQ below (q_Qc b w Q) args s cells slots (q_A b w))) := p_c0 (
  p_cc (n := 0) (s_al1 K dX2_allowsClaim_0 rfl) (
  p_cc (n := 1) (s_il1 K dX2_allowsClaim_1 rfl) (
  p_cc (n := 2) (cV_X2_isTeller K dX2_allowsClaim_2 w_m_RX2_47) (
  p_cc (n := 3) (s_x) (
  p_cc (n := 4) (s_x) (
  p_cc (n := 5) (s_eq0 K dX2_allowsClaim_5 rfl) (
  p_cc (n := 6) (s_x) (
  p_cc (n := 7) (s_x) (
  p_cc (n := 8) (s_al1 K dX2_allowsClaim_8 rfl) (
  p_cc (n := 9) (s_il1 K dX2_allowsClaim_9 rfl) (
  p_cc (n := 10) (cV_X2_isFact K dX2_allowsClaim_10 w_m_RX2_51) (
  p_cc (n := 11) (s_x) (
  p_cc (n := 12) (s_x) (
  p_cc (n := 13) (s_eq0 K dX2_allowsClaim_13 rfl) (
  p_cc (n := 14) (s_x) (
  p_cc (n := 15) (s_x) (
  p_cc (n := 16) (s_il1 K dX2_allowsClaim_16 rfl) (
  p_cc (n := 17) (s_ic1 K dX2_allowsClaim_17 rfl) (
  p_cc (n := 18) (s_ic1 K dX2_allowsClaim_18 rfl) (
  p_cc (n := 19) (cSN_X7_within K dX2_allowsClaim_19 w_m_RX2_54) (
  p_cc (n := 20) (s_x) (
  p_cc (n := 21) (s_x) (
  p_cc (n := 22) (s_eq0 K dX2_allowsClaim_22 rfl) (
  p_cc (n := 23) (s_x) (
  p_cc (n := 24) (s_x) (
  p_cc (n := 25) (s_il2 K dX2_allowsClaim_25) (
  p_cc (n := 26) (s_x) (
  p_cc (n := 27) (s_ic1 K dX2_allowsClaim_27 rfl) (
  p_cc (n := 28) (s_ic2 K dX2_allowsClaim_28 rfl) (
  p_cc (n := 29) (s_x) (
  p_cc (n := 30) (cSN_X7_within K dX2_allowsClaim_30 w_m_RX2_54) (
  p_cc (n := 31) (s_x) (
  p_cc (n := 32) (s_x) (
  p_cc (n := 33) (s_eq0 K dX2_allowsClaim_33 rfl) (
  p_cc (n := 34) (s_x) (
  p_cc (n := 35) (s_x) (
  p_cc (n := 36) (s_ic1 K dX2_allowsClaim_36 rfl) (
  p_cc (n := 37) (s_goto K dX2_allowsClaim_37 rfl) (
  p_cc (n := 38) (s_x) (
  p_cc (n := 39) (s_x) (
  p_cc (n := 40) (s_ic1 K dX2_allowsClaim_40 rfl) (
  p_cc (n := 41) (s_zr K dX2_allowsClaim_41 hr hk) (p_cn)))))))))))))))))))))))))))))))))))))))))))
set_option maxRecDepth 100000 in
set_option maxHeartbeats 4000000 in
theorem cl_X2_worldCount {b : Bool} {w : pW} {p : Program} {l : Launch} {e : Env} {R : Room} {s : State} {m : MethodId} {args : Array Value} {below : List Frame} {meth : Method} {c : Code} {cells slots : Nat} {d : Nat} {Q : pQ} (K : q_X b w p s m args c RX2 cX2_worldCount 1 R d cells slots) (hr : meth.sig.returnType = (some .int)) (hk : meth.locks = false) : p_Cl b (q_C l b w) tb_X2_worldCount d Q (q_Z b w p l e R s m args below meth c 1 cells slots (MQ below (q_Qc b w Q) args s cells slots (q_A b w))) := p_c0 (
  p_cc (n := 0) (s_ic1 K dX2_worldCount_0 rfl) (
  p_cc (n := 1) (s_al1 K dX2_worldCount_1 rfl) (
  p_cc (n := 2) (s_gi (host := "") K dX2_worldCount_2 (hc := rfl) (by decide) rfl inX2 (by decide) w_f_RX2_34 rfl) (
  p_cc (n := 3) (s_x) (
  p_cc (n := 4) (s_x) (
  p_cc (n := 5) (s_shl K dX2_worldCount_5) (
  p_cc (n := 6) (s_ir K dX2_worldCount_6 hr hk) (p_cn))))))))
set_option maxRecDepth 100000 in
set_option maxHeartbeats 4000000 in
theorem cl_X2_addTeller {b : Bool} {w : pW} {p : Program} {l : Launch} {e : Env} {R : Room} {s : State} {m : MethodId} {args : Array Value} {below : List Frame} {meth : Method} {c : Code} {cells slots : Nat} {d : Nat} {Q : pQ} (K : q_X b w p s m args c RX2 cX2_addTeller 3 R d cells slots) (hr : meth.sig.returnType = (some .boolean)) (hk : meth.locks = false) : p_Cl b (q_C l b w) tb_X2_addTeller d Q (q_Z b w p l e R s m args below meth c 3 cells slots (MQ below (q_Qc b w Q) args s cells slots (q_A b w))) := p_c0 (
  p_cc (n := 0) (s_al1 K dX2_addTeller_0 rfl) (
  p_cc (n := 1) (s_gi (host := "") K dX2_addTeller_1 (hc := rfl) (by decide) rfl inX2 (by decide) w_f_RX2_30 rfl) (
  p_cc (n := 2) (s_x) (
  p_cc (n := 3) (s_x) (
  p_cc (n := 4) (s_ic1 K dX2_addTeller_4 rfl) (
  p_cc (n := 5) (s_ige K dX2_addTeller_5 rfl) (
  p_cc (n := 6) (s_x) (
  p_cc (n := 7) (s_x) (
  p_cc (n := 8) (s_il1 K dX2_addTeller_8 rfl) (
  p_cc (n := 9) (s_ic1 K dX2_addTeller_9 rfl) (
  p_cc (n := 10) (s_ic1 K dX2_addTeller_10 rfl) (
  p_cc (n := 11) (cSN_X7_within K dX2_addTeller_11 w_m_RX2_54) (
  p_cc (n := 12) (s_x) (
  p_cc (n := 13) (s_x) (
  p_cc (n := 14) (s_eq0 K dX2_addTeller_14 rfl) (
  p_cc (n := 15) (s_x) (
  p_cc (n := 16) (s_x) (
  p_cc (n := 17) (s_il1 K dX2_addTeller_17 rfl) (
  p_cc (n := 18) (s_ic1 K dX2_addTeller_18 rfl) (
  p_cc (n := 19) (s_ic2 K dX2_addTeller_19 rfl) (
  p_cc (n := 20) (s_x) (
  p_cc (n := 21) (cSN_X7_within K dX2_addTeller_21 w_m_RX2_54) (
  p_cc (n := 22) (s_x) (
  p_cc (n := 23) (s_x) (
  p_cc (n := 24) (s_ne0 K dX2_addTeller_24 rfl) (
  p_cc (n := 25) (s_x) (
  p_cc (n := 26) (s_x) (
  p_cc (n := 27) (s_ic1 K dX2_addTeller_27 rfl) (
  p_cc (n := 28) (s_zr K dX2_addTeller_28 hr hk) (
  p_cc (n := 29) (s_al1 K dX2_addTeller_29 rfl) (
  p_cc (n := 30) (s_gr (host := "") K dX2_addTeller_30 (hc := rfl) (by decide) rfl inX2 (by decide) w_f_RX2_9 rfl) (
  p_cc (n := 31) (s_x) (
  p_cc (n := 32) (s_x) (
  p_cc (n := 33) (s_al1 K dX2_addTeller_33 rfl) (
  p_cc (n := 34) (s_gi (host := "") K dX2_addTeller_34 (hc := rfl) (by decide) rfl inX2 (by decide) w_f_RX2_30 rfl) (
  p_cc (n := 35) (s_x) (
  p_cc (n := 36) (s_x) (
  p_cc (n := 37) (s_il1 K dX2_addTeller_37 rfl) (
  p_cc (n := 38) (cSN_X7_put K dX2_addTeller_38 w_m_RX2_58) (
  p_cc (n := 39) (s_x) (
  p_cc (n := 40) (s_x) (
  p_cc (n := 41) (s_al1 K dX2_addTeller_41 rfl) (
  p_cc (n := 42) (s_gr (host := "") K dX2_addTeller_42 (hc := rfl) (by decide) rfl inX2 (by decide) w_f_RX2_15 rfl) (
  p_cc (n := 43) (s_x) (
  p_cc (n := 44) (s_x) (
  p_cc (n := 45) (s_al1 K dX2_addTeller_45 rfl) (
  p_cc (n := 46) (s_gi (host := "") K dX2_addTeller_46 (hc := rfl) (by decide) rfl inX2 (by decide) w_f_RX2_30 rfl) (
  p_cc (n := 47) (s_x) (
  p_cc (n := 48) (s_x) (
  p_cc (n := 49) (s_il1 K dX2_addTeller_49 rfl) (
  p_cc (n := 50) (cSN_X7_put K dX2_addTeller_50 w_m_RX2_58) (
  p_cc (n := 51) (s_x) (
  p_cc (n := 52) (s_x) (
  p_cc (n := 53) (s_al1 K dX2_addTeller_53 rfl) (
  p_cc (n := 54) (s_dup K dX2_addTeller_54) (
  p_cc (n := 55) (s_gi (host := "") K dX2_addTeller_55 (hc := rfl) (by decide) rfl inX2 (by decide) w_f_RX2_30 rfl) (
  p_cc (n := 56) (s_x) (
  p_cc (n := 57) (s_x) (
  p_cc (n := 58) (s_ic1 K dX2_addTeller_58 rfl) (
  p_cc (n := 59) (s_add K dX2_addTeller_59) (
  p_cc (n := 60) (s_pi (host := "") K dX2_addTeller_60 (hc := rfl) (by decide) rfl inX2 (by decide) w_f_RX2_30 rfl rfl tyX2 tyX2_ok nmX2 rfl) (
  p_cc (n := 61) (s_x) (
  p_cc (n := 62) (s_x) (
  p_cc (n := 63) (s_ic1 K dX2_addTeller_63 rfl) (
  p_cc (n := 64) (s_zr K dX2_addTeller_64 hr hk) (p_cn))))))))))))))))))))))))))))))))))))))))))))))))))))))))))))))))))
set_option maxRecDepth 100000 in
set_option maxHeartbeats 4000000 in
theorem cl_X2_addFact {b : Bool} {w : pW} {p : Program} {l : Launch} {e : Env} {R : Room} {s : State} {m : MethodId} {args : Array Value} {below : List Frame} {meth : Method} {c : Code} {cells slots : Nat} {d : Nat} {Q : pQ} (K : q_X b w p s m args c RX2 cX2_addFact 2 R d cells slots) (hr : meth.sig.returnType = (some .boolean)) (hk : meth.locks = false) : p_Cl b (q_C l b w) tb_X2_addFact d Q (q_Z b w p l e R s m args below meth c 2 cells slots (MQ below (q_Qc b w Q) args s cells slots (q_A b w))) := p_c0 (
  p_cc (n := 0) (s_al1 K dX2_addFact_0 rfl) (
  p_cc (n := 1) (s_gi (host := "") K dX2_addFact_1 (hc := rfl) (by decide) rfl inX2 (by decide) w_f_RX2_34 rfl) (
  p_cc (n := 2) (s_x) (
  p_cc (n := 3) (s_x) (
  p_cc (n := 4) (s_ic2 K dX2_addFact_4 rfl) (
  p_cc (n := 5) (s_x) (
  p_cc (n := 6) (s_ige K dX2_addFact_6 rfl) (
  p_cc (n := 7) (s_x) (
  p_cc (n := 8) (s_x) (
  p_cc (n := 9) (s_il1 K dX2_addFact_9 rfl) (
  p_cc (n := 10) (s_ic1 K dX2_addFact_10 rfl) (
  p_cc (n := 11) (s_ic1 K dX2_addFact_11 rfl) (
  p_cc (n := 12) (cSN_X7_within K dX2_addFact_12 w_m_RX2_54) (
  p_cc (n := 13) (s_x) (
  p_cc (n := 14) (s_x) (
  p_cc (n := 15) (s_ne0 K dX2_addFact_15 rfl) (
  p_cc (n := 16) (s_x) (
  p_cc (n := 17) (s_x) (
  p_cc (n := 18) (s_ic1 K dX2_addFact_18 rfl) (
  p_cc (n := 19) (s_zr K dX2_addFact_19 hr hk) (
  p_cc (n := 20) (s_al1 K dX2_addFact_20 rfl) (
  p_cc (n := 21) (s_dup K dX2_addFact_21) (
  p_cc (n := 22) (s_gi (host := "") K dX2_addFact_22 (hc := rfl) (by decide) rfl inX2 (by decide) w_f_RX2_40 rfl) (
  p_cc (n := 23) (s_x) (
  p_cc (n := 24) (s_x) (
  p_cc (n := 25) (s_il1 K dX2_addFact_25 rfl) (
  p_cc (n := 26) (s_al1 K dX2_addFact_26 rfl) (
  p_cc (n := 27) (s_gi (host := "") K dX2_addFact_27 (hc := rfl) (by decide) rfl inX2 (by decide) w_f_RX2_34 rfl) (
  p_cc (n := 28) (s_x) (
  p_cc (n := 29) (s_x) (
  p_cc (n := 30) (s_shl K dX2_addFact_30) (
  p_cc (n := 31) (s_or K dX2_addFact_31) (
  p_cc (n := 32) (s_pi (host := "") K dX2_addFact_32 (hc := rfl) (by decide) rfl inX2 (by decide) w_f_RX2_40 rfl rfl tyX2 tyX2_ok nmX2 rfl) (
  p_cc (n := 33) (s_x) (
  p_cc (n := 34) (s_x) (
  p_cc (n := 35) (s_al1 K dX2_addFact_35 rfl) (
  p_cc (n := 36) (s_dup K dX2_addFact_36) (
  p_cc (n := 37) (s_gi (host := "") K dX2_addFact_37 (hc := rfl) (by decide) rfl inX2 (by decide) w_f_RX2_34 rfl) (
  p_cc (n := 38) (s_x) (
  p_cc (n := 39) (s_x) (
  p_cc (n := 40) (s_ic1 K dX2_addFact_40 rfl) (
  p_cc (n := 41) (s_add K dX2_addFact_41) (
  p_cc (n := 42) (s_pi (host := "") K dX2_addFact_42 (hc := rfl) (by decide) rfl inX2 (by decide) w_f_RX2_34 rfl rfl tyX2 tyX2_ok nmX2 rfl) (
  p_cc (n := 43) (s_x) (
  p_cc (n := 44) (s_x) (
  p_cc (n := 45) (s_ic1 K dX2_addFact_45 rfl) (
  p_cc (n := 46) (s_zr K dX2_addFact_46 hr hk) (p_cn))))))))))))))))))))))))))))))))))))))))))))))))
set_option maxRecDepth 100000 in
set_option maxHeartbeats 4000000 in
theorem cl_X2_addClaim {b : Bool} {w : pW} {p : Program} {l : Launch} {e : Env} {R : Room} {s : State} {m : MethodId} {args : Array Value} {below : List Frame} {meth : Method} {c : Code} {cells slots : Nat} {d : Nat} {Q : pQ} (K : q_X b w p s m args c RX2 cX2_addClaim 5 R d cells slots) (hr : meth.sig.returnType = (some .boolean)) (hk : meth.locks = false) : p_Cl b (q_C l b w) tb_X2_addClaim d Q (q_Z b w p l e R s m args below meth c 5 cells slots (MQ below (q_Qc b w Q) args s cells slots (q_A b w))) := p_c0 (
  p_cc (n := 0) (s_al1 K dX2_addClaim_0 rfl) (
  p_cc (n := 1) (s_gi (host := "") K dX2_addClaim_1 (hc := rfl) (by decide) rfl inX2 (by decide) w_f_RX2_37 rfl) (
  p_cc (n := 2) (s_x) (
  p_cc (n := 3) (s_x) (
  p_cc (n := 4) (s_ic2 K dX2_addClaim_4 rfl) (
  p_cc (n := 5) (s_x) (
  p_cc (n := 6) (s_ige K dX2_addClaim_6 rfl) (
  p_cc (n := 7) (s_x) (
  p_cc (n := 8) (s_x) (
  p_cc (n := 9) (s_al1 K dX2_addClaim_9 rfl) (
  p_cc (n := 10) (s_il1 K dX2_addClaim_10 rfl) (
  p_cc (n := 11) (s_il1 K dX2_addClaim_11 rfl) (
  p_cc (n := 12) (s_il1 K dX2_addClaim_12 rfl) (
  p_cc (n := 13) (s_il2 K dX2_addClaim_13) (
  p_cc (n := 14) (s_x) (
  p_cc (n := 15) (cV_X2_allowsClaim K dX2_addClaim_15 w_m_RX2_62) (
  p_cc (n := 16) (s_x) (
  p_cc (n := 17) (s_x) (
  p_cc (n := 18) (s_ne0 K dX2_addClaim_18 rfl) (
  p_cc (n := 19) (s_x) (
  p_cc (n := 20) (s_x) (
  p_cc (n := 21) (s_ic1 K dX2_addClaim_21 rfl) (
  p_cc (n := 22) (s_zr K dX2_addClaim_22 hr hk) (
  p_cc (n := 23) (s_al1 K dX2_addClaim_23 rfl) (
  p_cc (n := 24) (s_gr (host := "") K dX2_addClaim_24 (hc := rfl) (by decide) rfl inX2 (by decide) w_f_RX2_18 rfl) (
  p_cc (n := 25) (s_x) (
  p_cc (n := 26) (s_x) (
  p_cc (n := 27) (s_al1 K dX2_addClaim_27 rfl) (
  p_cc (n := 28) (s_gi (host := "") K dX2_addClaim_28 (hc := rfl) (by decide) rfl inX2 (by decide) w_f_RX2_37 rfl) (
  p_cc (n := 29) (s_x) (
  p_cc (n := 30) (s_x) (
  p_cc (n := 31) (s_il1 K dX2_addClaim_31 rfl) (
  p_cc (n := 32) (cSN_X7_put K dX2_addClaim_32 w_m_RX2_58) (
  p_cc (n := 33) (s_x) (
  p_cc (n := 34) (s_x) (
  p_cc (n := 35) (s_al1 K dX2_addClaim_35 rfl) (
  p_cc (n := 36) (s_gr (host := "") K dX2_addClaim_36 (hc := rfl) (by decide) rfl inX2 (by decide) w_f_RX2_21 rfl) (
  p_cc (n := 37) (s_x) (
  p_cc (n := 38) (s_x) (
  p_cc (n := 39) (s_al1 K dX2_addClaim_39 rfl) (
  p_cc (n := 40) (s_gi (host := "") K dX2_addClaim_40 (hc := rfl) (by decide) rfl inX2 (by decide) w_f_RX2_37 rfl) (
  p_cc (n := 41) (s_x) (
  p_cc (n := 42) (s_x) (
  p_cc (n := 43) (s_il1 K dX2_addClaim_43 rfl) (
  p_cc (n := 44) (cSN_X7_put K dX2_addClaim_44 w_m_RX2_58) (
  p_cc (n := 45) (s_x) (
  p_cc (n := 46) (s_x) (
  p_cc (n := 47) (s_al1 K dX2_addClaim_47 rfl) (
  p_cc (n := 48) (s_gr (host := "") K dX2_addClaim_48 (hc := rfl) (by decide) rfl inX2 (by decide) w_f_RX2_24 rfl) (
  p_cc (n := 49) (s_x) (
  p_cc (n := 50) (s_x) (
  p_cc (n := 51) (s_al1 K dX2_addClaim_51 rfl) (
  p_cc (n := 52) (s_gi (host := "") K dX2_addClaim_52 (hc := rfl) (by decide) rfl inX2 (by decide) w_f_RX2_37 rfl) (
  p_cc (n := 53) (s_x) (
  p_cc (n := 54) (s_x) (
  p_cc (n := 55) (s_il1 K dX2_addClaim_55 rfl) (
  p_cc (n := 56) (cSN_X7_put K dX2_addClaim_56 w_m_RX2_58) (
  p_cc (n := 57) (s_x) (
  p_cc (n := 58) (s_x) (
  p_cc (n := 59) (s_al1 K dX2_addClaim_59 rfl) (
  p_cc (n := 60) (s_gr (host := "") K dX2_addClaim_60 (hc := rfl) (by decide) rfl inX2 (by decide) w_f_RX2_27 rfl) (
  p_cc (n := 61) (s_x) (
  p_cc (n := 62) (s_x) (
  p_cc (n := 63) (s_al1 K dX2_addClaim_63 rfl) (
  p_cc (n := 64) (s_gi (host := "") K dX2_addClaim_64 (hc := rfl) (by decide) rfl inX2 (by decide) w_f_RX2_37 rfl) (
  p_cc (n := 65) (s_x) (
  p_cc (n := 66) (s_x) (
  p_cc (n := 67) (s_il2 K dX2_addClaim_67) (
  p_cc (n := 68) (s_x) (
  p_cc (n := 69) (cSN_X7_put K dX2_addClaim_69 w_m_RX2_58) (
  p_cc (n := 70) (s_x) (
  p_cc (n := 71) (s_x) (
  p_cc (n := 72) (s_al1 K dX2_addClaim_72 rfl) (
  p_cc (n := 73) (s_dup K dX2_addClaim_73) (
  p_cc (n := 74) (s_gi (host := "") K dX2_addClaim_74 (hc := rfl) (by decide) rfl inX2 (by decide) w_f_RX2_37 rfl) (
  p_cc (n := 75) (s_x) (
  p_cc (n := 76) (s_x) (
  p_cc (n := 77) (s_ic1 K dX2_addClaim_77 rfl) (
  p_cc (n := 78) (s_add K dX2_addClaim_78) (
  p_cc (n := 79) (s_pi (host := "") K dX2_addClaim_79 (hc := rfl) (by decide) rfl inX2 (by decide) w_f_RX2_37 rfl rfl tyX2 tyX2_ok nmX2 rfl) (
  p_cc (n := 80) (s_x) (
  p_cc (n := 81) (s_x) (
  p_cc (n := 82) (s_ic1 K dX2_addClaim_82 rfl) (
  p_cc (n := 83) (s_zr K dX2_addClaim_83 hr hk) (p_cn)))))))))))))))))))))))))))))))))))))))))))))))))))))))))))))))))))))))))))))))))))))
set_option maxRecDepth 100000 in
set_option maxHeartbeats 4000000 in
theorem cl_X2_turnFact {b : Bool} {w : pW} {p : Program} {l : Launch} {e : Env} {R : Room} {s : State} {m : MethodId} {args : Array Value} {below : List Frame} {meth : Method} {c : Code} {cells slots : Nat} {d : Nat} {Q : pQ} (K : q_X b w p s m args c RX2 cX2_turnFact 2 R d cells slots) (hr : meth.sig.returnType = none) (hk : meth.locks = false) : p_Cl b (q_C l b w) tb_X2_turnFact d Q (q_Z b w p l e R s m args below meth c 2 cells slots (MQ below (q_Qc b w Q) args s cells slots (q_A b w))) := p_c0 (
  p_cc (n := 0) (s_al1 K dX2_turnFact_0 rfl) (
  p_cc (n := 1) (s_dup K dX2_turnFact_1) (
  p_cc (n := 2) (s_gi (host := "") K dX2_turnFact_2 (hc := rfl) (by decide) rfl inX2 (by decide) w_f_RX2_40 rfl) (
  p_cc (n := 3) (s_x) (
  p_cc (n := 4) (s_x) (
  p_cc (n := 5) (s_ic1 K dX2_turnFact_5 rfl) (
  p_cc (n := 6) (s_il1 K dX2_turnFact_6 rfl) (
  p_cc (n := 7) (s_shl K dX2_turnFact_7) (
  p_cc (n := 8) (s_xor K dX2_turnFact_8) (
  p_cc (n := 9) (s_pi (host := "") K dX2_turnFact_9 (hc := rfl) (by decide) rfl inX2 (by decide) w_f_RX2_40 rfl rfl tyX2 tyX2_ok nmX2 rfl) (
  p_cc (n := 10) (s_x) (
  p_cc (n := 11) (s_x) (
  p_cc (n := 12) (s_vr K dX2_turnFact_12 hr hk) (p_cn))))))))))))))
set_option maxRecDepth 100000 in
set_option maxHeartbeats 4000000 in
theorem cl_X2_moveClaim {b : Bool} {w : pW} {p : Program} {l : Launch} {e : Env} {R : Room} {s : State} {m : MethodId} {args : Array Value} {below : List Frame} {meth : Method} {c : Code} {cells slots : Nat} {d : Nat} {Q : pQ} (K : q_X b w p s m args c RX2 cX2_moveClaim 3 R d cells slots) (hr : meth.sig.returnType = none) (hk : meth.locks = false) : p_Cl b (q_C l b w) tb_X2_moveClaim d Q (q_Z b w p l e R s m args below meth c 3 cells slots (MQ below (q_Qc b w Q) args s cells slots (q_A b w))) := p_c0 (
  p_cc (n := 0) (s_al1 K dX2_moveClaim_0 rfl) (
  p_cc (n := 1) (s_gr (host := "") K dX2_moveClaim_1 (hc := rfl) (by decide) rfl inX2 (by decide) w_f_RX2_18 rfl) (
  p_cc (n := 2) (s_x) (
  p_cc (n := 3) (s_x) (
  p_cc (n := 4) (s_il1 K dX2_moveClaim_4 rfl) (
  p_cc (n := 5) (s_il1 K dX2_moveClaim_5 rfl) (
  p_cc (n := 6) (cSN_X7_slide K dX2_moveClaim_6 w_m_RX2_66) (
  p_cc (n := 7) (s_x) (
  p_cc (n := 8) (s_x) (
  p_cc (n := 9) (s_al1 K dX2_moveClaim_9 rfl) (
  p_cc (n := 10) (s_gr (host := "") K dX2_moveClaim_10 (hc := rfl) (by decide) rfl inX2 (by decide) w_f_RX2_21 rfl) (
  p_cc (n := 11) (s_x) (
  p_cc (n := 12) (s_x) (
  p_cc (n := 13) (s_il1 K dX2_moveClaim_13 rfl) (
  p_cc (n := 14) (s_il1 K dX2_moveClaim_14 rfl) (
  p_cc (n := 15) (cSN_X7_slide K dX2_moveClaim_15 w_m_RX2_66) (
  p_cc (n := 16) (s_x) (
  p_cc (n := 17) (s_x) (
  p_cc (n := 18) (s_al1 K dX2_moveClaim_18 rfl) (
  p_cc (n := 19) (s_gr (host := "") K dX2_moveClaim_19 (hc := rfl) (by decide) rfl inX2 (by decide) w_f_RX2_24 rfl) (
  p_cc (n := 20) (s_x) (
  p_cc (n := 21) (s_x) (
  p_cc (n := 22) (s_il1 K dX2_moveClaim_22 rfl) (
  p_cc (n := 23) (s_il1 K dX2_moveClaim_23 rfl) (
  p_cc (n := 24) (cSN_X7_slide K dX2_moveClaim_24 w_m_RX2_66) (
  p_cc (n := 25) (s_x) (
  p_cc (n := 26) (s_x) (
  p_cc (n := 27) (s_al1 K dX2_moveClaim_27 rfl) (
  p_cc (n := 28) (s_gr (host := "") K dX2_moveClaim_28 (hc := rfl) (by decide) rfl inX2 (by decide) w_f_RX2_27 rfl) (
  p_cc (n := 29) (s_x) (
  p_cc (n := 30) (s_x) (
  p_cc (n := 31) (s_il1 K dX2_moveClaim_31 rfl) (
  p_cc (n := 32) (s_il1 K dX2_moveClaim_32 rfl) (
  p_cc (n := 33) (cSN_X7_slide K dX2_moveClaim_33 w_m_RX2_66) (
  p_cc (n := 34) (s_x) (
  p_cc (n := 35) (s_x) (
  p_cc (n := 36) (s_vr K dX2_moveClaim_36 hr hk) (p_cn))))))))))))))))))))))))))))))))))))))
set_option maxRecDepth 100000 in
set_option maxHeartbeats 4000000 in
theorem cl_X2_removeClaim {b : Bool} {w : pW} {p : Program} {l : Launch} {e : Env} {R : Room} {s : State} {m : MethodId} {args : Array Value} {below : List Frame} {meth : Method} {c : Code} {cells slots : Nat} {d : Nat} {Q : pQ} (K : q_X b w p s m args c RX2 cX2_removeClaim 2 R d cells slots) (hr : meth.sig.returnType = none) (hk : meth.locks = false) : p_Cl b (q_C l b w) tb_X2_removeClaim d Q (q_Z b w p l e R s m args below meth c 2 cells slots (MQ below (q_Qc b w Q) args s cells slots (q_A b w))) := p_c0 (
  p_cc (n := 0) (s_al1 K dX2_removeClaim_0 rfl) (
  p_cc (n := 1) (s_il1 K dX2_removeClaim_1 rfl) (
  p_cc (n := 2) (s_al1 K dX2_removeClaim_2 rfl) (
  p_cc (n := 3) (s_gi (host := "") K dX2_removeClaim_3 (hc := rfl) (by decide) rfl inX2 (by decide) w_f_RX2_37 rfl) (
  p_cc (n := 4) (s_x) (
  p_cc (n := 5) (s_x) (
  p_cc (n := 6) (s_ic1 K dX2_removeClaim_6 rfl) (
  p_cc (n := 7) (s_sub K dX2_removeClaim_7) (
  p_cc (n := 8) (cV_X2_moveClaim K dX2_removeClaim_8 w_m_RX2_69) (
  p_cc (n := 9) (s_x) (
  p_cc (n := 10) (s_x) (
  p_cc (n := 11) (s_al1 K dX2_removeClaim_11 rfl) (
  p_cc (n := 12) (s_dup K dX2_removeClaim_12) (
  p_cc (n := 13) (s_gi (host := "") K dX2_removeClaim_13 (hc := rfl) (by decide) rfl inX2 (by decide) w_f_RX2_37 rfl) (
  p_cc (n := 14) (s_x) (
  p_cc (n := 15) (s_x) (
  p_cc (n := 16) (s_ic1 K dX2_removeClaim_16 rfl) (
  p_cc (n := 17) (s_sub K dX2_removeClaim_17) (
  p_cc (n := 18) (s_pi (host := "") K dX2_removeClaim_18 (hc := rfl) (by decide) rfl inX2 (by decide) w_f_RX2_37 rfl rfl tyX2 tyX2_ok nmX2 rfl) (
  p_cc (n := 19) (s_x) (
  p_cc (n := 20) (s_x) (
  p_cc (n := 21) (s_vr K dX2_removeClaim_21 hr hk) (p_cn)))))))))))))))))))))))
set_option maxRecDepth 100000 in
set_option maxHeartbeats 4000000 in
theorem cl_X2_isFalse {b : Bool} {w : pW} {p : Program} {l : Launch} {e : Env} {R : Room} {s : State} {m : MethodId} {args : Array Value} {below : List Frame} {meth : Method} {c : Code} {cells slots : Nat} {d : Nat} {Q : pQ} (K : q_X b w p s m args c RX2 cX2_isFalse 2 R d cells slots) (hr : meth.sig.returnType = (some .boolean)) (hk : meth.locks = false) : p_Cl b (q_C l b w) tb_X2_isFalse d Q (q_Z b w p l e R s m args below meth c 2 cells slots (MQ below (q_Qc b w Q) args s cells slots (q_A b w))) := p_c0 (
  p_cc (n := 0) (s_al1 K dX2_isFalse_0 rfl) (
  p_cc (n := 1) (s_gi (host := "") K dX2_isFalse_1 (hc := rfl) (by decide) rfl inX2 (by decide) w_f_RX2_40 rfl) (
  p_cc (n := 2) (s_x) (
  p_cc (n := 3) (s_x) (
  p_cc (n := 4) (s_al1 K dX2_isFalse_4 rfl) (
  p_cc (n := 5) (s_gr (host := "") K dX2_isFalse_5 (hc := rfl) (by decide) rfl inX2 (by decide) w_f_RX2_21 rfl) (
  p_cc (n := 6) (s_x) (
  p_cc (n := 7) (s_x) (
  p_cc (n := 8) (s_il1 K dX2_isFalse_8 rfl) (
  p_cc (n := 9) (cSN_X7_at K dX2_isFalse_9 w_m_RX2_73) (
  p_cc (n := 10) (s_x) (
  p_cc (n := 11) (s_x) (
  p_cc (n := 12) (cSN_X7_bit K dX2_isFalse_12 w_m_RX2_77) (
  p_cc (n := 13) (s_x) (
  p_cc (n := 14) (s_x) (
  p_cc (n := 15) (s_al1 K dX2_isFalse_15 rfl) (
  p_cc (n := 16) (s_gr (host := "") K dX2_isFalse_16 (hc := rfl) (by decide) rfl inX2 (by decide) w_f_RX2_24 rfl) (
  p_cc (n := 17) (s_x) (
  p_cc (n := 18) (s_x) (
  p_cc (n := 19) (s_il1 K dX2_isFalse_19 rfl) (
  p_cc (n := 20) (cSN_X7_at K dX2_isFalse_20 w_m_RX2_73) (
  p_cc (n := 21) (s_x) (
  p_cc (n := 22) (s_x) (
  p_cc (n := 23) (s_ieq K dX2_isFalse_23 rfl) (
  p_cc (n := 24) (s_x) (
  p_cc (n := 25) (s_x) (
  p_cc (n := 26) (s_ic1 K dX2_isFalse_26 rfl) (
  p_cc (n := 27) (s_goto K dX2_isFalse_27 rfl) (
  p_cc (n := 28) (s_x) (
  p_cc (n := 29) (s_x) (
  p_cc (n := 30) (s_ic1 K dX2_isFalse_30 rfl) (
  p_cc (n := 31) (s_zr K dX2_isFalse_31 hr hk) (p_cn)))))))))))))))))))))))))))))))))
set_option maxRecDepth 100000 in
set_option maxHeartbeats 4000000 in
theorem cl_X2_falseClaims {b : Bool} {w : pW} {p : Program} {l : Launch} {e : Env} {R : Room} {s : State} {m : MethodId} {args : Array Value} {below : List Frame} {meth : Method} {c : Code} {cells slots : Nat} {d : Nat} {Q : pQ} (K : q_X b w p s m args c RX2 cX2_falseClaims 3 R d cells slots) (hr : meth.sig.returnType = (some .int)) (hk : meth.locks = false) : p_Cl b (q_C l b w) tb_X2_falseClaims d Q (q_Z b w p l e R s m args below meth c 3 cells slots (MQ below (q_Qc b w Q) args s cells slots (q_A b w))) := p_c0 (
  p_cc (n := 0) (s_ic1 K dX2_falseClaims_0 rfl) (
  p_cc (n := 1) (s_is1 K dX2_falseClaims_1 rfl) (
  p_cc (n := 2) (s_ic1 K dX2_falseClaims_2 rfl) (
  p_cc (n := 3) (s_is1 K dX2_falseClaims_3 rfl) (
  p_cc (n := 4) (s_il1 K dX2_falseClaims_4 rfl) (
  p_cc (n := 5) (s_al1 K dX2_falseClaims_5 rfl) (
  p_cc (n := 6) (s_gi (host := "") K dX2_falseClaims_6 (hc := rfl) (by decide) rfl inX2 (by decide) w_f_RX2_37 rfl) (
  p_cc (n := 7) (s_x) (
  p_cc (n := 8) (s_x) (
  p_cc (n := 9) (s_ige K dX2_falseClaims_9 rfl) (
  p_cc (n := 10) (s_x) (
  p_cc (n := 11) (s_x) (
  p_cc (n := 12) (s_al1 K dX2_falseClaims_12 rfl) (
  p_cc (n := 13) (s_il1 K dX2_falseClaims_13 rfl) (
  p_cc (n := 14) (cV_X2_isFalse K dX2_falseClaims_14 w_m_RX2_81) (
  p_cc (n := 15) (s_x) (
  p_cc (n := 16) (s_x) (
  p_cc (n := 17) (s_eq0 K dX2_falseClaims_17 rfl) (
  p_cc (n := 18) (s_x) (
  p_cc (n := 19) (s_x) (
  p_cc (n := 20) (s_ii K dX2_falseClaims_20 rfl) (
  p_cc (n := 21) (s_x) (
  p_cc (n := 22) (s_x) (
  p_cc (n := 23) (s_ii K dX2_falseClaims_23 rfl) (
  p_cc (n := 24) (s_x) (
  p_cc (n := 25) (s_x) (
  p_cc (n := 26) (s_goto K dX2_falseClaims_26 rfl) (
  p_cc (n := 27) (s_x) (
  p_cc (n := 28) (s_x) (
  p_cc (n := 29) (s_il1 K dX2_falseClaims_29 rfl) (
  p_cc (n := 30) (s_ir K dX2_falseClaims_30 hr hk) (p_cn))))))))))))))))))))))))))))))))
set_option maxRecDepth 100000 in
set_option maxHeartbeats 4000000 in
theorem cl_X3_run {b : Bool} {w : pW} {p : Program} {l : Launch} {e : Env} {R : Room} {s : State} {m : MethodId} {args : Array Value} {below : List Frame} {meth : Method} {c : Code} {cells slots : Nat} {d : Nat} {Q : pQ} (K : q_X b w p s m args c RX3 cX3_run 3 R d cells slots) (hr : meth.sig.returnType = none) (hk : meth.locks = false) : p_Cl b (q_C l b w) tb_X3_run d Q (q_Z b w p l e R s m args below meth c 3 cells slots (MQ below (q_Qc b w Q) args s cells slots (q_A b w))) := p_c0 (
  p_cc (n := 0) (s_al1 K dX3_run_0 rfl) (
  p_cc (n := 1) (s_ic1 K dX3_run_1 rfl) (
  p_cc (n := 2) (s_pi (host := "") K dX3_run_2 (hc := rfl) (by decide) rfl inX3 (by decide) w_f_RX3_25 rfl rfl tyX3 tyX3_ok nmX3 rfl) (
  p_cc (n := 3) (s_x) (
  p_cc (n := 4) (s_x) (
  p_cc (n := 5) (s_al1 K dX3_run_5 rfl) (
  p_cc (n := 6) (s_ic1 K dX3_run_6 rfl) (
  p_cc (n := 7) (cV_X3_stageAt K dX3_run_7 w_m_RX3_29) (
  p_cc (n := 8) (s_x) (
  p_cc (n := 9) (s_x) (
  p_cc (n := 10) (s_as1 K dX3_run_10 rfl) (
  p_cc (n := 11) (s_al1 K dX3_run_11 rfl) (
  p_cc (n := 12) (s_inul K dX3_run_12 rfl) (
  p_cc (n := 13) (s_x) (
  p_cc (n := 14) (s_x) (
  p_cc (n := 15) (s_al1 K dX3_run_15 rfl) (
  p_cc (n := 16) (cVN_X1_cool K dX3_run_16 w_m_RX3_33) (
  p_cc (n := 17) (s_x) (
  p_cc (n := 18) (s_x) (
  p_cc (n := 19) (s_al1 K dX3_run_19 rfl) (
  p_cc (n := 20) (s_al1 K dX3_run_20 rfl) (
  p_cc (n := 21) (s_ic1 K dX3_run_21 rfl) (
  p_cc (n := 22) (s_ic1 K dX3_run_22 rfl) (
  p_cc (n := 23) (cV_X3_look K dX3_run_23 w_m_RX3_36) (
  p_cc (n := 24) (s_x) (
  p_cc (n := 25) (s_x) (
  p_cc (n := 26) (s_vr K dX3_run_26 hr hk) (p_cn))))))))))))))))))))))))))))
set_option maxRecDepth 100000 in
set_option maxHeartbeats 4000000 in
theorem cl_X3_look {b : Bool} {w : pW} {p : Program} {l : Launch} {e : Env} {R : Room} {s : State} {m : MethodId} {args : Array Value} {below : List Frame} {meth : Method} {c : Code} {cells slots : Nat} {d : Nat} {Q : pQ} (K : q_X b w p s m args c RX3 cX3_look 7 R d cells slots) (hr : meth.sig.returnType = none) (hk : meth.locks = false) : p_Cl b (q_C l b w) tb_X3_look d Q (q_Z b w p l e R s m args below meth c 7 cells slots (MQ below (q_Qc b w Q) args s cells slots (q_A b w))) := p_c0 (
  p_cc (n := 0) (s_al1 K dX3_look_0 rfl) (
  p_cc (n := 1) (s_il1 K dX3_look_1 rfl) (
  p_cc (n := 2) (cV_X3_stageAt K dX3_look_2 w_m_RX3_29) (
  p_cc (n := 3) (s_x) (
  p_cc (n := 4) (s_x) (
  p_cc (n := 5) (s_as2 K dX3_look_5) (
  p_cc (n := 6) (s_x) (
  p_cc (n := 7) (s_al2 K dX3_look_7) (
  p_cc (n := 8) (s_x) (
  p_cc (n := 9) (s_inul K dX3_look_9 rfl) (
  p_cc (n := 10) (s_x) (
  p_cc (n := 11) (s_x) (
  p_cc (n := 12) (s_al2 K dX3_look_12) (
  p_cc (n := 13) (s_x) (
  p_cc (n := 14) (s_giN K dX3_look_14 (hc := rfl) (by decide) rfl inX1 (by decide) w_f_RX3_40 rfl) (
  p_cc (n := 15) (s_x) (
  p_cc (n := 16) (s_x) (
  p_cc (n := 17) (cS_J6_bitCount K dX3_look_17 w_m_RX3_43) (
  p_cc (n := 18) (s_x) (
  p_cc (n := 19) (s_x) (
  p_cc (n := 20) (s_al1 K dX3_look_20 rfl) (
  p_cc (n := 21) (s_il1 K dX3_look_21 rfl) (
  p_cc (n := 22) (s_al2 K dX3_look_22) (
  p_cc (n := 23) (s_x) (
  p_cc (n := 24) (s_giN K dX3_look_24 (hc := rfl) (by decide) rfl inX1 (by decide) w_f_RX3_49 rfl) (
  p_cc (n := 25) (s_x) (
  p_cc (n := 26) (s_x) (
  p_cc (n := 27) (cS_X3_tellable K dX3_look_27 w_m_RX3_52) (
  p_cc (n := 28) (s_x) (
  p_cc (n := 29) (s_x) (
  p_cc (n := 30) (s_add K dX3_look_30) (
  p_cc (n := 31) (s_al1 K dX3_look_31 rfl) (
  p_cc (n := 32) (s_gi (host := "") K dX3_look_32 (hc := rfl) (by decide) rfl inX3 (by decide) w_f_RX3_25 rfl) (
  p_cc (n := 33) (s_x) (
  p_cc (n := 34) (s_x) (
  p_cc (n := 35) (s_igt K dX3_look_35 rfl) (
  p_cc (n := 36) (s_x) (
  p_cc (n := 37) (s_x) (
  p_cc (n := 38) (s_vr K dX3_look_38 hr hk) (
  p_cc (n := 39) (s_il1 K dX3_look_39 rfl) (
  p_cc (n := 40) (s_al1 K dX3_look_40 rfl) (
  p_cc (n := 41) (s_giN K dX3_look_41 (hc := rfl) (by decide) rfl inX2 (by decide) w_f_RX3_56 rfl) (
  p_cc (n := 42) (s_x) (
  p_cc (n := 43) (s_x) (
  p_cc (n := 44) (s_ine K dX3_look_44 rfl) (
  p_cc (n := 45) (s_x) (
  p_cc (n := 46) (s_x) (
  p_cc (n := 47) (s_al1 K dX3_look_47 rfl) (
  p_cc (n := 48) (s_al2 K dX3_look_48) (
  p_cc (n := 49) (s_x) (
  p_cc (n := 50) (s_giN K dX3_look_50 (hc := rfl) (by decide) rfl inX1 (by decide) w_f_RX3_40 rfl) (
  p_cc (n := 51) (s_x) (
  p_cc (n := 52) (s_x) (
  p_cc (n := 53) (cS_J6_bitCount K dX3_look_53 w_m_RX3_43) (
  p_cc (n := 54) (s_x) (
  p_cc (n := 55) (s_x) (
  p_cc (n := 56) (s_pi (host := "") K dX3_look_56 (hc := rfl) (by decide) rfl inX3 (by decide) w_f_RX3_25 rfl rfl tyX3 tyX3_ok nmX3 rfl) (
  p_cc (n := 57) (s_x) (
  p_cc (n := 58) (s_x) (
  p_cc (n := 59) (s_al1 K dX3_look_59 rfl) (
  p_cc (n := 60) (s_gr (host := "") K dX3_look_60 (hc := rfl) (by decide) rfl inX3 (by decide) w_f_RX3_17 rfl) (
  p_cc (n := 61) (s_x) (
  p_cc (n := 62) (s_x) (
  p_cc (n := 63) (s_al1 K dX3_look_63 rfl) (
  p_cc (n := 64) (s_gr (host := "") K dX3_look_64 (hc := rfl) (by decide) rfl inX3 (by decide) w_f_RX3_21 rfl) (
  p_cc (n := 65) (s_x) (
  p_cc (n := 66) (s_x) (
  p_cc (n := 67) (cSN_X7_copyRow K dX3_look_67 w_m_RX3_61) (
  p_cc (n := 68) (s_x) (
  p_cc (n := 69) (s_x) (
  p_cc (n := 70) (s_vr K dX3_look_70 hr hk) (
  p_cc (n := 71) (s_al1 K dX3_look_71 rfl) (
  p_cc (n := 72) (s_il1 K dX3_look_72 rfl) (
  p_cc (n := 73) (s_ic1 K dX3_look_73 rfl) (
  p_cc (n := 74) (s_add K dX3_look_74) (
  p_cc (n := 75) (cV_X3_stageAt K dX3_look_75 w_m_RX3_29) (
  p_cc (n := 76) (s_x) (
  p_cc (n := 77) (s_x) (
  p_cc (n := 78) (s_as2 K dX3_look_78) (
  p_cc (n := 79) (s_x) (
  p_cc (n := 80) (s_ic1 K dX3_look_80 rfl) (
  p_cc (n := 81) (s_is2 K dX3_look_81) (
  p_cc (n := 82) (s_x) (
  p_cc (n := 83) (s_al2 K dX3_look_83) (
  p_cc (n := 84) (s_x) (
  p_cc (n := 85) (s_inul K dX3_look_85 rfl) (
  p_cc (n := 86) (s_x) (
  p_cc (n := 87) (s_x) (
  p_cc (n := 88) (s_il2 K dX3_look_88) (
  p_cc (n := 89) (s_x) (
  p_cc (n := 90) (s_al1 K dX3_look_90 rfl) (
  p_cc (n := 91) (s_giN K dX3_look_91 (hc := rfl) (by decide) rfl inX2 (by decide) w_f_RX3_56 rfl) (
  p_cc (n := 92) (s_x) (
  p_cc (n := 93) (s_x) (
  p_cc (n := 94) (s_ige K dX3_look_94 rfl) (
  p_cc (n := 95) (s_x) (
  p_cc (n := 96) (s_x) (
  p_cc (n := 97) (s_il1 K dX3_look_97 rfl) (
  p_cc (n := 98) (s_il2 K dX3_look_98) (
  p_cc (n := 99) (s_x) (
  p_cc (n := 100) (cSN_X7_bit K dX3_look_100 w_m_RX3_65) (
  p_cc (n := 101) (s_x) (
  p_cc (n := 102) (s_x) (
  p_cc (n := 103) (s_ne0 K dX3_look_103 rfl) (
  p_cc (n := 104) (s_x) (
  p_cc (n := 105) (s_x) (
  p_cc (n := 106) (s_al1 K dX3_look_106 rfl) (
  p_cc (n := 107) (s_gr (host := "") K dX3_look_107 (hc := rfl) (by decide) rfl inX3 (by decide) w_f_RX3_17 rfl) (
  p_cc (n := 108) (s_x) (
  p_cc (n := 109) (s_x) (
  p_cc (n := 110) (s_il1 K dX3_look_110 rfl) (
  p_cc (n := 111) (s_il2 K dX3_look_111) (
  p_cc (n := 112) (s_x) (
  p_cc (n := 113) (cSN_X7_put K dX3_look_113 w_m_RX3_69) (
  p_cc (n := 114) (s_x) (
  p_cc (n := 115) (s_x) (
  p_cc (n := 116) (s_al2 K dX3_look_116) (
  p_cc (n := 117) (s_x) (
  p_cc (n := 118) (s_al2 K dX3_look_118) (
  p_cc (n := 119) (s_x) (
  p_cc (n := 120) (cVN_X1_copyFrom K dX3_look_120 w_m_RX3_73) (
  p_cc (n := 121) (s_x) (
  p_cc (n := 122) (s_x) (
  p_cc (n := 123) (s_al2 K dX3_look_123) (
  p_cc (n := 124) (s_x) (
  p_cc (n := 125) (s_al1 K dX3_look_125 rfl) (
  p_cc (n := 126) (s_il2 K dX3_look_126) (
  p_cc (n := 127) (s_x) (
  p_cc (n := 128) (cVN_X1_take K dX3_look_128 w_m_RX3_77) (
  p_cc (n := 129) (s_x) (
  p_cc (n := 130) (s_x) (
  p_cc (n := 131) (s_pop K dX3_look_131) (
  p_cc (n := 132) (s_al1 K dX3_look_132 rfl) (
  p_cc (n := 133) (s_al1 K dX3_look_133 rfl) (
  p_cc (n := 134) (s_il1 K dX3_look_134 rfl) (
  p_cc (n := 135) (s_ic1 K dX3_look_135 rfl) (
  p_cc (n := 136) (s_add K dX3_look_136) (
  p_cc (n := 137) (s_il1 K dX3_look_137 rfl) (
  p_cc (n := 138) (s_ic1 K dX3_look_138 rfl) (
  p_cc (n := 139) (s_il2 K dX3_look_139) (
  p_cc (n := 140) (s_x) (
  p_cc (n := 141) (s_shl K dX3_look_141) (
  p_cc (n := 142) (s_or K dX3_look_142) (
  p_cc (n := 143) (cV_X3_look K dX3_look_143 w_m_RX3_36) (
  p_cc (n := 144) (s_x) (
  p_cc (n := 145) (s_x) (
  p_cc (n := 146) (s_ii K dX3_look_146 rfl) (
  p_cc (n := 147) (s_x) (
  p_cc (n := 148) (s_x) (
  p_cc (n := 149) (s_goto K dX3_look_149 rfl) (
  p_cc (n := 150) (s_x) (
  p_cc (n := 151) (s_x) (
  p_cc (n := 152) (s_vr K dX3_look_152 hr hk) (p_cn))))))))))))))))))))))))))))))))))))))))))))))))))))))))))))))))))))))))))))))))))))))))))))))))))))))))))))))))))))))))))))))))))))))))))))))))))))))))))
set_option maxRecDepth 100000 in
set_option maxHeartbeats 4000000 in
theorem cl_X3_tellable {b : Bool} {w : pW} {p : Program} {l : Launch} {e : Env} {R : Room} {s : State} {m : MethodId} {args : Array Value} {below : List Frame} {meth : Method} {c : Code} {cells slots : Nat} {d : Nat} {Q : pQ} (K : q_X b w p s m args c RX3 cX3_tellable 5 R d cells slots) (hr : meth.sig.returnType = (some .int)) (hk : meth.locks = false) : p_Cl b (q_C l b w) tb_X3_tellable d Q (q_Z b w p l e R s m args below meth c 5 cells slots (MQ below (q_Qc b w Q) args s cells slots (q_A b w))) := p_c0 (
  p_cc (n := 0) (s_ic1 K dX3_tellable_0 rfl) (
  p_cc (n := 1) (s_is1 K dX3_tellable_1 rfl) (
  p_cc (n := 2) (s_ic1 K dX3_tellable_2 rfl) (
  p_cc (n := 3) (s_is2 K dX3_tellable_3) (
  p_cc (n := 4) (s_x) (
  p_cc (n := 5) (s_il2 K dX3_tellable_5) (
  p_cc (n := 6) (s_x) (
  p_cc (n := 7) (s_al1 K dX3_tellable_7 rfl) (
  p_cc (n := 8) (s_giN K dX3_tellable_8 (hc := rfl) (by decide) rfl inX2 (by decide) w_f_RX3_56 rfl) (
  p_cc (n := 9) (s_x) (
  p_cc (n := 10) (s_x) (
  p_cc (n := 11) (s_ige K dX3_tellable_11 rfl) (
  p_cc (n := 12) (s_x) (
  p_cc (n := 13) (s_x) (
  p_cc (n := 14) (s_il1 K dX3_tellable_14 rfl) (
  p_cc (n := 15) (s_il2 K dX3_tellable_15) (
  p_cc (n := 16) (s_x) (
  p_cc (n := 17) (cSN_X7_bit K dX3_tellable_17 w_m_RX3_65) (
  p_cc (n := 18) (s_x) (
  p_cc (n := 19) (s_x) (
  p_cc (n := 20) (s_ne0 K dX3_tellable_20 rfl) (
  p_cc (n := 21) (s_x) (
  p_cc (n := 22) (s_x) (
  p_cc (n := 23) (s_il1 K dX3_tellable_23 rfl) (
  p_cc (n := 24) (s_al1 K dX3_tellable_24 rfl) (
  p_cc (n := 25) (s_grN K dX3_tellable_25 (hc := rfl) (by decide) rfl inX2 (by decide) w_f_RX3_81 rfl) (
  p_cc (n := 26) (s_x) (
  p_cc (n := 27) (s_x) (
  p_cc (n := 28) (s_il2 K dX3_tellable_28) (
  p_cc (n := 29) (s_x) (
  p_cc (n := 30) (cSN_X7_at K dX3_tellable_30 w_m_RX3_84) (
  p_cc (n := 31) (s_x) (
  p_cc (n := 32) (s_x) (
  p_cc (n := 33) (cSN_X7_bit K dX3_tellable_33 w_m_RX3_65) (
  p_cc (n := 34) (s_x) (
  p_cc (n := 35) (s_x) (
  p_cc (n := 36) (s_ne0 K dX3_tellable_36 rfl) (
  p_cc (n := 37) (s_x) (
  p_cc (n := 38) (s_x) (
  p_cc (n := 39) (s_ii K dX3_tellable_39 rfl) (
  p_cc (n := 40) (s_x) (
  p_cc (n := 41) (s_x) (
  p_cc (n := 42) (s_ii K dX3_tellable_42 rfl) (
  p_cc (n := 43) (s_x) (
  p_cc (n := 44) (s_x) (
  p_cc (n := 45) (s_goto K dX3_tellable_45 rfl) (
  p_cc (n := 46) (s_x) (
  p_cc (n := 47) (s_x) (
  p_cc (n := 48) (s_il1 K dX3_tellable_48 rfl) (
  p_cc (n := 49) (s_ir K dX3_tellable_49 hr hk) (p_cn)))))))))))))))))))))))))))))))))))))))))))))))))))
set_option maxRecDepth 100000 in
set_option maxHeartbeats 4000000 in
theorem cl_X3_stageAt {b : Bool} {w : pW} {p : Program} {l : Launch} {e : Env} {R : Room} {s : State} {m : MethodId} {args : Array Value} {below : List Frame} {meth : Method} {c : Code} {cells slots : Nat} {d : Nat} {Q : pQ} (K : q_X b w p s m args c RX3 cX3_stageAt 2 R d cells slots) (hr : meth.sig.returnType = (some (.object "PokerEvening$Iron"))) (hk : meth.locks = false) : p_Cl b (q_C l b w) tb_X3_stageAt d Q (q_Z b w p l e R s m args below meth c 2 cells slots (MQ below (q_Qc b w Q) args s cells slots (q_A b w))) := p_c0 (
  p_cc (n := 0) (s_il1 K dX3_stageAt_0 rfl) (
  p_cc (n := 1) (s_lt0 K dX3_stageAt_1 rfl) (
  p_cc (n := 2) (s_x) (
  p_cc (n := 3) (s_x) (
  p_cc (n := 4) (s_il1 K dX3_stageAt_4 rfl) (
  p_cc (n := 5) (s_al1 K dX3_stageAt_5 rfl) (
  p_cc (n := 6) (s_gr (host := "") K dX3_stageAt_6 (hc := rfl) (by decide) rfl inX3 (by decide) w_f_RX3_11 rfl) (
  p_cc (n := 7) (s_x) (
  p_cc (n := 8) (s_x) (
  p_cc (n := 9) (s_len K dX3_stageAt_9) (
  p_cc (n := 10) (s_ige K dX3_stageAt_10 rfl) (
  p_cc (n := 11) (s_x) (
  p_cc (n := 12) (s_x) (
  p_cc (n := 13) (s_al1 K dX3_stageAt_13 rfl) (
  p_cc (n := 14) (s_gr (host := "") K dX3_stageAt_14 (hc := rfl) (by decide) rfl inX3 (by decide) w_f_RX3_11 rfl) (
  p_cc (n := 15) (s_x) (
  p_cc (n := 16) (s_x) (
  p_cc (n := 17) (s_il1 K dX3_stageAt_17 rfl) (
  p_cc (n := 18) (s_aa10 K dX3_stageAt_18) (
  p_cc (n := 19) (s_goto K dX3_stageAt_19 rfl) (
  p_cc (n := 20) (s_x) (
  p_cc (n := 21) (s_x) (
  p_cc (n := 22) (s_nu K dX3_stageAt_22) (
  p_cc (n := 23) (s_ar K dX3_stageAt_23 hr hk) (p_cn)))))))))))))))))))))))))
set_option maxRecDepth 100000 in
set_option maxHeartbeats 4000000 in
theorem cl_X4_clear {b : Bool} {w : pW} {p : Program} {l : Launch} {e : Env} {R : Room} {s : State} {m : MethodId} {args : Array Value} {below : List Frame} {meth : Method} {c : Code} {cells slots : Nat} {d : Nat} {Q : pQ} (K : q_X b w p s m args c RX4 cX4_clear 1 R d cells slots) (hr : meth.sig.returnType = none) (hk : meth.locks = false) : p_Cl b (q_C l b w) tb_X4_clear d Q (q_Z b w p l e R s m args below meth c 1 cells slots (MQ below (q_Qc b w Q) args s cells slots (q_A b w))) := p_c0 (
  p_cc (n := 0) (s_al1 K dX4_clear_0 rfl) (
  p_cc (n := 1) (s_ic1 K dX4_clear_1 rfl) (
  p_cc (n := 2) (s_pi (host := "") K dX4_clear_2 (hc := rfl) (by decide) rfl inX4 (by decide) w_f_RX4_22 rfl rfl tyX4 tyX4_ok nmX4 rfl) (
  p_cc (n := 3) (s_x) (
  p_cc (n := 4) (s_x) (
  p_cc (n := 5) (s_vr K dX4_clear_5 hr hk) (p_cn)))))))
set_option maxRecDepth 100000 in
set_option maxHeartbeats 4000000 in
theorem cl_X4_push {b : Bool} {w : pW} {p : Program} {l : Launch} {e : Env} {R : Room} {s : State} {m : MethodId} {args : Array Value} {below : List Frame} {meth : Method} {c : Code} {cells slots : Nat} {d : Nat} {Q : pQ} (K : q_X b w p s m args c RX4 cX4_push 3 R d cells slots) (hr : meth.sig.returnType = none) (hk : meth.locks = false) : p_Cl b (q_C l b w) tb_X4_push d Q (q_Z b w p l e R s m args below meth c 3 cells slots (MQ below (q_Qc b w Q) args s cells slots (q_A b w))) := p_c0 (
  p_cc (n := 0) (s_al1 K dX4_push_0 rfl) (
  p_cc (n := 1) (s_gi (host := "") K dX4_push_1 (hc := rfl) (by decide) rfl inX4 (by decide) w_f_RX4_22 rfl) (
  p_cc (n := 2) (s_x) (
  p_cc (n := 3) (s_x) (
  p_cc (n := 4) (s_al1 K dX4_push_4 rfl) (
  p_cc (n := 5) (s_gr (host := "") K dX4_push_5 (hc := rfl) (by decide) rfl inX4 (by decide) w_f_RX4_15 rfl) (
  p_cc (n := 6) (s_x) (
  p_cc (n := 7) (s_x) (
  p_cc (n := 8) (s_len K dX4_push_8) (
  p_cc (n := 9) (s_ilt K dX4_push_9 rfl) (
  p_cc (n := 10) (s_x) (
  p_cc (n := 11) (s_x) (
  p_cc (n := 12) (s_al1 K dX4_push_12 rfl) (
  p_cc (n := 13) (cV_X4_dropOldest K dX4_push_13 w_m_RX4_26) (
  p_cc (n := 14) (s_x) (
  p_cc (n := 15) (s_x) (
  p_cc (n := 16) (s_al1 K dX4_push_16 rfl) (
  p_cc (n := 17) (s_al1 K dX4_push_17 rfl) (
  p_cc (n := 18) (s_gi (host := "") K dX4_push_18 (hc := rfl) (by decide) rfl inX4 (by decide) w_f_RX4_22 rfl) (
  p_cc (n := 19) (s_x) (
  p_cc (n := 20) (s_x) (
  p_cc (n := 21) (cV_X4_roomAt K dX4_push_21 w_m_RX4_29) (
  p_cc (n := 22) (s_x) (
  p_cc (n := 23) (s_x) (
  p_cc (n := 24) (s_as1 K dX4_push_24 rfl) (
  p_cc (n := 25) (s_al1 K dX4_push_25 rfl) (
  p_cc (n := 26) (s_inul K dX4_push_26 rfl) (
  p_cc (n := 27) (s_x) (
  p_cc (n := 28) (s_x) (
  p_cc (n := 29) (s_al1 K dX4_push_29 rfl) (
  p_cc (n := 30) (s_al1 K dX4_push_30 rfl) (
  p_cc (n := 31) (cVN_X2_copyFrom K dX4_push_31 w_m_RX4_33) (
  p_cc (n := 32) (s_x) (
  p_cc (n := 33) (s_x) (
  p_cc (n := 34) (s_al1 K dX4_push_34 rfl) (
  p_cc (n := 35) (s_dup K dX4_push_35) (
  p_cc (n := 36) (s_gi (host := "") K dX4_push_36 (hc := rfl) (by decide) rfl inX4 (by decide) w_f_RX4_22 rfl) (
  p_cc (n := 37) (s_x) (
  p_cc (n := 38) (s_x) (
  p_cc (n := 39) (s_ic1 K dX4_push_39 rfl) (
  p_cc (n := 40) (s_add K dX4_push_40) (
  p_cc (n := 41) (s_pi (host := "") K dX4_push_41 (hc := rfl) (by decide) rfl inX4 (by decide) w_f_RX4_22 rfl rfl tyX4 tyX4_ok nmX4 rfl) (
  p_cc (n := 42) (s_x) (
  p_cc (n := 43) (s_x) (
  p_cc (n := 44) (s_vr K dX4_push_44 hr hk) (p_cn))))))))))))))))))))))))))))))))))))))))))))))
set_option maxRecDepth 100000 in
set_option maxHeartbeats 4000000 in
theorem cl_X4_popInto {b : Bool} {w : pW} {p : Program} {l : Launch} {e : Env} {R : Room} {s : State} {m : MethodId} {args : Array Value} {below : List Frame} {meth : Method} {c : Code} {cells slots : Nat} {d : Nat} {Q : pQ} (K : q_X b w p s m args c RX4 cX4_popInto 3 R d cells slots) (hr : meth.sig.returnType = (some .boolean)) (hk : meth.locks = false) : p_Cl b (q_C l b w) tb_X4_popInto d Q (q_Z b w p l e R s m args below meth c 3 cells slots (MQ below (q_Qc b w Q) args s cells slots (q_A b w))) := p_c0 (
  p_cc (n := 0) (s_al1 K dX4_popInto_0 rfl) (
  p_cc (n := 1) (s_al1 K dX4_popInto_1 rfl) (
  p_cc (n := 2) (s_gi (host := "") K dX4_popInto_2 (hc := rfl) (by decide) rfl inX4 (by decide) w_f_RX4_22 rfl) (
  p_cc (n := 3) (s_x) (
  p_cc (n := 4) (s_x) (
  p_cc (n := 5) (s_ic1 K dX4_popInto_5 rfl) (
  p_cc (n := 6) (s_sub K dX4_popInto_6) (
  p_cc (n := 7) (cV_X4_roomAt K dX4_popInto_7 w_m_RX4_29) (
  p_cc (n := 8) (s_x) (
  p_cc (n := 9) (s_x) (
  p_cc (n := 10) (s_as1 K dX4_popInto_10 rfl) (
  p_cc (n := 11) (s_al1 K dX4_popInto_11 rfl) (
  p_cc (n := 12) (s_inn K dX4_popInto_12 rfl) (
  p_cc (n := 13) (s_x) (
  p_cc (n := 14) (s_x) (
  p_cc (n := 15) (s_ic1 K dX4_popInto_15 rfl) (
  p_cc (n := 16) (s_zr K dX4_popInto_16 hr hk) (
  p_cc (n := 17) (s_al1 K dX4_popInto_17 rfl) (
  p_cc (n := 18) (s_al1 K dX4_popInto_18 rfl) (
  p_cc (n := 19) (cVN_X2_copyFrom K dX4_popInto_19 w_m_RX4_33) (
  p_cc (n := 20) (s_x) (
  p_cc (n := 21) (s_x) (
  p_cc (n := 22) (s_al1 K dX4_popInto_22 rfl) (
  p_cc (n := 23) (s_dup K dX4_popInto_23) (
  p_cc (n := 24) (s_gi (host := "") K dX4_popInto_24 (hc := rfl) (by decide) rfl inX4 (by decide) w_f_RX4_22 rfl) (
  p_cc (n := 25) (s_x) (
  p_cc (n := 26) (s_x) (
  p_cc (n := 27) (s_ic1 K dX4_popInto_27 rfl) (
  p_cc (n := 28) (s_sub K dX4_popInto_28) (
  p_cc (n := 29) (s_pi (host := "") K dX4_popInto_29 (hc := rfl) (by decide) rfl inX4 (by decide) w_f_RX4_22 rfl rfl tyX4 tyX4_ok nmX4 rfl) (
  p_cc (n := 30) (s_x) (
  p_cc (n := 31) (s_x) (
  p_cc (n := 32) (s_ic1 K dX4_popInto_32 rfl) (
  p_cc (n := 33) (s_zr K dX4_popInto_33 hr hk) (p_cn)))))))))))))))))))))))))))))))))))
set_option maxRecDepth 100000 in
set_option maxHeartbeats 4000000 in
theorem cl_X4_dropOldest {b : Bool} {w : pW} {p : Program} {l : Launch} {e : Env} {R : Room} {s : State} {m : MethodId} {args : Array Value} {below : List Frame} {meth : Method} {c : Code} {cells slots : Nat} {d : Nat} {Q : pQ} (K : q_X b w p s m args c RX4 cX4_dropOldest 3 R d cells slots) (hr : meth.sig.returnType = none) (hk : meth.locks = false) : p_Cl b (q_C l b w) tb_X4_dropOldest d Q (q_Z b w p l e R s m args below meth c 3 cells slots (MQ below (q_Qc b w Q) args s cells slots (q_A b w))) := p_c0 (
  p_cc (n := 0) (s_al1 K dX4_dropOldest_0 rfl) (
  p_cc (n := 1) (s_ic1 K dX4_dropOldest_1 rfl) (
  p_cc (n := 2) (cV_X4_roomAt K dX4_dropOldest_2 w_m_RX4_29) (
  p_cc (n := 3) (s_x) (
  p_cc (n := 4) (s_x) (
  p_cc (n := 5) (s_as1 K dX4_dropOldest_5 rfl) (
  p_cc (n := 6) (s_ic1 K dX4_dropOldest_6 rfl) (
  p_cc (n := 7) (s_is1 K dX4_dropOldest_7 rfl) (
  p_cc (n := 8) (s_il1 K dX4_dropOldest_8 rfl) (
  p_cc (n := 9) (s_al1 K dX4_dropOldest_9 rfl) (
  p_cc (n := 10) (s_gr (host := "") K dX4_dropOldest_10 (hc := rfl) (by decide) rfl inX4 (by decide) w_f_RX4_15 rfl) (
  p_cc (n := 11) (s_x) (
  p_cc (n := 12) (s_x) (
  p_cc (n := 13) (s_len K dX4_dropOldest_13) (
  p_cc (n := 14) (s_ige K dX4_dropOldest_14 rfl) (
  p_cc (n := 15) (s_x) (
  p_cc (n := 16) (s_x) (
  p_cc (n := 17) (s_al1 K dX4_dropOldest_17 rfl) (
  p_cc (n := 18) (s_gr (host := "") K dX4_dropOldest_18 (hc := rfl) (by decide) rfl inX4 (by decide) w_f_RX4_15 rfl) (
  p_cc (n := 19) (s_x) (
  p_cc (n := 20) (s_x) (
  p_cc (n := 21) (s_il1 K dX4_dropOldest_21 rfl) (
  p_cc (n := 22) (s_ic1 K dX4_dropOldest_22 rfl) (
  p_cc (n := 23) (s_sub K dX4_dropOldest_23) (
  p_cc (n := 24) (s_al1 K dX4_dropOldest_24 rfl) (
  p_cc (n := 25) (s_gr (host := "") K dX4_dropOldest_25 (hc := rfl) (by decide) rfl inX4 (by decide) w_f_RX4_15 rfl) (
  p_cc (n := 26) (s_x) (
  p_cc (n := 27) (s_x) (
  p_cc (n := 28) (s_il1 K dX4_dropOldest_28 rfl) (
  p_cc (n := 29) (s_aa11 K dX4_dropOldest_29) (
  p_cc (n := 30) (s_ast11 K dX4_dropOldest_30) (
  p_cc (n := 31) (s_ii K dX4_dropOldest_31 rfl) (
  p_cc (n := 32) (s_x) (
  p_cc (n := 33) (s_x) (
  p_cc (n := 34) (s_goto K dX4_dropOldest_34 rfl) (
  p_cc (n := 35) (s_x) (
  p_cc (n := 36) (s_x) (
  p_cc (n := 37) (s_al1 K dX4_dropOldest_37 rfl) (
  p_cc (n := 38) (s_gr (host := "") K dX4_dropOldest_38 (hc := rfl) (by decide) rfl inX4 (by decide) w_f_RX4_15 rfl) (
  p_cc (n := 39) (s_x) (
  p_cc (n := 40) (s_x) (
  p_cc (n := 41) (s_len K dX4_dropOldest_41) (
  p_cc (n := 42) (s_le0 K dX4_dropOldest_42 rfl) (
  p_cc (n := 43) (s_x) (
  p_cc (n := 44) (s_x) (
  p_cc (n := 45) (s_al1 K dX4_dropOldest_45 rfl) (
  p_cc (n := 46) (s_gr (host := "") K dX4_dropOldest_46 (hc := rfl) (by decide) rfl inX4 (by decide) w_f_RX4_15 rfl) (
  p_cc (n := 47) (s_x) (
  p_cc (n := 48) (s_x) (
  p_cc (n := 49) (s_al1 K dX4_dropOldest_49 rfl) (
  p_cc (n := 50) (s_gr (host := "") K dX4_dropOldest_50 (hc := rfl) (by decide) rfl inX4 (by decide) w_f_RX4_15 rfl) (
  p_cc (n := 51) (s_x) (
  p_cc (n := 52) (s_x) (
  p_cc (n := 53) (s_len K dX4_dropOldest_53) (
  p_cc (n := 54) (s_ic1 K dX4_dropOldest_54 rfl) (
  p_cc (n := 55) (s_sub K dX4_dropOldest_55) (
  p_cc (n := 56) (s_al1 K dX4_dropOldest_56 rfl) (
  p_cc (n := 57) (s_ast11 K dX4_dropOldest_57) (
  p_cc (n := 58) (s_al1 K dX4_dropOldest_58 rfl) (
  p_cc (n := 59) (s_dup K dX4_dropOldest_59) (
  p_cc (n := 60) (s_gi (host := "") K dX4_dropOldest_60 (hc := rfl) (by decide) rfl inX4 (by decide) w_f_RX4_22 rfl) (
  p_cc (n := 61) (s_x) (
  p_cc (n := 62) (s_x) (
  p_cc (n := 63) (s_ic1 K dX4_dropOldest_63 rfl) (
  p_cc (n := 64) (s_sub K dX4_dropOldest_64) (
  p_cc (n := 65) (s_pi (host := "") K dX4_dropOldest_65 (hc := rfl) (by decide) rfl inX4 (by decide) w_f_RX4_22 rfl rfl tyX4 tyX4_ok nmX4 rfl) (
  p_cc (n := 66) (s_x) (
  p_cc (n := 67) (s_x) (
  p_cc (n := 68) (s_vr K dX4_dropOldest_68 hr hk) (p_cn))))))))))))))))))))))))))))))))))))))))))))))))))))))))))))))))))))))
set_option maxRecDepth 100000 in
set_option maxHeartbeats 4000000 in
theorem cl_X4_roomAt {b : Bool} {w : pW} {p : Program} {l : Launch} {e : Env} {R : Room} {s : State} {m : MethodId} {args : Array Value} {below : List Frame} {meth : Method} {c : Code} {cells slots : Nat} {d : Nat} {Q : pQ} (K : q_X b w p s m args c RX4 cX4_roomAt 2 R d cells slots) (hr : meth.sig.returnType = (some (.object "PokerEvening$Room"))) (hk : meth.locks = false) : p_Cl b (q_C l b w) tb_X4_roomAt d Q (q_Z b w p l e R s m args below meth c 2 cells slots (MQ below (q_Qc b w Q) args s cells slots (q_A b w))) := p_c0 (
  p_cc (n := 0) (s_il1 K dX4_roomAt_0 rfl) (
  p_cc (n := 1) (s_lt0 K dX4_roomAt_1 rfl) (
  p_cc (n := 2) (s_x) (
  p_cc (n := 3) (s_x) (
  p_cc (n := 4) (s_il1 K dX4_roomAt_4 rfl) (
  p_cc (n := 5) (s_al1 K dX4_roomAt_5 rfl) (
  p_cc (n := 6) (s_gr (host := "") K dX4_roomAt_6 (hc := rfl) (by decide) rfl inX4 (by decide) w_f_RX4_15 rfl) (
  p_cc (n := 7) (s_x) (
  p_cc (n := 8) (s_x) (
  p_cc (n := 9) (s_len K dX4_roomAt_9) (
  p_cc (n := 10) (s_ige K dX4_roomAt_10 rfl) (
  p_cc (n := 11) (s_x) (
  p_cc (n := 12) (s_x) (
  p_cc (n := 13) (s_al1 K dX4_roomAt_13 rfl) (
  p_cc (n := 14) (s_gr (host := "") K dX4_roomAt_14 (hc := rfl) (by decide) rfl inX4 (by decide) w_f_RX4_15 rfl) (
  p_cc (n := 15) (s_x) (
  p_cc (n := 16) (s_x) (
  p_cc (n := 17) (s_il1 K dX4_roomAt_17 rfl) (
  p_cc (n := 18) (s_aa11 K dX4_roomAt_18) (
  p_cc (n := 19) (s_goto K dX4_roomAt_19 rfl) (
  p_cc (n := 20) (s_x) (
  p_cc (n := 21) (s_x) (
  p_cc (n := 22) (s_nu K dX4_roomAt_22) (
  p_cc (n := 23) (s_ar K dX4_roomAt_23 hr hk) (p_cn)))))))))))))))))))))))))
set_option maxRecDepth 100000 in
set_option maxHeartbeats 4000000 in
theorem cl_X5_clear {b : Bool} {w : pW} {p : Program} {l : Launch} {e : Env} {R : Room} {s : State} {m : MethodId} {args : Array Value} {below : List Frame} {meth : Method} {c : Code} {cells slots : Nat} {d : Nat} {Q : pQ} (K : q_X b w p s m args c RX5 cX5_clear 1 R d cells slots) (hr : meth.sig.returnType = none) (hk : meth.locks = false) : p_Cl b (q_C l b w) tb_X5_clear d Q (q_Z b w p l e R s m args below meth c 1 cells slots (MQ below (q_Qc b w Q) args s cells slots (q_A b w))) := p_c0 (
  p_cc (n := 0) (s_al1 K dX5_clear_0 rfl) (
  p_cc (n := 1) (s_ic1 K dX5_clear_1 rfl) (
  p_cc (n := 2) (s_pi (host := "") K dX5_clear_2 (hc := rfl) (by decide) rfl inX5 (by decide) w_f_RX5_18 rfl rfl tyX5 tyX5_ok nmX5 rfl) (
  p_cc (n := 3) (s_x) (
  p_cc (n := 4) (s_x) (
  p_cc (n := 5) (s_vr K dX5_clear_5 hr hk) (p_cn)))))))
set_option maxRecDepth 100000 in
set_option maxHeartbeats 4000000 in
theorem cl_X5_note {b : Bool} {w : pW} {p : Program} {l : Launch} {e : Env} {R : Room} {s : State} {m : MethodId} {args : Array Value} {below : List Frame} {meth : Method} {c : Code} {cells slots : Nat} {d : Nat} {Q : pQ} (K : q_X b w p s m args c RX5 cX5_note 3 R d cells slots) (hr : meth.sig.returnType = (some .boolean)) (hk : meth.locks = false) : p_Cl b (q_C l b w) tb_X5_note d Q (q_Z b w p l e R s m args below meth c 3 cells slots (MQ below (q_Qc b w Q) args s cells slots (q_A b w))) := p_c0 (
  p_cc (n := 0) (s_al1 K dX5_note_0 rfl) (
  p_cc (n := 1) (s_gi (host := "") K dX5_note_1 (hc := rfl) (by decide) rfl inX5 (by decide) w_f_RX5_18 rfl) (
  p_cc (n := 2) (s_x) (
  p_cc (n := 3) (s_x) (
  p_cc (n := 4) (s_ic2 K dX5_note_4 rfl) (
  p_cc (n := 5) (s_x) (
  p_cc (n := 6) (s_ilt K dX5_note_6 rfl) (
  p_cc (n := 7) (s_x) (
  p_cc (n := 8) (s_x) (
  p_cc (n := 9) (s_ic1 K dX5_note_9 rfl) (
  p_cc (n := 10) (s_zr K dX5_note_10 hr hk) (
  p_cc (n := 11) (s_al1 K dX5_note_11 rfl) (
  p_cc (n := 12) (s_gr (host := "") K dX5_note_12 (hc := rfl) (by decide) rfl inX5 (by decide) w_f_RX5_9 rfl) (
  p_cc (n := 13) (s_x) (
  p_cc (n := 14) (s_x) (
  p_cc (n := 15) (s_al1 K dX5_note_15 rfl) (
  p_cc (n := 16) (s_gi (host := "") K dX5_note_16 (hc := rfl) (by decide) rfl inX5 (by decide) w_f_RX5_18 rfl) (
  p_cc (n := 17) (s_x) (
  p_cc (n := 18) (s_x) (
  p_cc (n := 19) (s_il1 K dX5_note_19 rfl) (
  p_cc (n := 20) (cSN_X7_put K dX5_note_20 w_m_RX5_22) (
  p_cc (n := 21) (s_x) (
  p_cc (n := 22) (s_x) (
  p_cc (n := 23) (s_al1 K dX5_note_23 rfl) (
  p_cc (n := 24) (s_gr (host := "") K dX5_note_24 (hc := rfl) (by decide) rfl inX5 (by decide) w_f_RX5_15 rfl) (
  p_cc (n := 25) (s_x) (
  p_cc (n := 26) (s_x) (
  p_cc (n := 27) (s_al1 K dX5_note_27 rfl) (
  p_cc (n := 28) (s_gi (host := "") K dX5_note_28 (hc := rfl) (by decide) rfl inX5 (by decide) w_f_RX5_18 rfl) (
  p_cc (n := 29) (s_x) (
  p_cc (n := 30) (s_x) (
  p_cc (n := 31) (s_il1 K dX5_note_31 rfl) (
  p_cc (n := 32) (cSN_X7_put K dX5_note_32 w_m_RX5_22) (
  p_cc (n := 33) (s_x) (
  p_cc (n := 34) (s_x) (
  p_cc (n := 35) (s_al1 K dX5_note_35 rfl) (
  p_cc (n := 36) (s_dup K dX5_note_36) (
  p_cc (n := 37) (s_gi (host := "") K dX5_note_37 (hc := rfl) (by decide) rfl inX5 (by decide) w_f_RX5_18 rfl) (
  p_cc (n := 38) (s_x) (
  p_cc (n := 39) (s_x) (
  p_cc (n := 40) (s_ic1 K dX5_note_40 rfl) (
  p_cc (n := 41) (s_add K dX5_note_41) (
  p_cc (n := 42) (s_pi (host := "") K dX5_note_42 (hc := rfl) (by decide) rfl inX5 (by decide) w_f_RX5_18 rfl rfl tyX5 tyX5_ok nmX5 rfl) (
  p_cc (n := 43) (s_x) (
  p_cc (n := 44) (s_x) (
  p_cc (n := 45) (s_ic1 K dX5_note_45 rfl) (
  p_cc (n := 46) (s_zr K dX5_note_46 hr hk) (p_cn))))))))))))))))))))))))))))))))))))))))))))))))
set_option maxRecDepth 100000 in
set_option maxHeartbeats 4000000 in
theorem cl_X5_agreeWith {b : Bool} {w : pW} {p : Program} {l : Launch} {e : Env} {R : Room} {s : State} {m : MethodId} {args : Array Value} {below : List Frame} {meth : Method} {c : Code} {cells slots : Nat} {d : Nat} {Q : pQ} (K : q_X b w p s m args c RX5 cX5_agreeWith 3 R d cells slots) (hr : meth.sig.returnType = (some .boolean)) (hk : meth.locks = false) : p_Cl b (q_C l b w) tb_X5_agreeWith d Q (q_Z b w p l e R s m args below meth c 3 cells slots (MQ below (q_Qc b w Q) args s cells slots (q_A b w))) := p_c0 (
  p_cc (n := 0) (s_ic1 K dX5_agreeWith_0 rfl) (
  p_cc (n := 1) (s_is1 K dX5_agreeWith_1 rfl) (
  p_cc (n := 2) (s_il1 K dX5_agreeWith_2 rfl) (
  p_cc (n := 3) (s_al1 K dX5_agreeWith_3 rfl) (
  p_cc (n := 4) (s_gi (host := "") K dX5_agreeWith_4 (hc := rfl) (by decide) rfl inX5 (by decide) w_f_RX5_18 rfl) (
  p_cc (n := 5) (s_x) (
  p_cc (n := 6) (s_x) (
  p_cc (n := 7) (s_ige K dX5_agreeWith_7 rfl) (
  p_cc (n := 8) (s_x) (
  p_cc (n := 9) (s_x) (
  p_cc (n := 10) (s_al1 K dX5_agreeWith_10 rfl) (
  p_cc (n := 11) (s_grN K dX5_agreeWith_11 (hc := rfl) (by decide) rfl inX0 (by decide) w_f_RX5_26 rfl) (
  p_cc (n := 12) (s_x) (
  p_cc (n := 13) (s_x) (
  p_cc (n := 14) (s_al1 K dX5_agreeWith_14 rfl) (
  p_cc (n := 15) (s_gr (host := "") K dX5_agreeWith_15 (hc := rfl) (by decide) rfl inX5 (by decide) w_f_RX5_9 rfl) (
  p_cc (n := 16) (s_x) (
  p_cc (n := 17) (s_x) (
  p_cc (n := 18) (s_il1 K dX5_agreeWith_18 rfl) (
  p_cc (n := 19) (cSN_X7_at K dX5_agreeWith_19 w_m_RX5_29) (
  p_cc (n := 20) (s_x) (
  p_cc (n := 21) (s_x) (
  p_cc (n := 22) (cSN_X7_at K dX5_agreeWith_22 w_m_RX5_29) (
  p_cc (n := 23) (s_x) (
  p_cc (n := 24) (s_x) (
  p_cc (n := 25) (s_al1 K dX5_agreeWith_25 rfl) (
  p_cc (n := 26) (s_gr (host := "") K dX5_agreeWith_26 (hc := rfl) (by decide) rfl inX5 (by decide) w_f_RX5_15 rfl) (
  p_cc (n := 27) (s_x) (
  p_cc (n := 28) (s_x) (
  p_cc (n := 29) (s_il1 K dX5_agreeWith_29 rfl) (
  p_cc (n := 30) (cSN_X7_at K dX5_agreeWith_30 w_m_RX5_29) (
  p_cc (n := 31) (s_x) (
  p_cc (n := 32) (s_x) (
  p_cc (n := 33) (s_ieq K dX5_agreeWith_33 rfl) (
  p_cc (n := 34) (s_x) (
  p_cc (n := 35) (s_x) (
  p_cc (n := 36) (s_ic1 K dX5_agreeWith_36 rfl) (
  p_cc (n := 37) (s_zr K dX5_agreeWith_37 hr hk) (
  p_cc (n := 38) (s_ii K dX5_agreeWith_38 rfl) (
  p_cc (n := 39) (s_x) (
  p_cc (n := 40) (s_x) (
  p_cc (n := 41) (s_goto K dX5_agreeWith_41 rfl) (
  p_cc (n := 42) (s_x) (
  p_cc (n := 43) (s_x) (
  p_cc (n := 44) (s_ic1 K dX5_agreeWith_44 rfl) (
  p_cc (n := 45) (s_zr K dX5_agreeWith_45 hr hk) (p_cn)))))))))))))))))))))))))))))))))))))))))))))))
set_option maxRecDepth 100000 in
set_option maxHeartbeats 4000000 in
theorem cl_X6_clear {b : Bool} {w : pW} {p : Program} {l : Launch} {e : Env} {R : Room} {s : State} {m : MethodId} {args : Array Value} {below : List Frame} {meth : Method} {c : Code} {cells slots : Nat} {d : Nat} {Q : pQ} (K : q_X b w p s m args c RX6 cX6_clear 1 R d cells slots) (hr : meth.sig.returnType = none) (hk : meth.locks = false) : p_Cl b (q_C l b w) tb_X6_clear d Q (q_Z b w p l e R s m args below meth c 1 cells slots (MQ below (q_Qc b w Q) args s cells slots (q_A b w))) := p_c0 (
  p_cc (n := 0) (s_al1 K dX6_clear_0 rfl) (
  p_cc (n := 1) (s_ic1 K dX6_clear_1 rfl) (
  p_cc (n := 2) (s_pi (host := "") K dX6_clear_2 (hc := rfl) (by decide) rfl inX6 (by decide) w_f_RX6_18 rfl rfl tyX6 tyX6_ok nmX6 rfl) (
  p_cc (n := 3) (s_x) (
  p_cc (n := 4) (s_x) (
  p_cc (n := 5) (s_vr K dX6_clear_5 hr hk) (p_cn)))))))
set_option maxRecDepth 100000 in
set_option maxHeartbeats 4000000 in
theorem cl_X6_append {b : Bool} {w : pW} {p : Program} {l : Launch} {e : Env} {R : Room} {s : State} {m : MethodId} {args : Array Value} {below : List Frame} {meth : Method} {c : Code} {cells slots : Nat} {d : Nat} {Q : pQ} (K : q_X b w p s m args c RX6 cX6_append 2 R d cells slots) (hr : meth.sig.returnType = (some .boolean)) (hk : meth.locks = false) : p_Cl b (q_C l b w) tb_X6_append d Q (q_Z b w p l e R s m args below meth c 2 cells slots (MQ below (q_Qc b w Q) args s cells slots (q_A b w))) := p_c0 (
  p_cc (n := 0) (s_al1 K dX6_append_0 rfl) (
  p_cc (n := 1) (s_gi (host := "") K dX6_append_1 (hc := rfl) (by decide) rfl inX6 (by decide) w_f_RX6_18 rfl) (
  p_cc (n := 2) (s_x) (
  p_cc (n := 3) (s_x) (
  p_cc (n := 4) (s_ic3 K dX6_append_4 rfl) (
  p_cc (n := 5) (s_x) (
  p_cc (n := 6) (s_x) (
  p_cc (n := 7) (s_ilt K dX6_append_7 rfl) (
  p_cc (n := 8) (s_x) (
  p_cc (n := 9) (s_x) (
  p_cc (n := 10) (s_ic1 K dX6_append_10 rfl) (
  p_cc (n := 11) (s_zr K dX6_append_11 hr hk) (
  p_cc (n := 12) (s_al1 K dX6_append_12 rfl) (
  p_cc (n := 13) (s_gr (host := "") K dX6_append_13 (hc := rfl) (by decide) rfl inX6 (by decide) w_f_RX6_9 rfl) (
  p_cc (n := 14) (s_x) (
  p_cc (n := 15) (s_x) (
  p_cc (n := 16) (s_al1 K dX6_append_16 rfl) (
  p_cc (n := 17) (s_gi (host := "") K dX6_append_17 (hc := rfl) (by decide) rfl inX6 (by decide) w_f_RX6_18 rfl) (
  p_cc (n := 18) (s_x) (
  p_cc (n := 19) (s_x) (
  p_cc (n := 20) (s_il1 K dX6_append_20 rfl) (
  p_cc (n := 21) (cSN_X7_put K dX6_append_21 w_m_RX6_22) (
  p_cc (n := 22) (s_x) (
  p_cc (n := 23) (s_x) (
  p_cc (n := 24) (s_al1 K dX6_append_24 rfl) (
  p_cc (n := 25) (s_dup K dX6_append_25) (
  p_cc (n := 26) (s_gi (host := "") K dX6_append_26 (hc := rfl) (by decide) rfl inX6 (by decide) w_f_RX6_18 rfl) (
  p_cc (n := 27) (s_x) (
  p_cc (n := 28) (s_x) (
  p_cc (n := 29) (s_ic1 K dX6_append_29 rfl) (
  p_cc (n := 30) (s_add K dX6_append_30) (
  p_cc (n := 31) (s_pi (host := "") K dX6_append_31 (hc := rfl) (by decide) rfl inX6 (by decide) w_f_RX6_18 rfl rfl tyX6 tyX6_ok nmX6 rfl) (
  p_cc (n := 32) (s_x) (
  p_cc (n := 33) (s_x) (
  p_cc (n := 34) (s_ic1 K dX6_append_34 rfl) (
  p_cc (n := 35) (s_zr K dX6_append_35 hr hk) (p_cn)))))))))))))))))))))))))))))))))))))
set_option maxRecDepth 100000 in
set_option maxHeartbeats 4000000 in
theorem cl_X6_readInto {b : Bool} {w : pW} {p : Program} {l : Launch} {e : Env} {R : Room} {s : State} {m : MethodId} {args : Array Value} {below : List Frame} {meth : Method} {c : Code} {cells slots : Nat} {d : Nat} {Q : pQ} (K : q_X b w p s m args c RX6 cX6_readInto 4 R d cells slots) (hr : meth.sig.returnType = (some .int)) (hk : meth.locks = false) : p_Cl b (q_C l b w) tb_X6_readInto d Q (q_Z b w p l e R s m args below meth c 4 cells slots (MQ below (q_Qc b w Q) args s cells slots (q_A b w))) := p_c0 (
  p_cc (n := 0) (s_al1 K dX6_readInto_0 rfl) (
  p_cc (n := 1) (cVN_X2_clear K dX6_readInto_1 w_m_RX6_26) (
  p_cc (n := 2) (s_x) (
  p_cc (n := 3) (s_x) (
  p_cc (n := 4) (s_al1 K dX6_readInto_4 rfl) (
  p_cc (n := 5) (s_ic1 K dX6_readInto_5 rfl) (
  p_cc (n := 6) (s_pi (host := "") K dX6_readInto_6 (hc := rfl) (by decide) rfl inX6 (by decide) w_f_RX6_31 rfl rfl tyX6 tyX6_ok nmX6 rfl) (
  p_cc (n := 7) (s_x) (
  p_cc (n := 8) (s_x) (
  p_cc (n := 9) (s_ic1 K dX6_readInto_9 rfl) (
  p_cc (n := 10) (s_is1 K dX6_readInto_10 rfl) (
  p_cc (n := 11) (s_il1 K dX6_readInto_11 rfl) (
  p_cc (n := 12) (s_ic3 K dX6_readInto_12 rfl) (
  p_cc (n := 13) (s_x) (
  p_cc (n := 14) (s_x) (
  p_cc (n := 15) (s_ige K dX6_readInto_15 rfl) (
  p_cc (n := 16) (s_x) (
  p_cc (n := 17) (s_x) (
  p_cc (n := 18) (s_al1 K dX6_readInto_18 rfl) (
  p_cc (n := 19) (s_gi (host := "") K dX6_readInto_19 (hc := rfl) (by decide) rfl inX6 (by decide) w_f_RX6_31 rfl) (
  p_cc (n := 20) (s_x) (
  p_cc (n := 21) (s_x) (
  p_cc (n := 22) (s_al1 K dX6_readInto_22 rfl) (
  p_cc (n := 23) (s_gi (host := "") K dX6_readInto_23 (hc := rfl) (by decide) rfl inX6 (by decide) w_f_RX6_18 rfl) (
  p_cc (n := 24) (s_x) (
  p_cc (n := 25) (s_x) (
  p_cc (n := 26) (s_ige K dX6_readInto_26 rfl) (
  p_cc (n := 27) (s_x) (
  p_cc (n := 28) (s_x) (
  p_cc (n := 29) (s_al1 K dX6_readInto_29 rfl) (
  p_cc (n := 30) (s_gi (host := "") K dX6_readInto_30 (hc := rfl) (by decide) rfl inX6 (by decide) w_f_RX6_31 rfl) (
  p_cc (n := 31) (s_x) (
  p_cc (n := 32) (s_x) (
  p_cc (n := 33) (s_is1 K dX6_readInto_33 rfl) (
  p_cc (n := 34) (s_al1 K dX6_readInto_34 rfl) (
  p_cc (n := 35) (s_al1 K dX6_readInto_35 rfl) (
  p_cc (n := 36) (cV_X6_readItem K dX6_readInto_36 w_m_RX6_34) (
  p_cc (n := 37) (s_x) (
  p_cc (n := 38) (s_x) (
  p_cc (n := 39) (s_ne0 K dX6_readInto_39 rfl) (
  p_cc (n := 40) (s_x) (
  p_cc (n := 41) (s_x) (
  p_cc (n := 42) (s_il1 K dX6_readInto_42 rfl) (
  p_cc (n := 43) (s_ir K dX6_readInto_43 hr hk) (
  p_cc (n := 44) (s_ii K dX6_readInto_44 rfl) (
  p_cc (n := 45) (s_x) (
  p_cc (n := 46) (s_x) (
  p_cc (n := 47) (s_goto K dX6_readInto_47 rfl) (
  p_cc (n := 48) (s_x) (
  p_cc (n := 49) (s_x) (
  p_cc (n := 50) (s_ic2 K dX6_readInto_50 rfl) (
  p_cc (n := 51) (s_x) (
  p_cc (n := 52) (s_ir K dX6_readInto_52 hr hk) (p_cn))))))))))))))))))))))))))))))))))))))))))))))))))))))
set_option maxRecDepth 100000 in
set_option maxHeartbeats 4000000 in
theorem cl_X6_readItem {b : Bool} {w : pW} {p : Program} {l : Launch} {e : Env} {R : Room} {s : State} {m : MethodId} {args : Array Value} {below : List Frame} {meth : Method} {c : Code} {cells slots : Nat} {d : Nat} {Q : pQ} (K : q_X b w p s m args c RX6 cX6_readItem 2 R d cells slots) (hr : meth.sig.returnType = (some .boolean)) (hk : meth.locks = false) : p_Cl b (q_C l b w) tb_X6_readItem d Q (q_Z b w p l e R s m args below meth c 2 cells slots (MQ below (q_Qc b w Q) args s cells slots (q_A b w))) := p_c0 (
  p_cc (n := 0) (s_al1 K dX6_readItem_0 rfl) (
  p_cc (n := 1) (cV_X6_take K dX6_readItem_1 w_m_RX6_38) (
  p_cc (n := 2) (s_x) (
  p_cc (n := 3) (s_x) (
  p_cc (n := 4) (s_lswB K dX6_readItem_4 (by decide +kernel) rfl (by decide +kernel) rfl) (
  p_cc (n := 5) (s_x) (
  p_cc (n := 6) (s_x) (
  p_cc (n := 7) (s_x) (
  p_cc (n := 8) (s_x) (
  p_cc (n := 9) (s_x) (
  p_cc (n := 10) (s_x) (
  p_cc (n := 11) (s_x) (
  p_cc (n := 12) (s_x) (
  p_cc (n := 13) (s_x) (
  p_cc (n := 14) (s_x) (
  p_cc (n := 15) (s_x) (
  p_cc (n := 16) (s_x) (
  p_cc (n := 17) (s_x) (
  p_cc (n := 18) (s_x) (
  p_cc (n := 19) (s_x) (
  p_cc (n := 20) (s_x) (
  p_cc (n := 21) (s_x) (
  p_cc (n := 22) (s_x) (
  p_cc (n := 23) (s_x) (
  p_cc (n := 24) (s_x) (
  p_cc (n := 25) (s_x) (
  p_cc (n := 26) (s_x) (
  p_cc (n := 27) (s_x) (
  p_cc (n := 28) (s_x) (
  p_cc (n := 29) (s_x) (
  p_cc (n := 30) (s_x) (
  p_cc (n := 31) (s_x) (
  p_cc (n := 32) (s_x) (
  p_cc (n := 33) (s_x) (
  p_cc (n := 34) (s_x) (
  p_cc (n := 35) (s_x) (
  p_cc (n := 36) (s_x) (
  p_cc (n := 37) (s_x) (
  p_cc (n := 38) (s_x) (
  p_cc (n := 39) (s_x) (
  p_cc (n := 40) (s_al1 K dX6_readItem_40 rfl) (
  p_cc (n := 41) (s_ic1 K dX6_readItem_41 rfl) (
  p_cc (n := 42) (cV_X6_readNumbers K dX6_readItem_42 w_m_RX6_42) (
  p_cc (n := 43) (s_x) (
  p_cc (n := 44) (s_x) (
  p_cc (n := 45) (s_eq0 K dX6_readItem_45 rfl) (
  p_cc (n := 46) (s_x) (
  p_cc (n := 47) (s_x) (
  p_cc (n := 48) (s_al1 K dX6_readItem_48 rfl) (
  p_cc (n := 49) (s_al1 K dX6_readItem_49 rfl) (
  p_cc (n := 50) (s_gr (host := "") K dX6_readItem_50 (hc := rfl) (by decide) rfl inX6 (by decide) w_f_RX6_15 rfl) (
  p_cc (n := 51) (s_x) (
  p_cc (n := 52) (s_x) (
  p_cc (n := 53) (s_ic1 K dX6_readItem_53 rfl) (
  p_cc (n := 54) (cSN_X7_at K dX6_readItem_54 w_m_RX6_46) (
  p_cc (n := 55) (s_x) (
  p_cc (n := 56) (s_x) (
  p_cc (n := 57) (s_al1 K dX6_readItem_57 rfl) (
  p_cc (n := 58) (s_gr (host := "") K dX6_readItem_58 (hc := rfl) (by decide) rfl inX6 (by decide) w_f_RX6_15 rfl) (
  p_cc (n := 59) (s_x) (
  p_cc (n := 60) (s_x) (
  p_cc (n := 61) (s_ic1 K dX6_readItem_61 rfl) (
  p_cc (n := 62) (cSN_X7_at K dX6_readItem_62 w_m_RX6_46) (
  p_cc (n := 63) (s_x) (
  p_cc (n := 64) (s_x) (
  p_cc (n := 65) (cVN_X2_addTeller K dX6_readItem_65 w_m_RX6_50) (
  p_cc (n := 66) (s_x) (
  p_cc (n := 67) (s_x) (
  p_cc (n := 68) (s_eq0 K dX6_readItem_68 rfl) (
  p_cc (n := 69) (s_x) (
  p_cc (n := 70) (s_x) (
  p_cc (n := 71) (s_ic1 K dX6_readItem_71 rfl) (
  p_cc (n := 72) (s_goto K dX6_readItem_72 rfl) (
  p_cc (n := 73) (s_x) (
  p_cc (n := 74) (s_x) (
  p_cc (n := 75) (s_ic1 K dX6_readItem_75 rfl) (
  p_cc (n := 76) (s_zr K dX6_readItem_76 hr hk) (
  p_cc (n := 77) (s_al1 K dX6_readItem_77 rfl) (
  p_cc (n := 78) (s_ic1 K dX6_readItem_78 rfl) (
  p_cc (n := 79) (cV_X6_readNumbers K dX6_readItem_79 w_m_RX6_42) (
  p_cc (n := 80) (s_x) (
  p_cc (n := 81) (s_x) (
  p_cc (n := 82) (s_eq0 K dX6_readItem_82 rfl) (
  p_cc (n := 83) (s_x) (
  p_cc (n := 84) (s_x) (
  p_cc (n := 85) (s_al1 K dX6_readItem_85 rfl) (
  p_cc (n := 86) (s_al1 K dX6_readItem_86 rfl) (
  p_cc (n := 87) (s_gr (host := "") K dX6_readItem_87 (hc := rfl) (by decide) rfl inX6 (by decide) w_f_RX6_15 rfl) (
  p_cc (n := 88) (s_x) (
  p_cc (n := 89) (s_x) (
  p_cc (n := 90) (s_ic1 K dX6_readItem_90 rfl) (
  p_cc (n := 91) (cSN_X7_at K dX6_readItem_91 w_m_RX6_46) (
  p_cc (n := 92) (s_x) (
  p_cc (n := 93) (s_x) (
  p_cc (n := 94) (cVN_X2_addFact K dX6_readItem_94 w_m_RX6_54) (
  p_cc (n := 95) (s_x) (
  p_cc (n := 96) (s_x) (
  p_cc (n := 97) (s_eq0 K dX6_readItem_97 rfl) (
  p_cc (n := 98) (s_x) (
  p_cc (n := 99) (s_x) (
  p_cc (n := 100) (s_ic1 K dX6_readItem_100 rfl) (
  p_cc (n := 101) (s_goto K dX6_readItem_101 rfl) (
  p_cc (n := 102) (s_x) (
  p_cc (n := 103) (s_x) (
  p_cc (n := 104) (s_ic1 K dX6_readItem_104 rfl) (
  p_cc (n := 105) (s_zr K dX6_readItem_105 hr hk) (
  p_cc (n := 106) (s_al1 K dX6_readItem_106 rfl) (
  p_cc (n := 107) (s_ic1 K dX6_readItem_107 rfl) (
  p_cc (n := 108) (cV_X6_readNumbers K dX6_readItem_108 w_m_RX6_42) (
  p_cc (n := 109) (s_x) (
  p_cc (n := 110) (s_x) (
  p_cc (n := 111) (s_eq0 K dX6_readItem_111 rfl) (
  p_cc (n := 112) (s_x) (
  p_cc (n := 113) (s_x) (
  p_cc (n := 114) (s_al1 K dX6_readItem_114 rfl) (
  p_cc (n := 115) (s_al1 K dX6_readItem_115 rfl) (
  p_cc (n := 116) (s_gr (host := "") K dX6_readItem_116 (hc := rfl) (by decide) rfl inX6 (by decide) w_f_RX6_15 rfl) (
  p_cc (n := 117) (s_x) (
  p_cc (n := 118) (s_x) (
  p_cc (n := 119) (s_ic1 K dX6_readItem_119 rfl) (
  p_cc (n := 120) (cSN_X7_at K dX6_readItem_120 w_m_RX6_46) (
  p_cc (n := 121) (s_x) (
  p_cc (n := 122) (s_x) (
  p_cc (n := 123) (s_al1 K dX6_readItem_123 rfl) (
  p_cc (n := 124) (s_gr (host := "") K dX6_readItem_124 (hc := rfl) (by decide) rfl inX6 (by decide) w_f_RX6_15 rfl) (
  p_cc (n := 125) (s_x) (
  p_cc (n := 126) (s_x) (
  p_cc (n := 127) (s_ic1 K dX6_readItem_127 rfl) (
  p_cc (n := 128) (cSN_X7_at K dX6_readItem_128 w_m_RX6_46) (
  p_cc (n := 129) (s_x) (
  p_cc (n := 130) (s_x) (
  p_cc (n := 131) (s_al1 K dX6_readItem_131 rfl) (
  p_cc (n := 132) (s_gr (host := "") K dX6_readItem_132 (hc := rfl) (by decide) rfl inX6 (by decide) w_f_RX6_15 rfl) (
  p_cc (n := 133) (s_x) (
  p_cc (n := 134) (s_x) (
  p_cc (n := 135) (s_ic1 K dX6_readItem_135 rfl) (
  p_cc (n := 136) (cSN_X7_at K dX6_readItem_136 w_m_RX6_46) (
  p_cc (n := 137) (s_x) (
  p_cc (n := 138) (s_x) (
  p_cc (n := 139) (s_al1 K dX6_readItem_139 rfl) (
  p_cc (n := 140) (s_gr (host := "") K dX6_readItem_140 (hc := rfl) (by decide) rfl inX6 (by decide) w_f_RX6_15 rfl) (
  p_cc (n := 141) (s_x) (
  p_cc (n := 142) (s_x) (
  p_cc (n := 143) (s_ic1 K dX6_readItem_143 rfl) (
  p_cc (n := 144) (cSN_X7_at K dX6_readItem_144 w_m_RX6_46) (
  p_cc (n := 145) (s_x) (
  p_cc (n := 146) (s_x) (
  p_cc (n := 147) (cVN_X2_addClaim K dX6_readItem_147 w_m_RX6_57) (
  p_cc (n := 148) (s_x) (
  p_cc (n := 149) (s_x) (
  p_cc (n := 150) (s_eq0 K dX6_readItem_150 rfl) (
  p_cc (n := 151) (s_x) (
  p_cc (n := 152) (s_x) (
  p_cc (n := 153) (s_ic1 K dX6_readItem_153 rfl) (
  p_cc (n := 154) (s_goto K dX6_readItem_154 rfl) (
  p_cc (n := 155) (s_x) (
  p_cc (n := 156) (s_x) (
  p_cc (n := 157) (s_ic1 K dX6_readItem_157 rfl) (
  p_cc (n := 158) (s_zr K dX6_readItem_158 hr hk) (
  p_cc (n := 159) (s_ic1 K dX6_readItem_159 rfl) (
  p_cc (n := 160) (s_zr K dX6_readItem_160 hr hk) (p_cn))))))))))))))))))))))))))))))))))))))))))))))))))))))))))))))))))))))))))))))))))))))))))))))))))))))))))))))))))))))))))))))))))))))))))))))))))))))))))))))))))
set_option maxRecDepth 100000 in
set_option maxHeartbeats 4000000 in
theorem cl_X6_readNumbers {b : Bool} {w : pW} {p : Program} {l : Launch} {e : Env} {R : Room} {s : State} {m : MethodId} {args : Array Value} {below : List Frame} {meth : Method} {c : Code} {cells slots : Nat} {d : Nat} {Q : pQ} (K : q_X b w p s m args c RX6 cX6_readNumbers 4 R d cells slots) (hr : meth.sig.returnType = (some .boolean)) (hk : meth.locks = false) : p_Cl b (q_C l b w) tb_X6_readNumbers d Q (q_Z b w p l e R s m args below meth c 4 cells slots (MQ below (q_Qc b w Q) args s cells slots (q_A b w))) := p_c0 (
  p_cc (n := 0) (s_ic1 K dX6_readNumbers_0 rfl) (
  p_cc (n := 1) (s_is1 K dX6_readNumbers_1 rfl) (
  p_cc (n := 2) (s_il1 K dX6_readNumbers_2 rfl) (
  p_cc (n := 3) (s_il1 K dX6_readNumbers_3 rfl) (
  p_cc (n := 4) (s_ige K dX6_readNumbers_4 rfl) (
  p_cc (n := 5) (s_x) (
  p_cc (n := 6) (s_x) (
  p_cc (n := 7) (s_al1 K dX6_readNumbers_7 rfl) (
  p_cc (n := 8) (cV_X6_peek K dX6_readNumbers_8 w_m_RX6_61) (
  p_cc (n := 9) (s_x) (
  p_cc (n := 10) (s_x) (
  p_cc (n := 11) (cS_X6_isFigure K dX6_readNumbers_11 w_m_RX6_64) (
  p_cc (n := 12) (s_x) (
  p_cc (n := 13) (s_x) (
  p_cc (n := 14) (s_ne0 K dX6_readNumbers_14 rfl) (
  p_cc (n := 15) (s_x) (
  p_cc (n := 16) (s_x) (
  p_cc (n := 17) (s_ic1 K dX6_readNumbers_17 rfl) (
  p_cc (n := 18) (s_zr K dX6_readNumbers_18 hr hk) (
  p_cc (n := 19) (s_al1 K dX6_readNumbers_19 rfl) (
  p_cc (n := 20) (cV_X6_take K dX6_readNumbers_20 w_m_RX6_38) (
  p_cc (n := 21) (s_x) (
  p_cc (n := 22) (s_x) (
  p_cc (n := 23) (s_ic2 K dX6_readNumbers_23 rfl) (
  p_cc (n := 24) (s_x) (
  p_cc (n := 25) (s_sub K dX6_readNumbers_25) (
  p_cc (n := 26) (s_is1 K dX6_readNumbers_26 rfl) (
  p_cc (n := 27) (s_al1 K dX6_readNumbers_27 rfl) (
  p_cc (n := 28) (cV_X6_peek K dX6_readNumbers_28 w_m_RX6_61) (
  p_cc (n := 29) (s_x) (
  p_cc (n := 30) (s_x) (
  p_cc (n := 31) (cS_X6_isFigure K dX6_readNumbers_31 w_m_RX6_64) (
  p_cc (n := 32) (s_x) (
  p_cc (n := 33) (s_x) (
  p_cc (n := 34) (s_eq0 K dX6_readNumbers_34 rfl) (
  p_cc (n := 35) (s_x) (
  p_cc (n := 36) (s_x) (
  p_cc (n := 37) (s_ic2 K dX6_readNumbers_37 rfl) (
  p_cc (n := 38) (s_x) (
  p_cc (n := 39) (s_il1 K dX6_readNumbers_39 rfl) (
  p_cc (n := 40) (s_mul K dX6_readNumbers_40) (
  p_cc (n := 41) (s_al1 K dX6_readNumbers_41 rfl) (
  p_cc (n := 42) (cV_X6_take K dX6_readNumbers_42 w_m_RX6_38) (
  p_cc (n := 43) (s_x) (
  p_cc (n := 44) (s_x) (
  p_cc (n := 45) (s_add K dX6_readNumbers_45) (
  p_cc (n := 46) (s_ic2 K dX6_readNumbers_46 rfl) (
  p_cc (n := 47) (s_x) (
  p_cc (n := 48) (s_sub K dX6_readNumbers_48) (
  p_cc (n := 49) (s_is1 K dX6_readNumbers_49 rfl) (
  p_cc (n := 50) (s_al1 K dX6_readNumbers_50 rfl) (
  p_cc (n := 51) (s_gr (host := "") K dX6_readNumbers_51 (hc := rfl) (by decide) rfl inX6 (by decide) w_f_RX6_15 rfl) (
  p_cc (n := 52) (s_x) (
  p_cc (n := 53) (s_x) (
  p_cc (n := 54) (s_il1 K dX6_readNumbers_54 rfl) (
  p_cc (n := 55) (s_il1 K dX6_readNumbers_55 rfl) (
  p_cc (n := 56) (cSN_X7_put K dX6_readNumbers_56 w_m_RX6_22) (
  p_cc (n := 57) (s_x) (
  p_cc (n := 58) (s_x) (
  p_cc (n := 59) (s_al1 K dX6_readNumbers_59 rfl) (
  p_cc (n := 60) (cV_X6_take K dX6_readNumbers_60 w_m_RX6_38) (
  p_cc (n := 61) (s_x) (
  p_cc (n := 62) (s_x) (
  p_cc (n := 63) (s_il1 K dX6_readNumbers_63 rfl) (
  p_cc (n := 64) (s_ic1 K dX6_readNumbers_64 rfl) (
  p_cc (n := 65) (s_add K dX6_readNumbers_65) (
  p_cc (n := 66) (s_il1 K dX6_readNumbers_66 rfl) (
  p_cc (n := 67) (s_ige K dX6_readNumbers_67 rfl) (
  p_cc (n := 68) (s_x) (
  p_cc (n := 69) (s_x) (
  p_cc (n := 70) (s_ic2 K dX6_readNumbers_70 rfl) (
  p_cc (n := 71) (s_x) (
  p_cc (n := 72) (s_goto K dX6_readNumbers_72 rfl) (
  p_cc (n := 73) (s_x) (
  p_cc (n := 74) (s_x) (
  p_cc (n := 75) (s_ic2 K dX6_readNumbers_75 rfl) (
  p_cc (n := 76) (s_x) (
  p_cc (n := 77) (s_ieq K dX6_readNumbers_77 rfl) (
  p_cc (n := 78) (s_x) (
  p_cc (n := 79) (s_x) (
  p_cc (n := 80) (s_ic1 K dX6_readNumbers_80 rfl) (
  p_cc (n := 81) (s_zr K dX6_readNumbers_81 hr hk) (
  p_cc (n := 82) (s_ii K dX6_readNumbers_82 rfl) (
  p_cc (n := 83) (s_x) (
  p_cc (n := 84) (s_x) (
  p_cc (n := 85) (s_goto K dX6_readNumbers_85 rfl) (
  p_cc (n := 86) (s_x) (
  p_cc (n := 87) (s_x) (
  p_cc (n := 88) (s_ic1 K dX6_readNumbers_88 rfl) (
  p_cc (n := 89) (s_zr K dX6_readNumbers_89 hr hk) (p_cn)))))))))))))))))))))))))))))))))))))))))))))))))))))))))))))))))))))))))))))))))))))))))))
set_option maxRecDepth 100000 in
set_option maxHeartbeats 4000000 in
theorem cl_X6_isFigure {b : Bool} {w : pW} {p : Program} {l : Launch} {e : Env} {R : Room} {s : State} {m : MethodId} {args : Array Value} {below : List Frame} {meth : Method} {c : Code} {cells slots : Nat} {d : Nat} {Q : pQ} (K : q_X b w p s m args c RX6 cX6_isFigure 1 R d cells slots) (hr : meth.sig.returnType = (some .boolean)) (hk : meth.locks = false) : p_Cl b (q_C l b w) tb_X6_isFigure d Q (q_Z b w p l e R s m args below meth c 1 cells slots (MQ below (q_Qc b w Q) args s cells slots (q_A b w))) := p_c0 (
  p_cc (n := 0) (s_il1 K dX6_isFigure_0 rfl) (
  p_cc (n := 1) (s_ic2 K dX6_isFigure_1 rfl) (
  p_cc (n := 2) (s_x) (
  p_cc (n := 3) (s_ilt K dX6_isFigure_3 rfl) (
  p_cc (n := 4) (s_x) (
  p_cc (n := 5) (s_x) (
  p_cc (n := 6) (s_il1 K dX6_isFigure_6 rfl) (
  p_cc (n := 7) (s_ic2 K dX6_isFigure_7 rfl) (
  p_cc (n := 8) (s_x) (
  p_cc (n := 9) (s_igt K dX6_isFigure_9 rfl) (
  p_cc (n := 10) (s_x) (
  p_cc (n := 11) (s_x) (
  p_cc (n := 12) (s_ic1 K dX6_isFigure_12 rfl) (
  p_cc (n := 13) (s_goto K dX6_isFigure_13 rfl) (
  p_cc (n := 14) (s_x) (
  p_cc (n := 15) (s_x) (
  p_cc (n := 16) (s_ic1 K dX6_isFigure_16 rfl) (
  p_cc (n := 17) (s_zr K dX6_isFigure_17 hr hk) (p_cn)))))))))))))))))))
set_option maxRecDepth 100000 in
set_option maxHeartbeats 4000000 in
theorem cl_X6_peek {b : Bool} {w : pW} {p : Program} {l : Launch} {e : Env} {R : Room} {s : State} {m : MethodId} {args : Array Value} {below : List Frame} {meth : Method} {c : Code} {cells slots : Nat} {d : Nat} {Q : pQ} (K : q_X b w p s m args c RX6 cX6_peek 1 R d cells slots) (hr : meth.sig.returnType = (some .int)) (hk : meth.locks = false) : p_Cl b (q_C l b w) tb_X6_peek d Q (q_Z b w p l e R s m args below meth c 1 cells slots (MQ below (q_Qc b w Q) args s cells slots (q_A b w))) := p_c0 (
  p_cc (n := 0) (s_al1 K dX6_peek_0 rfl) (
  p_cc (n := 1) (s_gi (host := "") K dX6_peek_1 (hc := rfl) (by decide) rfl inX6 (by decide) w_f_RX6_31 rfl) (
  p_cc (n := 2) (s_x) (
  p_cc (n := 3) (s_x) (
  p_cc (n := 4) (s_al1 K dX6_peek_4 rfl) (
  p_cc (n := 5) (s_gi (host := "") K dX6_peek_5 (hc := rfl) (by decide) rfl inX6 (by decide) w_f_RX6_18 rfl) (
  p_cc (n := 6) (s_x) (
  p_cc (n := 7) (s_x) (
  p_cc (n := 8) (s_ige K dX6_peek_8 rfl) (
  p_cc (n := 9) (s_x) (
  p_cc (n := 10) (s_x) (
  p_cc (n := 11) (s_al1 K dX6_peek_11 rfl) (
  p_cc (n := 12) (s_gr (host := "") K dX6_peek_12 (hc := rfl) (by decide) rfl inX6 (by decide) w_f_RX6_9 rfl) (
  p_cc (n := 13) (s_x) (
  p_cc (n := 14) (s_x) (
  p_cc (n := 15) (s_al1 K dX6_peek_15 rfl) (
  p_cc (n := 16) (s_gi (host := "") K dX6_peek_16 (hc := rfl) (by decide) rfl inX6 (by decide) w_f_RX6_31 rfl) (
  p_cc (n := 17) (s_x) (
  p_cc (n := 18) (s_x) (
  p_cc (n := 19) (cSN_X7_at K dX6_peek_19 w_m_RX6_46) (
  p_cc (n := 20) (s_x) (
  p_cc (n := 21) (s_x) (
  p_cc (n := 22) (s_goto K dX6_peek_22 rfl) (
  p_cc (n := 23) (s_x) (
  p_cc (n := 24) (s_x) (
  p_cc (n := 25) (s_ic1 K dX6_peek_25 rfl) (
  p_cc (n := 26) (s_ir K dX6_peek_26 hr hk) (p_cn))))))))))))))))))))))))))))
set_option maxRecDepth 100000 in
set_option maxHeartbeats 4000000 in
theorem cl_X6_take {b : Bool} {w : pW} {p : Program} {l : Launch} {e : Env} {R : Room} {s : State} {m : MethodId} {args : Array Value} {below : List Frame} {meth : Method} {c : Code} {cells slots : Nat} {d : Nat} {Q : pQ} (K : q_X b w p s m args c RX6 cX6_take 2 R d cells slots) (hr : meth.sig.returnType = (some .int)) (hk : meth.locks = false) : p_Cl b (q_C l b w) tb_X6_take d Q (q_Z b w p l e R s m args below meth c 2 cells slots (MQ below (q_Qc b w Q) args s cells slots (q_A b w))) := p_c0 (
  p_cc (n := 0) (s_al1 K dX6_take_0 rfl) (
  p_cc (n := 1) (cV_X6_peek K dX6_take_1 w_m_RX6_61) (
  p_cc (n := 2) (s_x) (
  p_cc (n := 3) (s_x) (
  p_cc (n := 4) (s_is1 K dX6_take_4 rfl) (
  p_cc (n := 5) (s_al1 K dX6_take_5 rfl) (
  p_cc (n := 6) (s_dup K dX6_take_6) (
  p_cc (n := 7) (s_gi (host := "") K dX6_take_7 (hc := rfl) (by decide) rfl inX6 (by decide) w_f_RX6_31 rfl) (
  p_cc (n := 8) (s_x) (
  p_cc (n := 9) (s_x) (
  p_cc (n := 10) (s_ic1 K dX6_take_10 rfl) (
  p_cc (n := 11) (s_add K dX6_take_11) (
  p_cc (n := 12) (s_pi (host := "") K dX6_take_12 (hc := rfl) (by decide) rfl inX6 (by decide) w_f_RX6_31 rfl rfl tyX6 tyX6_ok nmX6 rfl) (
  p_cc (n := 13) (s_x) (
  p_cc (n := 14) (s_x) (
  p_cc (n := 15) (s_il1 K dX6_take_15 rfl) (
  p_cc (n := 16) (s_ir K dX6_take_16 hr hk) (p_cn))))))))))))))))))
set_option maxRecDepth 100000 in
set_option maxHeartbeats 4000000 in
theorem cl_X7_write {b : Bool} {w : pW} {p : Program} {l : Launch} {e : Env} {R : Room} {s : State} {m : MethodId} {args : Array Value} {below : List Frame} {meth : Method} {c : Code} {cells slots : Nat} {d : Nat} {Q : pQ} (K : q_X b w p s m args c RX7 cX7_write 2 R d cells slots) (hr : meth.sig.returnType = (some .int)) (hk : meth.locks = false) : p_Cl b (q_C l b w) tb_X7_write d Q (q_Z b w p l e R s m args below meth c 2 cells slots (MQ below (q_Qc b w Q) args s cells slots (q_A b w))) := p_c0 (
  p_cc (n := 0) (s_il1 K dX7_write_0 rfl) (
  p_cc (n := 1) (s_ic2 K dX7_write_1 rfl) (
  p_cc (n := 2) (s_x) (
  p_cc (n := 3) (s_ic2 K dX7_write_3 rfl) (
  p_cc (n := 4) (s_x) (
  p_cc (n := 5) (cS_X7_within K dX7_write_5 w_m_RX7_82) (
  p_cc (n := 6) (s_x) (
  p_cc (n := 7) (s_x) (
  p_cc (n := 8) (s_ne0 K dX7_write_8 rfl) (
  p_cc (n := 9) (s_x) (
  p_cc (n := 10) (s_x) (
  p_cc (n := 11) (s_ic1 K dX7_write_11 rfl) (
  p_cc (n := 12) (s_ir K dX7_write_12 hr hk) (
  p_cc (n := 13) (s_al1 K dX7_write_13 rfl) (
  p_cc (n := 14) (s_gr (host := "") K dX7_write_14 (hc := rfl) (by decide) rfl inX7 (by decide) w_f_RX7_10 rfl) (
  p_cc (n := 15) (s_x) (
  p_cc (n := 16) (s_x) (
  p_cc (n := 17) (s_il1 K dX7_write_17 rfl) (
  p_cc (n := 18) (cVN_X6_append K dX7_write_18 w_m_RX7_71) (
  p_cc (n := 19) (s_x) (
  p_cc (n := 20) (s_x) (
  p_cc (n := 21) (s_eq0 K dX7_write_21 rfl) (
  p_cc (n := 22) (s_x) (
  p_cc (n := 23) (s_x) (
  p_cc (n := 24) (s_al1 K dX7_write_24 rfl) (
  p_cc (n := 25) (s_gr (host := "") K dX7_write_25 (hc := rfl) (by decide) rfl inX7 (by decide) w_f_RX7_10 rfl) (
  p_cc (n := 26) (s_x) (
  p_cc (n := 27) (s_x) (
  p_cc (n := 28) (s_giN K dX7_write_28 (hc := rfl) (by decide) rfl inX6 (by decide) w_f_RX7_86 rfl) (
  p_cc (n := 29) (s_x) (
  p_cc (n := 30) (s_x) (
  p_cc (n := 31) (s_goto K dX7_write_31 rfl) (
  p_cc (n := 32) (s_x) (
  p_cc (n := 33) (s_x) (
  p_cc (n := 34) (s_ic2 K dX7_write_34 rfl) (
  p_cc (n := 35) (s_x) (
  p_cc (n := 36) (s_ir K dX7_write_36 hr hk) (p_cn))))))))))))))))))))))))))))))))))))))
set_option maxRecDepth 100000 in
set_option maxHeartbeats 4000000 in
theorem cl_X7_wipe {b : Bool} {w : pW} {p : Program} {l : Launch} {e : Env} {R : Room} {s : State} {m : MethodId} {args : Array Value} {below : List Frame} {meth : Method} {c : Code} {cells slots : Nat} {d : Nat} {Q : pQ} (K : q_X b w p s m args c RX7 cX7_wipe 2 R d cells slots) (hr : meth.sig.returnType = (some .int)) (hk : meth.locks = false) : p_Cl b (q_C l b w) tb_X7_wipe d Q (q_Z b w p l e R s m args below meth c 2 cells slots (MQ below (q_Qc b w Q) args s cells slots (q_A b w))) := p_c0 (
  p_cc (n := 0) (s_al1 K dX7_wipe_0 rfl) (
  p_cc (n := 1) (s_gr (host := "") K dX7_wipe_1 (hc := rfl) (by decide) rfl inX7 (by decide) w_f_RX7_10 rfl) (
  p_cc (n := 2) (s_x) (
  p_cc (n := 3) (s_x) (
  p_cc (n := 4) (s_giN K dX7_wipe_4 (hc := rfl) (by decide) rfl inX6 (by decide) w_f_RX7_86 rfl) (
  p_cc (n := 5) (s_x) (
  p_cc (n := 6) (s_x) (
  p_cc (n := 7) (s_is1 K dX7_wipe_7 rfl) (
  p_cc (n := 8) (s_al1 K dX7_wipe_8 rfl) (
  p_cc (n := 9) (s_gr (host := "") K dX7_wipe_9 (hc := rfl) (by decide) rfl inX7 (by decide) w_f_RX7_10 rfl) (
  p_cc (n := 10) (s_x) (
  p_cc (n := 11) (s_x) (
  p_cc (n := 12) (cVN_X6_clear K dX7_wipe_12 w_m_RX7_79) (
  p_cc (n := 13) (s_x) (
  p_cc (n := 14) (s_x) (
  p_cc (n := 15) (s_il1 K dX7_wipe_15 rfl) (
  p_cc (n := 16) (s_ir K dX7_wipe_16 hr hk) (p_cn))))))))))))))))))
set_option maxRecDepth 100000 in
set_option maxHeartbeats 4000000 in
theorem cl_X7_fault {b : Bool} {w : pW} {p : Program} {l : Launch} {e : Env} {R : Room} {s : State} {m : MethodId} {args : Array Value} {below : List Frame} {meth : Method} {c : Code} {cells slots : Nat} {d : Nat} {Q : pQ} (K : q_X b w p s m args c RX7 cX7_fault 1 R d cells slots) (hr : meth.sig.returnType = (some .int)) (hk : meth.locks = false) : p_Cl b (q_C l b w) tb_X7_fault d Q (q_Z b w p l e R s m args below meth c 1 cells slots (MQ below (q_Qc b w Q) args s cells slots (q_A b w))) := p_c0 (
  p_cc (n := 0) (s_al1 K dX7_fault_0 rfl) (
  p_cc (n := 1) (s_gr (host := "") K dX7_fault_1 (hc := rfl) (by decide) rfl inX7 (by decide) w_f_RX7_10 rfl) (
  p_cc (n := 2) (s_x) (
  p_cc (n := 3) (s_x) (
  p_cc (n := 4) (s_al1 K dX7_fault_4 rfl) (
  p_cc (n := 5) (s_gr (host := "") K dX7_fault_5 (hc := rfl) (by decide) rfl inX7 (by decide) w_f_RX7_23 rfl) (
  p_cc (n := 6) (s_x) (
  p_cc (n := 7) (s_x) (
  p_cc (n := 8) (cVN_X6_readInto K dX7_fault_8 w_m_RX7_75) (
  p_cc (n := 9) (s_x) (
  p_cc (n := 10) (s_x) (
  p_cc (n := 11) (s_ir K dX7_fault_11 hr hk) (p_cn)))))))))))))
set_option maxRecDepth 100000 in
set_option maxHeartbeats 4000000 in
theorem cl_X7_lay {b : Bool} {w : pW} {p : Program} {l : Launch} {e : Env} {R : Room} {s : State} {m : MethodId} {args : Array Value} {below : List Frame} {meth : Method} {c : Code} {cells slots : Nat} {d : Nat} {Q : pQ} (K : q_X b w p s m args c RX7 cX7_lay 1 R d cells slots) (hr : meth.sig.returnType = (some .int)) (hk : meth.locks = false) : p_Cl b (q_C l b w) tb_X7_lay d Q (q_Z b w p l e R s m args below meth c 1 cells slots (MQ below (q_Qc b w Q) args s cells slots (q_A b w))) := p_c0 (
  p_cc (n := 0) (s_al1 K dX7_lay_0 rfl) (
  p_cc (n := 1) (s_gr (host := "") K dX7_lay_1 (hc := rfl) (by decide) rfl inX7 (by decide) w_f_RX7_10 rfl) (
  p_cc (n := 2) (s_x) (
  p_cc (n := 3) (s_x) (
  p_cc (n := 4) (s_al1 K dX7_lay_4 rfl) (
  p_cc (n := 5) (s_gr (host := "") K dX7_lay_5 (hc := rfl) (by decide) rfl inX7 (by decide) w_f_RX7_23 rfl) (
  p_cc (n := 6) (s_x) (
  p_cc (n := 7) (s_x) (
  p_cc (n := 8) (cVN_X6_readInto K dX7_lay_8 w_m_RX7_75) (
  p_cc (n := 9) (s_x) (
  p_cc (n := 10) (s_x) (
  p_cc (n := 11) (s_ic2 K dX7_lay_11 rfl) (
  p_cc (n := 12) (s_x) (
  p_cc (n := 13) (s_ine K dX7_lay_13 rfl) (
  p_cc (n := 14) (s_x) (
  p_cc (n := 15) (s_x) (
  p_cc (n := 16) (s_al1 K dX7_lay_16 rfl) (
  p_cc (n := 17) (s_gr (host := "") K dX7_lay_17 (hc := rfl) (by decide) rfl inX7 (by decide) w_f_RX7_23 rfl) (
  p_cc (n := 18) (s_x) (
  p_cc (n := 19) (s_x) (
  p_cc (n := 20) (s_giN K dX7_lay_20 (hc := rfl) (by decide) rfl inX2 (by decide) w_f_RX7_89 rfl) (
  p_cc (n := 21) (s_x) (
  p_cc (n := 22) (s_x) (
  p_cc (n := 23) (s_eq0 K dX7_lay_23 rfl) (
  p_cc (n := 24) (s_x) (
  p_cc (n := 25) (s_x) (
  p_cc (n := 26) (s_al1 K dX7_lay_26 rfl) (
  p_cc (n := 27) (s_gr (host := "") K dX7_lay_27 (hc := rfl) (by decide) rfl inX7 (by decide) w_f_RX7_23 rfl) (
  p_cc (n := 28) (s_x) (
  p_cc (n := 29) (s_x) (
  p_cc (n := 30) (s_giN K dX7_lay_30 (hc := rfl) (by decide) rfl inX2 (by decide) w_f_RX7_92 rfl) (
  p_cc (n := 31) (s_x) (
  p_cc (n := 32) (s_x) (
  p_cc (n := 33) (s_ne0 K dX7_lay_33 rfl) (
  p_cc (n := 34) (s_x) (
  p_cc (n := 35) (s_x) (
  p_cc (n := 36) (s_ic2 K dX7_lay_36 rfl) (
  p_cc (n := 37) (s_x) (
  p_cc (n := 38) (s_ir K dX7_lay_38 hr hk) (
  p_cc (n := 39) (s_al1 K dX7_lay_39 rfl) (
  p_cc (n := 40) (s_gr (host := "") K dX7_lay_40 (hc := rfl) (by decide) rfl inX7 (by decide) w_f_RX7_19 rfl) (
  p_cc (n := 41) (s_x) (
  p_cc (n := 42) (s_x) (
  p_cc (n := 43) (s_al1 K dX7_lay_43 rfl) (
  p_cc (n := 44) (s_gr (host := "") K dX7_lay_44 (hc := rfl) (by decide) rfl inX7 (by decide) w_f_RX7_23 rfl) (
  p_cc (n := 45) (s_x) (
  p_cc (n := 46) (s_x) (
  p_cc (n := 47) (cVN_X2_copyFrom K dX7_lay_47 w_m_RX7_95) (
  p_cc (n := 48) (s_x) (
  p_cc (n := 49) (s_x) (
  p_cc (n := 50) (s_al1 K dX7_lay_50 rfl) (
  p_cc (n := 51) (s_gr (host := "") K dX7_lay_51 (hc := rfl) (by decide) rfl inX7 (by decide) w_f_RX7_43 rfl) (
  p_cc (n := 52) (s_x) (
  p_cc (n := 53) (s_x) (
  p_cc (n := 54) (cVN_X5_clear K dX7_lay_54 w_m_RX7_99) (
  p_cc (n := 55) (s_x) (
  p_cc (n := 56) (s_x) (
  p_cc (n := 57) (s_al1 K dX7_lay_57 rfl) (
  p_cc (n := 58) (s_gr (host := "") K dX7_lay_58 (hc := rfl) (by decide) rfl inX7 (by decide) w_f_RX7_52 rfl) (
  p_cc (n := 59) (s_x) (
  p_cc (n := 60) (s_x) (
  p_cc (n := 61) (cVN_X4_clear K dX7_lay_61 w_m_RX7_100) (
  p_cc (n := 62) (s_x) (
  p_cc (n := 63) (s_x) (
  p_cc (n := 64) (s_al1 K dX7_lay_64 rfl) (
  p_cc (n := 65) (s_gr (host := "") K dX7_lay_65 (hc := rfl) (by decide) rfl inX7 (by decide) w_f_RX7_56 rfl) (
  p_cc (n := 66) (s_x) (
  p_cc (n := 67) (s_x) (
  p_cc (n := 68) (cVN_X4_clear K dX7_lay_68 w_m_RX7_100) (
  p_cc (n := 69) (s_x) (
  p_cc (n := 70) (s_x) (
  p_cc (n := 71) (s_al1 K dX7_lay_71 rfl) (
  p_cc (n := 72) (s_gr (host := "") K dX7_lay_72 (hc := rfl) (by decide) rfl inX7 (by decide) w_f_RX7_19 rfl) (
  p_cc (n := 73) (s_x) (
  p_cc (n := 74) (s_x) (
  p_cc (n := 75) (s_giN K dX7_lay_75 (hc := rfl) (by decide) rfl inX2 (by decide) w_f_RX7_89 rfl) (
  p_cc (n := 76) (s_x) (
  p_cc (n := 77) (s_x) (
  p_cc (n := 78) (s_ir K dX7_lay_78 hr hk) (p_cn))))))))))))))))))))))))))))))))))))))))))))))))))))))))))))))))))))))))))))))))
set_option maxRecDepth 100000 in
set_option maxHeartbeats 4000000 in
theorem cl_X7_teller {b : Bool} {w : pW} {p : Program} {l : Launch} {e : Env} {R : Room} {s : State} {m : MethodId} {args : Array Value} {below : List Frame} {meth : Method} {c : Code} {cells slots : Nat} {d : Nat} {Q : pQ} (K : q_X b w p s m args c RX7 cX7_teller 3 R d cells slots) (hr : meth.sig.returnType = (some .int)) (hk : meth.locks = false) : p_Cl b (q_C l b w) tb_X7_teller d Q (q_Z b w p l e R s m args below meth c 3 cells slots (MQ below (q_Qc b w Q) args s cells slots (q_A b w))) := p_c0 (
  p_cc (n := 0) (s_al1 K dX7_teller_0 rfl) (
  p_cc (n := 1) (s_gr (host := "") K dX7_teller_1 (hc := rfl) (by decide) rfl inX7 (by decide) w_f_RX7_19 rfl) (
  p_cc (n := 2) (s_x) (
  p_cc (n := 3) (s_x) (
  p_cc (n := 4) (s_il1 K dX7_teller_4 rfl) (
  p_cc (n := 5) (cVN_X2_isTeller K dX7_teller_5 w_m_RX7_101) (
  p_cc (n := 6) (s_x) (
  p_cc (n := 7) (s_x) (
  p_cc (n := 8) (s_ne0 K dX7_teller_8 rfl) (
  p_cc (n := 9) (s_x) (
  p_cc (n := 10) (s_x) (
  p_cc (n := 11) (s_ic1 K dX7_teller_11 rfl) (
  p_cc (n := 12) (s_ir K dX7_teller_12 hr hk) (
  p_cc (n := 13) (s_il1 K dX7_teller_13 rfl) (
  p_cc (n := 14) (s_lswB K dX7_teller_14 (by decide +kernel) rfl (by decide +kernel) rfl) (
  p_cc (n := 15) (s_x) (
  p_cc (n := 16) (s_x) (
  p_cc (n := 17) (s_x) (
  p_cc (n := 18) (s_x) (
  p_cc (n := 19) (s_x) (
  p_cc (n := 20) (s_x) (
  p_cc (n := 21) (s_x) (
  p_cc (n := 22) (s_x) (
  p_cc (n := 23) (s_x) (
  p_cc (n := 24) (s_x) (
  p_cc (n := 25) (s_x) (
  p_cc (n := 26) (s_x) (
  p_cc (n := 27) (s_x) (
  p_cc (n := 28) (s_x) (
  p_cc (n := 29) (s_x) (
  p_cc (n := 30) (s_x) (
  p_cc (n := 31) (s_x) (
  p_cc (n := 32) (s_x) (
  p_cc (n := 33) (s_x) (
  p_cc (n := 34) (s_x) (
  p_cc (n := 35) (s_x) (
  p_cc (n := 36) (s_x) (
  p_cc (n := 37) (s_x) (
  p_cc (n := 38) (s_x) (
  p_cc (n := 39) (s_x) (
  p_cc (n := 40) (s_al1 K dX7_teller_40 rfl) (
  p_cc (n := 41) (s_gr (host := "") K dX7_teller_41 (hc := rfl) (by decide) rfl inX7 (by decide) w_f_RX7_19 rfl) (
  p_cc (n := 42) (s_x) (
  p_cc (n := 43) (s_x) (
  p_cc (n := 44) (s_grN K dX7_teller_44 (hc := rfl) (by decide) rfl inX2 (by decide) w_f_RX7_104 rfl) (
  p_cc (n := 45) (s_x) (
  p_cc (n := 46) (s_x) (
  p_cc (n := 47) (s_il1 K dX7_teller_47 rfl) (
  p_cc (n := 48) (cS_X7_at K dX7_teller_48 w_m_RX7_108) (
  p_cc (n := 49) (s_x) (
  p_cc (n := 50) (s_x) (
  p_cc (n := 51) (s_ir K dX7_teller_51 hr hk) (
  p_cc (n := 52) (s_al1 K dX7_teller_52 rfl) (
  p_cc (n := 53) (s_gr (host := "") K dX7_teller_53 (hc := rfl) (by decide) rfl inX7 (by decide) w_f_RX7_19 rfl) (
  p_cc (n := 54) (s_x) (
  p_cc (n := 55) (s_x) (
  p_cc (n := 56) (s_grN K dX7_teller_56 (hc := rfl) (by decide) rfl inX2 (by decide) w_f_RX7_112 rfl) (
  p_cc (n := 57) (s_x) (
  p_cc (n := 58) (s_x) (
  p_cc (n := 59) (s_il1 K dX7_teller_59 rfl) (
  p_cc (n := 60) (cS_X7_at K dX7_teller_60 w_m_RX7_108) (
  p_cc (n := 61) (s_x) (
  p_cc (n := 62) (s_x) (
  p_cc (n := 63) (s_ir K dX7_teller_63 hr hk) (
  p_cc (n := 64) (s_ic1 K dX7_teller_64 rfl) (
  p_cc (n := 65) (s_ir K dX7_teller_65 hr hk) (p_cn)))))))))))))))))))))))))))))))))))))))))))))))))))))))))))))))))))
set_option maxRecDepth 100000 in
set_option maxHeartbeats 4000000 in
theorem cl_X7_fact {b : Bool} {w : pW} {p : Program} {l : Launch} {e : Env} {R : Room} {s : State} {m : MethodId} {args : Array Value} {below : List Frame} {meth : Method} {c : Code} {cells slots : Nat} {d : Nat} {Q : pQ} (K : q_X b w p s m args c RX7 cX7_fact 2 R d cells slots) (hr : meth.sig.returnType = (some .int)) (hk : meth.locks = false) : p_Cl b (q_C l b w) tb_X7_fact d Q (q_Z b w p l e R s m args below meth c 2 cells slots (MQ below (q_Qc b w Q) args s cells slots (q_A b w))) := p_c0 (
  p_cc (n := 0) (s_al1 K dX7_fact_0 rfl) (
  p_cc (n := 1) (s_gr (host := "") K dX7_fact_1 (hc := rfl) (by decide) rfl inX7 (by decide) w_f_RX7_19 rfl) (
  p_cc (n := 2) (s_x) (
  p_cc (n := 3) (s_x) (
  p_cc (n := 4) (s_il1 K dX7_fact_4 rfl) (
  p_cc (n := 5) (cVN_X2_isFact K dX7_fact_5 w_m_RX7_115) (
  p_cc (n := 6) (s_x) (
  p_cc (n := 7) (s_x) (
  p_cc (n := 8) (s_eq0 K dX7_fact_8 rfl) (
  p_cc (n := 9) (s_x) (
  p_cc (n := 10) (s_x) (
  p_cc (n := 11) (s_al1 K dX7_fact_11 rfl) (
  p_cc (n := 12) (s_gr (host := "") K dX7_fact_12 (hc := rfl) (by decide) rfl inX7 (by decide) w_f_RX7_19 rfl) (
  p_cc (n := 13) (s_x) (
  p_cc (n := 14) (s_x) (
  p_cc (n := 15) (s_giN K dX7_fact_15 (hc := rfl) (by decide) rfl inX2 (by decide) w_f_RX7_118 rfl) (
  p_cc (n := 16) (s_x) (
  p_cc (n := 17) (s_x) (
  p_cc (n := 18) (s_il1 K dX7_fact_18 rfl) (
  p_cc (n := 19) (cS_X7_bit K dX7_fact_19 w_m_RX7_121) (
  p_cc (n := 20) (s_x) (
  p_cc (n := 21) (s_x) (
  p_cc (n := 22) (s_goto K dX7_fact_22 rfl) (
  p_cc (n := 23) (s_x) (
  p_cc (n := 24) (s_x) (
  p_cc (n := 25) (s_ic1 K dX7_fact_25 rfl) (
  p_cc (n := 26) (s_ir K dX7_fact_26 hr hk) (p_cn))))))))))))))))))))))))))))
set_option maxRecDepth 100000 in
set_option maxHeartbeats 4000000 in
theorem cl_X7_claim {b : Bool} {w : pW} {p : Program} {l : Launch} {e : Env} {R : Room} {s : State} {m : MethodId} {args : Array Value} {below : List Frame} {meth : Method} {c : Code} {cells slots : Nat} {d : Nat} {Q : pQ} (K : q_X b w p s m args c RX7 cX7_claim 3 R d cells slots) (hr : meth.sig.returnType = (some .int)) (hk : meth.locks = false) : p_Cl b (q_C l b w) tb_X7_claim d Q (q_Z b w p l e R s m args below meth c 3 cells slots (MQ below (q_Qc b w Q) args s cells slots (q_A b w))) := p_c0 (
  p_cc (n := 0) (s_al1 K dX7_claim_0 rfl) (
  p_cc (n := 1) (s_gr (host := "") K dX7_claim_1 (hc := rfl) (by decide) rfl inX7 (by decide) w_f_RX7_19 rfl) (
  p_cc (n := 2) (s_x) (
  p_cc (n := 3) (s_x) (
  p_cc (n := 4) (s_il1 K dX7_claim_4 rfl) (
  p_cc (n := 5) (cVN_X2_isClaim K dX7_claim_5 w_m_RX7_125) (
  p_cc (n := 6) (s_x) (
  p_cc (n := 7) (s_x) (
  p_cc (n := 8) (s_ne0 K dX7_claim_8 rfl) (
  p_cc (n := 9) (s_x) (
  p_cc (n := 10) (s_x) (
  p_cc (n := 11) (s_ic1 K dX7_claim_11 rfl) (
  p_cc (n := 12) (s_ir K dX7_claim_12 hr hk) (
  p_cc (n := 13) (s_il1 K dX7_claim_13 rfl) (
  p_cc (n := 14) (s_tswB K dX7_claim_14 rfl (by decide +kernel) (by decide +kernel) rfl) (
  p_cc (n := 15) (s_x) (
  p_cc (n := 16) (s_x) (
  p_cc (n := 17) (s_x) (
  p_cc (n := 18) (s_x) (
  p_cc (n := 19) (s_x) (
  p_cc (n := 20) (s_x) (
  p_cc (n := 21) (s_x) (
  p_cc (n := 22) (s_x) (
  p_cc (n := 23) (s_x) (
  p_cc (n := 24) (s_x) (
  p_cc (n := 25) (s_x) (
  p_cc (n := 26) (s_x) (
  p_cc (n := 27) (s_x) (
  p_cc (n := 28) (s_x) (
  p_cc (n := 29) (s_x) (
  p_cc (n := 30) (s_x) (
  p_cc (n := 31) (s_x) (
  p_cc (n := 32) (s_x) (
  p_cc (n := 33) (s_x) (
  p_cc (n := 34) (s_x) (
  p_cc (n := 35) (s_x) (
  p_cc (n := 36) (s_x) (
  p_cc (n := 37) (s_x) (
  p_cc (n := 38) (s_x) (
  p_cc (n := 39) (s_x) (
  p_cc (n := 40) (s_x) (
  p_cc (n := 41) (s_x) (
  p_cc (n := 42) (s_x) (
  p_cc (n := 43) (s_x) (
  p_cc (n := 44) (s_x) (
  p_cc (n := 45) (s_x) (
  p_cc (n := 46) (s_x) (
  p_cc (n := 47) (s_x) (
  p_cc (n := 48) (s_al1 K dX7_claim_48 rfl) (
  p_cc (n := 49) (s_gr (host := "") K dX7_claim_49 (hc := rfl) (by decide) rfl inX7 (by decide) w_f_RX7_19 rfl) (
  p_cc (n := 50) (s_x) (
  p_cc (n := 51) (s_x) (
  p_cc (n := 52) (s_grN K dX7_claim_52 (hc := rfl) (by decide) rfl inX2 (by decide) w_f_RX7_128 rfl) (
  p_cc (n := 53) (s_x) (
  p_cc (n := 54) (s_x) (
  p_cc (n := 55) (s_il1 K dX7_claim_55 rfl) (
  p_cc (n := 56) (cS_X7_at K dX7_claim_56 w_m_RX7_108) (
  p_cc (n := 57) (s_x) (
  p_cc (n := 58) (s_x) (
  p_cc (n := 59) (s_ir K dX7_claim_59 hr hk) (
  p_cc (n := 60) (s_al1 K dX7_claim_60 rfl) (
  p_cc (n := 61) (s_gr (host := "") K dX7_claim_61 (hc := rfl) (by decide) rfl inX7 (by decide) w_f_RX7_19 rfl) (
  p_cc (n := 62) (s_x) (
  p_cc (n := 63) (s_x) (
  p_cc (n := 64) (s_grN K dX7_claim_64 (hc := rfl) (by decide) rfl inX2 (by decide) w_f_RX7_131 rfl) (
  p_cc (n := 65) (s_x) (
  p_cc (n := 66) (s_x) (
  p_cc (n := 67) (s_il1 K dX7_claim_67 rfl) (
  p_cc (n := 68) (cS_X7_at K dX7_claim_68 w_m_RX7_108) (
  p_cc (n := 69) (s_x) (
  p_cc (n := 70) (s_x) (
  p_cc (n := 71) (s_ir K dX7_claim_71 hr hk) (
  p_cc (n := 72) (s_al1 K dX7_claim_72 rfl) (
  p_cc (n := 73) (s_gr (host := "") K dX7_claim_73 (hc := rfl) (by decide) rfl inX7 (by decide) w_f_RX7_19 rfl) (
  p_cc (n := 74) (s_x) (
  p_cc (n := 75) (s_x) (
  p_cc (n := 76) (s_grN K dX7_claim_76 (hc := rfl) (by decide) rfl inX2 (by decide) w_f_RX7_134 rfl) (
  p_cc (n := 77) (s_x) (
  p_cc (n := 78) (s_x) (
  p_cc (n := 79) (s_il1 K dX7_claim_79 rfl) (
  p_cc (n := 80) (cS_X7_at K dX7_claim_80 w_m_RX7_108) (
  p_cc (n := 81) (s_x) (
  p_cc (n := 82) (s_x) (
  p_cc (n := 83) (s_ir K dX7_claim_83 hr hk) (
  p_cc (n := 84) (s_al1 K dX7_claim_84 rfl) (
  p_cc (n := 85) (s_gr (host := "") K dX7_claim_85 (hc := rfl) (by decide) rfl inX7 (by decide) w_f_RX7_19 rfl) (
  p_cc (n := 86) (s_x) (
  p_cc (n := 87) (s_x) (
  p_cc (n := 88) (s_grN K dX7_claim_88 (hc := rfl) (by decide) rfl inX2 (by decide) w_f_RX7_137 rfl) (
  p_cc (n := 89) (s_x) (
  p_cc (n := 90) (s_x) (
  p_cc (n := 91) (s_il1 K dX7_claim_91 rfl) (
  p_cc (n := 92) (cS_X7_at K dX7_claim_92 w_m_RX7_108) (
  p_cc (n := 93) (s_x) (
  p_cc (n := 94) (s_x) (
  p_cc (n := 95) (s_ir K dX7_claim_95 hr hk) (
  p_cc (n := 96) (s_al1 K dX7_claim_96 rfl) (
  p_cc (n := 97) (s_gr (host := "") K dX7_claim_97 (hc := rfl) (by decide) rfl inX7 (by decide) w_f_RX7_19 rfl) (
  p_cc (n := 98) (s_x) (
  p_cc (n := 99) (s_x) (
  p_cc (n := 100) (s_il1 K dX7_claim_100 rfl) (
  p_cc (n := 101) (cVN_X2_isFalse K dX7_claim_101 w_m_RX7_140) (
  p_cc (n := 102) (s_x) (
  p_cc (n := 103) (s_x) (
  p_cc (n := 104) (s_eq0 K dX7_claim_104 rfl) (
  p_cc (n := 105) (s_x) (
  p_cc (n := 106) (s_x) (
  p_cc (n := 107) (s_ic1 K dX7_claim_107 rfl) (
  p_cc (n := 108) (s_goto K dX7_claim_108 rfl) (
  p_cc (n := 109) (s_x) (
  p_cc (n := 110) (s_x) (
  p_cc (n := 111) (s_ic1 K dX7_claim_111 rfl) (
  p_cc (n := 112) (s_ir K dX7_claim_112 hr hk) (
  p_cc (n := 113) (s_ic1 K dX7_claim_113 rfl) (
  p_cc (n := 114) (s_ir K dX7_claim_114 hr hk) (p_cn))))))))))))))))))))))))))))))))))))))))))))))))))))))))))))))))))))))))))))))))))))))))))))))))))))))))))))))))))))
