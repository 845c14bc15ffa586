set_option maxRecDepth 100000 in
set_option maxHeartbeats 4000000 in
theorem cl_X7_turn {b : Bool} {w : pW} {p : Program} {l : Launch} {e : Env} {R : Room} {s : State} {m : MethodId} {args : Array Value} {below : List Frame} {meth : Method} {c : Code} {cells slots : Nat} {d : Nat} {Q : pQ} (K : q_X b w p s m args c RX7 cX7_turn 2 R d cells slots) (hr : meth.sig.returnType = (some .int)) (hk : meth.locks = false) : p_Cl b (q_C l b w) tb_X7_turn d Q (q_Z b w p l e R s m args below meth c 2 cells slots (MQ below (q_Qc b w Q) args s cells slots (q_A b w))) := p_c0 (
  p_cc (n := 0) (s_al1 K dX7_turn_0 rfl) (
  p_cc (n := 1) (s_gr (host := "") K dX7_turn_1 (hc := rfl) (by decide) rfl inX7 (by decide) w_f_RX7_19 rfl) (
  p_cc (n := 2) (s_x) (
  p_cc (n := 3) (s_x) (
  p_cc (n := 4) (s_il1 K dX7_turn_4 rfl) (
  p_cc (n := 5) (cVN_X2_isFact K dX7_turn_5 w_m_RX7_115) (
  p_cc (n := 6) (s_x) (
  p_cc (n := 7) (s_x) (
  p_cc (n := 8) (s_ne0 K dX7_turn_8 rfl) (
  p_cc (n := 9) (s_x) (
  p_cc (n := 10) (s_x) (
  p_cc (n := 11) (s_ic1 K dX7_turn_11 rfl) (
  p_cc (n := 12) (s_ir K dX7_turn_12 hr hk) (
  p_cc (n := 13) (s_al1 K dX7_turn_13 rfl) (
  p_cc (n := 14) (s_gr (host := "") K dX7_turn_14 (hc := rfl) (by decide) rfl inX7 (by decide) w_f_RX7_52 rfl) (
  p_cc (n := 15) (s_x) (
  p_cc (n := 16) (s_x) (
  p_cc (n := 17) (s_al1 K dX7_turn_17 rfl) (
  p_cc (n := 18) (s_gr (host := "") K dX7_turn_18 (hc := rfl) (by decide) rfl inX7 (by decide) w_f_RX7_19 rfl) (
  p_cc (n := 19) (s_x) (
  p_cc (n := 20) (s_x) (
  p_cc (n := 21) (cVN_X4_push K dX7_turn_21 w_m_RX7_143) (
  p_cc (n := 22) (s_x) (
  p_cc (n := 23) (s_x) (
  p_cc (n := 24) (s_al1 K dX7_turn_24 rfl) (
  p_cc (n := 25) (s_gr (host := "") K dX7_turn_25 (hc := rfl) (by decide) rfl inX7 (by decide) w_f_RX7_19 rfl) (
  p_cc (n := 26) (s_x) (
  p_cc (n := 27) (s_x) (
  p_cc (n := 28) (s_il1 K dX7_turn_28 rfl) (
  p_cc (n := 29) (cVN_X2_turnFact K dX7_turn_29 w_m_RX7_146) (
  p_cc (n := 30) (s_x) (
  p_cc (n := 31) (s_x) (
  p_cc (n := 32) (s_al1 K dX7_turn_32 rfl) (
  p_cc (n := 33) (s_gr (host := "") K dX7_turn_33 (hc := rfl) (by decide) rfl inX7 (by decide) w_f_RX7_19 rfl) (
  p_cc (n := 34) (s_x) (
  p_cc (n := 35) (s_x) (
  p_cc (n := 36) (s_giN K dX7_turn_36 (hc := rfl) (by decide) rfl inX2 (by decide) w_f_RX7_118 rfl) (
  p_cc (n := 37) (s_x) (
  p_cc (n := 38) (s_x) (
  p_cc (n := 39) (s_il1 K dX7_turn_39 rfl) (
  p_cc (n := 40) (cS_X7_bit K dX7_turn_40 w_m_RX7_121) (
  p_cc (n := 41) (s_x) (
  p_cc (n := 42) (s_x) (
  p_cc (n := 43) (s_ir K dX7_turn_43 hr hk) (p_cn)))))))))))))))))))))))))))))))))))))))))))))
set_option maxRecDepth 100000 in
set_option maxHeartbeats 4000000 in
theorem cl_X7_add {b : Bool} {w : pW} {p : Program} {l : Launch} {e : Env} {R : Room} {s : State} {m : MethodId} {args : Array Value} {below : List Frame} {meth : Method} {c : Code} {cells slots : Nat} {d : Nat} {Q : pQ} (K : q_X b w p s m args c RX7 cX7_add 5 R d cells slots) (hr : meth.sig.returnType = (some .int)) (hk : meth.locks = false) : p_Cl b (q_C l b w) tb_X7_add d Q (q_Z b w p l e R s m args below meth c 5 cells slots (MQ below (q_Qc b w Q) args s cells slots (q_A b w))) := p_c0 (
  p_cc (n := 0) (s_al1 K dX7_add_0 rfl) (
  p_cc (n := 1) (s_gr (host := "") K dX7_add_1 (hc := rfl) (by decide) rfl inX7 (by decide) w_f_RX7_19 rfl) (
  p_cc (n := 2) (s_x) (
  p_cc (n := 3) (s_x) (
  p_cc (n := 4) (s_il1 K dX7_add_4 rfl) (
  p_cc (n := 5) (s_il1 K dX7_add_5 rfl) (
  p_cc (n := 6) (s_il1 K dX7_add_6 rfl) (
  p_cc (n := 7) (s_il2 K dX7_add_7) (
  p_cc (n := 8) (s_x) (
  p_cc (n := 9) (cVN_X2_allowsClaim K dX7_add_9 w_m_RX7_149) (
  p_cc (n := 10) (s_x) (
  p_cc (n := 11) (s_x) (
  p_cc (n := 12) (s_ne0 K dX7_add_12 rfl) (
  p_cc (n := 13) (s_x) (
  p_cc (n := 14) (s_x) (
  p_cc (n := 15) (s_ic1 K dX7_add_15 rfl) (
  p_cc (n := 16) (s_ir K dX7_add_16 hr hk) (
  p_cc (n := 17) (s_al1 K dX7_add_17 rfl) (
  p_cc (n := 18) (s_gr (host := "") K dX7_add_18 (hc := rfl) (by decide) rfl inX7 (by decide) w_f_RX7_19 rfl) (
  p_cc (n := 19) (s_x) (
  p_cc (n := 20) (s_x) (
  p_cc (n := 21) (s_giN K dX7_add_21 (hc := rfl) (by decide) rfl inX2 (by decide) w_f_RX7_153 rfl) (
  p_cc (n := 22) (s_x) (
  p_cc (n := 23) (s_x) (
  p_cc (n := 24) (s_ic2 K dX7_add_24 rfl) (
  p_cc (n := 25) (s_x) (
  p_cc (n := 26) (s_ilt K dX7_add_26 rfl) (
  p_cc (n := 27) (s_x) (
  p_cc (n := 28) (s_x) (
  p_cc (n := 29) (s_ic2 K dX7_add_29 rfl) (
  p_cc (n := 30) (s_x) (
  p_cc (n := 31) (s_ir K dX7_add_31 hr hk) (
  p_cc (n := 32) (s_al1 K dX7_add_32 rfl) (
  p_cc (n := 33) (s_gr (host := "") K dX7_add_33 (hc := rfl) (by decide) rfl inX7 (by decide) w_f_RX7_52 rfl) (
  p_cc (n := 34) (s_x) (
  p_cc (n := 35) (s_x) (
  p_cc (n := 36) (s_al1 K dX7_add_36 rfl) (
  p_cc (n := 37) (s_gr (host := "") K dX7_add_37 (hc := rfl) (by decide) rfl inX7 (by decide) w_f_RX7_19 rfl) (
  p_cc (n := 38) (s_x) (
  p_cc (n := 39) (s_x) (
  p_cc (n := 40) (cVN_X4_push K dX7_add_40 w_m_RX7_143) (
  p_cc (n := 41) (s_x) (
  p_cc (n := 42) (s_x) (
  p_cc (n := 43) (s_al1 K dX7_add_43 rfl) (
  p_cc (n := 44) (s_gr (host := "") K dX7_add_44 (hc := rfl) (by decide) rfl inX7 (by decide) w_f_RX7_19 rfl) (
  p_cc (n := 45) (s_x) (
  p_cc (n := 46) (s_x) (
  p_cc (n := 47) (s_il1 K dX7_add_47 rfl) (
  p_cc (n := 48) (s_il1 K dX7_add_48 rfl) (
  p_cc (n := 49) (s_il1 K dX7_add_49 rfl) (
  p_cc (n := 50) (s_il2 K dX7_add_50) (
  p_cc (n := 51) (s_x) (
  p_cc (n := 52) (cVN_X2_addClaim K dX7_add_52 w_m_RX7_156) (
  p_cc (n := 53) (s_x) (
  p_cc (n := 54) (s_x) (
  p_cc (n := 55) (s_pop K dX7_add_55) (
  p_cc (n := 56) (s_al1 K dX7_add_56 rfl) (
  p_cc (n := 57) (s_gr (host := "") K dX7_add_57 (hc := rfl) (by decide) rfl inX7 (by decide) w_f_RX7_19 rfl) (
  p_cc (n := 58) (s_x) (
  p_cc (n := 59) (s_x) (
  p_cc (n := 60) (s_giN K dX7_add_60 (hc := rfl) (by decide) rfl inX2 (by decide) w_f_RX7_153 rfl) (
  p_cc (n := 61) (s_x) (
  p_cc (n := 62) (s_x) (
  p_cc (n := 63) (s_ic1 K dX7_add_63 rfl) (
  p_cc (n := 64) (s_sub K dX7_add_64) (
  p_cc (n := 65) (s_ir K dX7_add_65 hr hk) (p_cn)))))))))))))))))))))))))))))))))))))))))))))))))))))))))))))))))))
set_option maxRecDepth 100000 in
set_option maxHeartbeats 4000000 in
theorem cl_X7_strike {b : Bool} {w : pW} {p : Program} {l : Launch} {e : Env} {R : Room} {s : State} {m : MethodId} {args : Array Value} {below : List Frame} {meth : Method} {c : Code} {cells slots : Nat} {d : Nat} {Q : pQ} (K : q_X b w p s m args c RX7 cX7_strike 2 R d cells slots) (hr : meth.sig.returnType = (some .int)) (hk : meth.locks = false) : p_Cl b (q_C l b w) tb_X7_strike d Q (q_Z b w p l e R s m args below meth c 2 cells slots (MQ below (q_Qc b w Q) args s cells slots (q_A b w))) := p_c0 (
  p_cc (n := 0) (s_al1 K dX7_strike_0 rfl) (
  p_cc (n := 1) (s_gr (host := "") K dX7_strike_1 (hc := rfl) (by decide) rfl inX7 (by decide) w_f_RX7_19 rfl) (
  p_cc (n := 2) (s_x) (
  p_cc (n := 3) (s_x) (
  p_cc (n := 4) (s_il1 K dX7_strike_4 rfl) (
  p_cc (n := 5) (cVN_X2_isClaim K dX7_strike_5 w_m_RX7_125) (
  p_cc (n := 6) (s_x) (
  p_cc (n := 7) (s_x) (
  p_cc (n := 8) (s_ne0 K dX7_strike_8 rfl) (
  p_cc (n := 9) (s_x) (
  p_cc (n := 10) (s_x) (
  p_cc (n := 11) (s_ic1 K dX7_strike_11 rfl) (
  p_cc (n := 12) (s_ir K dX7_strike_12 hr hk) (
  p_cc (n := 13) (s_al1 K dX7_strike_13 rfl) (
  p_cc (n := 14) (s_gr (host := "") K dX7_strike_14 (hc := rfl) (by decide) rfl inX7 (by decide) w_f_RX7_52 rfl) (
  p_cc (n := 15) (s_x) (
  p_cc (n := 16) (s_x) (
  p_cc (n := 17) (s_al1 K dX7_strike_17 rfl) (
  p_cc (n := 18) (s_gr (host := "") K dX7_strike_18 (hc := rfl) (by decide) rfl inX7 (by decide) w_f_RX7_19 rfl) (
  p_cc (n := 19) (s_x) (
  p_cc (n := 20) (s_x) (
  p_cc (n := 21) (cVN_X4_push K dX7_strike_21 w_m_RX7_143) (
  p_cc (n := 22) (s_x) (
  p_cc (n := 23) (s_x) (
  p_cc (n := 24) (s_al1 K dX7_strike_24 rfl) (
  p_cc (n := 25) (s_gr (host := "") K dX7_strike_25 (hc := rfl) (by decide) rfl inX7 (by decide) w_f_RX7_19 rfl) (
  p_cc (n := 26) (s_x) (
  p_cc (n := 27) (s_x) (
  p_cc (n := 28) (s_il1 K dX7_strike_28 rfl) (
  p_cc (n := 29) (cVN_X2_removeClaim K dX7_strike_29 w_m_RX7_159) (
  p_cc (n := 30) (s_x) (
  p_cc (n := 31) (s_x) (
  p_cc (n := 32) (s_al1 K dX7_strike_32 rfl) (
  p_cc (n := 33) (s_gr (host := "") K dX7_strike_33 (hc := rfl) (by decide) rfl inX7 (by decide) w_f_RX7_19 rfl) (
  p_cc (n := 34) (s_x) (
  p_cc (n := 35) (s_x) (
  p_cc (n := 36) (s_giN K dX7_strike_36 (hc := rfl) (by decide) rfl inX2 (by decide) w_f_RX7_153 rfl) (
  p_cc (n := 37) (s_x) (
  p_cc (n := 38) (s_x) (
  p_cc (n := 39) (s_ir K dX7_strike_39 hr hk) (p_cn)))))))))))))))))))))))))))))))))))))))))
set_option maxRecDepth 100000 in
set_option maxHeartbeats 4000000 in
theorem cl_X7_shift {b : Bool} {w : pW} {p : Program} {l : Launch} {e : Env} {R : Room} {s : State} {m : MethodId} {args : Array Value} {below : List Frame} {meth : Method} {c : Code} {cells slots : Nat} {d : Nat} {Q : pQ} (K : q_X b w p s m args c RX7 cX7_shift 3 R d cells slots) (hr : meth.sig.returnType = (some .int)) (hk : meth.locks = false) : p_Cl b (q_C l b w) tb_X7_shift d Q (q_Z b w p l e R s m args below meth c 3 cells slots (MQ below (q_Qc b w Q) args s cells slots (q_A b w))) := p_c0 (
  p_cc (n := 0) (s_al1 K dX7_shift_0 rfl) (
  p_cc (n := 1) (s_gr (host := "") K dX7_shift_1 (hc := rfl) (by decide) rfl inX7 (by decide) w_f_RX7_19 rfl) (
  p_cc (n := 2) (s_x) (
  p_cc (n := 3) (s_x) (
  p_cc (n := 4) (s_il1 K dX7_shift_4 rfl) (
  p_cc (n := 5) (cVN_X2_isClaim K dX7_shift_5 w_m_RX7_125) (
  p_cc (n := 6) (s_x) (
  p_cc (n := 7) (s_x) (
  p_cc (n := 8) (s_eq0 K dX7_shift_8 rfl) (
  p_cc (n := 9) (s_x) (
  p_cc (n := 10) (s_x) (
  p_cc (n := 11) (s_al1 K dX7_shift_11 rfl) (
  p_cc (n := 12) (s_gr (host := "") K dX7_shift_12 (hc := rfl) (by decide) rfl inX7 (by decide) w_f_RX7_19 rfl) (
  p_cc (n := 13) (s_x) (
  p_cc (n := 14) (s_x) (
  p_cc (n := 15) (s_il1 K dX7_shift_15 rfl) (
  p_cc (n := 16) (cVN_X2_isClaim K dX7_shift_16 w_m_RX7_125) (
  p_cc (n := 17) (s_x) (
  p_cc (n := 18) (s_x) (
  p_cc (n := 19) (s_ne0 K dX7_shift_19 rfl) (
  p_cc (n := 20) (s_x) (
  p_cc (n := 21) (s_x) (
  p_cc (n := 22) (s_ic1 K dX7_shift_22 rfl) (
  p_cc (n := 23) (s_ir K dX7_shift_23 hr hk) (
  p_cc (n := 24) (s_il1 K dX7_shift_24 rfl) (
  p_cc (n := 25) (s_il1 K dX7_shift_25 rfl) (
  p_cc (n := 26) (s_ine K dX7_shift_26 rfl) (
  p_cc (n := 27) (s_x) (
  p_cc (n := 28) (s_x) (
  p_cc (n := 29) (s_ic2 K dX7_shift_29 rfl) (
  p_cc (n := 30) (s_x) (
  p_cc (n := 31) (s_ir K dX7_shift_31 hr hk) (
  p_cc (n := 32) (s_al1 K dX7_shift_32 rfl) (
  p_cc (n := 33) (s_gr (host := "") K dX7_shift_33 (hc := rfl) (by decide) rfl inX7 (by decide) w_f_RX7_52 rfl) (
  p_cc (n := 34) (s_x) (
  p_cc (n := 35) (s_x) (
  p_cc (n := 36) (s_al1 K dX7_shift_36 rfl) (
  p_cc (n := 37) (s_gr (host := "") K dX7_shift_37 (hc := rfl) (by decide) rfl inX7 (by decide) w_f_RX7_19 rfl) (
  p_cc (n := 38) (s_x) (
  p_cc (n := 39) (s_x) (
  p_cc (n := 40) (cVN_X4_push K dX7_shift_40 w_m_RX7_143) (
  p_cc (n := 41) (s_x) (
  p_cc (n := 42) (s_x) (
  p_cc (n := 43) (s_al1 K dX7_shift_43 rfl) (
  p_cc (n := 44) (s_gr (host := "") K dX7_shift_44 (hc := rfl) (by decide) rfl inX7 (by decide) w_f_RX7_19 rfl) (
  p_cc (n := 45) (s_x) (
  p_cc (n := 46) (s_x) (
  p_cc (n := 47) (s_il1 K dX7_shift_47 rfl) (
  p_cc (n := 48) (s_il1 K dX7_shift_48 rfl) (
  p_cc (n := 49) (cVN_X2_moveClaim K dX7_shift_49 w_m_RX7_162) (
  p_cc (n := 50) (s_x) (
  p_cc (n := 51) (s_x) (
  p_cc (n := 52) (s_il1 K dX7_shift_52 rfl) (
  p_cc (n := 53) (s_il1 K dX7_shift_53 rfl) (
  p_cc (n := 54) (s_sub K dX7_shift_54) (
  p_cc (n := 55) (s_ic2 K dX7_shift_55 rfl) (
  p_cc (n := 56) (s_x) (
  p_cc (n := 57) (s_add K dX7_shift_57) (
  p_cc (n := 58) (s_ir K dX7_shift_58 hr hk) (p_cn))))))))))))))))))))))))))))))))))))))))))))))))))))))))))))
set_option maxRecDepth 100000 in
set_option maxHeartbeats 4000000 in
theorem cl_X7_grip {b : Bool} {w : pW} {p : Program} {l : Launch} {e : Env} {R : Room} {s : State} {m : MethodId} {args : Array Value} {below : List Frame} {meth : Method} {c : Code} {cells slots : Nat} {d : Nat} {Q : pQ} (K : q_X b w p s m args c RX7 cX7_grip 4 R d cells slots) (hr : meth.sig.returnType = (some .int)) (hk : meth.locks = false) : p_Cl b (q_C l b w) tb_X7_grip d Q (q_Z b w p l e R s m args below meth c 4 cells slots (MQ below (q_Qc b w Q) args s cells slots (q_A b w))) := p_c0 (
  p_cc (n := 0) (s_al1 K dX7_grip_0 rfl) (
  p_cc (n := 1) (s_gr (host := "") K dX7_grip_1 (hc := rfl) (by decide) rfl inX7 (by decide) w_f_RX7_19 rfl) (
  p_cc (n := 2) (s_x) (
  p_cc (n := 3) (s_x) (
  p_cc (n := 4) (s_il1 K dX7_grip_4 rfl) (
  p_cc (n := 5) (cVN_X2_isTeller K dX7_grip_5 w_m_RX7_101) (
  p_cc (n := 6) (s_x) (
  p_cc (n := 7) (s_x) (
  p_cc (n := 8) (s_eq0 K dX7_grip_8 rfl) (
  p_cc (n := 9) (s_x) (
  p_cc (n := 10) (s_x) (
  p_cc (n := 11) (s_il1 K dX7_grip_11 rfl) (
  p_cc (n := 12) (s_ic1 K dX7_grip_12 rfl) (
  p_cc (n := 13) (s_ic2 K dX7_grip_13 rfl) (
  p_cc (n := 14) (s_x) (
  p_cc (n := 15) (cS_X7_within K dX7_grip_15 w_m_RX7_82) (
  p_cc (n := 16) (s_x) (
  p_cc (n := 17) (s_x) (
  p_cc (n := 18) (s_ne0 K dX7_grip_18 rfl) (
  p_cc (n := 19) (s_x) (
  p_cc (n := 20) (s_x) (
  p_cc (n := 21) (s_ic1 K dX7_grip_21 rfl) (
  p_cc (n := 22) (s_ir K dX7_grip_22 hr hk) (
  p_cc (n := 23) (s_al1 K dX7_grip_23 rfl) (
  p_cc (n := 24) (s_gr (host := "") K dX7_grip_24 (hc := rfl) (by decide) rfl inX7 (by decide) w_f_RX7_19 rfl) (
  p_cc (n := 25) (s_x) (
  p_cc (n := 26) (s_x) (
  p_cc (n := 27) (s_grN K dX7_grip_27 (hc := rfl) (by decide) rfl inX2 (by decide) w_f_RX7_112 rfl) (
  p_cc (n := 28) (s_x) (
  p_cc (n := 29) (s_x) (
  p_cc (n := 30) (s_il1 K dX7_grip_30 rfl) (
  p_cc (n := 31) (cS_X7_at K dX7_grip_31 w_m_RX7_108) (
  p_cc (n := 32) (s_x) (
  p_cc (n := 33) (s_x) (
  p_cc (n := 34) (s_is1 K dX7_grip_34 rfl) (
  p_cc (n := 35) (s_il1 K dX7_grip_35 rfl) (
  p_cc (n := 36) (s_il1 K dX7_grip_36 rfl) (
  p_cc (n := 37) (s_ine K dX7_grip_37 rfl) (
  p_cc (n := 38) (s_x) (
  p_cc (n := 39) (s_x) (
  p_cc (n := 40) (s_ic2 K dX7_grip_40 rfl) (
  p_cc (n := 41) (s_x) (
  p_cc (n := 42) (s_ir K dX7_grip_42 hr hk) (
  p_cc (n := 43) (s_al1 K dX7_grip_43 rfl) (
  p_cc (n := 44) (s_gr (host := "") K dX7_grip_44 (hc := rfl) (by decide) rfl inX7 (by decide) w_f_RX7_52 rfl) (
  p_cc (n := 45) (s_x) (
  p_cc (n := 46) (s_x) (
  p_cc (n := 47) (s_al1 K dX7_grip_47 rfl) (
  p_cc (n := 48) (s_gr (host := "") K dX7_grip_48 (hc := rfl) (by decide) rfl inX7 (by decide) w_f_RX7_19 rfl) (
  p_cc (n := 49) (s_x) (
  p_cc (n := 50) (s_x) (
  p_cc (n := 51) (cVN_X4_push K dX7_grip_51 w_m_RX7_143) (
  p_cc (n := 52) (s_x) (
  p_cc (n := 53) (s_x) (
  p_cc (n := 54) (s_al1 K dX7_grip_54 rfl) (
  p_cc (n := 55) (s_gr (host := "") K dX7_grip_55 (hc := rfl) (by decide) rfl inX7 (by decide) w_f_RX7_19 rfl) (
  p_cc (n := 56) (s_x) (
  p_cc (n := 57) (s_x) (
  p_cc (n := 58) (s_grN K dX7_grip_58 (hc := rfl) (by decide) rfl inX2 (by decide) w_f_RX7_112 rfl) (
  p_cc (n := 59) (s_x) (
  p_cc (n := 60) (s_x) (
  p_cc (n := 61) (s_il1 K dX7_grip_61 rfl) (
  p_cc (n := 62) (s_il1 K dX7_grip_62 rfl) (
  p_cc (n := 63) (cS_X7_put K dX7_grip_63 w_m_RX7_166) (
  p_cc (n := 64) (s_x) (
  p_cc (n := 65) (s_x) (
  p_cc (n := 66) (s_il1 K dX7_grip_66 rfl) (
  p_cc (n := 67) (s_ir K dX7_grip_67 hr hk) (p_cn)))))))))))))))))))))))))))))))))))))))))))))))))))))))))))))))))))))
set_option maxRecDepth 100000 in
set_option maxHeartbeats 4000000 in
theorem cl_X7_undo {b : Bool} {w : pW} {p : Program} {l : Launch} {e : Env} {R : Room} {s : State} {m : MethodId} {args : Array Value} {below : List Frame} {meth : Method} {c : Code} {cells slots : Nat} {d : Nat} {Q : pQ} (K : q_X b w p s m args c RX7 cX7_undo 1 R d cells slots) (hr : meth.sig.returnType = (some .int)) (hk : meth.locks = false) : p_Cl b (q_C l b w) tb_X7_undo d Q (q_Z b w p l e R s m args below meth c 1 cells slots (MQ below (q_Qc b w Q) args s cells slots (q_A b w))) := p_c0 (
  p_cc (n := 0) (s_al1 K dX7_undo_0 rfl) (
  p_cc (n := 1) (s_gr (host := "") K dX7_undo_1 (hc := rfl) (by decide) rfl inX7 (by decide) w_f_RX7_52 rfl) (
  p_cc (n := 2) (s_x) (
  p_cc (n := 3) (s_x) (
  p_cc (n := 4) (s_al1 K dX7_undo_4 rfl) (
  p_cc (n := 5) (s_gr (host := "") K dX7_undo_5 (hc := rfl) (by decide) rfl inX7 (by decide) w_f_RX7_19 rfl) (
  p_cc (n := 6) (s_x) (
  p_cc (n := 7) (s_x) (
  p_cc (n := 8) (cVN_X4_popInto K dX7_undo_8 w_m_RX7_170) (
  p_cc (n := 9) (s_x) (
  p_cc (n := 10) (s_x) (
  p_cc (n := 11) (s_eq0 K dX7_undo_11 rfl) (
  p_cc (n := 12) (s_x) (
  p_cc (n := 13) (s_x) (
  p_cc (n := 14) (s_al1 K dX7_undo_14 rfl) (
  p_cc (n := 15) (s_gr (host := "") K dX7_undo_15 (hc := rfl) (by decide) rfl inX7 (by decide) w_f_RX7_52 rfl) (
  p_cc (n := 16) (s_x) (
  p_cc (n := 17) (s_x) (
  p_cc (n := 18) (s_giN K dX7_undo_18 (hc := rfl) (by decide) rfl inX4 (by decide) w_f_RX7_174 rfl) (
  p_cc (n := 19) (s_x) (
  p_cc (n := 20) (s_x) (
  p_cc (n := 21) (s_goto K dX7_undo_21 rfl) (
  p_cc (n := 22) (s_x) (
  p_cc (n := 23) (s_x) (
  p_cc (n := 24) (s_ic2 K dX7_undo_24 rfl) (
  p_cc (n := 25) (s_x) (
  p_cc (n := 26) (s_ir K dX7_undo_26 hr hk) (p_cn))))))))))))))))))))))))))))
set_option maxRecDepth 100000 in
set_option maxHeartbeats 4000000 in
theorem cl_X7_drops {b : Bool} {w : pW} {p : Program} {l : Launch} {e : Env} {R : Room} {s : State} {m : MethodId} {args : Array Value} {below : List Frame} {meth : Method} {c : Code} {cells slots : Nat} {d : Nat} {Q : pQ} (K : q_X b w p s m args c RX7 cX7_drops 3 R d cells slots) (hr : meth.sig.returnType = (some .int)) (hk : meth.locks = false) : p_Cl b (q_C l b w) tb_X7_drops d Q (q_Z b w p l e R s m args below meth c 3 cells slots (MQ below (q_Qc b w Q) args s cells slots (q_A b w))) := p_c0 (
  p_cc (n := 0) (s_al1 K dX7_drops_0 rfl) (
  p_cc (n := 1) (s_gr (host := "") K dX7_drops_1 (hc := rfl) (by decide) rfl inX7 (by decide) w_f_RX7_19 rfl) (
  p_cc (n := 2) (s_x) (
  p_cc (n := 3) (s_x) (
  p_cc (n := 4) (s_il1 K dX7_drops_4 rfl) (
  p_cc (n := 5) (cVN_X2_isTeller K dX7_drops_5 w_m_RX7_101) (
  p_cc (n := 6) (s_x) (
  p_cc (n := 7) (s_x) (
  p_cc (n := 8) (s_ne0 K dX7_drops_8 rfl) (
  p_cc (n := 9) (s_x) (
  p_cc (n := 10) (s_x) (
  p_cc (n := 11) (s_ic1 K dX7_drops_11 rfl) (
  p_cc (n := 12) (s_ir K dX7_drops_12 hr hk) (
  p_cc (n := 13) (s_al1 K dX7_drops_13 rfl) (
  p_cc (n := 14) (s_gr (host := "") K dX7_drops_14 (hc := rfl) (by decide) rfl inX7 (by decide) w_f_RX7_29 rfl) (
  p_cc (n := 15) (s_x) (
  p_cc (n := 16) (s_x) (
  p_cc (n := 17) (s_al1 K dX7_drops_17 rfl) (
  p_cc (n := 18) (s_gr (host := "") K dX7_drops_18 (hc := rfl) (by decide) rfl inX7 (by decide) w_f_RX7_19 rfl) (
  p_cc (n := 19) (s_x) (
  p_cc (n := 20) (s_x) (
  p_cc (n := 21) (cVN_X0_hold K dX7_drops_21 w_m_RX7_177) (
  p_cc (n := 22) (s_x) (
  p_cc (n := 23) (s_x) (
  p_cc (n := 24) (s_al1 K dX7_drops_24 rfl) (
  p_cc (n := 25) (s_gr (host := "") K dX7_drops_25 (hc := rfl) (by decide) rfl inX7 (by decide) w_f_RX7_29 rfl) (
  p_cc (n := 26) (s_x) (
  p_cc (n := 27) (s_x) (
  p_cc (n := 28) (s_grN K dX7_drops_28 (hc := rfl) (by decide) rfl inX0 (by decide) w_f_RX7_180 rfl) (
  p_cc (n := 29) (s_x) (
  p_cc (n := 30) (s_x) (
  p_cc (n := 31) (s_il1 K dX7_drops_31 rfl) (
  p_cc (n := 32) (cS_X7_at K dX7_drops_32 w_m_RX7_108) (
  p_cc (n := 33) (s_x) (
  p_cc (n := 34) (s_x) (
  p_cc (n := 35) (s_is1 K dX7_drops_35 rfl) (
  p_cc (n := 36) (s_il1 K dX7_drops_36 rfl) (
  p_cc (n := 37) (s_ic2 K dX7_drops_37 rfl) (
  p_cc (n := 38) (s_x) (
  p_cc (n := 39) (s_ine K dX7_drops_39 rfl) (
  p_cc (n := 40) (s_x) (
  p_cc (n := 41) (s_x) (
  p_cc (n := 42) (s_ic2 K dX7_drops_42 rfl) (
  p_cc (n := 43) (s_x) (
  p_cc (n := 44) (s_goto K dX7_drops_44 rfl) (
  p_cc (n := 45) (s_x) (
  p_cc (n := 46) (s_x) (
  p_cc (n := 47) (s_il1 K dX7_drops_47 rfl) (
  p_cc (n := 48) (s_ir K dX7_drops_48 hr hk) (p_cn))))))))))))))))))))))))))))))))))))))))))))))))))
set_option maxRecDepth 100000 in
set_option maxHeartbeats 4000000 in
theorem cl_X7_told {b : Bool} {w : pW} {p : Program} {l : Launch} {e : Env} {R : Room} {s : State} {m : MethodId} {args : Array Value} {below : List Frame} {meth : Method} {c : Code} {cells slots : Nat} {d : Nat} {Q : pQ} (K : q_X b w p s m args c RX7 cX7_told 1 R d cells slots) (hr : meth.sig.returnType = (some .int)) (hk : meth.locks = false) : p_Cl b (q_C l b w) tb_X7_told d Q (q_Z b w p l e R s m args below meth c 1 cells slots (MQ below (q_Qc b w Q) args s cells slots (q_A b w))) := p_c0 (
  p_cc (n := 0) (s_al1 K dX7_told_0 rfl) (
  p_cc (n := 1) (s_gr (host := "") K dX7_told_1 (hc := rfl) (by decide) rfl inX7 (by decide) w_f_RX7_29 rfl) (
  p_cc (n := 2) (s_x) (
  p_cc (n := 3) (s_x) (
  p_cc (n := 4) (s_al1 K dX7_told_4 rfl) (
  p_cc (n := 5) (s_gr (host := "") K dX7_told_5 (hc := rfl) (by decide) rfl inX7 (by decide) w_f_RX7_19 rfl) (
  p_cc (n := 6) (s_x) (
  p_cc (n := 7) (s_x) (
  p_cc (n := 8) (cVN_X0_hold K dX7_told_8 w_m_RX7_177) (
  p_cc (n := 9) (s_x) (
  p_cc (n := 10) (s_x) (
  p_cc (n := 11) (s_al1 K dX7_told_11 rfl) (
  p_cc (n := 12) (s_gr (host := "") K dX7_told_12 (hc := rfl) (by decide) rfl inX7 (by decide) w_f_RX7_29 rfl) (
  p_cc (n := 13) (s_x) (
  p_cc (n := 14) (s_x) (
  p_cc (n := 15) (s_grN K dX7_told_15 (hc := rfl) (by decide) rfl inX0 (by decide) w_f_RX7_183 rfl) (
  p_cc (n := 16) (s_x) (
  p_cc (n := 17) (s_x) (
  p_cc (n := 18) (s_giN K dX7_told_18 (hc := rfl) (by decide) rfl inX1 (by decide) w_f_RX7_187 rfl) (
  p_cc (n := 19) (s_x) (
  p_cc (n := 20) (s_x) (
  p_cc (n := 21) (s_ir K dX7_told_21 hr hk) (p_cn)))))))))))))))))))))))
set_option maxRecDepth 100000 in
set_option maxHeartbeats 4000000 in
theorem cl_X7_hot {b : Bool} {w : pW} {p : Program} {l : Launch} {e : Env} {R : Room} {s : State} {m : MethodId} {args : Array Value} {below : List Frame} {meth : Method} {c : Code} {cells slots : Nat} {d : Nat} {Q : pQ} (K : q_X b w p s m args c RX7 cX7_hot 2 R d cells slots) (hr : meth.sig.returnType = (some .int)) (hk : meth.locks = false) : p_Cl b (q_C l b w) tb_X7_hot d Q (q_Z b w p l e R s m args below meth c 2 cells slots (MQ below (q_Qc b w Q) args s cells slots (q_A b w))) := p_c0 (
  p_cc (n := 0) (s_al1 K dX7_hot_0 rfl) (
  p_cc (n := 1) (s_gr (host := "") K dX7_hot_1 (hc := rfl) (by decide) rfl inX7 (by decide) w_f_RX7_19 rfl) (
  p_cc (n := 2) (s_x) (
  p_cc (n := 3) (s_x) (
  p_cc (n := 4) (s_il1 K dX7_hot_4 rfl) (
  p_cc (n := 5) (cVN_X2_isClaim K dX7_hot_5 w_m_RX7_125) (
  p_cc (n := 6) (s_x) (
  p_cc (n := 7) (s_x) (
  p_cc (n := 8) (s_ne0 K dX7_hot_8 rfl) (
  p_cc (n := 9) (s_x) (
  p_cc (n := 10) (s_x) (
  p_cc (n := 11) (s_ic1 K dX7_hot_11 rfl) (
  p_cc (n := 12) (s_ir K dX7_hot_12 hr hk) (
  p_cc (n := 13) (s_al1 K dX7_hot_13 rfl) (
  p_cc (n := 14) (s_gr (host := "") K dX7_hot_14 (hc := rfl) (by decide) rfl inX7 (by decide) w_f_RX7_29 rfl) (
  p_cc (n := 15) (s_x) (
  p_cc (n := 16) (s_x) (
  p_cc (n := 17) (s_al1 K dX7_hot_17 rfl) (
  p_cc (n := 18) (s_gr (host := "") K dX7_hot_18 (hc := rfl) (by decide) rfl inX7 (by decide) w_f_RX7_19 rfl) (
  p_cc (n := 19) (s_x) (
  p_cc (n := 20) (s_x) (
  p_cc (n := 21) (cVN_X0_hold K dX7_hot_21 w_m_RX7_177) (
  p_cc (n := 22) (s_x) (
  p_cc (n := 23) (s_x) (
  p_cc (n := 24) (s_al1 K dX7_hot_24 rfl) (
  p_cc (n := 25) (s_gr (host := "") K dX7_hot_25 (hc := rfl) (by decide) rfl inX7 (by decide) w_f_RX7_29 rfl) (
  p_cc (n := 26) (s_x) (
  p_cc (n := 27) (s_x) (
  p_cc (n := 28) (s_grN K dX7_hot_28 (hc := rfl) (by decide) rfl inX0 (by decide) w_f_RX7_192 rfl) (
  p_cc (n := 29) (s_x) (
  p_cc (n := 30) (s_x) (
  p_cc (n := 31) (s_il1 K dX7_hot_31 rfl) (
  p_cc (n := 32) (cS_X7_at K dX7_hot_32 w_m_RX7_108) (
  p_cc (n := 33) (s_x) (
  p_cc (n := 34) (s_x) (
  p_cc (n := 35) (s_ir K dX7_hot_35 hr hk) (p_cn)))))))))))))))))))))))))))))))))))))
set_option maxRecDepth 100000 in
set_option maxHeartbeats 4000000 in
theorem cl_X7_hottest {b : Bool} {w : pW} {p : Program} {l : Launch} {e : Env} {R : Room} {s : State} {m : MethodId} {args : Array Value} {below : List Frame} {meth : Method} {c : Code} {cells slots : Nat} {d : Nat} {Q : pQ} (K : q_X b w p s m args c RX7 cX7_hottest 1 R d cells slots) (hr : meth.sig.returnType = (some .int)) (hk : meth.locks = false) : p_Cl b (q_C l b w) tb_X7_hottest d Q (q_Z b w p l e R s m args below meth c 1 cells slots (MQ below (q_Qc b w Q) args s cells slots (q_A b w))) := p_c0 (
  p_cc (n := 0) (s_al1 K dX7_hottest_0 rfl) (
  p_cc (n := 1) (s_gr (host := "") K dX7_hottest_1 (hc := rfl) (by decide) rfl inX7 (by decide) w_f_RX7_29 rfl) (
  p_cc (n := 2) (s_x) (
  p_cc (n := 3) (s_x) (
  p_cc (n := 4) (s_al1 K dX7_hottest_4 rfl) (
  p_cc (n := 5) (s_gr (host := "") K dX7_hottest_5 (hc := rfl) (by decide) rfl inX7 (by decide) w_f_RX7_19 rfl) (
  p_cc (n := 6) (s_x) (
  p_cc (n := 7) (s_x) (
  p_cc (n := 8) (cVN_X0_hold K dX7_hottest_8 w_m_RX7_177) (
  p_cc (n := 9) (s_x) (
  p_cc (n := 10) (s_x) (
  p_cc (n := 11) (s_al1 K dX7_hottest_11 rfl) (
  p_cc (n := 12) (s_gr (host := "") K dX7_hottest_12 (hc := rfl) (by decide) rfl inX7 (by decide) w_f_RX7_29 rfl) (
  p_cc (n := 13) (s_x) (
  p_cc (n := 14) (s_x) (
  p_cc (n := 15) (s_giN K dX7_hottest_15 (hc := rfl) (by decide) rfl inX0 (by decide) w_f_RX7_195 rfl) (
  p_cc (n := 16) (s_x) (
  p_cc (n := 17) (s_x) (
  p_cc (n := 18) (s_ir K dX7_hottest_18 hr hk) (p_cn))))))))))))))))))))
set_option maxRecDepth 100000 in
set_option maxHeartbeats 4000000 in
theorem cl_X7_order {b : Bool} {w : pW} {p : Program} {l : Launch} {e : Env} {R : Room} {s : State} {m : MethodId} {args : Array Value} {below : List Frame} {meth : Method} {c : Code} {cells slots : Nat} {d : Nat} {Q : pQ} (K : q_X b w p s m args c RX7 cX7_order 2 R d cells slots) (hr : meth.sig.returnType = (some .int)) (hk : meth.locks = false) : p_Cl b (q_C l b w) tb_X7_order d Q (q_Z b w p l e R s m args below meth c 2 cells slots (MQ below (q_Qc b w Q) args s cells slots (q_A b w))) := p_c0 (
  p_cc (n := 0) (s_il1 K dX7_order_0 rfl) (
  p_cc (n := 1) (s_ic1 K dX7_order_1 rfl) (
  p_cc (n := 2) (s_ieq K dX7_order_2 rfl) (
  p_cc (n := 3) (s_x) (
  p_cc (n := 4) (s_x) (
  p_cc (n := 5) (s_al1 K dX7_order_5 rfl) (
  p_cc (n := 6) (s_gr (host := "") K dX7_order_6 (hc := rfl) (by decide) rfl inX7 (by decide) w_f_RX7_19 rfl) (
  p_cc (n := 7) (s_x) (
  p_cc (n := 8) (s_x) (
  p_cc (n := 9) (s_il1 K dX7_order_9 rfl) (
  p_cc (n := 10) (cVN_X2_isClaim K dX7_order_10 w_m_RX7_125) (
  p_cc (n := 11) (s_x) (
  p_cc (n := 12) (s_x) (
  p_cc (n := 13) (s_ne0 K dX7_order_13 rfl) (
  p_cc (n := 14) (s_x) (
  p_cc (n := 15) (s_x) (
  p_cc (n := 16) (s_ic1 K dX7_order_16 rfl) (
  p_cc (n := 17) (s_ir K dX7_order_17 hr hk) (
  p_cc (n := 18) (s_al1 K dX7_order_18 rfl) (
  p_cc (n := 19) (s_gr (host := "") K dX7_order_19 (hc := rfl) (by decide) rfl inX7 (by decide) w_f_RX7_36 rfl) (
  p_cc (n := 20) (s_x) (
  p_cc (n := 21) (s_x) (
  p_cc (n := 22) (s_al1 K dX7_order_22 rfl) (
  p_cc (n := 23) (s_gr (host := "") K dX7_order_23 (hc := rfl) (by decide) rfl inX7 (by decide) w_f_RX7_19 rfl) (
  p_cc (n := 24) (s_x) (
  p_cc (n := 25) (s_x) (
  p_cc (n := 26) (cVN_X3_run K dX7_order_26 w_m_RX7_198) (
  p_cc (n := 27) (s_x) (
  p_cc (n := 28) (s_x) (
  p_cc (n := 29) (s_il1 K dX7_order_29 rfl) (
  p_cc (n := 30) (s_ic1 K dX7_order_30 rfl) (
  p_cc (n := 31) (s_ine K dX7_order_31 rfl) (
  p_cc (n := 32) (s_x) (
  p_cc (n := 33) (s_x) (
  p_cc (n := 34) (s_al1 K dX7_order_34 rfl) (
  p_cc (n := 35) (s_gr (host := "") K dX7_order_35 (hc := rfl) (by decide) rfl inX7 (by decide) w_f_RX7_36 rfl) (
  p_cc (n := 36) (s_x) (
  p_cc (n := 37) (s_x) (
  p_cc (n := 38) (s_giN K dX7_order_38 (hc := rfl) (by decide) rfl inX3 (by decide) w_f_RX7_201 rfl) (
  p_cc (n := 39) (s_x) (
  p_cc (n := 40) (s_x) (
  p_cc (n := 41) (s_goto K dX7_order_41 rfl) (
  p_cc (n := 42) (s_x) (
  p_cc (n := 43) (s_x) (
  p_cc (n := 44) (s_al1 K dX7_order_44 rfl) (
  p_cc (n := 45) (s_gr (host := "") K dX7_order_45 (hc := rfl) (by decide) rfl inX7 (by decide) w_f_RX7_36 rfl) (
  p_cc (n := 46) (s_x) (
  p_cc (n := 47) (s_x) (
  p_cc (n := 48) (s_grN K dX7_order_48 (hc := rfl) (by decide) rfl inX3 (by decide) w_f_RX7_202 rfl) (
  p_cc (n := 49) (s_x) (
  p_cc (n := 50) (s_x) (
  p_cc (n := 51) (s_il1 K dX7_order_51 rfl) (
  p_cc (n := 52) (cS_X7_at K dX7_order_52 w_m_RX7_108) (
  p_cc (n := 53) (s_x) (
  p_cc (n := 54) (s_x) (
  p_cc (n := 55) (s_ir K dX7_order_55 hr hk) (p_cn)))))))))))))))))))))))))))))))))))))))))))))))))))))))))
set_option maxRecDepth 100000 in
set_option maxHeartbeats 4000000 in
theorem cl_X7_leave {b : Bool} {w : pW} {p : Program} {l : Launch} {e : Env} {R : Room} {s : State} {m : MethodId} {args : Array Value} {below : List Frame} {meth : Method} {c : Code} {cells slots : Nat} {d : Nat} {Q : pQ} (K : q_X b w p s m args c RX7 cX7_leave 4 R d cells slots) (hr : meth.sig.returnType = (some .int)) (hk : meth.locks = false) : p_Cl b (q_C l b w) tb_X7_leave d Q (q_Z b w p l e R s m args below meth c 4 cells slots (MQ below (q_Qc b w Q) args s cells slots (q_A b w))) := p_c0 (
  p_cc (n := 0) (s_al1 K dX7_leave_0 rfl) (
  p_cc (n := 1) (s_gr (host := "") K dX7_leave_1 (hc := rfl) (by decide) rfl inX7 (by decide) w_f_RX7_19 rfl) (
  p_cc (n := 2) (s_x) (
  p_cc (n := 3) (s_x) (
  p_cc (n := 4) (s_il1 K dX7_leave_4 rfl) (
  p_cc (n := 5) (cVN_X2_isTeller K dX7_leave_5 w_m_RX7_101) (
  p_cc (n := 6) (s_x) (
  p_cc (n := 7) (s_x) (
  p_cc (n := 8) (s_eq0 K dX7_leave_8 rfl) (
  p_cc (n := 9) (s_x) (
  p_cc (n := 10) (s_x) (
  p_cc (n := 11) (s_il1 K dX7_leave_11 rfl) (
  p_cc (n := 12) (s_ic1 K dX7_leave_12 rfl) (
  p_cc (n := 13) (s_ic1 K dX7_leave_13 rfl) (
  p_cc (n := 14) (cS_X7_within K dX7_leave_14 w_m_RX7_82) (
  p_cc (n := 15) (s_x) (
  p_cc (n := 16) (s_x) (
  p_cc (n := 17) (s_ne0 K dX7_leave_17 rfl) (
  p_cc (n := 18) (s_x) (
  p_cc (n := 19) (s_x) (
  p_cc (n := 20) (s_ic1 K dX7_leave_20 rfl) (
  p_cc (n := 21) (s_ir K dX7_leave_21 hr hk) (
  p_cc (n := 22) (s_al1 K dX7_leave_22 rfl) (
  p_cc (n := 23) (s_il1 K dX7_leave_23 rfl) (
  p_cc (n := 24) (cV_X7_fewestLeft K dX7_leave_24 w_m_RX7_205) (
  p_cc (n := 25) (s_x) (
  p_cc (n := 26) (s_x) (
  p_cc (n := 27) (s_is1 K dX7_leave_27 rfl) (
  p_cc (n := 28) (s_il1 K dX7_leave_28 rfl) (
  p_cc (n := 29) (s_ne0 K dX7_leave_29 rfl) (
  p_cc (n := 30) (s_x) (
  p_cc (n := 31) (s_x) (
  p_cc (n := 32) (s_il1 K dX7_leave_32 rfl) (
  p_cc (n := 33) (cS_J6_bitCount K dX7_leave_33 w_m_RX7_209) (
  p_cc (n := 34) (s_x) (
  p_cc (n := 35) (s_x) (
  p_cc (n := 36) (s_goto K dX7_leave_36 rfl) (
  p_cc (n := 37) (s_x) (
  p_cc (n := 38) (s_x) (
  p_cc (n := 39) (s_il1 K dX7_leave_39 rfl) (
  p_cc (n := 40) (s_ir K dX7_leave_40 hr hk) (p_cn))))))))))))))))))))))))))))))))))))))))))
set_option maxRecDepth 100000 in
set_option maxHeartbeats 4000000 in
theorem cl_X7_holds {b : Bool} {w : pW} {p : Program} {l : Launch} {e : Env} {R : Room} {s : State} {m : MethodId} {args : Array Value} {below : List Frame} {meth : Method} {c : Code} {cells slots : Nat} {d : Nat} {Q : pQ} (K : q_X b w p s m args c RX7 cX7_holds 7 R d cells slots) (hr : meth.sig.returnType = (some .int)) (hk : meth.locks = false) : p_Cl b (q_C l b w) tb_X7_holds d Q (q_Z b w p l e R s m args below meth c 7 cells slots (MQ below (q_Qc b w Q) args s cells slots (q_A b w))) := p_c0 (
  p_cc (n := 0) (s_al1 K dX7_holds_0 rfl) (
  p_cc (n := 1) (s_gr (host := "") K dX7_holds_1 (hc := rfl) (by decide) rfl inX7 (by decide) w_f_RX7_19 rfl) (
  p_cc (n := 2) (s_x) (
  p_cc (n := 3) (s_x) (
  p_cc (n := 4) (s_il1 K dX7_holds_4 rfl) (
  p_cc (n := 5) (cVN_X2_isTeller K dX7_holds_5 w_m_RX7_101) (
  p_cc (n := 6) (s_x) (
  p_cc (n := 7) (s_x) (
  p_cc (n := 8) (s_eq0 K dX7_holds_8 rfl) (
  p_cc (n := 9) (s_x) (
  p_cc (n := 10) (s_x) (
  p_cc (n := 11) (s_il1 K dX7_holds_11 rfl) (
  p_cc (n := 12) (s_ic1 K dX7_holds_12 rfl) (
  p_cc (n := 13) (s_ic1 K dX7_holds_13 rfl) (
  p_cc (n := 14) (cS_X7_within K dX7_holds_14 w_m_RX7_82) (
  p_cc (n := 15) (s_x) (
  p_cc (n := 16) (s_x) (
  p_cc (n := 17) (s_ne0 K dX7_holds_17 rfl) (
  p_cc (n := 18) (s_x) (
  p_cc (n := 19) (s_x) (
  p_cc (n := 20) (s_ic1 K dX7_holds_20 rfl) (
  p_cc (n := 21) (s_ir K dX7_holds_21 hr hk) (
  p_cc (n := 22) (s_ic1 K dX7_holds_22 rfl) (
  p_cc (n := 23) (s_is1 K dX7_holds_23 rfl) (
  p_cc (n := 24) (s_ic2 K dX7_holds_24 rfl) (
  p_cc (n := 25) (s_x) (
  p_cc (n := 26) (s_is2 K dX7_holds_26) (
  p_cc (n := 27) (s_x) (
  p_cc (n := 28) (s_ic1 K dX7_holds_28 rfl) (
  p_cc (n := 29) (s_is2 K dX7_holds_29) (
  p_cc (n := 30) (s_x) (
  p_cc (n := 31) (s_il2 K dX7_holds_31) (
  p_cc (n := 32) (s_x) (
  p_cc (n := 33) (s_al1 K dX7_holds_33 rfl) (
  p_cc (n := 34) (s_gr (host := "") K dX7_holds_34 (hc := rfl) (by decide) rfl inX7 (by decide) w_f_RX7_19 rfl) (
  p_cc (n := 35) (s_x) (
  p_cc (n := 36) (s_x) (
  p_cc (n := 37) (s_giN K dX7_holds_37 (hc := rfl) (by decide) rfl inX2 (by decide) w_f_RX7_89 rfl) (
  p_cc (n := 38) (s_x) (
  p_cc (n := 39) (s_x) (
  p_cc (n := 40) (s_ige K dX7_holds_40 rfl) (
  p_cc (n := 41) (s_x) (
  p_cc (n := 42) (s_x) (
  p_cc (n := 43) (s_al1 K dX7_holds_43 rfl) (
  p_cc (n := 44) (s_il1 K dX7_holds_44 rfl) (
  p_cc (n := 45) (s_il2 K dX7_holds_45) (
  p_cc (n := 46) (s_x) (
  p_cc (n := 47) (cV_X7_goneIfHeldBy K dX7_holds_47 w_m_RX7_214) (
  p_cc (n := 48) (s_x) (
  p_cc (n := 49) (s_x) (
  p_cc (n := 50) (s_is2 K dX7_holds_50) (
  p_cc (n := 51) (s_x) (
  p_cc (n := 52) (s_il2 K dX7_holds_52) (
  p_cc (n := 53) (s_x) (
  p_cc (n := 54) (s_il2 K dX7_holds_54) (
  p_cc (n := 55) (s_x) (
  p_cc (n := 56) (s_ige K dX7_holds_56 rfl) (
  p_cc (n := 57) (s_x) (
  p_cc (n := 58) (s_x) (
  p_cc (n := 59) (s_il2 K dX7_holds_59) (
  p_cc (n := 60) (s_x) (
  p_cc (n := 61) (s_is1 K dX7_holds_61 rfl) (
  p_cc (n := 62) (s_il2 K dX7_holds_62) (
  p_cc (n := 63) (s_x) (
  p_cc (n := 64) (s_is2 K dX7_holds_64) (
  p_cc (n := 65) (s_x) (
  p_cc (n := 66) (s_ii K dX7_holds_66 rfl) (
  p_cc (n := 67) (s_x) (
  p_cc (n := 68) (s_x) (
  p_cc (n := 69) (s_goto K dX7_holds_69 rfl) (
  p_cc (n := 70) (s_x) (
  p_cc (n := 71) (s_x) (
  p_cc (n := 72) (s_il1 K dX7_holds_72 rfl) (
  p_cc (n := 73) (s_ne0 K dX7_holds_73 rfl) (
  p_cc (n := 74) (s_x) (
  p_cc (n := 75) (s_x) (
  p_cc (n := 76) (s_il1 K dX7_holds_76 rfl) (
  p_cc (n := 77) (s_goto K dX7_holds_77 rfl) (
  p_cc (n := 78) (s_x) (
  p_cc (n := 79) (s_x) (
  p_cc (n := 80) (s_il2 K dX7_holds_80) (
  p_cc (n := 81) (s_x) (
  p_cc (n := 82) (s_ir K dX7_holds_82 hr hk) (p_cn))))))))))))))))))))))))))))))))))))))))))))))))))))))))))))))))))))))))))))))))))))
set_option maxRecDepth 100000 in
set_option maxHeartbeats 4000000 in
theorem cl_X7_seen {b : Bool} {w : pW} {p : Program} {l : Launch} {e : Env} {R : Room} {s : State} {m : MethodId} {args : Array Value} {below : List Frame} {meth : Method} {c : Code} {cells slots : Nat} {d : Nat} {Q : pQ} (K : q_X b w p s m args c RX7 cX7_seen 3 R d cells slots) (hr : meth.sig.returnType = (some .int)) (hk : meth.locks = false) : p_Cl b (q_C l b w) tb_X7_seen d Q (q_Z b w p l e R s m args below meth c 3 cells slots (MQ below (q_Qc b w Q) args s cells slots (q_A b w))) := p_c0 (
  p_cc (n := 0) (s_al1 K dX7_seen_0 rfl) (
  p_cc (n := 1) (s_gr (host := "") K dX7_seen_1 (hc := rfl) (by decide) rfl inX7 (by decide) w_f_RX7_19 rfl) (
  p_cc (n := 2) (s_x) (
  p_cc (n := 3) (s_x) (
  p_cc (n := 4) (s_il1 K dX7_seen_4 rfl) (
  p_cc (n := 5) (cVN_X2_isTeller K dX7_seen_5 w_m_RX7_101) (
  p_cc (n := 6) (s_x) (
  p_cc (n := 7) (s_x) (
  p_cc (n := 8) (s_eq0 K dX7_seen_8 rfl) (
  p_cc (n := 9) (s_x) (
  p_cc (n := 10) (s_x) (
  p_cc (n := 11) (s_il1 K dX7_seen_11 rfl) (
  p_cc (n := 12) (s_ic1 K dX7_seen_12 rfl) (
  p_cc (n := 13) (s_ic2 K dX7_seen_13 rfl) (
  p_cc (n := 14) (s_x) (
  p_cc (n := 15) (cS_X7_within K dX7_seen_15 w_m_RX7_82) (
  p_cc (n := 16) (s_x) (
  p_cc (n := 17) (s_x) (
  p_cc (n := 18) (s_ne0 K dX7_seen_18 rfl) (
  p_cc (n := 19) (s_x) (
  p_cc (n := 20) (s_x) (
  p_cc (n := 21) (s_ic1 K dX7_seen_21 rfl) (
  p_cc (n := 22) (s_ir K dX7_seen_22 hr hk) (
  p_cc (n := 23) (s_al1 K dX7_seen_23 rfl) (
  p_cc (n := 24) (s_gr (host := "") K dX7_seen_24 (hc := rfl) (by decide) rfl inX7 (by decide) w_f_RX7_43 rfl) (
  p_cc (n := 25) (s_x) (
  p_cc (n := 26) (s_x) (
  p_cc (n := 27) (s_il1 K dX7_seen_27 rfl) (
  p_cc (n := 28) (s_il1 K dX7_seen_28 rfl) (
  p_cc (n := 29) (cVN_X5_note K dX7_seen_29 w_m_RX7_217) (
  p_cc (n := 30) (s_x) (
  p_cc (n := 31) (s_x) (
  p_cc (n := 32) (s_eq0 K dX7_seen_32 rfl) (
  p_cc (n := 33) (s_x) (
  p_cc (n := 34) (s_x) (
  p_cc (n := 35) (s_al1 K dX7_seen_35 rfl) (
  p_cc (n := 36) (s_gr (host := "") K dX7_seen_36 (hc := rfl) (by decide) rfl inX7 (by decide) w_f_RX7_43 rfl) (
  p_cc (n := 37) (s_x) (
  p_cc (n := 38) (s_x) (
  p_cc (n := 39) (s_giN K dX7_seen_39 (hc := rfl) (by decide) rfl inX5 (by decide) w_f_RX7_221 rfl) (
  p_cc (n := 40) (s_x) (
  p_cc (n := 41) (s_x) (
  p_cc (n := 42) (s_goto K dX7_seen_42 rfl) (
  p_cc (n := 43) (s_x) (
  p_cc (n := 44) (s_x) (
  p_cc (n := 45) (s_ic2 K dX7_seen_45 rfl) (
  p_cc (n := 46) (s_x) (
  p_cc (n := 47) (s_ir K dX7_seen_47 hr hk) (p_cn)))))))))))))))))))))))))))))))))))))))))))))))))
set_option maxRecDepth 100000 in
set_option maxHeartbeats 4000000 in
theorem cl_X7_forget {b : Bool} {w : pW} {p : Program} {l : Launch} {e : Env} {R : Room} {s : State} {m : MethodId} {args : Array Value} {below : List Frame} {meth : Method} {c : Code} {cells slots : Nat} {d : Nat} {Q : pQ} (K : q_X b w p s m args c RX7 cX7_forget 2 R d cells slots) (hr : meth.sig.returnType = (some .int)) (hk : meth.locks = false) : p_Cl b (q_C l b w) tb_X7_forget d Q (q_Z b w p l e R s m args below meth c 2 cells slots (MQ below (q_Qc b w Q) args s cells slots (q_A b w))) := p_c0 (
  p_cc (n := 0) (s_al1 K dX7_forget_0 rfl) (
  p_cc (n := 1) (s_gr (host := "") K dX7_forget_1 (hc := rfl) (by decide) rfl inX7 (by decide) w_f_RX7_43 rfl) (
  p_cc (n := 2) (s_x) (
  p_cc (n := 3) (s_x) (
  p_cc (n := 4) (s_giN K dX7_forget_4 (hc := rfl) (by decide) rfl inX5 (by decide) w_f_RX7_221 rfl) (
  p_cc (n := 5) (s_x) (
  p_cc (n := 6) (s_x) (
  p_cc (n := 7) (s_is1 K dX7_forget_7 rfl) (
  p_cc (n := 8) (s_al1 K dX7_forget_8 rfl) (
  p_cc (n := 9) (s_gr (host := "") K dX7_forget_9 (hc := rfl) (by decide) rfl inX7 (by decide) w_f_RX7_43 rfl) (
  p_cc (n := 10) (s_x) (
  p_cc (n := 11) (s_x) (
  p_cc (n := 12) (cVN_X5_clear K dX7_forget_12 w_m_RX7_99) (
  p_cc (n := 13) (s_x) (
  p_cc (n := 14) (s_x) (
  p_cc (n := 15) (s_il1 K dX7_forget_15 rfl) (
  p_cc (n := 16) (s_ir K dX7_forget_16 hr hk) (p_cn))))))))))))))))))
set_option maxRecDepth 100000 in
set_option maxHeartbeats 4000000 in
theorem cl_X7_worlds {b : Bool} {w : pW} {p : Program} {l : Launch} {e : Env} {R : Room} {s : State} {m : MethodId} {args : Array Value} {below : List Frame} {meth : Method} {c : Code} {cells slots : Nat} {d : Nat} {Q : pQ} (K : q_X b w p s m args c RX7 cX7_worlds 4 R d cells slots) (hr : meth.sig.returnType = (some .int)) (hk : meth.locks = false) : p_Cl b (q_C l b w) tb_X7_worlds d Q (q_Z b w p l e R s m args below meth c 4 cells slots (MQ below (q_Qc b w Q) args s cells slots (q_A b w))) := p_c0 (
  p_cc (n := 0) (s_il1 K dX7_worlds_0 rfl) (
  p_cc (n := 1) (s_ic1 K dX7_worlds_1 rfl) (
  p_cc (n := 2) (s_ic1 K dX7_worlds_2 rfl) (
  p_cc (n := 3) (cS_X7_within K dX7_worlds_3 w_m_RX7_82) (
  p_cc (n := 4) (s_x) (
  p_cc (n := 5) (s_x) (
  p_cc (n := 6) (s_ne0 K dX7_worlds_6 rfl) (
  p_cc (n := 7) (s_x) (
  p_cc (n := 8) (s_x) (
  p_cc (n := 9) (s_ic1 K dX7_worlds_9 rfl) (
  p_cc (n := 10) (s_ir K dX7_worlds_10 hr hk) (
  p_cc (n := 11) (s_al1 K dX7_worlds_11 rfl) (
  p_cc (n := 12) (cV_X7_fittingWorlds K dX7_worlds_12 w_m_RX7_222) (
  p_cc (n := 13) (s_x) (
  p_cc (n := 14) (s_x) (
  p_cc (n := 15) (s_lst1 K dX7_worlds_15 rfl) (
  p_cc (n := 16) (s_il1 K dX7_worlds_16 rfl) (
  p_cc (n := 17) (s_ne0 K dX7_worlds_17 rfl) (
  p_cc (n := 18) (s_x) (
  p_cc (n := 19) (s_x) (
  p_cc (n := 20) (s_ll1 K dX7_worlds_20 rfl) (
  p_cc (n := 21) (cS_J13_bitCount K dX7_worlds_21 w_m_RX7_226) (
  p_cc (n := 22) (s_x) (
  p_cc (n := 23) (s_x) (
  p_cc (n := 24) (s_ir K dX7_worlds_24 hr hk) (
  p_cc (n := 25) (s_ll1 K dX7_worlds_25 rfl) (
  p_cc (n := 26) (s_lc K dX7_worlds_26 rfl) (
  p_cc (n := 27) (s_lcmp K dX7_worlds_27) (
  p_cc (n := 28) (s_ne0 K dX7_worlds_28 rfl) (
  p_cc (n := 29) (s_x) (
  p_cc (n := 30) (s_x) (
  p_cc (n := 31) (s_ic2 K dX7_worlds_31 rfl) (
  p_cc (n := 32) (s_x) (
  p_cc (n := 33) (s_ir K dX7_worlds_33 hr hk) (
  p_cc (n := 34) (s_il1 K dX7_worlds_34 rfl) (
  p_cc (n := 35) (s_lswB K dX7_worlds_35 (by decide +kernel) rfl (by decide +kernel) rfl) (
  p_cc (n := 36) (s_x) (
  p_cc (n := 37) (s_x) (
  p_cc (n := 38) (s_x) (
  p_cc (n := 39) (s_x) (
  p_cc (n := 40) (s_x) (
  p_cc (n := 41) (s_x) (
  p_cc (n := 42) (s_x) (
  p_cc (n := 43) (s_x) (
  p_cc (n := 44) (s_x) (
  p_cc (n := 45) (s_x) (
  p_cc (n := 46) (s_x) (
  p_cc (n := 47) (s_x) (
  p_cc (n := 48) (s_x) (
  p_cc (n := 49) (s_x) (
  p_cc (n := 50) (s_x) (
  p_cc (n := 51) (s_x) (
  p_cc (n := 52) (s_x) (
  p_cc (n := 53) (s_x) (
  p_cc (n := 54) (s_x) (
  p_cc (n := 55) (s_x) (
  p_cc (n := 56) (s_x) (
  p_cc (n := 57) (s_x) (
  p_cc (n := 58) (s_x) (
  p_cc (n := 59) (s_x) (
  p_cc (n := 60) (s_al1 K dX7_worlds_60 rfl) (
  p_cc (n := 61) (s_ll1 K dX7_worlds_61 rfl) (
  p_cc (n := 62) (cV_X7_lowestWorld K dX7_worlds_62 w_m_RX7_231) (
  p_cc (n := 63) (s_x) (
  p_cc (n := 64) (s_x) (
  p_cc (n := 65) (s_ir K dX7_worlds_65 hr hk) (
  p_cc (n := 66) (s_al1 K dX7_worlds_66 rfl) (
  p_cc (n := 67) (s_ll1 K dX7_worlds_67 rfl) (
  p_cc (n := 68) (s_ic1 K dX7_worlds_68 rfl) (
  p_cc (n := 69) (cV_X7_sureFacts K dX7_worlds_69 w_m_RX7_234) (
  p_cc (n := 70) (s_x) (
  p_cc (n := 71) (s_x) (
  p_cc (n := 72) (s_ir K dX7_worlds_72 hr hk) (
  p_cc (n := 73) (s_al1 K dX7_worlds_73 rfl) (
  p_cc (n := 74) (s_ll1 K dX7_worlds_74 rfl) (
  p_cc (n := 75) (s_al1 K dX7_worlds_75 rfl) (
  p_cc (n := 76) (s_gr (host := "") K dX7_worlds_76 (hc := rfl) (by decide) rfl inX7 (by decide) w_f_RX7_19 rfl) (
  p_cc (n := 77) (s_x) (
  p_cc (n := 78) (s_x) (
  p_cc (n := 79) (cVN_X2_worldCount K dX7_worlds_79 w_m_RX7_238) (
  p_cc (n := 80) (s_x) (
  p_cc (n := 81) (s_x) (
  p_cc (n := 82) (s_ic1 K dX7_worlds_82 rfl) (
  p_cc (n := 83) (s_sub K dX7_worlds_83) (
  p_cc (n := 84) (cV_X7_sureFacts K dX7_worlds_84 w_m_RX7_234) (
  p_cc (n := 85) (s_x) (
  p_cc (n := 86) (s_x) (
  p_cc (n := 87) (s_ir K dX7_worlds_87 hr hk) (p_cn)))))))))))))))))))))))))))))))))))))))))))))))))))))))))))))))))))))))))))))))))))))))))
set_option maxRecDepth 100000 in
set_option maxHeartbeats 4000000 in
theorem cl_X7_next {b : Bool} {w : pW} {p : Program} {l : Launch} {e : Env} {R : Room} {s : State} {m : MethodId} {args : Array Value} {below : List Frame} {meth : Method} {c : Code} {cells slots : Nat} {d : Nat} {Q : pQ} (K : q_X b w p s m args c RX7 cX7_next 10 R d cells slots) (hr : meth.sig.returnType = (some .int)) (hk : meth.locks = false) : p_Cl b (q_C l b w) tb_X7_next d Q (q_Z b w p l e R s m args below meth c 10 cells slots (MQ below (q_Qc b w Q) args s cells slots (q_A b w))) := p_c0 (
  p_cc (n := 0) (s_al1 K dX7_next_0 rfl) (
  p_cc (n := 1) (s_gr (host := "") K dX7_next_1 (hc := rfl) (by decide) rfl inX7 (by decide) w_f_RX7_19 rfl) (
  p_cc (n := 2) (s_x) (
  p_cc (n := 3) (s_x) (
  p_cc (n := 4) (s_il1 K dX7_next_4 rfl) (
  p_cc (n := 5) (cVN_X2_isTeller K dX7_next_5 w_m_RX7_101) (
  p_cc (n := 6) (s_x) (
  p_cc (n := 7) (s_x) (
  p_cc (n := 8) (s_eq0 K dX7_next_8 rfl) (
  p_cc (n := 9) (s_x) (
  p_cc (n := 10) (s_x) (
  p_cc (n := 11) (s_il1 K dX7_next_11 rfl) (
  p_cc (n := 12) (s_ic1 K dX7_next_12 rfl) (
  p_cc (n := 13) (s_ic2 K dX7_next_13 rfl) (
  p_cc (n := 14) (s_x) (
  p_cc (n := 15) (cS_X7_within K dX7_next_15 w_m_RX7_82) (
  p_cc (n := 16) (s_x) (
  p_cc (n := 17) (s_x) (
  p_cc (n := 18) (s_ne0 K dX7_next_18 rfl) (
  p_cc (n := 19) (s_x) (
  p_cc (n := 20) (s_x) (
  p_cc (n := 21) (s_ic1 K dX7_next_21 rfl) (
  p_cc (n := 22) (s_ir K dX7_next_22 hr hk) (
  p_cc (n := 23) (s_al1 K dX7_next_23 rfl) (
  p_cc (n := 24) (cV_X7_fittingWorlds K dX7_next_24 w_m_RX7_222) (
  p_cc (n := 25) (s_x) (
  p_cc (n := 26) (s_x) (
  p_cc (n := 27) (s_lst1 K dX7_next_27 rfl) (
  p_cc (n := 28) (s_al1 K dX7_next_28 rfl) (
  p_cc (n := 29) (s_gr (host := "") K dX7_next_29 (hc := rfl) (by decide) rfl inX7 (by decide) w_f_RX7_19 rfl) (
  p_cc (n := 30) (s_x) (
  p_cc (n := 31) (s_x) (
  p_cc (n := 32) (s_giN K dX7_next_32 (hc := rfl) (by decide) rfl inX2 (by decide) w_f_RX7_153 rfl) (
  p_cc (n := 33) (s_x) (
  p_cc (n := 34) (s_x) (
  p_cc (n := 35) (s_ic2 K dX7_next_35 rfl) (
  p_cc (n := 36) (s_x) (
  p_cc (n := 37) (s_ige K dX7_next_37 rfl) (
  p_cc (n := 38) (s_x) (
  p_cc (n := 39) (s_x) (
  p_cc (n := 40) (s_ll1 K dX7_next_40 rfl) (
  p_cc (n := 41) (s_lc K dX7_next_41 rfl) (
  p_cc (n := 42) (s_lcmp K dX7_next_42) (
  p_cc (n := 43) (s_ne0 K dX7_next_43 rfl) (
  p_cc (n := 44) (s_x) (
  p_cc (n := 45) (s_x) (
  p_cc (n := 46) (s_ic2 K dX7_next_46 rfl) (
  p_cc (n := 47) (s_x) (
  p_cc (n := 48) (s_ir K dX7_next_48 hr hk) (
  p_cc (n := 49) (s_ic2 K dX7_next_49 rfl) (
  p_cc (n := 50) (s_x) (
  p_cc (n := 51) (s_is2 K dX7_next_51) (
  p_cc (n := 52) (s_x) (
  p_cc (n := 53) (s_al1 K dX7_next_53 rfl) (
  p_cc (n := 54) (s_gr (host := "") K dX7_next_54 (hc := rfl) (by decide) rfl inX7 (by decide) w_f_RX7_19 rfl) (
  p_cc (n := 55) (s_x) (
  p_cc (n := 56) (s_x) (
  p_cc (n := 57) (cVN_X2_worldCount K dX7_next_57 w_m_RX7_238) (
  p_cc (n := 58) (s_x) (
  p_cc (n := 59) (s_x) (
  p_cc (n := 60) (s_ic1 K dX7_next_60 rfl) (
  p_cc (n := 61) (s_add K dX7_next_61) (
  p_cc (n := 62) (s_is2 K dX7_next_62) (
  p_cc (n := 63) (s_x) (
  p_cc (n := 64) (s_ic1 K dX7_next_64 rfl) (
  p_cc (n := 65) (s_is2 K dX7_next_65) (
  p_cc (n := 66) (s_x) (
  p_cc (n := 67) (s_il2 K dX7_next_67) (
  p_cc (n := 68) (s_x) (
  p_cc (n := 69) (s_al1 K dX7_next_69 rfl) (
  p_cc (n := 70) (s_gr (host := "") K dX7_next_70 (hc := rfl) (by decide) rfl inX7 (by decide) w_f_RX7_19 rfl) (
  p_cc (n := 71) (s_x) (
  p_cc (n := 72) (s_x) (
  p_cc (n := 73) (s_giN K dX7_next_73 (hc := rfl) (by decide) rfl inX2 (by decide) w_f_RX7_92 rfl) (
  p_cc (n := 74) (s_x) (
  p_cc (n := 75) (s_x) (
  p_cc (n := 76) (s_ige K dX7_next_76 rfl) (
  p_cc (n := 77) (s_x) (
  p_cc (n := 78) (s_x) (
  p_cc (n := 79) (s_al1 K dX7_next_79 rfl) (
  p_cc (n := 80) (s_ll1 K dX7_next_80 rfl) (
  p_cc (n := 81) (s_il1 K dX7_next_81 rfl) (
  p_cc (n := 82) (s_il2 K dX7_next_82) (
  p_cc (n := 83) (s_x) (
  p_cc (n := 84) (s_il1 K dX7_next_84 rfl) (
  p_cc (n := 85) (cV_X7_worldsOfDrop K dX7_next_85 w_m_RX7_241) (
  p_cc (n := 86) (s_x) (
  p_cc (n := 87) (s_x) (
  p_cc (n := 88) (s_is2 K dX7_next_88) (
  p_cc (n := 89) (s_x) (
  p_cc (n := 90) (s_il2 K dX7_next_90) (
  p_cc (n := 91) (s_x) (
  p_cc (n := 92) (s_ll1 K dX7_next_92 rfl) (
  p_cc (n := 93) (cS_J13_bitCount K dX7_next_93 w_m_RX7_226) (
  p_cc (n := 94) (s_x) (
  p_cc (n := 95) (s_x) (
  p_cc (n := 96) (s_il2 K dX7_next_96) (
  p_cc (n := 97) (s_x) (
  p_cc (n := 98) (s_sub K dX7_next_98) (
  p_cc (n := 99) (s_mmax K dX7_next_99 w_m_RX7_245 w_s_mmax w_I_Math w_c_mmax) (
  p_cc (n := 100) (s_x) (
  p_cc (n := 101) (s_x) (
  p_cc (n := 102) (s_is2 K dX7_next_102) (
  p_cc (n := 103) (s_x) (
  p_cc (n := 104) (s_il2 K dX7_next_104) (
  p_cc (n := 105) (s_x) (
  p_cc (n := 106) (s_il2 K dX7_next_106) (
  p_cc (n := 107) (s_x) (
  p_cc (n := 108) (s_ige K dX7_next_108 rfl) (
  p_cc (n := 109) (s_x) (
  p_cc (n := 110) (s_x) (
  p_cc (n := 111) (s_il2 K dX7_next_111) (
  p_cc (n := 112) (s_x) (
  p_cc (n := 113) (s_is2 K dX7_next_113) (
  p_cc (n := 114) (s_x) (
  p_cc (n := 115) (s_il2 K dX7_next_115) (
  p_cc (n := 116) (s_x) (
  p_cc (n := 117) (s_is2 K dX7_next_117) (
  p_cc (n := 118) (s_x) (
  p_cc (n := 119) (s_ii K dX7_next_119 rfl) (
  p_cc (n := 120) (s_x) (
  p_cc (n := 121) (s_x) (
  p_cc (n := 122) (s_goto K dX7_next_122 rfl) (
  p_cc (n := 123) (s_x) (
  p_cc (n := 124) (s_x) (
  p_cc (n := 125) (s_il2 K dX7_next_125) (
  p_cc (n := 126) (s_x) (
  p_cc (n := 127) (s_ir K dX7_next_127 hr hk) (p_cn)))))))))))))))))))))))))))))))))))))))))))))))))))))))))))))))))))))))))))))))))))))))))))))))))))))))))))))))))))))))))))))))))
set_option maxRecDepth 100000 in
set_option maxHeartbeats 4000000 in
theorem cl_X7_kinds {b : Bool} {w : pW} {p : Program} {l : Launch} {e : Env} {R : Room} {s : State} {m : MethodId} {args : Array Value} {below : List Frame} {meth : Method} {c : Code} {cells slots : Nat} {d : Nat} {Q : pQ} (K : q_X b w p s m args c RX7 cX7_kinds 4 R d cells slots) (hr : meth.sig.returnType = (some .int)) (hk : meth.locks = false) : p_Cl b (q_C l b w) tb_X7_kinds d Q (q_Z b w p l e R s m args below meth c 4 cells slots (MQ below (q_Qc b w Q) args s cells slots (q_A b w))) := p_c0 (
  p_cc (n := 0) (s_al1 K dX7_kinds_0 rfl) (
  p_cc (n := 1) (s_gr (host := "") K dX7_kinds_1 (hc := rfl) (by decide) rfl inX7 (by decide) w_f_RX7_19 rfl) (
  p_cc (n := 2) (s_x) (
  p_cc (n := 3) (s_x) (
  p_cc (n := 4) (s_il1 K dX7_kinds_4 rfl) (
  p_cc (n := 5) (cVN_X2_isTeller K dX7_kinds_5 w_m_RX7_101) (
  p_cc (n := 6) (s_x) (
  p_cc (n := 7) (s_x) (
  p_cc (n := 8) (s_ne0 K dX7_kinds_8 rfl) (
  p_cc (n := 9) (s_x) (
  p_cc (n := 10) (s_x) (
  p_cc (n := 11) (s_ic1 K dX7_kinds_11 rfl) (
  p_cc (n := 12) (s_ir K dX7_kinds_12 hr hk) (
  p_cc (n := 13) (s_al1 K dX7_kinds_13 rfl) (
  p_cc (n := 14) (s_gr (host := "") K dX7_kinds_14 (hc := rfl) (by decide) rfl inX7 (by decide) w_f_RX7_23 rfl) (
  p_cc (n := 15) (s_x) (
  p_cc (n := 16) (s_x) (
  p_cc (n := 17) (s_al1 K dX7_kinds_17 rfl) (
  p_cc (n := 18) (s_gr (host := "") K dX7_kinds_18 (hc := rfl) (by decide) rfl inX7 (by decide) w_f_RX7_19 rfl) (
  p_cc (n := 19) (s_x) (
  p_cc (n := 20) (s_x) (
  p_cc (n := 21) (cVN_X2_copyFrom K dX7_kinds_21 w_m_RX7_95) (
  p_cc (n := 22) (s_x) (
  p_cc (n := 23) (s_x) (
  p_cc (n := 24) (s_ic1 K dX7_kinds_24 rfl) (
  p_cc (n := 25) (s_is1 K dX7_kinds_25 rfl) (
  p_cc (n := 26) (s_ic1 K dX7_kinds_26 rfl) (
  p_cc (n := 27) (s_is1 K dX7_kinds_27 rfl) (
  p_cc (n := 28) (s_il1 K dX7_kinds_28 rfl) (
  p_cc (n := 29) (s_ic1 K dX7_kinds_29 rfl) (
  p_cc (n := 30) (s_igt K dX7_kinds_30 rfl) (
  p_cc (n := 31) (s_x) (
  p_cc (n := 32) (s_x) (
  p_cc (n := 33) (s_al1 K dX7_kinds_33 rfl) (
  p_cc (n := 34) (s_gr (host := "") K dX7_kinds_34 (hc := rfl) (by decide) rfl inX7 (by decide) w_f_RX7_23 rfl) (
  p_cc (n := 35) (s_x) (
  p_cc (n := 36) (s_x) (
  p_cc (n := 37) (s_grN K dX7_kinds_37 (hc := rfl) (by decide) rfl inX2 (by decide) w_f_RX7_104 rfl) (
  p_cc (n := 38) (s_x) (
  p_cc (n := 39) (s_x) (
  p_cc (n := 40) (s_il1 K dX7_kinds_40 rfl) (
  p_cc (n := 41) (s_il1 K dX7_kinds_41 rfl) (
  p_cc (n := 42) (cS_X7_put K dX7_kinds_42 w_m_RX7_166) (
  p_cc (n := 43) (s_x) (
  p_cc (n := 44) (s_x) (
  p_cc (n := 45) (s_al1 K dX7_kinds_45 rfl) (
  p_cc (n := 46) (s_al1 K dX7_kinds_46 rfl) (
  p_cc (n := 47) (s_gr (host := "") K dX7_kinds_47 (hc := rfl) (by decide) rfl inX7 (by decide) w_f_RX7_23 rfl) (
  p_cc (n := 48) (s_x) (
  p_cc (n := 49) (s_x) (
  p_cc (n := 50) (cV_X7_fits K dX7_kinds_50 w_m_RX7_250) (
  p_cc (n := 51) (s_x) (
  p_cc (n := 52) (s_x) (
  p_cc (n := 53) (s_eq0 K dX7_kinds_53 rfl) (
  p_cc (n := 54) (s_x) (
  p_cc (n := 55) (s_x) (
  p_cc (n := 56) (s_il1 K dX7_kinds_56 rfl) (
  p_cc (n := 57) (s_ic1 K dX7_kinds_57 rfl) (
  p_cc (n := 58) (s_il1 K dX7_kinds_58 rfl) (
  p_cc (n := 59) (s_shl K dX7_kinds_59) (
  p_cc (n := 60) (s_or K dX7_kinds_60) (
  p_cc (n := 61) (s_is1 K dX7_kinds_61 rfl) (
  p_cc (n := 62) (s_ii K dX7_kinds_62 rfl) (
  p_cc (n := 63) (s_x) (
  p_cc (n := 64) (s_x) (
  p_cc (n := 65) (s_goto K dX7_kinds_65 rfl) (
  p_cc (n := 66) (s_x) (
  p_cc (n := 67) (s_x) (
  p_cc (n := 68) (s_il1 K dX7_kinds_68 rfl) (
  p_cc (n := 69) (s_ir K dX7_kinds_69 hr hk) (p_cn)))))))))))))))))))))))))))))))))))))))))))))))))))))))))))))))))))))))
set_option maxRecDepth 100000 in
set_option maxHeartbeats 4000000 in
theorem cl_X7_grips {b : Bool} {w : pW} {p : Program} {l : Launch} {e : Env} {R : Room} {s : State} {m : MethodId} {args : Array Value} {below : List Frame} {meth : Method} {c : Code} {cells slots : Nat} {d : Nat} {Q : pQ} (K : q_X b w p s m args c RX7 cX7_grips 6 R d cells slots) (hr : meth.sig.returnType = (some .int)) (hk : meth.locks = false) : p_Cl b (q_C l b w) tb_X7_grips d Q (q_Z b w p l e R s m args below meth c 6 cells slots (MQ below (q_Qc b w Q) args s cells slots (q_A b w))) := p_c0 (
  p_cc (n := 0) (s_al1 K dX7_grips_0 rfl) (
  p_cc (n := 1) (s_gr (host := "") K dX7_grips_1 (hc := rfl) (by decide) rfl inX7 (by decide) w_f_RX7_19 rfl) (
  p_cc (n := 2) (s_x) (
  p_cc (n := 3) (s_x) (
  p_cc (n := 4) (s_il1 K dX7_grips_4 rfl) (
  p_cc (n := 5) (cVN_X2_isTeller K dX7_grips_5 w_m_RX7_101) (
  p_cc (n := 6) (s_x) (
  p_cc (n := 7) (s_x) (
  p_cc (n := 8) (s_eq0 K dX7_grips_8 rfl) (
  p_cc (n := 9) (s_x) (
  p_cc (n := 10) (s_x) (
  p_cc (n := 11) (s_il1 K dX7_grips_11 rfl) (
  p_cc (n := 12) (s_ic1 K dX7_grips_12 rfl) (
  p_cc (n := 13) (s_ic1 K dX7_grips_13 rfl) (
  p_cc (n := 14) (cS_X7_within K dX7_grips_14 w_m_RX7_82) (
  p_cc (n := 15) (s_x) (
  p_cc (n := 16) (s_x) (
  p_cc (n := 17) (s_ne0 K dX7_grips_17 rfl) (
  p_cc (n := 18) (s_x) (
  p_cc (n := 19) (s_x) (
  p_cc (n := 20) (s_ic1 K dX7_grips_20 rfl) (
  p_cc (n := 21) (s_ir K dX7_grips_21 hr hk) (
  p_cc (n := 22) (s_al1 K dX7_grips_22 rfl) (
  p_cc (n := 23) (s_gr (host := "") K dX7_grips_23 (hc := rfl) (by decide) rfl inX7 (by decide) w_f_RX7_23 rfl) (
  p_cc (n := 24) (s_x) (
  p_cc (n := 25) (s_x) (
  p_cc (n := 26) (s_al1 K dX7_grips_26 rfl) (
  p_cc (n := 27) (s_gr (host := "") K dX7_grips_27 (hc := rfl) (by decide) rfl inX7 (by decide) w_f_RX7_19 rfl) (
  p_cc (n := 28) (s_x) (
  p_cc (n := 29) (s_x) (
  p_cc (n := 30) (cVN_X2_copyFrom K dX7_grips_30 w_m_RX7_95) (
  p_cc (n := 31) (s_x) (
  p_cc (n := 32) (s_x) (
  p_cc (n := 33) (s_ic1 K dX7_grips_33 rfl) (
  p_cc (n := 34) (s_is1 K dX7_grips_34 rfl) (
  p_cc (n := 35) (s_ic2 K dX7_grips_35 rfl) (
  p_cc (n := 36) (s_x) (
  p_cc (n := 37) (s_is2 K dX7_grips_37) (
  p_cc (n := 38) (s_x) (
  p_cc (n := 39) (s_ic2 K dX7_grips_39 rfl) (
  p_cc (n := 40) (s_x) (
  p_cc (n := 41) (s_is2 K dX7_grips_41) (
  p_cc (n := 42) (s_x) (
  p_cc (n := 43) (s_il2 K dX7_grips_43) (
  p_cc (n := 44) (s_x) (
  p_cc (n := 45) (s_ic1 K dX7_grips_45 rfl) (
  p_cc (n := 46) (s_ilt K dX7_grips_46 rfl) (
  p_cc (n := 47) (s_x) (
  p_cc (n := 48) (s_x) (
  p_cc (n := 49) (s_al1 K dX7_grips_49 rfl) (
  p_cc (n := 50) (s_gr (host := "") K dX7_grips_50 (hc := rfl) (by decide) rfl inX7 (by decide) w_f_RX7_23 rfl) (
  p_cc (n := 51) (s_x) (
  p_cc (n := 52) (s_x) (
  p_cc (n := 53) (s_grN K dX7_grips_53 (hc := rfl) (by decide) rfl inX2 (by decide) w_f_RX7_112 rfl) (
  p_cc (n := 54) (s_x) (
  p_cc (n := 55) (s_x) (
  p_cc (n := 56) (s_il1 K dX7_grips_56 rfl) (
  p_cc (n := 57) (s_il2 K dX7_grips_57) (
  p_cc (n := 58) (s_x) (
  p_cc (n := 59) (cS_X7_put K dX7_grips_59 w_m_RX7_166) (
  p_cc (n := 60) (s_x) (
  p_cc (n := 61) (s_x) (
  p_cc (n := 62) (s_al1 K dX7_grips_62 rfl) (
  p_cc (n := 63) (s_al1 K dX7_grips_63 rfl) (
  p_cc (n := 64) (s_gr (host := "") K dX7_grips_64 (hc := rfl) (by decide) rfl inX7 (by decide) w_f_RX7_23 rfl) (
  p_cc (n := 65) (s_x) (
  p_cc (n := 66) (s_x) (
  p_cc (n := 67) (cV_X7_fits K dX7_grips_67 w_m_RX7_250) (
  p_cc (n := 68) (s_x) (
  p_cc (n := 69) (s_x) (
  p_cc (n := 70) (s_eq0 K dX7_grips_70 rfl) (
  p_cc (n := 71) (s_x) (
  p_cc (n := 72) (s_x) (
  p_cc (n := 73) (s_ii K dX7_grips_73 rfl) (
  p_cc (n := 74) (s_x) (
  p_cc (n := 75) (s_x) (
  p_cc (n := 76) (s_il2 K dX7_grips_76) (
  p_cc (n := 77) (s_x) (
  p_cc (n := 78) (s_is2 K dX7_grips_78) (
  p_cc (n := 79) (s_x) (
  p_cc (n := 80) (s_ii K dX7_grips_80 rfl) (
  p_cc (n := 81) (s_x) (
  p_cc (n := 82) (s_x) (
  p_cc (n := 83) (s_goto K dX7_grips_83 rfl) (
  p_cc (n := 84) (s_x) (
  p_cc (n := 85) (s_x) (
  p_cc (n := 86) (s_il1 K dX7_grips_86 rfl) (
  p_cc (n := 87) (s_ne0 K dX7_grips_87 rfl) (
  p_cc (n := 88) (s_x) (
  p_cc (n := 89) (s_x) (
  p_cc (n := 90) (s_il1 K dX7_grips_90 rfl) (
  p_cc (n := 91) (s_goto K dX7_grips_91 rfl) (
  p_cc (n := 92) (s_x) (
  p_cc (n := 93) (s_x) (
  p_cc (n := 94) (s_il2 K dX7_grips_94) (
  p_cc (n := 95) (s_x) (
  p_cc (n := 96) (s_ir K dX7_grips_96 hr hk) (p_cn))))))))))))))))))))))))))))))))))))))))))))))))))))))))))))))))))))))))))))))))))))))))))))))))))
set_option maxRecDepth 100000 in
set_option maxHeartbeats 4000000 in
theorem cl_X7_likely {b : Bool} {w : pW} {p : Program} {l : Launch} {e : Env} {R : Room} {s : State} {m : MethodId} {args : Array Value} {below : List Frame} {meth : Method} {c : Code} {cells slots : Nat} {d : Nat} {Q : pQ} (K : q_X b w p s m args c RX7 cX7_likely 8 R d cells slots) (hr : meth.sig.returnType = (some .int)) (hk : meth.locks = false) : p_Cl b (q_C l b w) tb_X7_likely d Q (q_Z b w p l e R s m args below meth c 8 cells slots (MQ below (q_Qc b w Q) args s cells slots (q_A b w))) := p_c0 (
  p_cc (n := 0) (s_al1 K dX7_likely_0 rfl) (
  p_cc (n := 1) (s_gr (host := "") K dX7_likely_1 (hc := rfl) (by decide) rfl inX7 (by decide) w_f_RX7_19 rfl) (
  p_cc (n := 2) (s_x) (
  p_cc (n := 3) (s_x) (
  p_cc (n := 4) (s_il1 K dX7_likely_4 rfl) (
  p_cc (n := 5) (cVN_X2_isTeller K dX7_likely_5 w_m_RX7_101) (
  p_cc (n := 6) (s_x) (
  p_cc (n := 7) (s_x) (
  p_cc (n := 8) (s_eq0 K dX7_likely_8 rfl) (
  p_cc (n := 9) (s_x) (
  p_cc (n := 10) (s_x) (
  p_cc (n := 11) (s_il1 K dX7_likely_11 rfl) (
  p_cc (n := 12) (s_ic1 K dX7_likely_12 rfl) (
  p_cc (n := 13) (s_ic2 K dX7_likely_13 rfl) (
  p_cc (n := 14) (s_x) (
  p_cc (n := 15) (cS_X7_within K dX7_likely_15 w_m_RX7_82) (
  p_cc (n := 16) (s_x) (
  p_cc (n := 17) (s_x) (
  p_cc (n := 18) (s_eq0 K dX7_likely_18 rfl) (
  p_cc (n := 19) (s_x) (
  p_cc (n := 20) (s_x) (
  p_cc (n := 21) (s_il1 K dX7_likely_21 rfl) (
  p_cc (n := 22) (s_ic1 K dX7_likely_22 rfl) (
  p_cc (n := 23) (s_ic1 K dX7_likely_23 rfl) (
  p_cc (n := 24) (cS_X7_within K dX7_likely_24 w_m_RX7_82) (
  p_cc (n := 25) (s_x) (
  p_cc (n := 26) (s_x) (
  p_cc (n := 27) (s_ne0 K dX7_likely_27 rfl) (
  p_cc (n := 28) (s_x) (
  p_cc (n := 29) (s_x) (
  p_cc (n := 30) (s_ic1 K dX7_likely_30 rfl) (
  p_cc (n := 31) (s_ir K dX7_likely_31 hr hk) (
  p_cc (n := 32) (s_ic1 K dX7_likely_32 rfl) (
  p_cc (n := 33) (s_is2 K dX7_likely_33) (
  p_cc (n := 34) (s_x) (
  p_cc (n := 35) (s_ic1 K dX7_likely_35 rfl) (
  p_cc (n := 36) (s_is2 K dX7_likely_36) (
  p_cc (n := 37) (s_x) (
  p_cc (n := 38) (s_al1 K dX7_likely_38 rfl) (
  p_cc (n := 39) (s_gr (host := "") K dX7_likely_39 (hc := rfl) (by decide) rfl inX7 (by decide) w_f_RX7_23 rfl) (
  p_cc (n := 40) (s_x) (
  p_cc (n := 41) (s_x) (
  p_cc (n := 42) (s_al1 K dX7_likely_42 rfl) (
  p_cc (n := 43) (s_gr (host := "") K dX7_likely_43 (hc := rfl) (by decide) rfl inX7 (by decide) w_f_RX7_19 rfl) (
  p_cc (n := 44) (s_x) (
  p_cc (n := 45) (s_x) (
  p_cc (n := 46) (cVN_X2_copyFrom K dX7_likely_46 w_m_RX7_95) (
  p_cc (n := 47) (s_x) (
  p_cc (n := 48) (s_x) (
  p_cc (n := 49) (s_ic1 K dX7_likely_49 rfl) (
  p_cc (n := 50) (s_is2 K dX7_likely_50) (
  p_cc (n := 51) (s_x) (
  p_cc (n := 52) (s_il2 K dX7_likely_52) (
  p_cc (n := 53) (s_x) (
  p_cc (n := 54) (s_al1 K dX7_likely_54 rfl) (
  p_cc (n := 55) (s_gr (host := "") K dX7_likely_55 (hc := rfl) (by decide) rfl inX7 (by decide) w_f_RX7_19 rfl) (
  p_cc (n := 56) (s_x) (
  p_cc (n := 57) (s_x) (
  p_cc (n := 58) (cVN_X2_worldCount K dX7_likely_58 w_m_RX7_238) (
  p_cc (n := 59) (s_x) (
  p_cc (n := 60) (s_x) (
  p_cc (n := 61) (s_ige K dX7_likely_61 rfl) (
  p_cc (n := 62) (s_x) (
  p_cc (n := 63) (s_x) (
  p_cc (n := 64) (s_al1 K dX7_likely_64 rfl) (
  p_cc (n := 65) (s_il2 K dX7_likely_65) (
  p_cc (n := 66) (s_x) (
  p_cc (n := 67) (s_il1 K dX7_likely_67 rfl) (
  p_cc (n := 68) (cV_X7_chanceOf K dX7_likely_68 w_m_RX7_253) (
  p_cc (n := 69) (s_x) (
  p_cc (n := 70) (s_x) (
  p_cc (n := 71) (s_is2 K dX7_likely_71) (
  p_cc (n := 72) (s_x) (
  p_cc (n := 73) (s_il2 K dX7_likely_73) (
  p_cc (n := 74) (s_x) (
  p_cc (n := 75) (s_il2 K dX7_likely_75) (
  p_cc (n := 76) (s_x) (
  p_cc (n := 77) (s_add K dX7_likely_77) (
  p_cc (n := 78) (s_is2 K dX7_likely_78) (
  p_cc (n := 79) (s_x) (
  p_cc (n := 80) (s_al1 K dX7_likely_80 rfl) (
  p_cc (n := 81) (s_gr (host := "") K dX7_likely_81 (hc := rfl) (by decide) rfl inX7 (by decide) w_f_RX7_23 rfl) (
  p_cc (n := 82) (s_x) (
  p_cc (n := 83) (s_x) (
  p_cc (n := 84) (s_il2 K dX7_likely_84) (
  p_cc (n := 85) (s_x) (
  p_cc (n := 86) (s_piN K dX7_likely_86 (hc := rfl) (by decide) rfl inX2 (by decide) w_f_RX7_118 rfl rfl tyX2 tyX2_ok nmX2 rfl) (
  p_cc (n := 87) (s_x) (
  p_cc (n := 88) (s_x) (
  p_cc (n := 89) (s_al1 K dX7_likely_89 rfl) (
  p_cc (n := 90) (s_gr (host := "") K dX7_likely_90 (hc := rfl) (by decide) rfl inX7 (by decide) w_f_RX7_29 rfl) (
  p_cc (n := 91) (s_x) (
  p_cc (n := 92) (s_x) (
  p_cc (n := 93) (s_al1 K dX7_likely_93 rfl) (
  p_cc (n := 94) (s_gr (host := "") K dX7_likely_94 (hc := rfl) (by decide) rfl inX7 (by decide) w_f_RX7_23 rfl) (
  p_cc (n := 95) (s_x) (
  p_cc (n := 96) (s_x) (
  p_cc (n := 97) (cVN_X0_hold K dX7_likely_97 w_m_RX7_177) (
  p_cc (n := 98) (s_x) (
  p_cc (n := 99) (s_x) (
  p_cc (n := 100) (s_al1 K dX7_likely_100 rfl) (
  p_cc (n := 101) (s_gr (host := "") K dX7_likely_101 (hc := rfl) (by decide) rfl inX7 (by decide) w_f_RX7_29 rfl) (
  p_cc (n := 102) (s_x) (
  p_cc (n := 103) (s_x) (
  p_cc (n := 104) (s_grN K dX7_likely_104 (hc := rfl) (by decide) rfl inX0 (by decide) w_f_RX7_183 rfl) (
  p_cc (n := 105) (s_x) (
  p_cc (n := 106) (s_x) (
  p_cc (n := 107) (s_giN K dX7_likely_107 (hc := rfl) (by decide) rfl inX1 (by decide) w_f_RX7_256 rfl) (
  p_cc (n := 108) (s_x) (
  p_cc (n := 109) (s_x) (
  p_cc (n := 110) (s_il1 K dX7_likely_110 rfl) (
  p_cc (n := 111) (cS_X7_bit K dX7_likely_111 w_m_RX7_121) (
  p_cc (n := 112) (s_x) (
  p_cc (n := 113) (s_x) (
  p_cc (n := 114) (s_ic1 K dX7_likely_114 rfl) (
  p_cc (n := 115) (s_ine K dX7_likely_115 rfl) (
  p_cc (n := 116) (s_x) (
  p_cc (n := 117) (s_x) (
  p_cc (n := 118) (s_il2 K dX7_likely_118) (
  p_cc (n := 119) (s_x) (
  p_cc (n := 120) (s_il2 K dX7_likely_120) (
  p_cc (n := 121) (s_x) (
  p_cc (n := 122) (s_add K dX7_likely_122) (
  p_cc (n := 123) (s_is2 K dX7_likely_123) (
  p_cc (n := 124) (s_x) (
  p_cc (n := 125) (s_ii K dX7_likely_125 rfl) (
  p_cc (n := 126) (s_x) (
  p_cc (n := 127) (s_x) (
  p_cc (n := 128) (s_goto K dX7_likely_128 rfl) (
  p_cc (n := 129) (s_x) (
  p_cc (n := 130) (s_x) (
  p_cc (n := 131) (s_il2 K dX7_likely_131) (
  p_cc (n := 132) (s_x) (
  p_cc (n := 133) (s_il2 K dX7_likely_133) (
  p_cc (n := 134) (s_x) (
  p_cc (n := 135) (cS_X7_greatestDivisor K dX7_likely_135 w_m_RX7_259) (
  p_cc (n := 136) (s_x) (
  p_cc (n := 137) (s_x) (
  p_cc (n := 138) (s_is2 K dX7_likely_138) (
  p_cc (n := 139) (s_x) (
  p_cc (n := 140) (s_il2 K dX7_likely_140) (
  p_cc (n := 141) (s_x) (
  p_cc (n := 142) (s_ne0 K dX7_likely_142 rfl) (
  p_cc (n := 143) (s_x) (
  p_cc (n := 144) (s_x) (
  p_cc (n := 145) (s_ic1 K dX7_likely_145 rfl) (
  p_cc (n := 146) (s_ir K dX7_likely_146 hr hk) (
  p_cc (n := 147) (s_il1 K dX7_likely_147 rfl) (
  p_cc (n := 148) (s_ne0 K dX7_likely_148 rfl) (
  p_cc (n := 149) (s_x) (
  p_cc (n := 150) (s_x) (
  p_cc (n := 151) (s_il2 K dX7_likely_151) (
  p_cc (n := 152) (s_x) (
  p_cc (n := 153) (s_il2 K dX7_likely_153) (
  p_cc (n := 154) (s_x) (
  p_cc (n := 155) (s_div K dX7_likely_155) (
  p_cc (n := 156) (s_goto K dX7_likely_156 rfl) (
  p_cc (n := 157) (s_x) (
  p_cc (n := 158) (s_x) (
  p_cc (n := 159) (s_il2 K dX7_likely_159) (
  p_cc (n := 160) (s_x) (
  p_cc (n := 161) (s_il2 K dX7_likely_161) (
  p_cc (n := 162) (s_x) (
  p_cc (n := 163) (s_div K dX7_likely_163) (
  p_cc (n := 164) (s_ir K dX7_likely_164 hr hk) (p_cn))))))))))))))))))))))))))))))))))))))))))))))))))))))))))))))))))))))))))))))))))))))))))))))))))))))))))))))))))))))))))))))))))))))))))))))))))))))))))))))))))))))
set_option maxRecDepth 100000 in
set_option maxHeartbeats 4000000 in
theorem cl_X7_evenings {b : Bool} {w : pW} {p : Program} {l : Launch} {e : Env} {R : Room} {s : State} {m : MethodId} {args : Array Value} {below : List Frame} {meth : Method} {c : Code} {cells slots : Nat} {d : Nat} {Q : pQ} (K : q_X b w p s m args c RX7 cX7_evenings 8 R d cells slots) (hr : meth.sig.returnType = (some .int)) (hk : meth.locks = false) : p_Cl b (q_C l b w) tb_X7_evenings d Q (q_Z b w p l e R s m args below meth c 8 cells slots (MQ below (q_Qc b w Q) args s cells slots (q_A b w))) := p_c0 (
  p_cc (n := 0) (s_il1 K dX7_evenings_0 rfl) (
  p_cc (n := 1) (s_ic1 K dX7_evenings_1 rfl) (
  p_cc (n := 2) (s_ic3 K dX7_evenings_2 rfl) (
  p_cc (n := 3) (s_x) (
  p_cc (n := 4) (s_x) (
  p_cc (n := 5) (cS_X7_within K dX7_evenings_5 w_m_RX7_82) (
  p_cc (n := 6) (s_x) (
  p_cc (n := 7) (s_x) (
  p_cc (n := 8) (s_eq0 K dX7_evenings_8 rfl) (
  p_cc (n := 9) (s_x) (
  p_cc (n := 10) (s_x) (
  p_cc (n := 11) (s_il1 K dX7_evenings_11 rfl) (
  p_cc (n := 12) (s_ic1 K dX7_evenings_12 rfl) (
  p_cc (n := 13) (s_ic2 K dX7_evenings_13 rfl) (
  p_cc (n := 14) (s_x) (
  p_cc (n := 15) (cS_X7_within K dX7_evenings_15 w_m_RX7_82) (
  p_cc (n := 16) (s_x) (
  p_cc (n := 17) (s_x) (
  p_cc (n := 18) (s_eq0 K dX7_evenings_18 rfl) (
  p_cc (n := 19) (s_x) (
  p_cc (n := 20) (s_x) (
  p_cc (n := 21) (s_il1 K dX7_evenings_21 rfl) (
  p_cc (n := 22) (s_ic1 K dX7_evenings_22 rfl) (
  p_cc (n := 23) (s_ic1 K dX7_evenings_23 rfl) (
  p_cc (n := 24) (cS_X7_within K dX7_evenings_24 w_m_RX7_82) (
  p_cc (n := 25) (s_x) (
  p_cc (n := 26) (s_x) (
  p_cc (n := 27) (s_ne0 K dX7_evenings_27 rfl) (
  p_cc (n := 28) (s_x) (
  p_cc (n := 29) (s_x) (
  p_cc (n := 30) (s_ic1 K dX7_evenings_30 rfl) (
  p_cc (n := 31) (s_ir K dX7_evenings_31 hr hk) (
  p_cc (n := 32) (s_ic1 K dX7_evenings_32 rfl) (
  p_cc (n := 33) (s_is2 K dX7_evenings_33) (
  p_cc (n := 34) (s_x) (
  p_cc (n := 35) (s_ic1 K dX7_evenings_35 rfl) (
  p_cc (n := 36) (s_is2 K dX7_evenings_36) (
  p_cc (n := 37) (s_x) (
  p_cc (n := 38) (s_ic1 K dX7_evenings_38 rfl) (
  p_cc (n := 39) (s_is2 K dX7_evenings_39) (
  p_cc (n := 40) (s_x) (
  p_cc (n := 41) (s_al1 K dX7_evenings_41 rfl) (
  p_cc (n := 42) (s_gr (host := "") K dX7_evenings_42 (hc := rfl) (by decide) rfl inX7 (by decide) w_f_RX7_23 rfl) (
  p_cc (n := 43) (s_x) (
  p_cc (n := 44) (s_x) (
  p_cc (n := 45) (s_al1 K dX7_evenings_45 rfl) (
  p_cc (n := 46) (s_gr (host := "") K dX7_evenings_46 (hc := rfl) (by decide) rfl inX7 (by decide) w_f_RX7_19 rfl) (
  p_cc (n := 47) (s_x) (
  p_cc (n := 48) (s_x) (
  p_cc (n := 49) (cVN_X2_copyFrom K dX7_evenings_49 w_m_RX7_95) (
  p_cc (n := 50) (s_x) (
  p_cc (n := 51) (s_x) (
  p_cc (n := 52) (s_ic1 K dX7_evenings_52 rfl) (
  p_cc (n := 53) (s_is2 K dX7_evenings_53) (
  p_cc (n := 54) (s_x) (
  p_cc (n := 55) (s_il2 K dX7_evenings_55) (
  p_cc (n := 56) (s_x) (
  p_cc (n := 57) (s_il1 K dX7_evenings_57 rfl) (
  p_cc (n := 58) (s_ige K dX7_evenings_58 rfl) (
  p_cc (n := 59) (s_x) (
  p_cc (n := 60) (s_x) (
  p_cc (n := 61) (s_al1 K dX7_evenings_61 rfl) (
  p_cc (n := 62) (s_gr (host := "") K dX7_evenings_62 (hc := rfl) (by decide) rfl inX7 (by decide) w_f_RX7_23 rfl) (
  p_cc (n := 63) (s_x) (
  p_cc (n := 64) (s_x) (
  p_cc (n := 65) (s_il1 K dX7_evenings_65 rfl) (
  p_cc (n := 66) (s_il2 K dX7_evenings_66) (
  p_cc (n := 67) (s_x) (
  p_cc (n := 68) (cS_X7_draw K dX7_evenings_68 w_m_RX7_262) (
  p_cc (n := 69) (s_x) (
  p_cc (n := 70) (s_x) (
  p_cc (n := 71) (cS_X7_stir K dX7_evenings_71 w_m_RX7_265) (
  p_cc (n := 72) (s_x) (
  p_cc (n := 73) (s_x) (
  p_cc (n := 74) (s_al1 K dX7_evenings_74 rfl) (
  p_cc (n := 75) (s_gr (host := "") K dX7_evenings_75 (hc := rfl) (by decide) rfl inX7 (by decide) w_f_RX7_29 rfl) (
  p_cc (n := 76) (s_x) (
  p_cc (n := 77) (s_x) (
  p_cc (n := 78) (s_al1 K dX7_evenings_78 rfl) (
  p_cc (n := 79) (s_gr (host := "") K dX7_evenings_79 (hc := rfl) (by decide) rfl inX7 (by decide) w_f_RX7_23 rfl) (
  p_cc (n := 80) (s_x) (
  p_cc (n := 81) (s_x) (
  p_cc (n := 82) (cVN_X0_hold K dX7_evenings_82 w_m_RX7_177) (
  p_cc (n := 83) (s_x) (
  p_cc (n := 84) (s_x) (
  p_cc (n := 85) (s_il2 K dX7_evenings_85) (
  p_cc (n := 86) (s_x) (
  p_cc (n := 87) (s_al1 K dX7_evenings_87 rfl) (
  p_cc (n := 88) (s_gr (host := "") K dX7_evenings_88 (hc := rfl) (by decide) rfl inX7 (by decide) w_f_RX7_29 rfl) (
  p_cc (n := 89) (s_x) (
  p_cc (n := 90) (s_x) (
  p_cc (n := 91) (s_grN K dX7_evenings_91 (hc := rfl) (by decide) rfl inX0 (by decide) w_f_RX7_183 rfl) (
  p_cc (n := 92) (s_x) (
  p_cc (n := 93) (s_x) (
  p_cc (n := 94) (s_giN K dX7_evenings_94 (hc := rfl) (by decide) rfl inX1 (by decide) w_f_RX7_256 rfl) (
  p_cc (n := 95) (s_x) (
  p_cc (n := 96) (s_x) (
  p_cc (n := 97) (cS_J6_bitCount K dX7_evenings_97 w_m_RX7_209) (
  p_cc (n := 98) (s_x) (
  p_cc (n := 99) (s_x) (
  p_cc (n := 100) (s_add K dX7_evenings_100) (
  p_cc (n := 101) (s_is2 K dX7_evenings_101) (
  p_cc (n := 102) (s_x) (
  p_cc (n := 103) (s_il2 K dX7_evenings_103) (
  p_cc (n := 104) (s_x) (
  p_cc (n := 105) (s_al1 K dX7_evenings_105 rfl) (
  p_cc (n := 106) (s_gr (host := "") K dX7_evenings_106 (hc := rfl) (by decide) rfl inX7 (by decide) w_f_RX7_29 rfl) (
  p_cc (n := 107) (s_x) (
  p_cc (n := 108) (s_x) (
  p_cc (n := 109) (s_grN K dX7_evenings_109 (hc := rfl) (by decide) rfl inX0 (by decide) w_f_RX7_183 rfl) (
  p_cc (n := 110) (s_x) (
  p_cc (n := 111) (s_x) (
  p_cc (n := 112) (s_giN K dX7_evenings_112 (hc := rfl) (by decide) rfl inX1 (by decide) w_f_RX7_187 rfl) (
  p_cc (n := 113) (s_x) (
  p_cc (n := 114) (s_x) (
  p_cc (n := 115) (cS_J6_bitCount K dX7_evenings_115 w_m_RX7_209) (
  p_cc (n := 116) (s_x) (
  p_cc (n := 117) (s_x) (
  p_cc (n := 118) (s_add K dX7_evenings_118) (
  p_cc (n := 119) (s_is2 K dX7_evenings_119) (
  p_cc (n := 120) (s_x) (
  p_cc (n := 121) (s_il2 K dX7_evenings_121) (
  p_cc (n := 122) (s_x) (
  p_cc (n := 123) (s_al1 K dX7_evenings_123 rfl) (
  p_cc (n := 124) (s_gr (host := "") K dX7_evenings_124 (hc := rfl) (by decide) rfl inX7 (by decide) w_f_RX7_29 rfl) (
  p_cc (n := 125) (s_x) (
  p_cc (n := 126) (s_x) (
  p_cc (n := 127) (s_giN K dX7_evenings_127 (hc := rfl) (by decide) rfl inX0 (by decide) w_f_RX7_195 rfl) (
  p_cc (n := 128) (s_x) (
  p_cc (n := 129) (s_x) (
  p_cc (n := 130) (s_mmax K dX7_evenings_130 w_m_RX7_245 w_s_mmax w_I_Math w_c_mmax) (
  p_cc (n := 131) (s_x) (
  p_cc (n := 132) (s_x) (
  p_cc (n := 133) (s_is2 K dX7_evenings_133) (
  p_cc (n := 134) (s_x) (
  p_cc (n := 135) (s_ii K dX7_evenings_135 rfl) (
  p_cc (n := 136) (s_x) (
  p_cc (n := 137) (s_x) (
  p_cc (n := 138) (s_goto K dX7_evenings_138 rfl) (
  p_cc (n := 139) (s_x) (
  p_cc (n := 140) (s_x) (
  p_cc (n := 141) (s_il1 K dX7_evenings_141 rfl) (
  p_cc (n := 142) (s_lswB K dX7_evenings_142 (by decide +kernel) rfl (by decide +kernel) rfl) (
  p_cc (n := 143) (s_x) (
  p_cc (n := 144) (s_x) (
  p_cc (n := 145) (s_x) (
  p_cc (n := 146) (s_x) (
  p_cc (n := 147) (s_x) (
  p_cc (n := 148) (s_x) (
  p_cc (n := 149) (s_x) (
  p_cc (n := 150) (s_x) (
  p_cc (n := 151) (s_x) (
  p_cc (n := 152) (s_x) (
  p_cc (n := 153) (s_x) (
  p_cc (n := 154) (s_x) (
  p_cc (n := 155) (s_x) (
  p_cc (n := 156) (s_x) (
  p_cc (n := 157) (s_x) (
  p_cc (n := 158) (s_x) (
  p_cc (n := 159) (s_x) (
  p_cc (n := 160) (s_x) (
  p_cc (n := 161) (s_x) (
  p_cc (n := 162) (s_x) (
  p_cc (n := 163) (s_x) (
  p_cc (n := 164) (s_x) (
  p_cc (n := 165) (s_x) (
  p_cc (n := 166) (s_x) (
  p_cc (n := 167) (s_x) (
  p_cc (n := 168) (s_il2 K dX7_evenings_168) (
  p_cc (n := 169) (s_x) (
  p_cc (n := 170) (s_ir K dX7_evenings_170 hr hk) (
  p_cc (n := 171) (s_il2 K dX7_evenings_171) (
  p_cc (n := 172) (s_x) (
  p_cc (n := 173) (s_ir K dX7_evenings_173 hr hk) (
  p_cc (n := 174) (s_il2 K dX7_evenings_174) (
  p_cc (n := 175) (s_x) (
  p_cc (n := 176) (s_ir K dX7_evenings_176 hr hk) (p_cn))))))))))))))))))))))))))))))))))))))))))))))))))))))))))))))))))))))))))))))))))))))))))))))))))))))))))))))))))))))))))))))))))))))))))))))))))))))))))))))))))))))))))))))))))
set_option maxRecDepth 100000 in
set_option maxHeartbeats 4000000 in
theorem cl_X7_keep {b : Bool} {w : pW} {p : Program} {l : Launch} {e : Env} {R : Room} {s : State} {m : MethodId} {args : Array Value} {below : List Frame} {meth : Method} {c : Code} {cells slots : Nat} {d : Nat} {Q : pQ} (K : q_X b w p s m args c RX7 cX7_keep 1 R d cells slots) (hr : meth.sig.returnType = (some .int)) (hk : meth.locks = false) : p_Cl b (q_C l b w) tb_X7_keep d Q (q_Z b w p l e R s m args below meth c 1 cells slots (MQ below (q_Qc b w Q) args s cells slots (q_A b w))) := p_c0 (
  p_cc (n := 0) (s_al1 K dX7_keep_0 rfl) (
  p_cc (n := 1) (s_gr (host := "") K dX7_keep_1 (hc := rfl) (by decide) rfl inX7 (by decide) w_f_RX7_56 rfl) (
  p_cc (n := 2) (s_x) (
  p_cc (n := 3) (s_x) (
  p_cc (n := 4) (s_giN K dX7_keep_4 (hc := rfl) (by decide) rfl inX4 (by decide) w_f_RX7_174 rfl) (
  p_cc (n := 5) (s_x) (
  p_cc (n := 6) (s_x) (
  p_cc (n := 7) (s_ic1 K dX7_keep_7 rfl) (
  p_cc (n := 8) (s_ilt K dX7_keep_8 rfl) (
  p_cc (n := 9) (s_x) (
  p_cc (n := 10) (s_x) (
  p_cc (n := 11) (s_ic2 K dX7_keep_11 rfl) (
  p_cc (n := 12) (s_x) (
  p_cc (n := 13) (s_ir K dX7_keep_13 hr hk) (
  p_cc (n := 14) (s_al1 K dX7_keep_14 rfl) (
  p_cc (n := 15) (s_gr (host := "") K dX7_keep_15 (hc := rfl) (by decide) rfl inX7 (by decide) w_f_RX7_56 rfl) (
  p_cc (n := 16) (s_x) (
  p_cc (n := 17) (s_x) (
  p_cc (n := 18) (s_al1 K dX7_keep_18 rfl) (
  p_cc (n := 19) (s_gr (host := "") K dX7_keep_19 (hc := rfl) (by decide) rfl inX7 (by decide) w_f_RX7_19 rfl) (
  p_cc (n := 20) (s_x) (
  p_cc (n := 21) (s_x) (
  p_cc (n := 22) (cVN_X4_push K dX7_keep_22 w_m_RX7_143) (
  p_cc (n := 23) (s_x) (
  p_cc (n := 24) (s_x) (
  p_cc (n := 25) (s_al1 K dX7_keep_25 rfl) (
  p_cc (n := 26) (s_gr (host := "") K dX7_keep_26 (hc := rfl) (by decide) rfl inX7 (by decide) w_f_RX7_56 rfl) (
  p_cc (n := 27) (s_x) (
  p_cc (n := 28) (s_x) (
  p_cc (n := 29) (s_giN K dX7_keep_29 (hc := rfl) (by decide) rfl inX4 (by decide) w_f_RX7_174 rfl) (
  p_cc (n := 30) (s_x) (
  p_cc (n := 31) (s_x) (
  p_cc (n := 32) (s_ir K dX7_keep_32 hr hk) (p_cn))))))))))))))))))))))))))))))))))
set_option maxRecDepth 100000 in
set_option maxHeartbeats 4000000 in
theorem cl_X7_back {b : Bool} {w : pW} {p : Program} {l : Launch} {e : Env} {R : Room} {s : State} {m : MethodId} {args : Array Value} {below : List Frame} {meth : Method} {c : Code} {cells slots : Nat} {d : Nat} {Q : pQ} (K : q_X b w p s m args c RX7 cX7_back 1 R d cells slots) (hr : meth.sig.returnType = (some .int)) (hk : meth.locks = false) : p_Cl b (q_C l b w) tb_X7_back d Q (q_Z b w p l e R s m args below meth c 1 cells slots (MQ below (q_Qc b w Q) args s cells slots (q_A b w))) := p_c0 (
  p_cc (n := 0) (s_al1 K dX7_back_0 rfl) (
  p_cc (n := 1) (s_gr (host := "") K dX7_back_1 (hc := rfl) (by decide) rfl inX7 (by decide) w_f_RX7_56 rfl) (
  p_cc (n := 2) (s_x) (
  p_cc (n := 3) (s_x) (
  p_cc (n := 4) (s_al1 K dX7_back_4 rfl) (
  p_cc (n := 5) (s_gr (host := "") K dX7_back_5 (hc := rfl) (by decide) rfl inX7 (by decide) w_f_RX7_19 rfl) (
  p_cc (n := 6) (s_x) (
  p_cc (n := 7) (s_x) (
  p_cc (n := 8) (cVN_X4_popInto K dX7_back_8 w_m_RX7_170) (
  p_cc (n := 9) (s_x) (
  p_cc (n := 10) (s_x) (
  p_cc (n := 11) (s_ne0 K dX7_back_11 rfl) (
  p_cc (n := 12) (s_x) (
  p_cc (n := 13) (s_x) (
  p_cc (n := 14) (s_ic2 K dX7_back_14 rfl) (
  p_cc (n := 15) (s_x) (
  p_cc (n := 16) (s_ir K dX7_back_16 hr hk) (
  p_cc (n := 17) (s_al1 K dX7_back_17 rfl) (
  p_cc (n := 18) (s_gr (host := "") K dX7_back_18 (hc := rfl) (by decide) rfl inX7 (by decide) w_f_RX7_52 rfl) (
  p_cc (n := 19) (s_x) (
  p_cc (n := 20) (s_x) (
  p_cc (n := 21) (cVN_X4_clear K dX7_back_21 w_m_RX7_100) (
  p_cc (n := 22) (s_x) (
  p_cc (n := 23) (s_x) (
  p_cc (n := 24) (s_al1 K dX7_back_24 rfl) (
  p_cc (n := 25) (s_gr (host := "") K dX7_back_25 (hc := rfl) (by decide) rfl inX7 (by decide) w_f_RX7_56 rfl) (
  p_cc (n := 26) (s_x) (
  p_cc (n := 27) (s_x) (
  p_cc (n := 28) (s_giN K dX7_back_28 (hc := rfl) (by decide) rfl inX4 (by decide) w_f_RX7_174 rfl) (
  p_cc (n := 29) (s_x) (
  p_cc (n := 30) (s_x) (
  p_cc (n := 31) (s_ir K dX7_back_31 hr hk) (p_cn)))))))))))))))))))))))))))))))))
set_option maxRecDepth 100000 in
set_option maxHeartbeats 4000000 in
theorem cl_X7_count {b : Bool} {w : pW} {p : Program} {l : Launch} {e : Env} {R : Room} {s : State} {m : MethodId} {args : Array Value} {below : List Frame} {meth : Method} {c : Code} {cells slots : Nat} {d : Nat} {Q : pQ} (K : q_X b w p s m args c RX7 cX7_count 2 R d cells slots) (hr : meth.sig.returnType = (some .int)) (hk : meth.locks = false) : p_Cl b (q_C l b w) tb_X7_count d Q (q_Z b w p l e R s m args below meth c 2 cells slots (MQ below (q_Qc b w Q) args s cells slots (q_A b w))) := p_c0 (
  p_cc (n := 0) (s_il1 K dX7_count_0 rfl) (
  p_cc (n := 1) (s_tswB K dX7_count_1 rfl (by decide +kernel) (by decide +kernel) rfl) (
  p_cc (n := 2) (s_x) (
  p_cc (n := 3) (s_x) (
  p_cc (n := 4) (s_x) (
  p_cc (n := 5) (s_x) (
  p_cc (n := 6) (s_x) (
  p_cc (n := 7) (s_x) (
  p_cc (n := 8) (s_x) (
  p_cc (n := 9) (s_x) (
  p_cc (n := 10) (s_x) (
  p_cc (n := 11) (s_x) (
  p_cc (n := 12) (s_x) (
  p_cc (n := 13) (s_x) (
  p_cc (n := 14) (s_x) (
  p_cc (n := 15) (s_x) (
  p_cc (n := 16) (s_x) (
  p_cc (n := 17) (s_x) (
  p_cc (n := 18) (s_x) (
  p_cc (n := 19) (s_x) (
  p_cc (n := 20) (s_x) (
  p_cc (n := 21) (s_x) (
  p_cc (n := 22) (s_x) (
  p_cc (n := 23) (s_x) (
  p_cc (n := 24) (s_x) (
  p_cc (n := 25) (s_x) (
  p_cc (n := 26) (s_x) (
  p_cc (n := 27) (s_x) (
  p_cc (n := 28) (s_x) (
  p_cc (n := 29) (s_x) (
  p_cc (n := 30) (s_x) (
  p_cc (n := 31) (s_x) (
  p_cc (n := 32) (s_x) (
  p_cc (n := 33) (s_x) (
  p_cc (n := 34) (s_x) (
  p_cc (n := 35) (s_x) (
  p_cc (n := 36) (s_x) (
  p_cc (n := 37) (s_x) (
  p_cc (n := 38) (s_x) (
  p_cc (n := 39) (s_x) (
  p_cc (n := 40) (s_x) (
  p_cc (n := 41) (s_x) (
  p_cc (n := 42) (s_x) (
  p_cc (n := 43) (s_x) (
  p_cc (n := 44) (s_x) (
  p_cc (n := 45) (s_x) (
  p_cc (n := 46) (s_x) (
  p_cc (n := 47) (s_x) (
  p_cc (n := 48) (s_x) (
  p_cc (n := 49) (s_x) (
  p_cc (n := 50) (s_x) (
  p_cc (n := 51) (s_x) (
  p_cc (n := 52) (s_x) (
  p_cc (n := 53) (s_x) (
  p_cc (n := 54) (s_x) (
  p_cc (n := 55) (s_x) (
  p_cc (n := 56) (s_x) (
  p_cc (n := 57) (s_x) (
  p_cc (n := 58) (s_x) (
  p_cc (n := 59) (s_x) (
  p_cc (n := 60) (s_al1 K dX7_count_60 rfl) (
  p_cc (n := 61) (s_gr (host := "") K dX7_count_61 (hc := rfl) (by decide) rfl inX7 (by decide) w_f_RX7_19 rfl) (
  p_cc (n := 62) (s_x) (
  p_cc (n := 63) (s_x) (
  p_cc (n := 64) (s_giN K dX7_count_64 (hc := rfl) (by decide) rfl inX2 (by decide) w_f_RX7_89 rfl) (
  p_cc (n := 65) (s_x) (
  p_cc (n := 66) (s_x) (
  p_cc (n := 67) (s_ir K dX7_count_67 hr hk) (
  p_cc (n := 68) (s_al1 K dX7_count_68 rfl) (
  p_cc (n := 69) (s_gr (host := "") K dX7_count_69 (hc := rfl) (by decide) rfl inX7 (by decide) w_f_RX7_19 rfl) (
  p_cc (n := 70) (s_x) (
  p_cc (n := 71) (s_x) (
  p_cc (n := 72) (s_giN K dX7_count_72 (hc := rfl) (by decide) rfl inX2 (by decide) w_f_RX7_92 rfl) (
  p_cc (n := 73) (s_x) (
  p_cc (n := 74) (s_x) (
  p_cc (n := 75) (s_ir K dX7_count_75 hr hk) (
  p_cc (n := 76) (s_al1 K dX7_count_76 rfl) (
  p_cc (n := 77) (s_gr (host := "") K dX7_count_77 (hc := rfl) (by decide) rfl inX7 (by decide) w_f_RX7_19 rfl) (
  p_cc (n := 78) (s_x) (
  p_cc (n := 79) (s_x) (
  p_cc (n := 80) (s_giN K dX7_count_80 (hc := rfl) (by decide) rfl inX2 (by decide) w_f_RX7_153 rfl) (
  p_cc (n := 81) (s_x) (
  p_cc (n := 82) (s_x) (
  p_cc (n := 83) (s_ir K dX7_count_83 hr hk) (
  p_cc (n := 84) (s_al1 K dX7_count_84 rfl) (
  p_cc (n := 85) (s_gr (host := "") K dX7_count_85 (hc := rfl) (by decide) rfl inX7 (by decide) w_f_RX7_19 rfl) (
  p_cc (n := 86) (s_x) (
  p_cc (n := 87) (s_x) (
  p_cc (n := 88) (s_giN K dX7_count_88 (hc := rfl) (by decide) rfl inX2 (by decide) w_f_RX7_118 rfl) (
  p_cc (n := 89) (s_x) (
  p_cc (n := 90) (s_x) (
  p_cc (n := 91) (cS_J6_bitCount K dX7_count_91 w_m_RX7_209) (
  p_cc (n := 92) (s_x) (
  p_cc (n := 93) (s_x) (
  p_cc (n := 94) (s_ir K dX7_count_94 hr hk) (
  p_cc (n := 95) (s_al1 K dX7_count_95 rfl) (
  p_cc (n := 96) (s_gr (host := "") K dX7_count_96 (hc := rfl) (by decide) rfl inX7 (by decide) w_f_RX7_19 rfl) (
  p_cc (n := 97) (s_x) (
  p_cc (n := 98) (s_x) (
  p_cc (n := 99) (cVN_X2_falseClaims K dX7_count_99 w_m_RX7_269) (
  p_cc (n := 100) (s_x) (
  p_cc (n := 101) (s_x) (
  p_cc (n := 102) (s_ir K dX7_count_102 hr hk) (
  p_cc (n := 103) (s_al1 K dX7_count_103 rfl) (
  p_cc (n := 104) (cV_X7_told K dX7_count_104 w_m_RX7_272) (
  p_cc (n := 105) (s_x) (
  p_cc (n := 106) (s_x) (
  p_cc (n := 107) (cS_J6_bitCount K dX7_count_107 w_m_RX7_209) (
  p_cc (n := 108) (s_x) (
  p_cc (n := 109) (s_x) (
  p_cc (n := 110) (s_ir K dX7_count_110 hr hk) (
  p_cc (n := 111) (s_al1 K dX7_count_111 rfl) (
  p_cc (n := 112) (cV_X7_goneTonight K dX7_count_112 w_m_RX7_274) (
  p_cc (n := 113) (s_x) (
  p_cc (n := 114) (s_x) (
  p_cc (n := 115) (s_ir K dX7_count_115 hr hk) (
  p_cc (n := 116) (s_al1 K dX7_count_116 rfl) (
  p_cc (n := 117) (s_gr (host := "") K dX7_count_117 (hc := rfl) (by decide) rfl inX7 (by decide) w_f_RX7_43 rfl) (
  p_cc (n := 118) (s_x) (
  p_cc (n := 119) (s_x) (
  p_cc (n := 120) (s_giN K dX7_count_120 (hc := rfl) (by decide) rfl inX5 (by decide) w_f_RX7_221 rfl) (
  p_cc (n := 121) (s_x) (
  p_cc (n := 122) (s_x) (
  p_cc (n := 123) (s_ir K dX7_count_123 hr hk) (
  p_cc (n := 124) (s_al1 K dX7_count_124 rfl) (
  p_cc (n := 125) (s_gr (host := "") K dX7_count_125 (hc := rfl) (by decide) rfl inX7 (by decide) w_f_RX7_52 rfl) (
  p_cc (n := 126) (s_x) (
  p_cc (n := 127) (s_x) (
  p_cc (n := 128) (s_giN K dX7_count_128 (hc := rfl) (by decide) rfl inX4 (by decide) w_f_RX7_174 rfl) (
  p_cc (n := 129) (s_x) (
  p_cc (n := 130) (s_x) (
  p_cc (n := 131) (s_ir K dX7_count_131 hr hk) (
  p_cc (n := 132) (s_al1 K dX7_count_132 rfl) (
  p_cc (n := 133) (s_gr (host := "") K dX7_count_133 (hc := rfl) (by decide) rfl inX7 (by decide) w_f_RX7_56 rfl) (
  p_cc (n := 134) (s_x) (
  p_cc (n := 135) (s_x) (
  p_cc (n := 136) (s_giN K dX7_count_136 (hc := rfl) (by decide) rfl inX4 (by decide) w_f_RX7_174 rfl) (
  p_cc (n := 137) (s_x) (
  p_cc (n := 138) (s_x) (
  p_cc (n := 139) (s_ir K dX7_count_139 hr hk) (
  p_cc (n := 140) (s_al1 K dX7_count_140 rfl) (
  p_cc (n := 141) (s_gr (host := "") K dX7_count_141 (hc := rfl) (by decide) rfl inX7 (by decide) w_f_RX7_10 rfl) (
  p_cc (n := 142) (s_x) (
  p_cc (n := 143) (s_x) (
  p_cc (n := 144) (s_giN K dX7_count_144 (hc := rfl) (by decide) rfl inX6 (by decide) w_f_RX7_86 rfl) (
  p_cc (n := 145) (s_x) (
  p_cc (n := 146) (s_x) (
  p_cc (n := 147) (s_ir K dX7_count_147 hr hk) (
  p_cc (n := 148) (s_ic1 K dX7_count_148 rfl) (
  p_cc (n := 149) (s_ir K dX7_count_149 hr hk) (p_cn)))))))))))))))))))))))))))))))))))))))))))))))))))))))))))))))))))))))))))))))))))))))))))))))))))))))))))))))))))))))))))))))))))))))))))))))))))))))
set_option maxRecDepth 100000 in
set_option maxHeartbeats 4000000 in
theorem cl_X7_goneTonight {b : Bool} {w : pW} {p : Program} {l : Launch} {e : Env} {R : Room} {s : State} {m : MethodId} {args : Array Value} {below : List Frame} {meth : Method} {c : Code} {cells slots : Nat} {d : Nat} {Q : pQ} (K : q_X b w p s m args c RX7 cX7_goneTonight 1 R d cells slots) (hr : meth.sig.returnType = (some .int)) (hk : meth.locks = false) : p_Cl b (q_C l b w) tb_X7_goneTonight d Q (q_Z b w p l e R s m args below meth c 1 cells slots (MQ below (q_Qc b w Q) args s cells slots (q_A b w))) := p_c0 (
  p_cc (n := 0) (s_al1 K dX7_goneTonight_0 rfl) (
  p_cc (n := 1) (s_gr (host := "") K dX7_goneTonight_1 (hc := rfl) (by decide) rfl inX7 (by decide) w_f_RX7_29 rfl) (
  p_cc (n := 2) (s_x) (
  p_cc (n := 3) (s_x) (
  p_cc (n := 4) (s_al1 K dX7_goneTonight_4 rfl) (
  p_cc (n := 5) (s_gr (host := "") K dX7_goneTonight_5 (hc := rfl) (by decide) rfl inX7 (by decide) w_f_RX7_19 rfl) (
  p_cc (n := 6) (s_x) (
  p_cc (n := 7) (s_x) (
  p_cc (n := 8) (cVN_X0_hold K dX7_goneTonight_8 w_m_RX7_177) (
  p_cc (n := 9) (s_x) (
  p_cc (n := 10) (s_x) (
  p_cc (n := 11) (s_al1 K dX7_goneTonight_11 rfl) (
  p_cc (n := 12) (s_gr (host := "") K dX7_goneTonight_12 (hc := rfl) (by decide) rfl inX7 (by decide) w_f_RX7_29 rfl) (
  p_cc (n := 13) (s_x) (
  p_cc (n := 14) (s_x) (
  p_cc (n := 15) (s_grN K dX7_goneTonight_15 (hc := rfl) (by decide) rfl inX0 (by decide) w_f_RX7_183 rfl) (
  p_cc (n := 16) (s_x) (
  p_cc (n := 17) (s_x) (
  p_cc (n := 18) (s_giN K dX7_goneTonight_18 (hc := rfl) (by decide) rfl inX1 (by decide) w_f_RX7_256 rfl) (
  p_cc (n := 19) (s_x) (
  p_cc (n := 20) (s_x) (
  p_cc (n := 21) (cS_J6_bitCount K dX7_goneTonight_21 w_m_RX7_209) (
  p_cc (n := 22) (s_x) (
  p_cc (n := 23) (s_x) (
  p_cc (n := 24) (s_ir K dX7_goneTonight_24 hr hk) (p_cn))))))))))))))))))))))))))
set_option maxRecDepth 100000 in
set_option maxHeartbeats 4000000 in
theorem cl_X7_fewestLeft {b : Bool} {w : pW} {p : Program} {l : Launch} {e : Env} {R : Room} {s : State} {m : MethodId} {args : Array Value} {below : List Frame} {meth : Method} {c : Code} {cells slots : Nat} {d : Nat} {Q : pQ} (K : q_X b w p s m args c RX7 cX7_fewestLeft 5 R d cells slots) (hr : meth.sig.returnType = (some .int)) (hk : meth.locks = false) : p_Cl b (q_C l b w) tb_X7_fewestLeft d Q (q_Z b w p l e R s m args below meth c 5 cells slots (MQ below (q_Qc b w Q) args s cells slots (q_A b w))) := p_c0 (
  p_cc (n := 0) (s_ic1 K dX7_fewestLeft_0 rfl) (
  p_cc (n := 1) (s_al1 K dX7_fewestLeft_1 rfl) (
  p_cc (n := 2) (s_gr (host := "") K dX7_fewestLeft_2 (hc := rfl) (by decide) rfl inX7 (by decide) w_f_RX7_19 rfl) (
  p_cc (n := 3) (s_x) (
  p_cc (n := 4) (s_x) (
  p_cc (n := 5) (s_giN K dX7_fewestLeft_5 (hc := rfl) (by decide) rfl inX2 (by decide) w_f_RX7_153 rfl) (
  p_cc (n := 6) (s_x) (
  p_cc (n := 7) (s_x) (
  p_cc (n := 8) (s_shl K dX7_fewestLeft_8) (
  p_cc (n := 9) (s_ic1 K dX7_fewestLeft_9 rfl) (
  p_cc (n := 10) (s_sub K dX7_fewestLeft_10) (
  p_cc (n := 11) (s_is1 K dX7_fewestLeft_11 rfl) (
  p_cc (n := 12) (s_il1 K dX7_fewestLeft_12 rfl) (
  p_cc (n := 13) (s_is1 K dX7_fewestLeft_13 rfl) (
  p_cc (n := 14) (s_ic1 K dX7_fewestLeft_14 rfl) (
  p_cc (n := 15) (s_is2 K dX7_fewestLeft_15) (
  p_cc (n := 16) (s_x) (
  p_cc (n := 17) (s_il2 K dX7_fewestLeft_17) (
  p_cc (n := 18) (s_x) (
  p_cc (n := 19) (s_il1 K dX7_fewestLeft_19 rfl) (
  p_cc (n := 20) (s_ige K dX7_fewestLeft_20 rfl) (
  p_cc (n := 21) (s_x) (
  p_cc (n := 22) (s_x) (
  p_cc (n := 23) (s_il2 K dX7_fewestLeft_23) (
  p_cc (n := 24) (s_x) (
  p_cc (n := 25) (cS_J6_bitCount K dX7_fewestLeft_25 w_m_RX7_209) (
  p_cc (n := 26) (s_x) (
  p_cc (n := 27) (s_x) (
  p_cc (n := 28) (s_il1 K dX7_fewestLeft_28 rfl) (
  p_cc (n := 29) (cS_J6_bitCount K dX7_fewestLeft_29 w_m_RX7_209) (
  p_cc (n := 30) (s_x) (
  p_cc (n := 31) (s_x) (
  p_cc (n := 32) (s_ige K dX7_fewestLeft_32 rfl) (
  p_cc (n := 33) (s_x) (
  p_cc (n := 34) (s_x) (
  p_cc (n := 35) (s_al1 K dX7_fewestLeft_35 rfl) (
  p_cc (n := 36) (s_il1 K dX7_fewestLeft_36 rfl) (
  p_cc (n := 37) (s_il2 K dX7_fewestLeft_37) (
  p_cc (n := 38) (s_x) (
  p_cc (n := 39) (cV_X7_letsGoWithout K dX7_fewestLeft_39 w_m_RX7_277) (
  p_cc (n := 40) (s_x) (
  p_cc (n := 41) (s_x) (
  p_cc (n := 42) (s_ne0 K dX7_fewestLeft_42 rfl) (
  p_cc (n := 43) (s_x) (
  p_cc (n := 44) (s_x) (
  p_cc (n := 45) (s_il2 K dX7_fewestLeft_45) (
  p_cc (n := 46) (s_x) (
  p_cc (n := 47) (s_is1 K dX7_fewestLeft_47 rfl) (
  p_cc (n := 48) (s_ii K dX7_fewestLeft_48 rfl) (
  p_cc (n := 49) (s_x) (
  p_cc (n := 50) (s_x) (
  p_cc (n := 51) (s_goto K dX7_fewestLeft_51 rfl) (
  p_cc (n := 52) (s_x) (
  p_cc (n := 53) (s_x) (
  p_cc (n := 54) (s_il1 K dX7_fewestLeft_54 rfl) (
  p_cc (n := 55) (s_ir K dX7_fewestLeft_55 hr hk) (p_cn)))))))))))))))))))))))))))))))))))))))))))))))))))))))))
set_option maxRecDepth 100000 in
set_option maxHeartbeats 4000000 in
theorem cl_X7_letsGoWithout {b : Bool} {w : pW} {p : Program} {l : Launch} {e : Env} {R : Room} {s : State} {m : MethodId} {args : Array Value} {below : List Frame} {meth : Method} {c : Code} {cells slots : Nat} {d : Nat} {Q : pQ} (K : q_X b w p s m args c RX7 cX7_letsGoWithout 5 R d cells slots) (hr : meth.sig.returnType = (some .boolean)) (hk : meth.locks = false) : p_Cl b (q_C l b w) tb_X7_letsGoWithout d Q (q_Z b w p l e R s m args below meth c 5 cells slots (MQ below (q_Qc b w Q) args s cells slots (q_A b w))) := p_c0 (
  p_cc (n := 0) (s_al1 K dX7_letsGoWithout_0 rfl) (
  p_cc (n := 1) (s_gr (host := "") K dX7_letsGoWithout_1 (hc := rfl) (by decide) rfl inX7 (by decide) w_f_RX7_29 rfl) (
  p_cc (n := 2) (s_x) (
  p_cc (n := 3) (s_x) (
  p_cc (n := 4) (s_grN K dX7_letsGoWithout_4 (hc := rfl) (by decide) rfl inX0 (by decide) w_f_RX7_183 rfl) (
  p_cc (n := 5) (s_x) (
  p_cc (n := 6) (s_x) (
  p_cc (n := 7) (s_as1 K dX7_letsGoWithout_7 rfl) (
  p_cc (n := 8) (s_al1 K dX7_letsGoWithout_8 rfl) (
  p_cc (n := 9) (cVN_X1_cool K dX7_letsGoWithout_9 w_m_RX7_280) (
  p_cc (n := 10) (s_x) (
  p_cc (n := 11) (s_x) (
  p_cc (n := 12) (s_ic1 K dX7_letsGoWithout_12 rfl) (
  p_cc (n := 13) (s_is2 K dX7_letsGoWithout_13) (
  p_cc (n := 14) (s_x) (
  p_cc (n := 15) (s_il2 K dX7_letsGoWithout_15) (
  p_cc (n := 16) (s_x) (
  p_cc (n := 17) (s_al1 K dX7_letsGoWithout_17 rfl) (
  p_cc (n := 18) (s_gr (host := "") K dX7_letsGoWithout_18 (hc := rfl) (by decide) rfl inX7 (by decide) w_f_RX7_19 rfl) (
  p_cc (n := 19) (s_x) (
  p_cc (n := 20) (s_x) (
  p_cc (n := 21) (s_giN K dX7_letsGoWithout_21 (hc := rfl) (by decide) rfl inX2 (by decide) w_f_RX7_153 rfl) (
  p_cc (n := 22) (s_x) (
  p_cc (n := 23) (s_x) (
  p_cc (n := 24) (s_ige K dX7_letsGoWithout_24 rfl) (
  p_cc (n := 25) (s_x) (
  p_cc (n := 26) (s_x) (
  p_cc (n := 27) (s_il1 K dX7_letsGoWithout_27 rfl) (
  p_cc (n := 28) (s_il2 K dX7_letsGoWithout_28) (
  p_cc (n := 29) (s_x) (
  p_cc (n := 30) (cS_X7_bit K dX7_letsGoWithout_30 w_m_RX7_121) (
  p_cc (n := 31) (s_x) (
  p_cc (n := 32) (s_x) (
  p_cc (n := 33) (s_ne0 K dX7_letsGoWithout_33 rfl) (
  p_cc (n := 34) (s_x) (
  p_cc (n := 35) (s_x) (
  p_cc (n := 36) (s_al1 K dX7_letsGoWithout_36 rfl) (
  p_cc (n := 37) (s_al1 K dX7_letsGoWithout_37 rfl) (
  p_cc (n := 38) (s_gr (host := "") K dX7_letsGoWithout_38 (hc := rfl) (by decide) rfl inX7 (by decide) w_f_RX7_19 rfl) (
  p_cc (n := 39) (s_x) (
  p_cc (n := 40) (s_x) (
  p_cc (n := 41) (s_il2 K dX7_letsGoWithout_41) (
  p_cc (n := 42) (s_x) (
  p_cc (n := 43) (cVN_X1_take K dX7_letsGoWithout_43 w_m_RX7_283) (
  p_cc (n := 44) (s_x) (
  p_cc (n := 45) (s_x) (
  p_cc (n := 46) (s_pop K dX7_letsGoWithout_46) (
  p_cc (n := 47) (s_ii K dX7_letsGoWithout_47 rfl) (
  p_cc (n := 48) (s_x) (
  p_cc (n := 49) (s_x) (
  p_cc (n := 50) (s_goto K dX7_letsGoWithout_50 rfl) (
  p_cc (n := 51) (s_x) (
  p_cc (n := 52) (s_x) (
  p_cc (n := 53) (s_al1 K dX7_letsGoWithout_53 rfl) (
  p_cc (n := 54) (s_giN K dX7_letsGoWithout_54 (hc := rfl) (by decide) rfl inX1 (by decide) w_f_RX7_256 rfl) (
  p_cc (n := 55) (s_x) (
  p_cc (n := 56) (s_x) (
  p_cc (n := 57) (s_il1 K dX7_letsGoWithout_57 rfl) (
  p_cc (n := 58) (cS_X7_bit K dX7_letsGoWithout_58 w_m_RX7_121) (
  p_cc (n := 59) (s_x) (
  p_cc (n := 60) (s_x) (
  p_cc (n := 61) (s_ic1 K dX7_letsGoWithout_61 rfl) (
  p_cc (n := 62) (s_ine K dX7_letsGoWithout_62 rfl) (
  p_cc (n := 63) (s_x) (
  p_cc (n := 64) (s_x) (
  p_cc (n := 65) (s_ic1 K dX7_letsGoWithout_65 rfl) (
  p_cc (n := 66) (s_goto K dX7_letsGoWithout_66 rfl) (
  p_cc (n := 67) (s_x) (
  p_cc (n := 68) (s_x) (
  p_cc (n := 69) (s_ic1 K dX7_letsGoWithout_69 rfl) (
  p_cc (n := 70) (s_zr K dX7_letsGoWithout_70 hr hk) (p_cn))))))))))))))))))))))))))))))))))))))))))))))))))))))))))))))))))))))))
set_option maxRecDepth 100000 in
set_option maxHeartbeats 4000000 in
theorem cl_X7_goneIfHeldBy {b : Bool} {w : pW} {p : Program} {l : Launch} {e : Env} {R : Room} {s : State} {m : MethodId} {args : Array Value} {below : List Frame} {meth : Method} {c : Code} {cells slots : Nat} {d : Nat} {Q : pQ} (K : q_X b w p s m args c RX7 cX7_goneIfHeldBy 4 R d cells slots) (hr : meth.sig.returnType = (some .int)) (hk : meth.locks = false) : p_Cl b (q_C l b w) tb_X7_goneIfHeldBy d Q (q_Z b w p l e R s m args below meth c 4 cells slots (MQ below (q_Qc b w Q) args s cells slots (q_A b w))) := p_c0 (
  p_cc (n := 0) (s_al1 K dX7_goneIfHeldBy_0 rfl) (
  p_cc (n := 1) (s_gr (host := "") K dX7_goneIfHeldBy_1 (hc := rfl) (by decide) rfl inX7 (by decide) w_f_RX7_23 rfl) (
  p_cc (n := 2) (s_x) (
  p_cc (n := 3) (s_x) (
  p_cc (n := 4) (s_al1 K dX7_goneIfHeldBy_4 rfl) (
  p_cc (n := 5) (s_gr (host := "") K dX7_goneIfHeldBy_5 (hc := rfl) (by decide) rfl inX7 (by decide) w_f_RX7_19 rfl) (
  p_cc (n := 6) (s_x) (
  p_cc (n := 7) (s_x) (
  p_cc (n := 8) (cVN_X2_copyFrom K dX7_goneIfHeldBy_8 w_m_RX7_95) (
  p_cc (n := 9) (s_x) (
  p_cc (n := 10) (s_x) (
  p_cc (n := 11) (s_ic1 K dX7_goneIfHeldBy_11 rfl) (
  p_cc (n := 12) (s_is1 K dX7_goneIfHeldBy_12 rfl) (
  p_cc (n := 13) (s_il1 K dX7_goneIfHeldBy_13 rfl) (
  p_cc (n := 14) (s_al1 K dX7_goneIfHeldBy_14 rfl) (
  p_cc (n := 15) (s_gr (host := "") K dX7_goneIfHeldBy_15 (hc := rfl) (by decide) rfl inX7 (by decide) w_f_RX7_23 rfl) (
  p_cc (n := 16) (s_x) (
  p_cc (n := 17) (s_x) (
  p_cc (n := 18) (s_giN K dX7_goneIfHeldBy_18 (hc := rfl) (by decide) rfl inX2 (by decide) w_f_RX7_153 rfl) (
  p_cc (n := 19) (s_x) (
  p_cc (n := 20) (s_x) (
  p_cc (n := 21) (s_ige K dX7_goneIfHeldBy_21 rfl) (
  p_cc (n := 22) (s_x) (
  p_cc (n := 23) (s_x) (
  p_cc (n := 24) (s_al1 K dX7_goneIfHeldBy_24 rfl) (
  p_cc (n := 25) (s_gr (host := "") K dX7_goneIfHeldBy_25 (hc := rfl) (by decide) rfl inX7 (by decide) w_f_RX7_23 rfl) (
  p_cc (n := 26) (s_x) (
  p_cc (n := 27) (s_x) (
  p_cc (n := 28) (s_grN K dX7_goneIfHeldBy_28 (hc := rfl) (by decide) rfl inX2 (by decide) w_f_RX7_128 rfl) (
  p_cc (n := 29) (s_x) (
  p_cc (n := 30) (s_x) (
  p_cc (n := 31) (s_il1 K dX7_goneIfHeldBy_31 rfl) (
  p_cc (n := 32) (cS_X7_at K dX7_goneIfHeldBy_32 w_m_RX7_108) (
  p_cc (n := 33) (s_x) (
  p_cc (n := 34) (s_x) (
  p_cc (n := 35) (s_il1 K dX7_goneIfHeldBy_35 rfl) (
  p_cc (n := 36) (s_ine K dX7_goneIfHeldBy_36 rfl) (
  p_cc (n := 37) (s_x) (
  p_cc (n := 38) (s_x) (
  p_cc (n := 39) (s_al1 K dX7_goneIfHeldBy_39 rfl) (
  p_cc (n := 40) (s_gr (host := "") K dX7_goneIfHeldBy_40 (hc := rfl) (by decide) rfl inX7 (by decide) w_f_RX7_23 rfl) (
  p_cc (n := 41) (s_x) (
  p_cc (n := 42) (s_x) (
  p_cc (n := 43) (s_grN K dX7_goneIfHeldBy_43 (hc := rfl) (by decide) rfl inX2 (by decide) w_f_RX7_128 rfl) (
  p_cc (n := 44) (s_x) (
  p_cc (n := 45) (s_x) (
  p_cc (n := 46) (s_il1 K dX7_goneIfHeldBy_46 rfl) (
  p_cc (n := 47) (s_il1 K dX7_goneIfHeldBy_47 rfl) (
  p_cc (n := 48) (cS_X7_put K dX7_goneIfHeldBy_48 w_m_RX7_166) (
  p_cc (n := 49) (s_x) (
  p_cc (n := 50) (s_x) (
  p_cc (n := 51) (s_ii K dX7_goneIfHeldBy_51 rfl) (
  p_cc (n := 52) (s_x) (
  p_cc (n := 53) (s_x) (
  p_cc (n := 54) (s_goto K dX7_goneIfHeldBy_54 rfl) (
  p_cc (n := 55) (s_x) (
  p_cc (n := 56) (s_x) (
  p_cc (n := 57) (s_al1 K dX7_goneIfHeldBy_57 rfl) (
  p_cc (n := 58) (s_gr (host := "") K dX7_goneIfHeldBy_58 (hc := rfl) (by decide) rfl inX7 (by decide) w_f_RX7_29 rfl) (
  p_cc (n := 59) (s_x) (
  p_cc (n := 60) (s_x) (
  p_cc (n := 61) (s_al1 K dX7_goneIfHeldBy_61 rfl) (
  p_cc (n := 62) (s_gr (host := "") K dX7_goneIfHeldBy_62 (hc := rfl) (by decide) rfl inX7 (by decide) w_f_RX7_23 rfl) (
  p_cc (n := 63) (s_x) (
  p_cc (n := 64) (s_x) (
  p_cc (n := 65) (cVN_X0_hold K dX7_goneIfHeldBy_65 w_m_RX7_177) (
  p_cc (n := 66) (s_x) (
  p_cc (n := 67) (s_x) (
  p_cc (n := 68) (s_al1 K dX7_goneIfHeldBy_68 rfl) (
  p_cc (n := 69) (s_gr (host := "") K dX7_goneIfHeldBy_69 (hc := rfl) (by decide) rfl inX7 (by decide) w_f_RX7_29 rfl) (
  p_cc (n := 70) (s_x) (
  p_cc (n := 71) (s_x) (
  p_cc (n := 72) (s_grN K dX7_goneIfHeldBy_72 (hc := rfl) (by decide) rfl inX0 (by decide) w_f_RX7_183 rfl) (
  p_cc (n := 73) (s_x) (
  p_cc (n := 74) (s_x) (
  p_cc (n := 75) (s_giN K dX7_goneIfHeldBy_75 (hc := rfl) (by decide) rfl inX1 (by decide) w_f_RX7_256 rfl) (
  p_cc (n := 76) (s_x) (
  p_cc (n := 77) (s_x) (
  p_cc (n := 78) (cS_J6_bitCount K dX7_goneIfHeldBy_78 w_m_RX7_209) (
  p_cc (n := 79) (s_x) (
  p_cc (n := 80) (s_x) (
  p_cc (n := 81) (s_ir K dX7_goneIfHeldBy_81 hr hk) (p_cn)))))))))))))))))))))))))))))))))))))))))))))))))))))))))))))))))))))))))))))))))))
set_option maxRecDepth 100000 in
set_option maxHeartbeats 4000000 in
theorem cl_X7_fits {b : Bool} {w : pW} {p : Program} {l : Launch} {e : Env} {R : Room} {s : State} {m : MethodId} {args : Array Value} {below : List Frame} {meth : Method} {c : Code} {cells slots : Nat} {d : Nat} {Q : pQ} (K : q_X b w p s m args c RX7 cX7_fits 2 R d cells slots) (hr : meth.sig.returnType = (some .boolean)) (hk : meth.locks = false) : p_Cl b (q_C l b w) tb_X7_fits d Q (q_Z b w p l e R s m args below meth c 2 cells slots (MQ below (q_Qc b w Q) args s cells slots (q_A b w))) := p_c0 (
  p_cc (n := 0) (s_al1 K dX7_fits_0 rfl) (
  p_cc (n := 1) (s_gr (host := "") K dX7_fits_1 (hc := rfl) (by decide) rfl inX7 (by decide) w_f_RX7_29 rfl) (
  p_cc (n := 2) (s_x) (
  p_cc (n := 3) (s_x) (
  p_cc (n := 4) (s_al1 K dX7_fits_4 rfl) (
  p_cc (n := 5) (cVN_X0_hold K dX7_fits_5 w_m_RX7_177) (
  p_cc (n := 6) (s_x) (
  p_cc (n := 7) (s_x) (
  p_cc (n := 8) (s_al1 K dX7_fits_8 rfl) (
  p_cc (n := 9) (s_gr (host := "") K dX7_fits_9 (hc := rfl) (by decide) rfl inX7 (by decide) w_f_RX7_43 rfl) (
  p_cc (n := 10) (s_x) (
  p_cc (n := 11) (s_x) (
  p_cc (n := 12) (s_al1 K dX7_fits_12 rfl) (
  p_cc (n := 13) (s_gr (host := "") K dX7_fits_13 (hc := rfl) (by decide) rfl inX7 (by decide) w_f_RX7_29 rfl) (
  p_cc (n := 14) (s_x) (
  p_cc (n := 15) (s_x) (
  p_cc (n := 16) (cVN_X5_agreeWith K dX7_fits_16 w_m_RX7_287) (
  p_cc (n := 17) (s_x) (
  p_cc (n := 18) (s_x) (
  p_cc (n := 19) (s_zr K dX7_fits_19 hr hk) (p_cn)))))))))))))))))))))
set_option maxRecDepth 100000 in
set_option maxHeartbeats 4000000 in
theorem cl_X7_fittingWorlds {b : Bool} {w : pW} {p : Program} {l : Launch} {e : Env} {R : Room} {s : State} {m : MethodId} {args : Array Value} {below : List Frame} {meth : Method} {c : Code} {cells slots : Nat} {d : Nat} {Q : pQ} (K : q_X b w p s m args c RX7 cX7_fittingWorlds 4 R d cells slots) (hr : meth.sig.returnType = (some .long)) (hk : meth.locks = false) : p_Cl b (q_C l b w) tb_X7_fittingWorlds d Q (q_Z b w p l e R s m args below meth c 4 cells slots (MQ below (q_Qc b w Q) args s cells slots (q_A b w))) := p_c0 (
  p_cc (n := 0) (s_al1 K dX7_fittingWorlds_0 rfl) (
  p_cc (n := 1) (s_gr (host := "") K dX7_fittingWorlds_1 (hc := rfl) (by decide) rfl inX7 (by decide) w_f_RX7_23 rfl) (
  p_cc (n := 2) (s_x) (
  p_cc (n := 3) (s_x) (
  p_cc (n := 4) (s_al1 K dX7_fittingWorlds_4 rfl) (
  p_cc (n := 5) (s_gr (host := "") K dX7_fittingWorlds_5 (hc := rfl) (by decide) rfl inX7 (by decide) w_f_RX7_19 rfl) (
  p_cc (n := 6) (s_x) (
  p_cc (n := 7) (s_x) (
  p_cc (n := 8) (cVN_X2_copyFrom K dX7_fittingWorlds_8 w_m_RX7_95) (
  p_cc (n := 9) (s_x) (
  p_cc (n := 10) (s_x) (
  p_cc (n := 11) (s_lc K dX7_fittingWorlds_11 rfl) (
  p_cc (n := 12) (s_lst1 K dX7_fittingWorlds_12 rfl) (
  p_cc (n := 13) (s_ic1 K dX7_fittingWorlds_13 rfl) (
  p_cc (n := 14) (s_is1 K dX7_fittingWorlds_14 rfl) (
  p_cc (n := 15) (s_il1 K dX7_fittingWorlds_15 rfl) (
  p_cc (n := 16) (s_al1 K dX7_fittingWorlds_16 rfl) (
  p_cc (n := 17) (s_gr (host := "") K dX7_fittingWorlds_17 (hc := rfl) (by decide) rfl inX7 (by decide) w_f_RX7_19 rfl) (
  p_cc (n := 18) (s_x) (
  p_cc (n := 19) (s_x) (
  p_cc (n := 20) (cVN_X2_worldCount K dX7_fittingWorlds_20 w_m_RX7_238) (
  p_cc (n := 21) (s_x) (
  p_cc (n := 22) (s_x) (
  p_cc (n := 23) (s_ige K dX7_fittingWorlds_23 rfl) (
  p_cc (n := 24) (s_x) (
  p_cc (n := 25) (s_x) (
  p_cc (n := 26) (s_al1 K dX7_fittingWorlds_26 rfl) (
  p_cc (n := 27) (s_gr (host := "") K dX7_fittingWorlds_27 (hc := rfl) (by decide) rfl inX7 (by decide) w_f_RX7_23 rfl) (
  p_cc (n := 28) (s_x) (
  p_cc (n := 29) (s_x) (
  p_cc (n := 30) (s_il1 K dX7_fittingWorlds_30 rfl) (
  p_cc (n := 31) (s_piN K dX7_fittingWorlds_31 (hc := rfl) (by decide) rfl inX2 (by decide) w_f_RX7_118 rfl rfl tyX2 tyX2_ok nmX2 rfl) (
  p_cc (n := 32) (s_x) (
  p_cc (n := 33) (s_x) (
  p_cc (n := 34) (s_al1 K dX7_fittingWorlds_34 rfl) (
  p_cc (n := 35) (s_al1 K dX7_fittingWorlds_35 rfl) (
  p_cc (n := 36) (s_gr (host := "") K dX7_fittingWorlds_36 (hc := rfl) (by decide) rfl inX7 (by decide) w_f_RX7_23 rfl) (
  p_cc (n := 37) (s_x) (
  p_cc (n := 38) (s_x) (
  p_cc (n := 39) (cV_X7_fits K dX7_fittingWorlds_39 w_m_RX7_250) (
  p_cc (n := 40) (s_x) (
  p_cc (n := 41) (s_x) (
  p_cc (n := 42) (s_eq0 K dX7_fittingWorlds_42 rfl) (
  p_cc (n := 43) (s_x) (
  p_cc (n := 44) (s_x) (
  p_cc (n := 45) (s_ll1 K dX7_fittingWorlds_45 rfl) (
  p_cc (n := 46) (s_lc K dX7_fittingWorlds_46 rfl) (
  p_cc (n := 47) (s_il1 K dX7_fittingWorlds_47 rfl) (
  p_cc (n := 48) (s_lshl K dX7_fittingWorlds_48) (
  p_cc (n := 49) (s_lor K dX7_fittingWorlds_49) (
  p_cc (n := 50) (s_lst1 K dX7_fittingWorlds_50 rfl) (
  p_cc (n := 51) (s_ii K dX7_fittingWorlds_51 rfl) (
  p_cc (n := 52) (s_x) (
  p_cc (n := 53) (s_x) (
  p_cc (n := 54) (s_goto K dX7_fittingWorlds_54 rfl) (
  p_cc (n := 55) (s_x) (
  p_cc (n := 56) (s_x) (
  p_cc (n := 57) (s_ll1 K dX7_fittingWorlds_57 rfl) (
  p_cc (n := 58) (s_lr K dX7_fittingWorlds_58 hr hk) (p_cn))))))))))))))))))))))))))))))))))))))))))))))))))))))))))))
set_option maxRecDepth 100000 in
set_option maxHeartbeats 4000000 in
theorem cl_X7_lowestWorld {b : Bool} {w : pW} {p : Program} {l : Launch} {e : Env} {R : Room} {s : State} {m : MethodId} {args : Array Value} {below : List Frame} {meth : Method} {c : Code} {cells slots : Nat} {d : Nat} {Q : pQ} (K : q_X b w p s m args c RX7 cX7_lowestWorld 4 R d cells slots) (hr : meth.sig.returnType = (some .int)) (hk : meth.locks = false) : p_Cl b (q_C l b w) tb_X7_lowestWorld d Q (q_Z b w p l e R s m args below meth c 4 cells slots (MQ below (q_Qc b w Q) args s cells slots (q_A b w))) := p_c0 (
  p_cc (n := 0) (s_ic1 K dX7_lowestWorld_0 rfl) (
  p_cc (n := 1) (s_is1 K dX7_lowestWorld_1 rfl) (
  p_cc (n := 2) (s_il1 K dX7_lowestWorld_2 rfl) (
  p_cc (n := 3) (s_al1 K dX7_lowestWorld_3 rfl) (
  p_cc (n := 4) (s_gr (host := "") K dX7_lowestWorld_4 (hc := rfl) (by decide) rfl inX7 (by decide) w_f_RX7_19 rfl) (
  p_cc (n := 5) (s_x) (
  p_cc (n := 6) (s_x) (
  p_cc (n := 7) (cVN_X2_worldCount K dX7_lowestWorld_7 w_m_RX7_238) (
  p_cc (n := 8) (s_x) (
  p_cc (n := 9) (s_x) (
  p_cc (n := 10) (s_ige K dX7_lowestWorld_10 rfl) (
  p_cc (n := 11) (s_x) (
  p_cc (n := 12) (s_x) (
  p_cc (n := 13) (s_ll1 K dX7_lowestWorld_13 rfl) (
  p_cc (n := 14) (s_il1 K dX7_lowestWorld_14 rfl) (
  p_cc (n := 15) (cS_X7_isIn K dX7_lowestWorld_15 w_m_RX7_291) (
  p_cc (n := 16) (s_x) (
  p_cc (n := 17) (s_x) (
  p_cc (n := 18) (s_eq0 K dX7_lowestWorld_18 rfl) (
  p_cc (n := 19) (s_x) (
  p_cc (n := 20) (s_x) (
  p_cc (n := 21) (s_il1 K dX7_lowestWorld_21 rfl) (
  p_cc (n := 22) (s_ir K dX7_lowestWorld_22 hr hk) (
  p_cc (n := 23) (s_ii K dX7_lowestWorld_23 rfl) (
  p_cc (n := 24) (s_x) (
  p_cc (n := 25) (s_x) (
  p_cc (n := 26) (s_goto K dX7_lowestWorld_26 rfl) (
  p_cc (n := 27) (s_x) (
  p_cc (n := 28) (s_x) (
  p_cc (n := 29) (s_ic2 K dX7_lowestWorld_29 rfl) (
  p_cc (n := 30) (s_x) (
  p_cc (n := 31) (s_ir K dX7_lowestWorld_31 hr hk) (p_cn)))))))))))))))))))))))))))))))))
set_option maxRecDepth 100000 in
set_option maxHeartbeats 4000000 in
theorem cl_X7_isIn {b : Bool} {w : pW} {p : Program} {l : Launch} {e : Env} {R : Room} {s : State} {m : MethodId} {args : Array Value} {below : List Frame} {meth : Method} {c : Code} {cells slots : Nat} {d : Nat} {Q : pQ} (K : q_X b w p s m args c RX7 cX7_isIn 3 R d cells slots) (hr : meth.sig.returnType = (some .boolean)) (hk : meth.locks = false) : p_Cl b (q_C l b w) tb_X7_isIn d Q (q_Z b w p l e R s m args below meth c 3 cells slots (MQ below (q_Qc b w Q) args s cells slots (q_A b w))) := p_c0 (
  p_cc (n := 0) (s_ll1 K dX7_isIn_0 rfl) (
  p_cc (n := 1) (s_il1 K dX7_isIn_1 rfl) (
  p_cc (n := 2) (s_lshr K dX7_isIn_2) (
  p_cc (n := 3) (s_lc K dX7_isIn_3 rfl) (
  p_cc (n := 4) (s_land K dX7_isIn_4) (
  p_cc (n := 5) (s_lc K dX7_isIn_5 rfl) (
  p_cc (n := 6) (s_lcmp K dX7_isIn_6) (
  p_cc (n := 7) (s_ne0 K dX7_isIn_7 rfl) (
  p_cc (n := 8) (s_x) (
  p_cc (n := 9) (s_x) (
  p_cc (n := 10) (s_ic1 K dX7_isIn_10 rfl) (
  p_cc (n := 11) (s_goto K dX7_isIn_11 rfl) (
  p_cc (n := 12) (s_x) (
  p_cc (n := 13) (s_x) (
  p_cc (n := 14) (s_ic1 K dX7_isIn_14 rfl) (
  p_cc (n := 15) (s_zr K dX7_isIn_15 hr hk) (p_cn)))))))))))))))))
set_option maxRecDepth 100000 in
set_option maxHeartbeats 4000000 in
theorem cl_X7_sureFacts {b : Bool} {w : pW} {p : Program} {l : Launch} {e : Env} {R : Room} {s : State} {m : MethodId} {args : Array Value} {below : List Frame} {meth : Method} {c : Code} {cells slots : Nat} {d : Nat} {Q : pQ} (K : q_X b w p s m args c RX7 cX7_sureFacts 6 R d cells slots) (hr : meth.sig.returnType = (some .int)) (hk : meth.locks = false) : p_Cl b (q_C l b w) tb_X7_sureFacts d Q (q_Z b w p l e R s m args below meth c 6 cells slots (MQ below (q_Qc b w Q) args s cells slots (q_A b w))) := p_c0 (
  p_cc (n := 0) (s_al1 K dX7_sureFacts_0 rfl) (
  p_cc (n := 1) (s_gr (host := "") K dX7_sureFacts_1 (hc := rfl) (by decide) rfl inX7 (by decide) w_f_RX7_19 rfl) (
  p_cc (n := 2) (s_x) (
  p_cc (n := 3) (s_x) (
  p_cc (n := 4) (cVN_X2_worldCount K dX7_sureFacts_4 w_m_RX7_238) (
  p_cc (n := 5) (s_x) (
  p_cc (n := 6) (s_x) (
  p_cc (n := 7) (s_ic1 K dX7_sureFacts_7 rfl) (
  p_cc (n := 8) (s_sub K dX7_sureFacts_8) (
  p_cc (n := 9) (s_is2 K dX7_sureFacts_9) (
  p_cc (n := 10) (s_x) (
  p_cc (n := 11) (s_ic1 K dX7_sureFacts_11 rfl) (
  p_cc (n := 12) (s_is2 K dX7_sureFacts_12) (
  p_cc (n := 13) (s_x) (
  p_cc (n := 14) (s_il2 K dX7_sureFacts_14) (
  p_cc (n := 15) (s_x) (
  p_cc (n := 16) (s_al1 K dX7_sureFacts_16 rfl) (
  p_cc (n := 17) (s_gr (host := "") K dX7_sureFacts_17 (hc := rfl) (by decide) rfl inX7 (by decide) w_f_RX7_19 rfl) (
  p_cc (n := 18) (s_x) (
  p_cc (n := 19) (s_x) (
  p_cc (n := 20) (cVN_X2_worldCount K dX7_sureFacts_20 w_m_RX7_238) (
  p_cc (n := 21) (s_x) (
  p_cc (n := 22) (s_x) (
  p_cc (n := 23) (s_ige K dX7_sureFacts_23 rfl) (
  p_cc (n := 24) (s_x) (
  p_cc (n := 25) (s_x) (
  p_cc (n := 26) (s_ll1 K dX7_sureFacts_26 rfl) (
  p_cc (n := 27) (s_il2 K dX7_sureFacts_27) (
  p_cc (n := 28) (s_x) (
  p_cc (n := 29) (cS_X7_isIn K dX7_sureFacts_29 w_m_RX7_291) (
  p_cc (n := 30) (s_x) (
  p_cc (n := 31) (s_x) (
  p_cc (n := 32) (s_eq0 K dX7_sureFacts_32 rfl) (
  p_cc (n := 33) (s_x) (
  p_cc (n := 34) (s_x) (
  p_cc (n := 35) (s_il2 K dX7_sureFacts_35) (
  p_cc (n := 36) (s_x) (
  p_cc (n := 37) (s_il2 K dX7_sureFacts_37) (
  p_cc (n := 38) (s_x) (
  p_cc (n := 39) (s_il1 K dX7_sureFacts_39 rfl) (
  p_cc (n := 40) (s_xor K dX7_sureFacts_40) (
  p_cc (n := 41) (s_and K dX7_sureFacts_41) (
  p_cc (n := 42) (s_is2 K dX7_sureFacts_42) (
  p_cc (n := 43) (s_x) (
  p_cc (n := 44) (s_ii K dX7_sureFacts_44 rfl) (
  p_cc (n := 45) (s_x) (
  p_cc (n := 46) (s_x) (
  p_cc (n := 47) (s_goto K dX7_sureFacts_47 rfl) (
  p_cc (n := 48) (s_x) (
  p_cc (n := 49) (s_x) (
  p_cc (n := 50) (s_il2 K dX7_sureFacts_50) (
  p_cc (n := 51) (s_x) (
  p_cc (n := 52) (s_ir K dX7_sureFacts_52 hr hk) (p_cn))))))))))))))))))))))))))))))))))))))))))))))))))))))
set_option maxRecDepth 100000 in
set_option maxHeartbeats 4000000 in
theorem cl_X7_worldsOfDrop {b : Bool} {w : pW} {p : Program} {l : Launch} {e : Env} {R : Room} {s : State} {m : MethodId} {args : Array Value} {below : List Frame} {meth : Method} {c : Code} {cells slots : Nat} {d : Nat} {Q : pQ} (K : q_X b w p s m args c RX7 cX7_worldsOfDrop 8 R d cells slots) (hr : meth.sig.returnType = (some .int)) (hk : meth.locks = false) : p_Cl b (q_C l b w) tb_X7_worldsOfDrop d Q (q_Z b w p l e R s m args below meth c 8 cells slots (MQ below (q_Qc b w Q) args s cells slots (q_A b w))) := p_c0 (
  p_cc (n := 0) (s_al1 K dX7_worldsOfDrop_0 rfl) (
  p_cc (n := 1) (s_gr (host := "") K dX7_worldsOfDrop_1 (hc := rfl) (by decide) rfl inX7 (by decide) w_f_RX7_23 rfl) (
  p_cc (n := 2) (s_x) (
  p_cc (n := 3) (s_x) (
  p_cc (n := 4) (s_al1 K dX7_worldsOfDrop_4 rfl) (
  p_cc (n := 5) (s_gr (host := "") K dX7_worldsOfDrop_5 (hc := rfl) (by decide) rfl inX7 (by decide) w_f_RX7_19 rfl) (
  p_cc (n := 6) (s_x) (
  p_cc (n := 7) (s_x) (
  p_cc (n := 8) (cVN_X2_copyFrom K dX7_worldsOfDrop_8 w_m_RX7_95) (
  p_cc (n := 9) (s_x) (
  p_cc (n := 10) (s_x) (
  p_cc (n := 11) (s_al1 K dX7_worldsOfDrop_11 rfl) (
  p_cc (n := 12) (s_gr (host := "") K dX7_worldsOfDrop_12 (hc := rfl) (by decide) rfl inX7 (by decide) w_f_RX7_23 rfl) (
  p_cc (n := 13) (s_x) (
  p_cc (n := 14) (s_x) (
  p_cc (n := 15) (s_il1 K dX7_worldsOfDrop_15 rfl) (
  p_cc (n := 16) (s_il2 K dX7_worldsOfDrop_16) (
  p_cc (n := 17) (s_x) (
  p_cc (n := 18) (s_ic1 K dX7_worldsOfDrop_18 rfl) (
  p_cc (n := 19) (s_il2 K dX7_worldsOfDrop_19) (
  p_cc (n := 20) (s_x) (
  p_cc (n := 21) (cVN_X2_addClaim K dX7_worldsOfDrop_21 w_m_RX7_156) (
  p_cc (n := 22) (s_x) (
  p_cc (n := 23) (s_x) (
  p_cc (n := 24) (s_pop K dX7_worldsOfDrop_24) (
  p_cc (n := 25) (s_ic1 K dX7_worldsOfDrop_25 rfl) (
  p_cc (n := 26) (s_is2 K dX7_worldsOfDrop_26) (
  p_cc (n := 27) (s_x) (
  p_cc (n := 28) (s_ic1 K dX7_worldsOfDrop_28 rfl) (
  p_cc (n := 29) (s_is2 K dX7_worldsOfDrop_29) (
  p_cc (n := 30) (s_x) (
  p_cc (n := 31) (s_il2 K dX7_worldsOfDrop_31) (
  p_cc (n := 32) (s_x) (
  p_cc (n := 33) (s_al1 K dX7_worldsOfDrop_33 rfl) (
  p_cc (n := 34) (s_gr (host := "") K dX7_worldsOfDrop_34 (hc := rfl) (by decide) rfl inX7 (by decide) w_f_RX7_19 rfl) (
  p_cc (n := 35) (s_x) (
  p_cc (n := 36) (s_x) (
  p_cc (n := 37) (cVN_X2_worldCount K dX7_worldsOfDrop_37 w_m_RX7_238) (
  p_cc (n := 38) (s_x) (
  p_cc (n := 39) (s_x) (
  p_cc (n := 40) (s_ige K dX7_worldsOfDrop_40 rfl) (
  p_cc (n := 41) (s_x) (
  p_cc (n := 42) (s_x) (
  p_cc (n := 43) (s_ll1 K dX7_worldsOfDrop_43 rfl) (
  p_cc (n := 44) (s_il2 K dX7_worldsOfDrop_44) (
  p_cc (n := 45) (s_x) (
  p_cc (n := 46) (cS_X7_isIn K dX7_worldsOfDrop_46 w_m_RX7_291) (
  p_cc (n := 47) (s_x) (
  p_cc (n := 48) (s_x) (
  p_cc (n := 49) (s_eq0 K dX7_worldsOfDrop_49 rfl) (
  p_cc (n := 50) (s_x) (
  p_cc (n := 51) (s_x) (
  p_cc (n := 52) (s_al1 K dX7_worldsOfDrop_52 rfl) (
  p_cc (n := 53) (s_gr (host := "") K dX7_worldsOfDrop_53 (hc := rfl) (by decide) rfl inX7 (by decide) w_f_RX7_23 rfl) (
  p_cc (n := 54) (s_x) (
  p_cc (n := 55) (s_x) (
  p_cc (n := 56) (s_il2 K dX7_worldsOfDrop_56) (
  p_cc (n := 57) (s_x) (
  p_cc (n := 58) (s_piN K dX7_worldsOfDrop_58 (hc := rfl) (by decide) rfl inX2 (by decide) w_f_RX7_118 rfl rfl tyX2 tyX2_ok nmX2 rfl) (
  p_cc (n := 59) (s_x) (
  p_cc (n := 60) (s_x) (
  p_cc (n := 61) (s_al1 K dX7_worldsOfDrop_61 rfl) (
  p_cc (n := 62) (s_gr (host := "") K dX7_worldsOfDrop_62 (hc := rfl) (by decide) rfl inX7 (by decide) w_f_RX7_29 rfl) (
  p_cc (n := 63) (s_x) (
  p_cc (n := 64) (s_x) (
  p_cc (n := 65) (s_al1 K dX7_worldsOfDrop_65 rfl) (
  p_cc (n := 66) (s_gr (host := "") K dX7_worldsOfDrop_66 (hc := rfl) (by decide) rfl inX7 (by decide) w_f_RX7_23 rfl) (
  p_cc (n := 67) (s_x) (
  p_cc (n := 68) (s_x) (
  p_cc (n := 69) (cVN_X0_hold K dX7_worldsOfDrop_69 w_m_RX7_177) (
  p_cc (n := 70) (s_x) (
  p_cc (n := 71) (s_x) (
  p_cc (n := 72) (s_al1 K dX7_worldsOfDrop_72 rfl) (
  p_cc (n := 73) (s_gr (host := "") K dX7_worldsOfDrop_73 (hc := rfl) (by decide) rfl inX7 (by decide) w_f_RX7_29 rfl) (
  p_cc (n := 74) (s_x) (
  p_cc (n := 75) (s_x) (
  p_cc (n := 76) (s_grN K dX7_worldsOfDrop_76 (hc := rfl) (by decide) rfl inX0 (by decide) w_f_RX7_180 rfl) (
  p_cc (n := 77) (s_x) (
  p_cc (n := 78) (s_x) (
  p_cc (n := 79) (s_il1 K dX7_worldsOfDrop_79 rfl) (
  p_cc (n := 80) (cS_X7_at K dX7_worldsOfDrop_80 w_m_RX7_108) (
  p_cc (n := 81) (s_x) (
  p_cc (n := 82) (s_x) (
  p_cc (n := 83) (s_al1 K dX7_worldsOfDrop_83 rfl) (
  p_cc (n := 84) (s_gr (host := "") K dX7_worldsOfDrop_84 (hc := rfl) (by decide) rfl inX7 (by decide) w_f_RX7_19 rfl) (
  p_cc (n := 85) (s_x) (
  p_cc (n := 86) (s_x) (
  p_cc (n := 87) (s_giN K dX7_worldsOfDrop_87 (hc := rfl) (by decide) rfl inX2 (by decide) w_f_RX7_153 rfl) (
  p_cc (n := 88) (s_x) (
  p_cc (n := 89) (s_x) (
  p_cc (n := 90) (s_ine K dX7_worldsOfDrop_90 rfl) (
  p_cc (n := 91) (s_x) (
  p_cc (n := 92) (s_x) (
  p_cc (n := 93) (s_ii K dX7_worldsOfDrop_93 rfl) (
  p_cc (n := 94) (s_x) (
  p_cc (n := 95) (s_x) (
  p_cc (n := 96) (s_ii K dX7_worldsOfDrop_96 rfl) (
  p_cc (n := 97) (s_x) (
  p_cc (n := 98) (s_x) (
  p_cc (n := 99) (s_goto K dX7_worldsOfDrop_99 rfl) (
  p_cc (n := 100) (s_x) (
  p_cc (n := 101) (s_x) (
  p_cc (n := 102) (s_il2 K dX7_worldsOfDrop_102) (
  p_cc (n := 103) (s_x) (
  p_cc (n := 104) (s_ir K dX7_worldsOfDrop_104 hr hk) (p_cn))))))))))))))))))))))))))))))))))))))))))))))))))))))))))))))))))))))))))))))))))))))))))))))))))))))))))
set_option maxRecDepth 100000 in
set_option maxHeartbeats 4000000 in
theorem cl_X7_chanceOf {b : Bool} {w : pW} {p : Program} {l : Launch} {e : Env} {R : Room} {s : State} {m : MethodId} {args : Array Value} {below : List Frame} {meth : Method} {c : Code} {cells slots : Nat} {d : Nat} {Q : pQ} (K : q_X b w p s m args c RX7 cX7_chanceOf 5 R d cells slots) (hr : meth.sig.returnType = (some .int)) (hk : meth.locks = false) : p_Cl b (q_C l b w) tb_X7_chanceOf d Q (q_Z b w p l e R s m args below meth c 5 cells slots (MQ below (q_Qc b w Q) args s cells slots (q_A b w))) := p_c0 (
  p_cc (n := 0) (s_ic1 K dX7_chanceOf_0 rfl) (
  p_cc (n := 1) (s_is1 K dX7_chanceOf_1 rfl) (
  p_cc (n := 2) (s_ic1 K dX7_chanceOf_2 rfl) (
  p_cc (n := 3) (s_is2 K dX7_chanceOf_3) (
  p_cc (n := 4) (s_x) (
  p_cc (n := 5) (s_il2 K dX7_chanceOf_5) (
  p_cc (n := 6) (s_x) (
  p_cc (n := 7) (s_al1 K dX7_chanceOf_7 rfl) (
  p_cc (n := 8) (s_gr (host := "") K dX7_chanceOf_8 (hc := rfl) (by decide) rfl inX7 (by decide) w_f_RX7_19 rfl) (
  p_cc (n := 9) (s_x) (
  p_cc (n := 10) (s_x) (
  p_cc (n := 11) (s_giN K dX7_chanceOf_11 (hc := rfl) (by decide) rfl inX2 (by decide) w_f_RX7_92 rfl) (
  p_cc (n := 12) (s_x) (
  p_cc (n := 13) (s_x) (
  p_cc (n := 14) (s_ige K dX7_chanceOf_14 rfl) (
  p_cc (n := 15) (s_x) (
  p_cc (n := 16) (s_x) (
  p_cc (n := 17) (s_il1 K dX7_chanceOf_17 rfl) (
  p_cc (n := 18) (s_il1 K dX7_chanceOf_18 rfl) (
  p_cc (n := 19) (s_il2 K dX7_chanceOf_19) (
  p_cc (n := 20) (s_x) (
  p_cc (n := 21) (cS_X7_bit K dX7_chanceOf_21 w_m_RX7_121) (
  p_cc (n := 22) (s_x) (
  p_cc (n := 23) (s_x) (
  p_cc (n := 24) (s_ic1 K dX7_chanceOf_24 rfl) (
  p_cc (n := 25) (s_ine K dX7_chanceOf_25 rfl) (
  p_cc (n := 26) (s_x) (
  p_cc (n := 27) (s_x) (
  p_cc (n := 28) (s_il1 K dX7_chanceOf_28 rfl) (
  p_cc (n := 29) (s_goto K dX7_chanceOf_29 rfl) (
  p_cc (n := 30) (s_x) (
  p_cc (n := 31) (s_x) (
  p_cc (n := 32) (s_ic2 K dX7_chanceOf_32 rfl) (
  p_cc (n := 33) (s_x) (
  p_cc (n := 34) (s_il1 K dX7_chanceOf_34 rfl) (
  p_cc (n := 35) (s_sub K dX7_chanceOf_35) (
  p_cc (n := 36) (s_mul K dX7_chanceOf_36) (
  p_cc (n := 37) (s_is1 K dX7_chanceOf_37 rfl) (
  p_cc (n := 38) (s_ii K dX7_chanceOf_38 rfl) (
  p_cc (n := 39) (s_x) (
  p_cc (n := 40) (s_x) (
  p_cc (n := 41) (s_goto K dX7_chanceOf_41 rfl) (
  p_cc (n := 42) (s_x) (
  p_cc (n := 43) (s_x) (
  p_cc (n := 44) (s_il1 K dX7_chanceOf_44 rfl) (
  p_cc (n := 45) (s_ir K dX7_chanceOf_45 hr hk) (p_cn)))))))))))))))))))))))))))))))))))))))))))))))
set_option maxRecDepth 100000 in
set_option maxHeartbeats 4000000 in
theorem cl_X7_draw {b : Bool} {w : pW} {p : Program} {l : Launch} {e : Env} {R : Room} {s : State} {m : MethodId} {args : Array Value} {below : List Frame} {meth : Method} {c : Code} {cells slots : Nat} {d : Nat} {Q : pQ} (K : q_X b w p s m args c RX7 cX7_draw 4 R d cells slots) (hr : meth.sig.returnType = (some .int)) (hk : meth.locks = false) : p_Cl b (q_C l b w) tb_X7_draw d Q (q_Z b w p l e R s m args below meth c 4 cells slots (MQ below (q_Qc b w Q) args s cells slots (q_A b w))) := p_c0 (
  p_cc (n := 0) (s_ldc2 K dX7_draw_0 w_l_RX7_295) (
  p_cc (n := 1) (s_x) (
  p_cc (n := 2) (s_x) (
  p_cc (n := 3) (s_il1 K dX7_draw_3 rfl) (
  p_cc (n := 4) (s_i2l K dX7_draw_4) (
  p_cc (n := 5) (s_lmul K dX7_draw_5) (
  p_cc (n := 6) (s_ldc2 K dX7_draw_6 w_l_RX7_297) (
  p_cc (n := 7) (s_x) (
  p_cc (n := 8) (s_x) (
  p_cc (n := 9) (s_il1 K dX7_draw_9 rfl) (
  p_cc (n := 10) (s_i2l K dX7_draw_10) (
  p_cc (n := 11) (s_lmul K dX7_draw_11) (
  p_cc (n := 12) (s_ladd K dX7_draw_12) (
  p_cc (n := 13) (s_lc K dX7_draw_13 rfl) (
  p_cc (n := 14) (s_ladd K dX7_draw_14) (
  p_cc (n := 15) (s_lst1 K dX7_draw_15 rfl) (
  p_cc (n := 16) (s_ll1 K dX7_draw_16 rfl) (
  p_cc (n := 17) (s_ll1 K dX7_draw_17 rfl) (
  p_cc (n := 18) (s_lmul K dX7_draw_18) (
  p_cc (n := 19) (s_ldc2 K dX7_draw_19 w_l_RX7_299) (
  p_cc (n := 20) (s_x) (
  p_cc (n := 21) (s_x) (
  p_cc (n := 22) (s_lrem K dX7_draw_22) (
  p_cc (n := 23) (s_ldc2 K dX7_draw_23 w_l_RX7_301) (
  p_cc (n := 24) (s_x) (
  p_cc (n := 25) (s_x) (
  p_cc (n := 26) (s_ldiv K dX7_draw_26) (
  p_cc (n := 27) (s_l2i K dX7_draw_27) (
  p_cc (n := 28) (s_ir K dX7_draw_28 hr hk) (p_cn))))))))))))))))))))))))))))))
