set_option maxRecDepth 100000 in
set_option maxHeartbeats 4000000 in
theorem cl_X7_stir {b : Bool} {w : pW} {p : Program} {l : Launch} {e : Env} {R : Room} {s : State} {m : MethodId} {args : Array Value} {below : List Frame} {meth : Method} {c : Code} {cells slots : Nat} {d : Nat} {Q : pQ} (K : q_X b w p s m args c RX7 cX7_stir 2 R d cells slots) (hr : meth.sig.returnType = none) (hk : meth.locks = false) : p_Cl b (q_C l b w) tb_X7_stir d Q (q_Z b w p l e R s m args below meth c 2 cells slots (MQ below (q_Qc b w Q) args s cells slots (q_A b w))) := p_c0 (
  p_cc (n := 0) (s_al1 K dX7_stir_0 rfl) (
  p_cc (n := 1) (s_giN K dX7_stir_1 (hc := rfl) (by decide) rfl inX2 (by decide) w_f_RX7_92 rfl) (
  p_cc (n := 2) (s_x) (
  p_cc (n := 3) (s_x) (
  p_cc (n := 4) (s_le0 K dX7_stir_4 rfl) (
  p_cc (n := 5) (s_x) (
  p_cc (n := 6) (s_x) (
  p_cc (n := 7) (s_il1 K dX7_stir_7 rfl) (
  p_cc (n := 8) (s_ic2 K dX7_stir_8 rfl) (
  p_cc (n := 9) (s_x) (
  p_cc (n := 10) (s_div K dX7_stir_10) (
  p_cc (n := 11) (s_ic1 K dX7_stir_11 rfl) (
  p_cc (n := 12) (s_rem K dX7_stir_12) (
  p_cc (n := 13) (s_ne0 K dX7_stir_13 rfl) (
  p_cc (n := 14) (s_x) (
  p_cc (n := 15) (s_x) (
  p_cc (n := 16) (s_al1 K dX7_stir_16 rfl) (
  p_cc (n := 17) (s_il1 K dX7_stir_17 rfl) (
  p_cc (n := 18) (s_al1 K dX7_stir_18 rfl) (
  p_cc (n := 19) (s_giN K dX7_stir_19 (hc := rfl) (by decide) rfl inX2 (by decide) w_f_RX7_92 rfl) (
  p_cc (n := 20) (s_x) (
  p_cc (n := 21) (s_x) (
  p_cc (n := 22) (s_rem K dX7_stir_22) (
  p_cc (n := 23) (cVN_X2_turnFact K dX7_stir_23 w_m_RX7_146) (
  p_cc (n := 24) (s_x) (
  p_cc (n := 25) (s_x) (
  p_cc (n := 26) (s_il1 K dX7_stir_26 rfl) (
  p_cc (n := 27) (s_ic2 K dX7_stir_27 rfl) (
  p_cc (n := 28) (s_x) (
  p_cc (n := 29) (s_div K dX7_stir_29) (
  p_cc (n := 30) (s_ic1 K dX7_stir_30 rfl) (
  p_cc (n := 31) (s_rem K dX7_stir_31) (
  p_cc (n := 32) (s_ne0 K dX7_stir_32 rfl) (
  p_cc (n := 33) (s_x) (
  p_cc (n := 34) (s_x) (
  p_cc (n := 35) (s_al1 K dX7_stir_35 rfl) (
  p_cc (n := 36) (s_giN K dX7_stir_36 (hc := rfl) (by decide) rfl inX2 (by decide) w_f_RX7_153 rfl) (
  p_cc (n := 37) (s_x) (
  p_cc (n := 38) (s_x) (
  p_cc (n := 39) (s_le0 K dX7_stir_39 rfl) (
  p_cc (n := 40) (s_x) (
  p_cc (n := 41) (s_x) (
  p_cc (n := 42) (s_al1 K dX7_stir_42 rfl) (
  p_cc (n := 43) (s_ic1 K dX7_stir_43 rfl) (
  p_cc (n := 44) (s_al1 K dX7_stir_44 rfl) (
  p_cc (n := 45) (s_giN K dX7_stir_45 (hc := rfl) (by decide) rfl inX2 (by decide) w_f_RX7_153 rfl) (
  p_cc (n := 46) (s_x) (
  p_cc (n := 47) (s_x) (
  p_cc (n := 48) (s_ic1 K dX7_stir_48 rfl) (
  p_cc (n := 49) (s_sub K dX7_stir_49) (
  p_cc (n := 50) (cVN_X2_moveClaim K dX7_stir_50 w_m_RX7_162) (
  p_cc (n := 51) (s_x) (
  p_cc (n := 52) (s_x) (
  p_cc (n := 53) (s_vr K dX7_stir_53 hr hk) (p_cn)))))))))))))))))))))))))))))))))))))))))))))))))))))))
set_option maxRecDepth 100000 in
set_option maxHeartbeats 4000000 in
theorem cl_X7_greatestDivisor {b : Bool} {w : pW} {p : Program} {l : Launch} {e : Env} {R : Room} {s : State} {m : MethodId} {args : Array Value} {below : List Frame} {meth : Method} {c : Code} {cells slots : Nat} {d : Nat} {Q : pQ} (K : q_X b w p s m args c RX7 cX7_greatestDivisor 4 R d cells slots) (hr : meth.sig.returnType = (some .int)) (hk : meth.locks = false) : p_Cl b (q_C l b w) tb_X7_greatestDivisor d Q (q_Z b w p l e R s m args below meth c 4 cells slots (MQ below (q_Qc b w Q) args s cells slots (q_A b w))) := p_c0 (
  p_cc (n := 0) (s_ic1 K dX7_greatestDivisor_0 rfl) (
  p_cc (n := 1) (s_is1 K dX7_greatestDivisor_1 rfl) (
  p_cc (n := 2) (s_il1 K dX7_greatestDivisor_2 rfl) (
  p_cc (n := 3) (s_ic2 K dX7_greatestDivisor_3 rfl) (
  p_cc (n := 4) (s_x) (
  p_cc (n := 5) (s_ige K dX7_greatestDivisor_5 rfl) (
  p_cc (n := 6) (s_x) (
  p_cc (n := 7) (s_x) (
  p_cc (n := 8) (s_il1 K dX7_greatestDivisor_8 rfl) (
  p_cc (n := 9) (s_eq0 K dX7_greatestDivisor_9 rfl) (
  p_cc (n := 10) (s_x) (
  p_cc (n := 11) (s_x) (
  p_cc (n := 12) (s_il1 K dX7_greatestDivisor_12 rfl) (
  p_cc (n := 13) (s_il1 K dX7_greatestDivisor_13 rfl) (
  p_cc (n := 14) (s_rem K dX7_greatestDivisor_14) (
  p_cc (n := 15) (s_is1 K dX7_greatestDivisor_15 rfl) (
  p_cc (n := 16) (s_il1 K dX7_greatestDivisor_16 rfl) (
  p_cc (n := 17) (s_is1 K dX7_greatestDivisor_17 rfl) (
  p_cc (n := 18) (s_il1 K dX7_greatestDivisor_18 rfl) (
  p_cc (n := 19) (s_is1 K dX7_greatestDivisor_19 rfl) (
  p_cc (n := 20) (s_ii K dX7_greatestDivisor_20 rfl) (
  p_cc (n := 21) (s_x) (
  p_cc (n := 22) (s_x) (
  p_cc (n := 23) (s_goto K dX7_greatestDivisor_23 rfl) (
  p_cc (n := 24) (s_x) (
  p_cc (n := 25) (s_x) (
  p_cc (n := 26) (s_il1 K dX7_greatestDivisor_26 rfl) (
  p_cc (n := 27) (s_ir K dX7_greatestDivisor_27 hr hk) (p_cn)))))))))))))))))))))))))))))
set_option maxRecDepth 100000 in
set_option maxHeartbeats 4000000 in
theorem cl_X7_within {b : Bool} {w : pW} {p : Program} {l : Launch} {e : Env} {R : Room} {s : State} {m : MethodId} {args : Array Value} {below : List Frame} {meth : Method} {c : Code} {cells slots : Nat} {d : Nat} {Q : pQ} (K : q_X b w p s m args c RX7 cX7_within 3 R d cells slots) (hr : meth.sig.returnType = (some .boolean)) (hk : meth.locks = false) : p_Cl b (q_C l b w) tb_X7_within d Q (q_Z b w p l e R s m args below meth c 3 cells slots (MQ below (q_Qc b w Q) args s cells slots (q_A b w))) := p_c0 (
  p_cc (n := 0) (s_il1 K dX7_within_0 rfl) (
  p_cc (n := 1) (s_il1 K dX7_within_1 rfl) (
  p_cc (n := 2) (s_ilt K dX7_within_2 rfl) (
  p_cc (n := 3) (s_x) (
  p_cc (n := 4) (s_x) (
  p_cc (n := 5) (s_il1 K dX7_within_5 rfl) (
  p_cc (n := 6) (s_il1 K dX7_within_6 rfl) (
  p_cc (n := 7) (s_igt K dX7_within_7 rfl) (
  p_cc (n := 8) (s_x) (
  p_cc (n := 9) (s_x) (
  p_cc (n := 10) (s_ic1 K dX7_within_10 rfl) (
  p_cc (n := 11) (s_goto K dX7_within_11 rfl) (
  p_cc (n := 12) (s_x) (
  p_cc (n := 13) (s_x) (
  p_cc (n := 14) (s_ic1 K dX7_within_14 rfl) (
  p_cc (n := 15) (s_zr K dX7_within_15 hr hk) (p_cn)))))))))))))))))
set_option maxRecDepth 100000 in
set_option maxHeartbeats 4000000 in
theorem cl_X7_bit {b : Bool} {w : pW} {p : Program} {l : Launch} {e : Env} {R : Room} {s : State} {m : MethodId} {args : Array Value} {below : List Frame} {meth : Method} {c : Code} {cells slots : Nat} {d : Nat} {Q : pQ} (K : q_X b w p s m args c RX7 cX7_bit 2 R d cells slots) (hr : meth.sig.returnType = (some .int)) (hk : meth.locks = false) : p_Cl b (q_C l b w) tb_X7_bit d Q (q_Z b w p l e R s m args below meth c 2 cells slots (MQ below (q_Qc b w Q) args s cells slots (q_A b w))) := p_c0 (
  p_cc (n := 0) (s_il1 K dX7_bit_0 rfl) (
  p_cc (n := 1) (s_il1 K dX7_bit_1 rfl) (
  p_cc (n := 2) (s_shr K dX7_bit_2) (
  p_cc (n := 3) (s_ic1 K dX7_bit_3 rfl) (
  p_cc (n := 4) (s_and K dX7_bit_4) (
  p_cc (n := 5) (s_ir K dX7_bit_5 hr hk) (p_cn)))))))
set_option maxRecDepth 100000 in
set_option maxHeartbeats 4000000 in
theorem cl_X7_at {b : Bool} {w : pW} {p : Program} {l : Launch} {e : Env} {R : Room} {s : State} {m : MethodId} {args : Array Value} {below : List Frame} {meth : Method} {c : Code} {cells slots : Nat} {d : Nat} {Q : pQ} (K : q_X b w p s m args c RX7 cX7_at 2 R d cells slots) (hr : meth.sig.returnType = (some .int)) (hk : meth.locks = false) : p_Cl b (q_C l b w) tb_X7_at d Q (q_Z b w p l e R s m args below meth c 2 cells slots (MQ below (q_Qc b w Q) args s cells slots (q_A b w))) := p_c0 (
  p_cc (n := 0) (s_il1 K dX7_at_0 rfl) (
  p_cc (n := 1) (s_lt0 K dX7_at_1 rfl) (
  p_cc (n := 2) (s_x) (
  p_cc (n := 3) (s_x) (
  p_cc (n := 4) (s_il1 K dX7_at_4 rfl) (
  p_cc (n := 5) (s_al1 K dX7_at_5 rfl) (
  p_cc (n := 6) (s_len K dX7_at_6) (
  p_cc (n := 7) (s_ige K dX7_at_7 rfl) (
  p_cc (n := 8) (s_x) (
  p_cc (n := 9) (s_x) (
  p_cc (n := 10) (s_al1 K dX7_at_10 rfl) (
  p_cc (n := 11) (s_il1 K dX7_at_11 rfl) (
  p_cc (n := 12) (s_ia K dX7_at_12) (
  p_cc (n := 13) (s_goto K dX7_at_13 rfl) (
  p_cc (n := 14) (s_x) (
  p_cc (n := 15) (s_x) (
  p_cc (n := 16) (s_ic1 K dX7_at_16 rfl) (
  p_cc (n := 17) (s_ir K dX7_at_17 hr hk) (p_cn)))))))))))))))))))
set_option maxRecDepth 100000 in
set_option maxHeartbeats 4000000 in
theorem cl_X7_put {b : Bool} {w : pW} {p : Program} {l : Launch} {e : Env} {R : Room} {s : State} {m : MethodId} {args : Array Value} {below : List Frame} {meth : Method} {c : Code} {cells slots : Nat} {d : Nat} {Q : pQ} (K : q_X b w p s m args c RX7 cX7_put 3 R d cells slots) (hr : meth.sig.returnType = none) (hk : meth.locks = false) : p_Cl b (q_C l b w) tb_X7_put d Q (q_Z b w p l e R s m args below meth c 3 cells slots (MQ below (q_Qc b w Q) args s cells slots (q_A b w))) := p_c0 (
  p_cc (n := 0) (s_il1 K dX7_put_0 rfl) (
  p_cc (n := 1) (s_lt0 K dX7_put_1 rfl) (
  p_cc (n := 2) (s_x) (
  p_cc (n := 3) (s_x) (
  p_cc (n := 4) (s_il1 K dX7_put_4 rfl) (
  p_cc (n := 5) (s_al1 K dX7_put_5 rfl) (
  p_cc (n := 6) (s_len K dX7_put_6) (
  p_cc (n := 7) (s_ige K dX7_put_7 rfl) (
  p_cc (n := 8) (s_x) (
  p_cc (n := 9) (s_x) (
  p_cc (n := 10) (s_al1 K dX7_put_10 rfl) (
  p_cc (n := 11) (s_il1 K dX7_put_11 rfl) (
  p_cc (n := 12) (s_il1 K dX7_put_12 rfl) (
  p_cc (n := 13) (s_ist K dX7_put_13) (
  p_cc (n := 14) (s_vr K dX7_put_14 hr hk) (p_cn))))))))))))))))
set_option maxRecDepth 100000 in
set_option maxHeartbeats 4000000 in
theorem cl_X7_copyRow {b : Bool} {w : pW} {p : Program} {l : Launch} {e : Env} {R : Room} {s : State} {m : MethodId} {args : Array Value} {below : List Frame} {meth : Method} {c : Code} {cells slots : Nat} {d : Nat} {Q : pQ} (K : q_X b w p s m args c RX7 cX7_copyRow 2 R d cells slots) (hr : meth.sig.returnType = none) (hk : meth.locks = false) : p_Cl b (q_C l b w) tb_X7_copyRow d Q (q_Z b w p l e R s m args below meth c 2 cells slots (MQ below (q_Qc b w Q) args s cells slots (q_A b w))) := p_c0 (
  p_cc (n := 0) (s_al1 K dX7_copyRow_0 rfl) (
  p_cc (n := 1) (s_ic1 K dX7_copyRow_1 rfl) (
  p_cc (n := 2) (s_al1 K dX7_copyRow_2 rfl) (
  p_cc (n := 3) (s_ic1 K dX7_copyRow_3 rfl) (
  p_cc (n := 4) (s_al1 K dX7_copyRow_4 rfl) (
  p_cc (n := 5) (s_len K dX7_copyRow_5) (
  p_cc (n := 6) (s_al1 K dX7_copyRow_6 rfl) (
  p_cc (n := 7) (s_len K dX7_copyRow_7) (
  p_cc (n := 8) (s_mmin K dX7_copyRow_8 w_m_RX7_303 w_s_mmin w_I_Math w_c_mmin) (
  p_cc (n := 9) (s_x) (
  p_cc (n := 10) (s_x) (
  p_cc (n := 11) (s_cp K dX7_copyRow_11 w_m_RX7_306 w_acn w_acs w_I_Sys) (
  p_cc (n := 12) (s_x) (
  p_cc (n := 13) (s_x) (
  p_cc (n := 14) (s_vr K dX7_copyRow_14 hr hk) (p_cn))))))))))))))))
set_option maxRecDepth 100000 in
set_option maxHeartbeats 4000000 in
theorem cl_X7_slide {b : Bool} {w : pW} {p : Program} {l : Launch} {e : Env} {R : Room} {s : State} {m : MethodId} {args : Array Value} {below : List Frame} {meth : Method} {c : Code} {cells slots : Nat} {d : Nat} {Q : pQ} (K : q_X b w p s m args c RX7 cX7_slide 5 R d cells slots) (hr : meth.sig.returnType = none) (hk : meth.locks = false) : p_Cl b (q_C l b w) tb_X7_slide d Q (q_Z b w p l e R s m args below meth c 5 cells slots (MQ below (q_Qc b w Q) args s cells slots (q_A b w))) := p_c0 (
  p_cc (n := 0) (s_al1 K dX7_slide_0 rfl) (
  p_cc (n := 1) (s_il1 K dX7_slide_1 rfl) (
  p_cc (n := 2) (cS_X7_at K dX7_slide_2 w_m_RX7_108) (
  p_cc (n := 3) (s_x) (
  p_cc (n := 4) (s_x) (
  p_cc (n := 5) (s_is1 K dX7_slide_5 rfl) (
  p_cc (n := 6) (s_il1 K dX7_slide_6 rfl) (
  p_cc (n := 7) (s_is2 K dX7_slide_7) (
  p_cc (n := 8) (s_x) (
  p_cc (n := 9) (s_il2 K dX7_slide_9) (
  p_cc (n := 10) (s_x) (
  p_cc (n := 11) (s_il1 K dX7_slide_11 rfl) (
  p_cc (n := 12) (s_ige K dX7_slide_12 rfl) (
  p_cc (n := 13) (s_x) (
  p_cc (n := 14) (s_x) (
  p_cc (n := 15) (s_al1 K dX7_slide_15 rfl) (
  p_cc (n := 16) (s_il2 K dX7_slide_16) (
  p_cc (n := 17) (s_x) (
  p_cc (n := 18) (s_al1 K dX7_slide_18 rfl) (
  p_cc (n := 19) (s_il2 K dX7_slide_19) (
  p_cc (n := 20) (s_x) (
  p_cc (n := 21) (s_ic1 K dX7_slide_21 rfl) (
  p_cc (n := 22) (s_add K dX7_slide_22) (
  p_cc (n := 23) (cS_X7_at K dX7_slide_23 w_m_RX7_108) (
  p_cc (n := 24) (s_x) (
  p_cc (n := 25) (s_x) (
  p_cc (n := 26) (cS_X7_put K dX7_slide_26 w_m_RX7_166) (
  p_cc (n := 27) (s_x) (
  p_cc (n := 28) (s_x) (
  p_cc (n := 29) (s_ii K dX7_slide_29 rfl) (
  p_cc (n := 30) (s_x) (
  p_cc (n := 31) (s_x) (
  p_cc (n := 32) (s_goto K dX7_slide_32 rfl) (
  p_cc (n := 33) (s_x) (
  p_cc (n := 34) (s_x) (
  p_cc (n := 35) (s_il1 K dX7_slide_35 rfl) (
  p_cc (n := 36) (s_is2 K dX7_slide_36) (
  p_cc (n := 37) (s_x) (
  p_cc (n := 38) (s_il2 K dX7_slide_38) (
  p_cc (n := 39) (s_x) (
  p_cc (n := 40) (s_il1 K dX7_slide_40 rfl) (
  p_cc (n := 41) (s_ile K dX7_slide_41 rfl) (
  p_cc (n := 42) (s_x) (
  p_cc (n := 43) (s_x) (
  p_cc (n := 44) (s_al1 K dX7_slide_44 rfl) (
  p_cc (n := 45) (s_il2 K dX7_slide_45) (
  p_cc (n := 46) (s_x) (
  p_cc (n := 47) (s_al1 K dX7_slide_47 rfl) (
  p_cc (n := 48) (s_il2 K dX7_slide_48) (
  p_cc (n := 49) (s_x) (
  p_cc (n := 50) (s_ic1 K dX7_slide_50 rfl) (
  p_cc (n := 51) (s_sub K dX7_slide_51) (
  p_cc (n := 52) (cS_X7_at K dX7_slide_52 w_m_RX7_108) (
  p_cc (n := 53) (s_x) (
  p_cc (n := 54) (s_x) (
  p_cc (n := 55) (cS_X7_put K dX7_slide_55 w_m_RX7_166) (
  p_cc (n := 56) (s_x) (
  p_cc (n := 57) (s_x) (
  p_cc (n := 58) (s_ii K dX7_slide_58 rfl) (
  p_cc (n := 59) (s_x) (
  p_cc (n := 60) (s_x) (
  p_cc (n := 61) (s_goto K dX7_slide_61 rfl) (
  p_cc (n := 62) (s_x) (
  p_cc (n := 63) (s_x) (
  p_cc (n := 64) (s_al1 K dX7_slide_64 rfl) (
  p_cc (n := 65) (s_il1 K dX7_slide_65 rfl) (
  p_cc (n := 66) (s_il1 K dX7_slide_66 rfl) (
  p_cc (n := 67) (cS_X7_put K dX7_slide_67 w_m_RX7_166) (
  p_cc (n := 68) (s_x) (
  p_cc (n := 69) (s_x) (
  p_cc (n := 70) (s_vr K dX7_slide_70 hr hk) (p_cn))))))))))))))))))))))))))))))))))))))))))))))))))))))))))))))))))))))))
set_option maxRecDepth 100000 in
set_option maxHeartbeats 4000000 in
theorem cl_X8_in {b : Bool} {w : pW} {p : Program} {l : Launch} {e : Env} {R : Room} {s : State} {m : MethodId} {args : Array Value} {below : List Frame} {meth : Method} {c : Code} {cells slots : Nat} {d : Nat} {Q : pQ} (K : q_X b w p s m args c RX8 cX8_in 3 R d cells slots) (hr : meth.sig.returnType = (some .boolean)) (hk : meth.locks = false) : p_Cl b (q_C l b w) tb_X8_in d Q (q_Z b w p l e R s m args below meth c 3 cells slots (MQ below (q_Qc b w Q) args s cells slots (q_A b w))) := p_c0 (
  p_cc (n := 0) (s_il1 K dX8_in_0 rfl) (
  p_cc (n := 1) (s_il1 K dX8_in_1 rfl) (
  p_cc (n := 2) (s_ilt K dX8_in_2 rfl) (
  p_cc (n := 3) (s_x) (
  p_cc (n := 4) (s_x) (
  p_cc (n := 5) (s_il1 K dX8_in_5 rfl) (
  p_cc (n := 6) (s_il1 K dX8_in_6 rfl) (
  p_cc (n := 7) (s_igt K dX8_in_7 rfl) (
  p_cc (n := 8) (s_x) (
  p_cc (n := 9) (s_x) (
  p_cc (n := 10) (s_ic1 K dX8_in_10 rfl) (
  p_cc (n := 11) (s_goto K dX8_in_11 rfl) (
  p_cc (n := 12) (s_x) (
  p_cc (n := 13) (s_x) (
  p_cc (n := 14) (s_ic1 K dX8_in_14 rfl) (
  p_cc (n := 15) (s_zr K dX8_in_15 hr hk) (p_cn)))))))))))))))))
set_option maxRecDepth 100000 in
set_option maxHeartbeats 4000000 in
theorem cl_X8_has {b : Bool} {w : pW} {p : Program} {l : Launch} {e : Env} {R : Room} {s : State} {m : MethodId} {args : Array Value} {below : List Frame} {meth : Method} {c : Code} {cells slots : Nat} {d : Nat} {Q : pQ} (K : q_X b w p s m args c RX8 cX8_has 2 R d cells slots) (hr : meth.sig.returnType = (some .boolean)) (hk : meth.locks = false) : p_Cl b (q_C l b w) tb_X8_has d Q (q_Z b w p l e R s m args below meth c 2 cells slots (MQ below (q_Qc b w Q) args s cells slots (q_A b w))) := p_c0 (
  p_cc (n := 0) (s_il1 K dX8_has_0 rfl) (
  p_cc (n := 1) (s_il1 K dX8_has_1 rfl) (
  p_cc (n := 2) (s_shr K dX8_has_2) (
  p_cc (n := 3) (s_ic1 K dX8_has_3 rfl) (
  p_cc (n := 4) (s_and K dX8_has_4) (
  p_cc (n := 5) (s_ic1 K dX8_has_5 rfl) (
  p_cc (n := 6) (s_ine K dX8_has_6 rfl) (
  p_cc (n := 7) (s_x) (
  p_cc (n := 8) (s_x) (
  p_cc (n := 9) (s_ic1 K dX8_has_9 rfl) (
  p_cc (n := 10) (s_goto K dX8_has_10 rfl) (
  p_cc (n := 11) (s_x) (
  p_cc (n := 12) (s_x) (
  p_cc (n := 13) (s_ic1 K dX8_has_13 rfl) (
  p_cc (n := 14) (s_zr K dX8_has_14 hr hk) (p_cn))))))))))))))))
set_option maxRecDepth 100000 in
set_option maxHeartbeats 4000000 in
theorem cl_X8_bits {b : Bool} {w : pW} {p : Program} {l : Launch} {e : Env} {R : Room} {s : State} {m : MethodId} {args : Array Value} {below : List Frame} {meth : Method} {c : Code} {cells slots : Nat} {d : Nat} {Q : pQ} (K : q_X b w p s m args c RX8 cX8_bits 3 R d cells slots) (hr : meth.sig.returnType = (some .int)) (hk : meth.locks = false) : p_Cl b (q_C l b w) tb_X8_bits d Q (q_Z b w p l e R s m args below meth c 3 cells slots (MQ below (q_Qc b w Q) args s cells slots (q_A b w))) := p_c0 (
  p_cc (n := 0) (s_ic1 K dX8_bits_0 rfl) (
  p_cc (n := 1) (s_is1 K dX8_bits_1 rfl) (
  p_cc (n := 2) (s_ic1 K dX8_bits_2 rfl) (
  p_cc (n := 3) (s_is1 K dX8_bits_3 rfl) (
  p_cc (n := 4) (s_il1 K dX8_bits_4 rfl) (
  p_cc (n := 5) (s_ic2 K dX8_bits_5 rfl) (
  p_cc (n := 6) (s_x) (
  p_cc (n := 7) (s_ige K dX8_bits_7 rfl) (
  p_cc (n := 8) (s_x) (
  p_cc (n := 9) (s_x) (
  p_cc (n := 10) (s_il1 K dX8_bits_10 rfl) (
  p_cc (n := 11) (s_il1 K dX8_bits_11 rfl) (
  p_cc (n := 12) (s_il1 K dX8_bits_12 rfl) (
  p_cc (n := 13) (s_shr K dX8_bits_13) (
  p_cc (n := 14) (s_ic1 K dX8_bits_14 rfl) (
  p_cc (n := 15) (s_and K dX8_bits_15) (
  p_cc (n := 16) (s_add K dX8_bits_16) (
  p_cc (n := 17) (s_is1 K dX8_bits_17 rfl) (
  p_cc (n := 18) (s_ii K dX8_bits_18 rfl) (
  p_cc (n := 19) (s_x) (
  p_cc (n := 20) (s_x) (
  p_cc (n := 21) (s_goto K dX8_bits_21 rfl) (
  p_cc (n := 22) (s_x) (
  p_cc (n := 23) (s_x) (
  p_cc (n := 24) (s_il1 K dX8_bits_24 rfl) (
  p_cc (n := 25) (s_ir K dX8_bits_25 hr hk) (p_cn)))))))))))))))))))))))))))
set_option maxRecDepth 100000 in
set_option maxHeartbeats 4000000 in
theorem cl_X8_firstTeller {b : Bool} {w : pW} {p : Program} {l : Launch} {e : Env} {R : Room} {s : State} {m : MethodId} {args : Array Value} {below : List Frame} {meth : Method} {c : Code} {cells slots : Nat} {d : Nat} {Q : pQ} (K : q_X b w p s m args c RX8 cX8_firstTeller 3 R d cells slots) (hr : meth.sig.returnType = none) (hk : meth.locks = false) : p_Cl b (q_C l b w) tb_X8_firstTeller d Q (q_Z b w p l e R s m args below meth c 3 cells slots (MQ below (q_Qc b w Q) args s cells slots (q_A b w))) := p_c0 (
  p_cc (n := 0) (s_al1 K dX8_firstTeller_0 rfl) (
  p_cc (n := 1) (s_gr (host := "") K dX8_firstTeller_1 (hc := rfl) (by decide) rfl inX8 (by decide) w_f_RX8_9 rfl) (
  p_cc (n := 2) (s_x) (
  p_cc (n := 3) (s_x) (
  p_cc (n := 4) (s_al1 K dX8_firstTeller_4 rfl) (
  p_cc (n := 5) (s_gi (host := "") K dX8_firstTeller_5 (hc := rfl) (by decide) rfl inX8 (by decide) w_f_RX8_88 rfl) (
  p_cc (n := 6) (s_x) (
  p_cc (n := 7) (s_x) (
  p_cc (n := 8) (s_il1 K dX8_firstTeller_8 rfl) (
  p_cc (n := 9) (s_ist K dX8_firstTeller_9) (
  p_cc (n := 10) (s_al1 K dX8_firstTeller_10 rfl) (
  p_cc (n := 11) (s_gr (host := "") K dX8_firstTeller_11 (hc := rfl) (by decide) rfl inX8 (by decide) w_f_RX8_13 rfl) (
  p_cc (n := 12) (s_x) (
  p_cc (n := 13) (s_x) (
  p_cc (n := 14) (s_al1 K dX8_firstTeller_14 rfl) (
  p_cc (n := 15) (s_gi (host := "") K dX8_firstTeller_15 (hc := rfl) (by decide) rfl inX8 (by decide) w_f_RX8_88 rfl) (
  p_cc (n := 16) (s_x) (
  p_cc (n := 17) (s_x) (
  p_cc (n := 18) (s_il1 K dX8_firstTeller_18 rfl) (
  p_cc (n := 19) (s_ist K dX8_firstTeller_19) (
  p_cc (n := 20) (s_al1 K dX8_firstTeller_20 rfl) (
  p_cc (n := 21) (s_dup K dX8_firstTeller_21) (
  p_cc (n := 22) (s_gi (host := "") K dX8_firstTeller_22 (hc := rfl) (by decide) rfl inX8 (by decide) w_f_RX8_88 rfl) (
  p_cc (n := 23) (s_x) (
  p_cc (n := 24) (s_x) (
  p_cc (n := 25) (s_ic1 K dX8_firstTeller_25 rfl) (
  p_cc (n := 26) (s_add K dX8_firstTeller_26) (
  p_cc (n := 27) (s_pi (host := "") K dX8_firstTeller_27 (hc := rfl) (by decide) rfl inX8 (by decide) w_f_RX8_88 rfl rfl tyX8 tyX8_ok nmX8 rfl) (
  p_cc (n := 28) (s_x) (
  p_cc (n := 29) (s_x) (
  p_cc (n := 30) (s_vr K dX8_firstTeller_30 hr hk) (p_cn))))))))))))))))))))))))))))))))
set_option maxRecDepth 100000 in
set_option maxHeartbeats 4000000 in
theorem cl_X8_sets {b : Bool} {w : pW} {p : Program} {l : Launch} {e : Env} {R : Room} {s : State} {m : MethodId} {args : Array Value} {below : List Frame} {meth : Method} {c : Code} {cells slots : Nat} {d : Nat} {Q : pQ} (K : q_X b w p s m args c RX8 cX8_sets 6 R d cells slots) (hr : meth.sig.returnType = none) (hk : meth.locks = false) : p_Cl b (q_C l b w) tb_X8_sets d Q (q_Z b w p l e R s m args below meth c 6 cells slots (MQ below (q_Qc b w Q) args s cells slots (q_A b w))) := p_c0 (
  p_cc (n := 0) (s_al1 K dX8_sets_0 rfl) (
  p_cc (n := 1) (s_gr (host := "") K dX8_sets_1 (hc := rfl) (by decide) rfl inX8 (by decide) w_f_RX8_16 rfl) (
  p_cc (n := 2) (s_x) (
  p_cc (n := 3) (s_x) (
  p_cc (n := 4) (s_il1 K dX8_sets_4 rfl) (
  p_cc (n := 5) (s_il1 K dX8_sets_5 rfl) (
  p_cc (n := 6) (s_ist K dX8_sets_6) (
  p_cc (n := 7) (s_al1 K dX8_sets_7 rfl) (
  p_cc (n := 8) (s_gr (host := "") K dX8_sets_8 (hc := rfl) (by decide) rfl inX8 (by decide) w_f_RX8_19 rfl) (
  p_cc (n := 9) (s_x) (
  p_cc (n := 10) (s_x) (
  p_cc (n := 11) (s_il1 K dX8_sets_11 rfl) (
  p_cc (n := 12) (s_il1 K dX8_sets_12 rfl) (
  p_cc (n := 13) (s_ist K dX8_sets_13) (
  p_cc (n := 14) (s_al1 K dX8_sets_14 rfl) (
  p_cc (n := 15) (s_gr (host := "") K dX8_sets_15 (hc := rfl) (by decide) rfl inX8 (by decide) w_f_RX8_22 rfl) (
  p_cc (n := 16) (s_x) (
  p_cc (n := 17) (s_x) (
  p_cc (n := 18) (s_il1 K dX8_sets_18 rfl) (
  p_cc (n := 19) (s_il2 K dX8_sets_19) (
  p_cc (n := 20) (s_x) (
  p_cc (n := 21) (s_ist K dX8_sets_21) (
  p_cc (n := 22) (s_al1 K dX8_sets_22 rfl) (
  p_cc (n := 23) (s_gr (host := "") K dX8_sets_23 (hc := rfl) (by decide) rfl inX8 (by decide) w_f_RX8_25 rfl) (
  p_cc (n := 24) (s_x) (
  p_cc (n := 25) (s_x) (
  p_cc (n := 26) (s_il1 K dX8_sets_26 rfl) (
  p_cc (n := 27) (s_il2 K dX8_sets_27) (
  p_cc (n := 28) (s_x) (
  p_cc (n := 29) (s_ist K dX8_sets_29) (
  p_cc (n := 30) (s_vr K dX8_sets_30 hr hk) (p_cn))))))))))))))))))))))))))))))))
set_option maxRecDepth 100000 in
set_option maxHeartbeats 4000000 in
theorem cl_X8_copies {b : Bool} {w : pW} {p : Program} {l : Launch} {e : Env} {R : Room} {s : State} {m : MethodId} {args : Array Value} {below : List Frame} {meth : Method} {c : Code} {cells slots : Nat} {d : Nat} {Q : pQ} (K : q_X b w p s m args c RX8 cX8_copies 3 R d cells slots) (hr : meth.sig.returnType = none) (hk : meth.locks = false) : p_Cl b (q_C l b w) tb_X8_copies d Q (q_Z b w p l e R s m args below meth c 3 cells slots (MQ below (q_Qc b w Q) args s cells slots (q_A b w))) := p_c0 (
  p_cc (n := 0) (s_al1 K dX8_copies_0 rfl) (
  p_cc (n := 1) (s_il1 K dX8_copies_1 rfl) (
  p_cc (n := 2) (s_al1 K dX8_copies_2 rfl) (
  p_cc (n := 3) (s_gr (host := "") K dX8_copies_3 (hc := rfl) (by decide) rfl inX8 (by decide) w_f_RX8_16 rfl) (
  p_cc (n := 4) (s_x) (
  p_cc (n := 5) (s_x) (
  p_cc (n := 6) (s_il1 K dX8_copies_6 rfl) (
  p_cc (n := 7) (s_ia K dX8_copies_7) (
  p_cc (n := 8) (s_al1 K dX8_copies_8 rfl) (
  p_cc (n := 9) (s_gr (host := "") K dX8_copies_9 (hc := rfl) (by decide) rfl inX8 (by decide) w_f_RX8_19 rfl) (
  p_cc (n := 10) (s_x) (
  p_cc (n := 11) (s_x) (
  p_cc (n := 12) (s_il1 K dX8_copies_12 rfl) (
  p_cc (n := 13) (s_ia K dX8_copies_13) (
  p_cc (n := 14) (s_al1 K dX8_copies_14 rfl) (
  p_cc (n := 15) (s_gr (host := "") K dX8_copies_15 (hc := rfl) (by decide) rfl inX8 (by decide) w_f_RX8_22 rfl) (
  p_cc (n := 16) (s_x) (
  p_cc (n := 17) (s_x) (
  p_cc (n := 18) (s_il1 K dX8_copies_18 rfl) (
  p_cc (n := 19) (s_ia K dX8_copies_19) (
  p_cc (n := 20) (s_al1 K dX8_copies_20 rfl) (
  p_cc (n := 21) (s_gr (host := "") K dX8_copies_21 (hc := rfl) (by decide) rfl inX8 (by decide) w_f_RX8_25 rfl) (
  p_cc (n := 22) (s_x) (
  p_cc (n := 23) (s_x) (
  p_cc (n := 24) (s_il1 K dX8_copies_24 rfl) (
  p_cc (n := 25) (s_ia K dX8_copies_25) (
  p_cc (n := 26) (cV_X8_sets K dX8_copies_26 w_m_RX8_81) (
  p_cc (n := 27) (s_x) (
  p_cc (n := 28) (s_x) (
  p_cc (n := 29) (s_vr K dX8_copies_29 hr hk) (p_cn)))))))))))))))))))))))))))))))
set_option maxRecDepth 100000 in
set_option maxHeartbeats 4000000 in
theorem cl_X8_isTeller {b : Bool} {w : pW} {p : Program} {l : Launch} {e : Env} {R : Room} {s : State} {m : MethodId} {args : Array Value} {below : List Frame} {meth : Method} {c : Code} {cells slots : Nat} {d : Nat} {Q : pQ} (K : q_X b w p s m args c RX8 cX8_isTeller 2 R d cells slots) (hr : meth.sig.returnType = (some .boolean)) (hk : meth.locks = false) : p_Cl b (q_C l b w) tb_X8_isTeller d Q (q_Z b w p l e R s m args below meth c 2 cells slots (MQ below (q_Qc b w Q) args s cells slots (q_A b w))) := p_c0 (
  p_cc (n := 0) (s_il1 K dX8_isTeller_0 rfl) (
  p_cc (n := 1) (s_ic1 K dX8_isTeller_1 rfl) (
  p_cc (n := 2) (s_al1 K dX8_isTeller_2 rfl) (
  p_cc (n := 3) (s_gi (host := "") K dX8_isTeller_3 (hc := rfl) (by decide) rfl inX8 (by decide) w_f_RX8_88 rfl) (
  p_cc (n := 4) (s_x) (
  p_cc (n := 5) (s_x) (
  p_cc (n := 6) (s_ic1 K dX8_isTeller_6 rfl) (
  p_cc (n := 7) (s_sub K dX8_isTeller_7) (
  p_cc (n := 8) (cS_X8_in K dX8_isTeller_8 w_m_RX8_91) (
  p_cc (n := 9) (s_x) (
  p_cc (n := 10) (s_x) (
  p_cc (n := 11) (s_zr K dX8_isTeller_11 hr hk) (p_cn)))))))))))))
set_option maxRecDepth 100000 in
set_option maxHeartbeats 4000000 in
theorem cl_X8_isFact {b : Bool} {w : pW} {p : Program} {l : Launch} {e : Env} {R : Room} {s : State} {m : MethodId} {args : Array Value} {below : List Frame} {meth : Method} {c : Code} {cells slots : Nat} {d : Nat} {Q : pQ} (K : q_X b w p s m args c RX8 cX8_isFact 2 R d cells slots) (hr : meth.sig.returnType = (some .boolean)) (hk : meth.locks = false) : p_Cl b (q_C l b w) tb_X8_isFact d Q (q_Z b w p l e R s m args below meth c 2 cells slots (MQ below (q_Qc b w Q) args s cells slots (q_A b w))) := p_c0 (
  p_cc (n := 0) (s_il1 K dX8_isFact_0 rfl) (
  p_cc (n := 1) (s_ic1 K dX8_isFact_1 rfl) (
  p_cc (n := 2) (s_al1 K dX8_isFact_2 rfl) (
  p_cc (n := 3) (s_gi (host := "") K dX8_isFact_3 (hc := rfl) (by decide) rfl inX8 (by decide) w_f_RX8_74 rfl) (
  p_cc (n := 4) (s_x) (
  p_cc (n := 5) (s_x) (
  p_cc (n := 6) (s_ic1 K dX8_isFact_6 rfl) (
  p_cc (n := 7) (s_sub K dX8_isFact_7) (
  p_cc (n := 8) (cS_X8_in K dX8_isFact_8 w_m_RX8_91) (
  p_cc (n := 9) (s_x) (
  p_cc (n := 10) (s_x) (
  p_cc (n := 11) (s_zr K dX8_isFact_11 hr hk) (p_cn)))))))))))))
set_option maxRecDepth 100000 in
set_option maxHeartbeats 4000000 in
theorem cl_X8_isClaim {b : Bool} {w : pW} {p : Program} {l : Launch} {e : Env} {R : Room} {s : State} {m : MethodId} {args : Array Value} {below : List Frame} {meth : Method} {c : Code} {cells slots : Nat} {d : Nat} {Q : pQ} (K : q_X b w p s m args c RX8 cX8_isClaim 2 R d cells slots) (hr : meth.sig.returnType = (some .boolean)) (hk : meth.locks = false) : p_Cl b (q_C l b w) tb_X8_isClaim d Q (q_Z b w p l e R s m args below meth c 2 cells slots (MQ below (q_Qc b w Q) args s cells slots (q_A b w))) := p_c0 (
  p_cc (n := 0) (s_il1 K dX8_isClaim_0 rfl) (
  p_cc (n := 1) (s_ic1 K dX8_isClaim_1 rfl) (
  p_cc (n := 2) (s_al1 K dX8_isClaim_2 rfl) (
  p_cc (n := 3) (s_gi (host := "") K dX8_isClaim_3 (hc := rfl) (by decide) rfl inX8 (by decide) w_f_RX8_85 rfl) (
  p_cc (n := 4) (s_x) (
  p_cc (n := 5) (s_x) (
  p_cc (n := 6) (s_ic1 K dX8_isClaim_6 rfl) (
  p_cc (n := 7) (s_sub K dX8_isClaim_7) (
  p_cc (n := 8) (cS_X8_in K dX8_isClaim_8 w_m_RX8_91) (
  p_cc (n := 9) (s_x) (
  p_cc (n := 10) (s_x) (
  p_cc (n := 11) (s_zr K dX8_isClaim_11 hr hk) (p_cn)))))))))))))
set_option maxRecDepth 100000 in
set_option maxHeartbeats 4000000 in
theorem cl_X8_write {b : Bool} {w : pW} {p : Program} {l : Launch} {e : Env} {R : Room} {s : State} {m : MethodId} {args : Array Value} {below : List Frame} {meth : Method} {c : Code} {cells slots : Nat} {d : Nat} {Q : pQ} (K : q_X b w p s m args c RX8 cX8_write 2 R d cells slots) (hr : meth.sig.returnType = (some .int)) (hk : meth.locks = false) : p_Cl b (q_C l b w) tb_X8_write d Q (q_Z b w p l e R s m args below meth c 2 cells slots (MQ below (q_Qc b w Q) args s cells slots (q_A b w))) := p_c0 (
  p_cc (n := 0) (s_il1 K dX8_write_0 rfl) (
  p_cc (n := 1) (s_ic2 K dX8_write_1 rfl) (
  p_cc (n := 2) (s_x) (
  p_cc (n := 3) (s_ic2 K dX8_write_3 rfl) (
  p_cc (n := 4) (s_x) (
  p_cc (n := 5) (cS_X8_in K dX8_write_5 w_m_RX8_91) (
  p_cc (n := 6) (s_x) (
  p_cc (n := 7) (s_x) (
  p_cc (n := 8) (s_ne0 K dX8_write_8 rfl) (
  p_cc (n := 9) (s_x) (
  p_cc (n := 10) (s_x) (
  p_cc (n := 11) (s_ic1 K dX8_write_11 rfl) (
  p_cc (n := 12) (s_ir K dX8_write_12 hr hk) (
  p_cc (n := 13) (s_al1 K dX8_write_13 rfl) (
  p_cc (n := 14) (s_gi (host := "") K dX8_write_14 (hc := rfl) (by decide) rfl inX8 (by decide) w_f_RX8_95 rfl) (
  p_cc (n := 15) (s_x) (
  p_cc (n := 16) (s_x) (
  p_cc (n := 17) (s_ic3 K dX8_write_17 rfl) (
  p_cc (n := 18) (s_x) (
  p_cc (n := 19) (s_x) (
  p_cc (n := 20) (s_ine K dX8_write_20 rfl) (
  p_cc (n := 21) (s_x) (
  p_cc (n := 22) (s_x) (
  p_cc (n := 23) (s_ic2 K dX8_write_23 rfl) (
  p_cc (n := 24) (s_x) (
  p_cc (n := 25) (s_ir K dX8_write_25 hr hk) (
  p_cc (n := 26) (s_al1 K dX8_write_26 rfl) (
  p_cc (n := 27) (s_gr (host := "") K dX8_write_27 (hc := rfl) (by decide) rfl inX8 (by decide) w_f_RX8_34 rfl) (
  p_cc (n := 28) (s_x) (
  p_cc (n := 29) (s_x) (
  p_cc (n := 30) (s_al1 K dX8_write_30 rfl) (
  p_cc (n := 31) (s_gi (host := "") K dX8_write_31 (hc := rfl) (by decide) rfl inX8 (by decide) w_f_RX8_95 rfl) (
  p_cc (n := 32) (s_x) (
  p_cc (n := 33) (s_x) (
  p_cc (n := 34) (s_il1 K dX8_write_34 rfl) (
  p_cc (n := 35) (s_ist K dX8_write_35) (
  p_cc (n := 36) (s_al1 K dX8_write_36 rfl) (
  p_cc (n := 37) (s_dup K dX8_write_37) (
  p_cc (n := 38) (s_gi (host := "") K dX8_write_38 (hc := rfl) (by decide) rfl inX8 (by decide) w_f_RX8_95 rfl) (
  p_cc (n := 39) (s_x) (
  p_cc (n := 40) (s_x) (
  p_cc (n := 41) (s_ic1 K dX8_write_41 rfl) (
  p_cc (n := 42) (s_add K dX8_write_42) (
  p_cc (n := 43) (s_pi (host := "") K dX8_write_43 (hc := rfl) (by decide) rfl inX8 (by decide) w_f_RX8_95 rfl rfl tyX8 tyX8_ok nmX8 rfl) (
  p_cc (n := 44) (s_x) (
  p_cc (n := 45) (s_x) (
  p_cc (n := 46) (s_al1 K dX8_write_46 rfl) (
  p_cc (n := 47) (s_gi (host := "") K dX8_write_47 (hc := rfl) (by decide) rfl inX8 (by decide) w_f_RX8_95 rfl) (
  p_cc (n := 48) (s_x) (
  p_cc (n := 49) (s_x) (
  p_cc (n := 50) (s_ir K dX8_write_50 hr hk) (p_cn))))))))))))))))))))))))))))))))))))))))))))))))))))
set_option maxRecDepth 100000 in
set_option maxHeartbeats 4000000 in
theorem cl_X8_wipe {b : Bool} {w : pW} {p : Program} {l : Launch} {e : Env} {R : Room} {s : State} {m : MethodId} {args : Array Value} {below : List Frame} {meth : Method} {c : Code} {cells slots : Nat} {d : Nat} {Q : pQ} (K : q_X b w p s m args c RX8 cX8_wipe 2 R d cells slots) (hr : meth.sig.returnType = (some .int)) (hk : meth.locks = false) : p_Cl b (q_C l b w) tb_X8_wipe d Q (q_Z b w p l e R s m args below meth c 2 cells slots (MQ below (q_Qc b w Q) args s cells slots (q_A b w))) := p_c0 (
  p_cc (n := 0) (s_al1 K dX8_wipe_0 rfl) (
  p_cc (n := 1) (s_gi (host := "") K dX8_wipe_1 (hc := rfl) (by decide) rfl inX8 (by decide) w_f_RX8_95 rfl) (
  p_cc (n := 2) (s_x) (
  p_cc (n := 3) (s_x) (
  p_cc (n := 4) (s_is1 K dX8_wipe_4 rfl) (
  p_cc (n := 5) (s_al1 K dX8_wipe_5 rfl) (
  p_cc (n := 6) (s_ic1 K dX8_wipe_6 rfl) (
  p_cc (n := 7) (s_pi (host := "") K dX8_wipe_7 (hc := rfl) (by decide) rfl inX8 (by decide) w_f_RX8_95 rfl rfl tyX8 tyX8_ok nmX8 rfl) (
  p_cc (n := 8) (s_x) (
  p_cc (n := 9) (s_x) (
  p_cc (n := 10) (s_il1 K dX8_wipe_10 rfl) (
  p_cc (n := 11) (s_ir K dX8_wipe_11 hr hk) (p_cn)))))))))))))
set_option maxRecDepth 100000 in
set_option maxHeartbeats 4000000 in
theorem cl_X8_here {b : Bool} {w : pW} {p : Program} {l : Launch} {e : Env} {R : Room} {s : State} {m : MethodId} {args : Array Value} {below : List Frame} {meth : Method} {c : Code} {cells slots : Nat} {d : Nat} {Q : pQ} (K : q_X b w p s m args c RX8 cX8_here 1 R d cells slots) (hr : meth.sig.returnType = (some .int)) (hk : meth.locks = false) : p_Cl b (q_C l b w) tb_X8_here d Q (q_Z b w p l e R s m args below meth c 1 cells slots (MQ below (q_Qc b w Q) args s cells slots (q_A b w))) := p_c0 (
  p_cc (n := 0) (s_al1 K dX8_here_0 rfl) (
  p_cc (n := 1) (s_gi (host := "") K dX8_here_1 (hc := rfl) (by decide) rfl inX8 (by decide) w_f_RX8_98 rfl) (
  p_cc (n := 2) (s_x) (
  p_cc (n := 3) (s_x) (
  p_cc (n := 4) (s_al1 K dX8_here_4 rfl) (
  p_cc (n := 5) (s_gi (host := "") K dX8_here_5 (hc := rfl) (by decide) rfl inX8 (by decide) w_f_RX8_95 rfl) (
  p_cc (n := 6) (s_x) (
  p_cc (n := 7) (s_x) (
  p_cc (n := 8) (s_ige K dX8_here_8 rfl) (
  p_cc (n := 9) (s_x) (
  p_cc (n := 10) (s_x) (
  p_cc (n := 11) (s_al1 K dX8_here_11 rfl) (
  p_cc (n := 12) (s_gr (host := "") K dX8_here_12 (hc := rfl) (by decide) rfl inX8 (by decide) w_f_RX8_34 rfl) (
  p_cc (n := 13) (s_x) (
  p_cc (n := 14) (s_x) (
  p_cc (n := 15) (s_al1 K dX8_here_15 rfl) (
  p_cc (n := 16) (s_gi (host := "") K dX8_here_16 (hc := rfl) (by decide) rfl inX8 (by decide) w_f_RX8_98 rfl) (
  p_cc (n := 17) (s_x) (
  p_cc (n := 18) (s_x) (
  p_cc (n := 19) (s_ia K dX8_here_19) (
  p_cc (n := 20) (s_goto K dX8_here_20 rfl) (
  p_cc (n := 21) (s_x) (
  p_cc (n := 22) (s_x) (
  p_cc (n := 23) (s_ic1 K dX8_here_23 rfl) (
  p_cc (n := 24) (s_ir K dX8_here_24 hr hk) (p_cn))))))))))))))))))))))))))
set_option maxRecDepth 100000 in
set_option maxHeartbeats 4000000 in
theorem cl_X8_isFigure {b : Bool} {w : pW} {p : Program} {l : Launch} {e : Env} {R : Room} {s : State} {m : MethodId} {args : Array Value} {below : List Frame} {meth : Method} {c : Code} {cells slots : Nat} {d : Nat} {Q : pQ} (K : q_X b w p s m args c RX8 cX8_isFigure 1 R d cells slots) (hr : meth.sig.returnType = (some .boolean)) (hk : meth.locks = false) : p_Cl b (q_C l b w) tb_X8_isFigure d Q (q_Z b w p l e R s m args below meth c 1 cells slots (MQ below (q_Qc b w Q) args s cells slots (q_A b w))) := p_c0 (
  p_cc (n := 0) (s_al1 K dX8_isFigure_0 rfl) (
  p_cc (n := 1) (cV_X8_here K dX8_isFigure_1 w_m_RX8_101) (
  p_cc (n := 2) (s_x) (
  p_cc (n := 3) (s_x) (
  p_cc (n := 4) (s_ic2 K dX8_isFigure_4 rfl) (
  p_cc (n := 5) (s_x) (
  p_cc (n := 6) (s_ic2 K dX8_isFigure_6 rfl) (
  p_cc (n := 7) (s_x) (
  p_cc (n := 8) (cS_X8_in K dX8_isFigure_8 w_m_RX8_91) (
  p_cc (n := 9) (s_x) (
  p_cc (n := 10) (s_x) (
  p_cc (n := 11) (s_zr K dX8_isFigure_11 hr hk) (p_cn)))))))))))))
set_option maxRecDepth 100000 in
set_option maxHeartbeats 4000000 in
theorem cl_X8_number {b : Bool} {w : pW} {p : Program} {l : Launch} {e : Env} {R : Room} {s : State} {m : MethodId} {args : Array Value} {below : List Frame} {meth : Method} {c : Code} {cells slots : Nat} {d : Nat} {Q : pQ} (K : q_X b w p s m args c RX8 cX8_number 5 R d cells slots) (hr : meth.sig.returnType = (some .boolean)) (hk : meth.locks = false) : p_Cl b (q_C l b w) tb_X8_number d Q (q_Z b w p l e R s m args below meth c 5 cells slots (MQ below (q_Qc b w Q) args s cells slots (q_A b w))) := p_c0 (
  p_cc (n := 0) (s_al1 K dX8_number_0 rfl) (
  p_cc (n := 1) (cV_X8_isFigure K dX8_number_1 w_m_RX8_105) (
  p_cc (n := 2) (s_x) (
  p_cc (n := 3) (s_x) (
  p_cc (n := 4) (s_ne0 K dX8_number_4 rfl) (
  p_cc (n := 5) (s_x) (
  p_cc (n := 6) (s_x) (
  p_cc (n := 7) (s_ic1 K dX8_number_7 rfl) (
  p_cc (n := 8) (s_zr K dX8_number_8 hr hk) (
  p_cc (n := 9) (s_al1 K dX8_number_9 rfl) (
  p_cc (n := 10) (cV_X8_here K dX8_number_10 w_m_RX8_101) (
  p_cc (n := 11) (s_x) (
  p_cc (n := 12) (s_x) (
  p_cc (n := 13) (s_ic2 K dX8_number_13 rfl) (
  p_cc (n := 14) (s_x) (
  p_cc (n := 15) (s_sub K dX8_number_15) (
  p_cc (n := 16) (s_is2 K dX8_number_16) (
  p_cc (n := 17) (s_x) (
  p_cc (n := 18) (s_al1 K dX8_number_18 rfl) (
  p_cc (n := 19) (s_dup K dX8_number_19) (
  p_cc (n := 20) (s_gi (host := "") K dX8_number_20 (hc := rfl) (by decide) rfl inX8 (by decide) w_f_RX8_98 rfl) (
  p_cc (n := 21) (s_x) (
  p_cc (n := 22) (s_x) (
  p_cc (n := 23) (s_ic1 K dX8_number_23 rfl) (
  p_cc (n := 24) (s_add K dX8_number_24) (
  p_cc (n := 25) (s_pi (host := "") K dX8_number_25 (hc := rfl) (by decide) rfl inX8 (by decide) w_f_RX8_98 rfl rfl tyX8 tyX8_ok nmX8 rfl) (
  p_cc (n := 26) (s_x) (
  p_cc (n := 27) (s_x) (
  p_cc (n := 28) (s_al1 K dX8_number_28 rfl) (
  p_cc (n := 29) (cV_X8_isFigure K dX8_number_29 w_m_RX8_105) (
  p_cc (n := 30) (s_x) (
  p_cc (n := 31) (s_x) (
  p_cc (n := 32) (s_eq0 K dX8_number_32 rfl) (
  p_cc (n := 33) (s_x) (
  p_cc (n := 34) (s_x) (
  p_cc (n := 35) (s_ic2 K dX8_number_35 rfl) (
  p_cc (n := 36) (s_x) (
  p_cc (n := 37) (s_il2 K dX8_number_37) (
  p_cc (n := 38) (s_x) (
  p_cc (n := 39) (s_mul K dX8_number_39) (
  p_cc (n := 40) (s_al1 K dX8_number_40 rfl) (
  p_cc (n := 41) (cV_X8_here K dX8_number_41 w_m_RX8_101) (
  p_cc (n := 42) (s_x) (
  p_cc (n := 43) (s_x) (
  p_cc (n := 44) (s_add K dX8_number_44) (
  p_cc (n := 45) (s_ic2 K dX8_number_45 rfl) (
  p_cc (n := 46) (s_x) (
  p_cc (n := 47) (s_sub K dX8_number_47) (
  p_cc (n := 48) (s_is2 K dX8_number_48) (
  p_cc (n := 49) (s_x) (
  p_cc (n := 50) (s_al1 K dX8_number_50 rfl) (
  p_cc (n := 51) (s_dup K dX8_number_51) (
  p_cc (n := 52) (s_gi (host := "") K dX8_number_52 (hc := rfl) (by decide) rfl inX8 (by decide) w_f_RX8_98 rfl) (
  p_cc (n := 53) (s_x) (
  p_cc (n := 54) (s_x) (
  p_cc (n := 55) (s_ic1 K dX8_number_55 rfl) (
  p_cc (n := 56) (s_add K dX8_number_56) (
  p_cc (n := 57) (s_pi (host := "") K dX8_number_57 (hc := rfl) (by decide) rfl inX8 (by decide) w_f_RX8_98 rfl rfl tyX8 tyX8_ok nmX8 rfl) (
  p_cc (n := 58) (s_x) (
  p_cc (n := 59) (s_x) (
  p_cc (n := 60) (s_al1 K dX8_number_60 rfl) (
  p_cc (n := 61) (s_il2 K dX8_number_61) (
  p_cc (n := 62) (s_x) (
  p_cc (n := 63) (s_pi (host := "") K dX8_number_63 (hc := rfl) (by decide) rfl inX8 (by decide) w_f_RX8_109 rfl rfl tyX8 tyX8_ok nmX8 rfl) (
  p_cc (n := 64) (s_x) (
  p_cc (n := 65) (s_x) (
  p_cc (n := 66) (s_al1 K dX8_number_66 rfl) (
  p_cc (n := 67) (cV_X8_here K dX8_number_67 w_m_RX8_101) (
  p_cc (n := 68) (s_x) (
  p_cc (n := 69) (s_x) (
  p_cc (n := 70) (s_il1 K dX8_number_70 rfl) (
  p_cc (n := 71) (s_ine K dX8_number_71 rfl) (
  p_cc (n := 72) (s_x) (
  p_cc (n := 73) (s_x) (
  p_cc (n := 74) (s_il2 K dX8_number_74) (
  p_cc (n := 75) (s_x) (
  p_cc (n := 76) (s_il1 K dX8_number_76 rfl) (
  p_cc (n := 77) (s_il1 K dX8_number_77 rfl) (
  p_cc (n := 78) (cS_X8_in K dX8_number_78 w_m_RX8_91) (
  p_cc (n := 79) (s_x) (
  p_cc (n := 80) (s_x) (
  p_cc (n := 81) (s_ne0 K dX8_number_81 rfl) (
  p_cc (n := 82) (s_x) (
  p_cc (n := 83) (s_x) (
  p_cc (n := 84) (s_ic1 K dX8_number_84 rfl) (
  p_cc (n := 85) (s_zr K dX8_number_85 hr hk) (
  p_cc (n := 86) (s_al1 K dX8_number_86 rfl) (
  p_cc (n := 87) (s_dup K dX8_number_87) (
  p_cc (n := 88) (s_gi (host := "") K dX8_number_88 (hc := rfl) (by decide) rfl inX8 (by decide) w_f_RX8_98 rfl) (
  p_cc (n := 89) (s_x) (
  p_cc (n := 90) (s_x) (
  p_cc (n := 91) (s_ic1 K dX8_number_91 rfl) (
  p_cc (n := 92) (s_add K dX8_number_92) (
  p_cc (n := 93) (s_pi (host := "") K dX8_number_93 (hc := rfl) (by decide) rfl inX8 (by decide) w_f_RX8_98 rfl rfl tyX8 tyX8_ok nmX8 rfl) (
  p_cc (n := 94) (s_x) (
  p_cc (n := 95) (s_x) (
  p_cc (n := 96) (s_ic1 K dX8_number_96 rfl) (
  p_cc (n := 97) (s_zr K dX8_number_97 hr hk) (p_cn)))))))))))))))))))))))))))))))))))))))))))))))))))))))))))))))))))))))))))))))))))))))))))))))))))
set_option maxRecDepth 100000 in
set_option maxHeartbeats 4000000 in
theorem cl_X8_readsTeller {b : Bool} {w : pW} {p : Program} {l : Launch} {e : Env} {R : Room} {s : State} {m : MethodId} {args : Array Value} {below : List Frame} {meth : Method} {c : Code} {cells slots : Nat} {d : Nat} {Q : pQ} (K : q_X b w p s m args c RX8 cX8_readsTeller 2 R d cells slots) (hr : meth.sig.returnType = (some .boolean)) (hk : meth.locks = false) : p_Cl b (q_C l b w) tb_X8_readsTeller d Q (q_Z b w p l e R s m args below meth c 2 cells slots (MQ below (q_Qc b w Q) args s cells slots (q_A b w))) := p_c0 (
  p_cc (n := 0) (s_al1 K dX8_readsTeller_0 rfl) (
  p_cc (n := 1) (s_gi (host := "") K dX8_readsTeller_1 (hc := rfl) (by decide) rfl inX8 (by decide) w_f_RX8_112 rfl) (
  p_cc (n := 2) (s_x) (
  p_cc (n := 3) (s_x) (
  p_cc (n := 4) (s_ic1 K dX8_readsTeller_4 rfl) (
  p_cc (n := 5) (s_ieq K dX8_readsTeller_5 rfl) (
  p_cc (n := 6) (s_x) (
  p_cc (n := 7) (s_x) (
  p_cc (n := 8) (s_al1 K dX8_readsTeller_8 rfl) (
  p_cc (n := 9) (s_ic1 K dX8_readsTeller_9 rfl) (
  p_cc (n := 10) (s_ic1 K dX8_readsTeller_10 rfl) (
  p_cc (n := 11) (s_ic2 K dX8_readsTeller_11 rfl) (
  p_cc (n := 12) (s_x) (
  p_cc (n := 13) (cV_X8_number K dX8_readsTeller_13 w_m_RX8_115) (
  p_cc (n := 14) (s_x) (
  p_cc (n := 15) (s_x) (
  p_cc (n := 16) (s_ne0 K dX8_readsTeller_16 rfl) (
  p_cc (n := 17) (s_x) (
  p_cc (n := 18) (s_x) (
  p_cc (n := 19) (s_ic1 K dX8_readsTeller_19 rfl) (
  p_cc (n := 20) (s_zr K dX8_readsTeller_20 hr hk) (
  p_cc (n := 21) (s_al1 K dX8_readsTeller_21 rfl) (
  p_cc (n := 22) (s_gi (host := "") K dX8_readsTeller_22 (hc := rfl) (by decide) rfl inX8 (by decide) w_f_RX8_109 rfl) (
  p_cc (n := 23) (s_x) (
  p_cc (n := 24) (s_x) (
  p_cc (n := 25) (s_is1 K dX8_readsTeller_25 rfl) (
  p_cc (n := 26) (s_al1 K dX8_readsTeller_26 rfl) (
  p_cc (n := 27) (s_ic1 K dX8_readsTeller_27 rfl) (
  p_cc (n := 28) (s_ic2 K dX8_readsTeller_28 rfl) (
  p_cc (n := 29) (s_x) (
  p_cc (n := 30) (s_ic2 K dX8_readsTeller_30 rfl) (
  p_cc (n := 31) (s_x) (
  p_cc (n := 32) (cV_X8_number K dX8_readsTeller_32 w_m_RX8_115) (
  p_cc (n := 33) (s_x) (
  p_cc (n := 34) (s_x) (
  p_cc (n := 35) (s_ne0 K dX8_readsTeller_35 rfl) (
  p_cc (n := 36) (s_x) (
  p_cc (n := 37) (s_x) (
  p_cc (n := 38) (s_ic1 K dX8_readsTeller_38 rfl) (
  p_cc (n := 39) (s_zr K dX8_readsTeller_39 hr hk) (
  p_cc (n := 40) (s_al1 K dX8_readsTeller_40 rfl) (
  p_cc (n := 41) (s_gr (host := "") K dX8_readsTeller_41 (hc := rfl) (by decide) rfl inX8 (by decide) w_f_RX8_37 rfl) (
  p_cc (n := 42) (s_x) (
  p_cc (n := 43) (s_x) (
  p_cc (n := 44) (s_al1 K dX8_readsTeller_44 rfl) (
  p_cc (n := 45) (s_gi (host := "") K dX8_readsTeller_45 (hc := rfl) (by decide) rfl inX8 (by decide) w_f_RX8_112 rfl) (
  p_cc (n := 46) (s_x) (
  p_cc (n := 47) (s_x) (
  p_cc (n := 48) (s_il1 K dX8_readsTeller_48 rfl) (
  p_cc (n := 49) (s_ist K dX8_readsTeller_49) (
  p_cc (n := 50) (s_al1 K dX8_readsTeller_50 rfl) (
  p_cc (n := 51) (s_gr (host := "") K dX8_readsTeller_51 (hc := rfl) (by decide) rfl inX8 (by decide) w_f_RX8_40 rfl) (
  p_cc (n := 52) (s_x) (
  p_cc (n := 53) (s_x) (
  p_cc (n := 54) (s_al1 K dX8_readsTeller_54 rfl) (
  p_cc (n := 55) (s_gi (host := "") K dX8_readsTeller_55 (hc := rfl) (by decide) rfl inX8 (by decide) w_f_RX8_112 rfl) (
  p_cc (n := 56) (s_x) (
  p_cc (n := 57) (s_x) (
  p_cc (n := 58) (s_al1 K dX8_readsTeller_58 rfl) (
  p_cc (n := 59) (s_gi (host := "") K dX8_readsTeller_59 (hc := rfl) (by decide) rfl inX8 (by decide) w_f_RX8_109 rfl) (
  p_cc (n := 60) (s_x) (
  p_cc (n := 61) (s_x) (
  p_cc (n := 62) (s_ist K dX8_readsTeller_62) (
  p_cc (n := 63) (s_al1 K dX8_readsTeller_63 rfl) (
  p_cc (n := 64) (s_dup K dX8_readsTeller_64) (
  p_cc (n := 65) (s_gi (host := "") K dX8_readsTeller_65 (hc := rfl) (by decide) rfl inX8 (by decide) w_f_RX8_112 rfl) (
  p_cc (n := 66) (s_x) (
  p_cc (n := 67) (s_x) (
  p_cc (n := 68) (s_ic1 K dX8_readsTeller_68 rfl) (
  p_cc (n := 69) (s_add K dX8_readsTeller_69) (
  p_cc (n := 70) (s_pi (host := "") K dX8_readsTeller_70 (hc := rfl) (by decide) rfl inX8 (by decide) w_f_RX8_112 rfl rfl tyX8 tyX8_ok nmX8 rfl) (
  p_cc (n := 71) (s_x) (
  p_cc (n := 72) (s_x) (
  p_cc (n := 73) (s_ic1 K dX8_readsTeller_73 rfl) (
  p_cc (n := 74) (s_zr K dX8_readsTeller_74 hr hk) (p_cn))))))))))))))))))))))))))))))))))))))))))))))))))))))))))))))))))))))))))))
set_option maxRecDepth 100000 in
set_option maxHeartbeats 4000000 in
theorem cl_X8_readsFact {b : Bool} {w : pW} {p : Program} {l : Launch} {e : Env} {R : Room} {s : State} {m : MethodId} {args : Array Value} {below : List Frame} {meth : Method} {c : Code} {cells slots : Nat} {d : Nat} {Q : pQ} (K : q_X b w p s m args c RX8 cX8_readsFact 1 R d cells slots) (hr : meth.sig.returnType = (some .boolean)) (hk : meth.locks = false) : p_Cl b (q_C l b w) tb_X8_readsFact d Q (q_Z b w p l e R s m args below meth c 1 cells slots (MQ below (q_Qc b w Q) args s cells slots (q_A b w))) := p_c0 (
  p_cc (n := 0) (s_al1 K dX8_readsFact_0 rfl) (
  p_cc (n := 1) (s_gi (host := "") K dX8_readsFact_1 (hc := rfl) (by decide) rfl inX8 (by decide) w_f_RX8_118 rfl) (
  p_cc (n := 2) (s_x) (
  p_cc (n := 3) (s_x) (
  p_cc (n := 4) (s_ic2 K dX8_readsFact_4 rfl) (
  p_cc (n := 5) (s_x) (
  p_cc (n := 6) (s_ieq K dX8_readsFact_6 rfl) (
  p_cc (n := 7) (s_x) (
  p_cc (n := 8) (s_x) (
  p_cc (n := 9) (s_al1 K dX8_readsFact_9 rfl) (
  p_cc (n := 10) (s_ic1 K dX8_readsFact_10 rfl) (
  p_cc (n := 11) (s_ic1 K dX8_readsFact_11 rfl) (
  p_cc (n := 12) (s_ic2 K dX8_readsFact_12 rfl) (
  p_cc (n := 13) (s_x) (
  p_cc (n := 14) (cV_X8_number K dX8_readsFact_14 w_m_RX8_115) (
  p_cc (n := 15) (s_x) (
  p_cc (n := 16) (s_x) (
  p_cc (n := 17) (s_ne0 K dX8_readsFact_17 rfl) (
  p_cc (n := 18) (s_x) (
  p_cc (n := 19) (s_x) (
  p_cc (n := 20) (s_ic1 K dX8_readsFact_20 rfl) (
  p_cc (n := 21) (s_zr K dX8_readsFact_21 hr hk) (
  p_cc (n := 22) (s_al1 K dX8_readsFact_22 rfl) (
  p_cc (n := 23) (s_gr (host := "") K dX8_readsFact_23 (hc := rfl) (by decide) rfl inX8 (by decide) w_f_RX8_43 rfl) (
  p_cc (n := 24) (s_x) (
  p_cc (n := 25) (s_x) (
  p_cc (n := 26) (s_al1 K dX8_readsFact_26 rfl) (
  p_cc (n := 27) (s_gi (host := "") K dX8_readsFact_27 (hc := rfl) (by decide) rfl inX8 (by decide) w_f_RX8_118 rfl) (
  p_cc (n := 28) (s_x) (
  p_cc (n := 29) (s_x) (
  p_cc (n := 30) (s_al1 K dX8_readsFact_30 rfl) (
  p_cc (n := 31) (s_gi (host := "") K dX8_readsFact_31 (hc := rfl) (by decide) rfl inX8 (by decide) w_f_RX8_109 rfl) (
  p_cc (n := 32) (s_x) (
  p_cc (n := 33) (s_x) (
  p_cc (n := 34) (s_ist K dX8_readsFact_34) (
  p_cc (n := 35) (s_al1 K dX8_readsFact_35 rfl) (
  p_cc (n := 36) (s_dup K dX8_readsFact_36) (
  p_cc (n := 37) (s_gi (host := "") K dX8_readsFact_37 (hc := rfl) (by decide) rfl inX8 (by decide) w_f_RX8_118 rfl) (
  p_cc (n := 38) (s_x) (
  p_cc (n := 39) (s_x) (
  p_cc (n := 40) (s_ic1 K dX8_readsFact_40 rfl) (
  p_cc (n := 41) (s_add K dX8_readsFact_41) (
  p_cc (n := 42) (s_pi (host := "") K dX8_readsFact_42 (hc := rfl) (by decide) rfl inX8 (by decide) w_f_RX8_118 rfl rfl tyX8 tyX8_ok nmX8 rfl) (
  p_cc (n := 43) (s_x) (
  p_cc (n := 44) (s_x) (
  p_cc (n := 45) (s_ic1 K dX8_readsFact_45 rfl) (
  p_cc (n := 46) (s_zr K dX8_readsFact_46 hr hk) (p_cn))))))))))))))))))))))))))))))))))))))))))))))))
set_option maxRecDepth 100000 in
set_option maxHeartbeats 4000000 in
theorem cl_X8_readsClaim {b : Bool} {w : pW} {p : Program} {l : Launch} {e : Env} {R : Room} {s : State} {m : MethodId} {args : Array Value} {below : List Frame} {meth : Method} {c : Code} {cells slots : Nat} {d : Nat} {Q : pQ} (K : q_X b w p s m args c RX8 cX8_readsClaim 1 R d cells slots) (hr : meth.sig.returnType = (some .boolean)) (hk : meth.locks = false) : p_Cl b (q_C l b w) tb_X8_readsClaim d Q (q_Z b w p l e R s m args below meth c 1 cells slots (MQ below (q_Qc b w Q) args s cells slots (q_A b w))) := p_c0 (
  p_cc (n := 0) (s_al1 K dX8_readsClaim_0 rfl) (
  p_cc (n := 1) (s_gi (host := "") K dX8_readsClaim_1 (hc := rfl) (by decide) rfl inX8 (by decide) w_f_RX8_121 rfl) (
  p_cc (n := 2) (s_x) (
  p_cc (n := 3) (s_x) (
  p_cc (n := 4) (s_ic2 K dX8_readsClaim_4 rfl) (
  p_cc (n := 5) (s_x) (
  p_cc (n := 6) (s_ieq K dX8_readsClaim_6 rfl) (
  p_cc (n := 7) (s_x) (
  p_cc (n := 8) (s_x) (
  p_cc (n := 9) (s_al1 K dX8_readsClaim_9 rfl) (
  p_cc (n := 10) (s_ic1 K dX8_readsClaim_10 rfl) (
  p_cc (n := 11) (s_al1 K dX8_readsClaim_11 rfl) (
  p_cc (n := 12) (s_gi (host := "") K dX8_readsClaim_12 (hc := rfl) (by decide) rfl inX8 (by decide) w_f_RX8_112 rfl) (
  p_cc (n := 13) (s_x) (
  p_cc (n := 14) (s_x) (
  p_cc (n := 15) (s_ic1 K dX8_readsClaim_15 rfl) (
  p_cc (n := 16) (s_sub K dX8_readsClaim_16) (
  p_cc (n := 17) (s_ic2 K dX8_readsClaim_17 rfl) (
  p_cc (n := 18) (s_x) (
  p_cc (n := 19) (cV_X8_number K dX8_readsClaim_19 w_m_RX8_115) (
  p_cc (n := 20) (s_x) (
  p_cc (n := 21) (s_x) (
  p_cc (n := 22) (s_ne0 K dX8_readsClaim_22 rfl) (
  p_cc (n := 23) (s_x) (
  p_cc (n := 24) (s_x) (
  p_cc (n := 25) (s_ic1 K dX8_readsClaim_25 rfl) (
  p_cc (n := 26) (s_zr K dX8_readsClaim_26 hr hk) (
  p_cc (n := 27) (s_al1 K dX8_readsClaim_27 rfl) (
  p_cc (n := 28) (s_gr (host := "") K dX8_readsClaim_28 (hc := rfl) (by decide) rfl inX8 (by decide) w_f_RX8_46 rfl) (
  p_cc (n := 29) (s_x) (
  p_cc (n := 30) (s_x) (
  p_cc (n := 31) (s_ic1 K dX8_readsClaim_31 rfl) (
  p_cc (n := 32) (s_al1 K dX8_readsClaim_32 rfl) (
  p_cc (n := 33) (s_gi (host := "") K dX8_readsClaim_33 (hc := rfl) (by decide) rfl inX8 (by decide) w_f_RX8_121 rfl) (
  p_cc (n := 34) (s_x) (
  p_cc (n := 35) (s_x) (
  p_cc (n := 36) (s_mul K dX8_readsClaim_36) (
  p_cc (n := 37) (s_al1 K dX8_readsClaim_37 rfl) (
  p_cc (n := 38) (s_gi (host := "") K dX8_readsClaim_38 (hc := rfl) (by decide) rfl inX8 (by decide) w_f_RX8_109 rfl) (
  p_cc (n := 39) (s_x) (
  p_cc (n := 40) (s_x) (
  p_cc (n := 41) (s_ist K dX8_readsClaim_41) (
  p_cc (n := 42) (s_al1 K dX8_readsClaim_42 rfl) (
  p_cc (n := 43) (s_ic1 K dX8_readsClaim_43 rfl) (
  p_cc (n := 44) (s_al1 K dX8_readsClaim_44 rfl) (
  p_cc (n := 45) (s_gi (host := "") K dX8_readsClaim_45 (hc := rfl) (by decide) rfl inX8 (by decide) w_f_RX8_118 rfl) (
  p_cc (n := 46) (s_x) (
  p_cc (n := 47) (s_x) (
  p_cc (n := 48) (s_ic1 K dX8_readsClaim_48 rfl) (
  p_cc (n := 49) (s_sub K dX8_readsClaim_49) (
  p_cc (n := 50) (s_ic2 K dX8_readsClaim_50 rfl) (
  p_cc (n := 51) (s_x) (
  p_cc (n := 52) (cV_X8_number K dX8_readsClaim_52 w_m_RX8_115) (
  p_cc (n := 53) (s_x) (
  p_cc (n := 54) (s_x) (
  p_cc (n := 55) (s_ne0 K dX8_readsClaim_55 rfl) (
  p_cc (n := 56) (s_x) (
  p_cc (n := 57) (s_x) (
  p_cc (n := 58) (s_ic1 K dX8_readsClaim_58 rfl) (
  p_cc (n := 59) (s_zr K dX8_readsClaim_59 hr hk) (
  p_cc (n := 60) (s_al1 K dX8_readsClaim_60 rfl) (
  p_cc (n := 61) (s_gr (host := "") K dX8_readsClaim_61 (hc := rfl) (by decide) rfl inX8 (by decide) w_f_RX8_46 rfl) (
  p_cc (n := 62) (s_x) (
  p_cc (n := 63) (s_x) (
  p_cc (n := 64) (s_ic1 K dX8_readsClaim_64 rfl) (
  p_cc (n := 65) (s_al1 K dX8_readsClaim_65 rfl) (
  p_cc (n := 66) (s_gi (host := "") K dX8_readsClaim_66 (hc := rfl) (by decide) rfl inX8 (by decide) w_f_RX8_121 rfl) (
  p_cc (n := 67) (s_x) (
  p_cc (n := 68) (s_x) (
  p_cc (n := 69) (s_mul K dX8_readsClaim_69) (
  p_cc (n := 70) (s_ic1 K dX8_readsClaim_70 rfl) (
  p_cc (n := 71) (s_add K dX8_readsClaim_71) (
  p_cc (n := 72) (s_al1 K dX8_readsClaim_72 rfl) (
  p_cc (n := 73) (s_gi (host := "") K dX8_readsClaim_73 (hc := rfl) (by decide) rfl inX8 (by decide) w_f_RX8_109 rfl) (
  p_cc (n := 74) (s_x) (
  p_cc (n := 75) (s_x) (
  p_cc (n := 76) (s_ist K dX8_readsClaim_76) (
  p_cc (n := 77) (s_al1 K dX8_readsClaim_77 rfl) (
  p_cc (n := 78) (s_ic1 K dX8_readsClaim_78 rfl) (
  p_cc (n := 79) (s_ic1 K dX8_readsClaim_79 rfl) (
  p_cc (n := 80) (s_ic2 K dX8_readsClaim_80 rfl) (
  p_cc (n := 81) (s_x) (
  p_cc (n := 82) (cV_X8_number K dX8_readsClaim_82 w_m_RX8_115) (
  p_cc (n := 83) (s_x) (
  p_cc (n := 84) (s_x) (
  p_cc (n := 85) (s_ne0 K dX8_readsClaim_85 rfl) (
  p_cc (n := 86) (s_x) (
  p_cc (n := 87) (s_x) (
  p_cc (n := 88) (s_ic1 K dX8_readsClaim_88 rfl) (
  p_cc (n := 89) (s_zr K dX8_readsClaim_89 hr hk) (
  p_cc (n := 90) (s_al1 K dX8_readsClaim_90 rfl) (
  p_cc (n := 91) (s_gr (host := "") K dX8_readsClaim_91 (hc := rfl) (by decide) rfl inX8 (by decide) w_f_RX8_46 rfl) (
  p_cc (n := 92) (s_x) (
  p_cc (n := 93) (s_x) (
  p_cc (n := 94) (s_ic1 K dX8_readsClaim_94 rfl) (
  p_cc (n := 95) (s_al1 K dX8_readsClaim_95 rfl) (
  p_cc (n := 96) (s_gi (host := "") K dX8_readsClaim_96 (hc := rfl) (by decide) rfl inX8 (by decide) w_f_RX8_121 rfl) (
  p_cc (n := 97) (s_x) (
  p_cc (n := 98) (s_x) (
  p_cc (n := 99) (s_mul K dX8_readsClaim_99) (
  p_cc (n := 100) (s_ic1 K dX8_readsClaim_100 rfl) (
  p_cc (n := 101) (s_add K dX8_readsClaim_101) (
  p_cc (n := 102) (s_al1 K dX8_readsClaim_102 rfl) (
  p_cc (n := 103) (s_gi (host := "") K dX8_readsClaim_103 (hc := rfl) (by decide) rfl inX8 (by decide) w_f_RX8_109 rfl) (
  p_cc (n := 104) (s_x) (
  p_cc (n := 105) (s_x) (
  p_cc (n := 106) (s_ist K dX8_readsClaim_106) (
  p_cc (n := 107) (s_al1 K dX8_readsClaim_107 rfl) (
  p_cc (n := 108) (s_ic1 K dX8_readsClaim_108 rfl) (
  p_cc (n := 109) (s_ic2 K dX8_readsClaim_109 rfl) (
  p_cc (n := 110) (s_x) (
  p_cc (n := 111) (s_ic2 K dX8_readsClaim_111 rfl) (
  p_cc (n := 112) (s_x) (
  p_cc (n := 113) (cV_X8_number K dX8_readsClaim_113 w_m_RX8_115) (
  p_cc (n := 114) (s_x) (
  p_cc (n := 115) (s_x) (
  p_cc (n := 116) (s_ne0 K dX8_readsClaim_116 rfl) (
  p_cc (n := 117) (s_x) (
  p_cc (n := 118) (s_x) (
  p_cc (n := 119) (s_ic1 K dX8_readsClaim_119 rfl) (
  p_cc (n := 120) (s_zr K dX8_readsClaim_120 hr hk) (
  p_cc (n := 121) (s_al1 K dX8_readsClaim_121 rfl) (
  p_cc (n := 122) (s_gr (host := "") K dX8_readsClaim_122 (hc := rfl) (by decide) rfl inX8 (by decide) w_f_RX8_46 rfl) (
  p_cc (n := 123) (s_x) (
  p_cc (n := 124) (s_x) (
  p_cc (n := 125) (s_ic1 K dX8_readsClaim_125 rfl) (
  p_cc (n := 126) (s_al1 K dX8_readsClaim_126 rfl) (
  p_cc (n := 127) (s_gi (host := "") K dX8_readsClaim_127 (hc := rfl) (by decide) rfl inX8 (by decide) w_f_RX8_121 rfl) (
  p_cc (n := 128) (s_x) (
  p_cc (n := 129) (s_x) (
  p_cc (n := 130) (s_mul K dX8_readsClaim_130) (
  p_cc (n := 131) (s_ic1 K dX8_readsClaim_131 rfl) (
  p_cc (n := 132) (s_add K dX8_readsClaim_132) (
  p_cc (n := 133) (s_al1 K dX8_readsClaim_133 rfl) (
  p_cc (n := 134) (s_gi (host := "") K dX8_readsClaim_134 (hc := rfl) (by decide) rfl inX8 (by decide) w_f_RX8_109 rfl) (
  p_cc (n := 135) (s_x) (
  p_cc (n := 136) (s_x) (
  p_cc (n := 137) (s_ist K dX8_readsClaim_137) (
  p_cc (n := 138) (s_al1 K dX8_readsClaim_138 rfl) (
  p_cc (n := 139) (s_dup K dX8_readsClaim_139) (
  p_cc (n := 140) (s_gi (host := "") K dX8_readsClaim_140 (hc := rfl) (by decide) rfl inX8 (by decide) w_f_RX8_121 rfl) (
  p_cc (n := 141) (s_x) (
  p_cc (n := 142) (s_x) (
  p_cc (n := 143) (s_ic1 K dX8_readsClaim_143 rfl) (
  p_cc (n := 144) (s_add K dX8_readsClaim_144) (
  p_cc (n := 145) (s_pi (host := "") K dX8_readsClaim_145 (hc := rfl) (by decide) rfl inX8 (by decide) w_f_RX8_121 rfl rfl tyX8 tyX8_ok nmX8 rfl) (
  p_cc (n := 146) (s_x) (
  p_cc (n := 147) (s_x) (
  p_cc (n := 148) (s_ic1 K dX8_readsClaim_148 rfl) (
  p_cc (n := 149) (s_zr K dX8_readsClaim_149 hr hk) (p_cn)))))))))))))))))))))))))))))))))))))))))))))))))))))))))))))))))))))))))))))))))))))))))))))))))))))))))))))))))))))))))))))))))))))))))))))))))))))))
set_option maxRecDepth 100000 in
set_option maxHeartbeats 4000000 in
theorem cl_X8_readsItem {b : Bool} {w : pW} {p : Program} {l : Launch} {e : Env} {R : Room} {s : State} {m : MethodId} {args : Array Value} {below : List Frame} {meth : Method} {c : Code} {cells slots : Nat} {d : Nat} {Q : pQ} (K : q_X b w p s m args c RX8 cX8_readsItem 2 R d cells slots) (hr : meth.sig.returnType = (some .boolean)) (hk : meth.locks = false) : p_Cl b (q_C l b w) tb_X8_readsItem d Q (q_Z b w p l e R s m args below meth c 2 cells slots (MQ below (q_Qc b w Q) args s cells slots (q_A b w))) := p_c0 (
  p_cc (n := 0) (s_al1 K dX8_readsItem_0 rfl) (
  p_cc (n := 1) (cV_X8_here K dX8_readsItem_1 w_m_RX8_101) (
  p_cc (n := 2) (s_x) (
  p_cc (n := 3) (s_x) (
  p_cc (n := 4) (s_is1 K dX8_readsItem_4 rfl) (
  p_cc (n := 5) (s_al1 K dX8_readsItem_5 rfl) (
  p_cc (n := 6) (s_dup K dX8_readsItem_6) (
  p_cc (n := 7) (s_gi (host := "") K dX8_readsItem_7 (hc := rfl) (by decide) rfl inX8 (by decide) w_f_RX8_98 rfl) (
  p_cc (n := 8) (s_x) (
  p_cc (n := 9) (s_x) (
  p_cc (n := 10) (s_ic1 K dX8_readsItem_10 rfl) (
  p_cc (n := 11) (s_add K dX8_readsItem_11) (
  p_cc (n := 12) (s_pi (host := "") K dX8_readsItem_12 (hc := rfl) (by decide) rfl inX8 (by decide) w_f_RX8_98 rfl rfl tyX8 tyX8_ok nmX8 rfl) (
  p_cc (n := 13) (s_x) (
  p_cc (n := 14) (s_x) (
  p_cc (n := 15) (s_il1 K dX8_readsItem_15 rfl) (
  p_cc (n := 16) (s_ic2 K dX8_readsItem_16 rfl) (
  p_cc (n := 17) (s_x) (
  p_cc (n := 18) (s_ine K dX8_readsItem_18 rfl) (
  p_cc (n := 19) (s_x) (
  p_cc (n := 20) (s_x) (
  p_cc (n := 21) (s_al1 K dX8_readsItem_21 rfl) (
  p_cc (n := 22) (cV_X8_readsTeller K dX8_readsItem_22 w_m_RX8_124) (
  p_cc (n := 23) (s_x) (
  p_cc (n := 24) (s_x) (
  p_cc (n := 25) (s_goto K dX8_readsItem_25 rfl) (
  p_cc (n := 26) (s_x) (
  p_cc (n := 27) (s_x) (
  p_cc (n := 28) (s_il1 K dX8_readsItem_28 rfl) (
  p_cc (n := 29) (s_ic2 K dX8_readsItem_29 rfl) (
  p_cc (n := 30) (s_x) (
  p_cc (n := 31) (s_ine K dX8_readsItem_31 rfl) (
  p_cc (n := 32) (s_x) (
  p_cc (n := 33) (s_x) (
  p_cc (n := 34) (s_al1 K dX8_readsItem_34 rfl) (
  p_cc (n := 35) (cV_X8_readsFact K dX8_readsItem_35 w_m_RX8_127) (
  p_cc (n := 36) (s_x) (
  p_cc (n := 37) (s_x) (
  p_cc (n := 38) (s_goto K dX8_readsItem_38 rfl) (
  p_cc (n := 39) (s_x) (
  p_cc (n := 40) (s_x) (
  p_cc (n := 41) (s_il1 K dX8_readsItem_41 rfl) (
  p_cc (n := 42) (s_ic2 K dX8_readsItem_42 rfl) (
  p_cc (n := 43) (s_x) (
  p_cc (n := 44) (s_ine K dX8_readsItem_44 rfl) (
  p_cc (n := 45) (s_x) (
  p_cc (n := 46) (s_x) (
  p_cc (n := 47) (s_al1 K dX8_readsItem_47 rfl) (
  p_cc (n := 48) (cV_X8_readsClaim K dX8_readsItem_48 w_m_RX8_130) (
  p_cc (n := 49) (s_x) (
  p_cc (n := 50) (s_x) (
  p_cc (n := 51) (s_eq0 K dX8_readsItem_51 rfl) (
  p_cc (n := 52) (s_x) (
  p_cc (n := 53) (s_x) (
  p_cc (n := 54) (s_ic1 K dX8_readsItem_54 rfl) (
  p_cc (n := 55) (s_goto K dX8_readsItem_55 rfl) (
  p_cc (n := 56) (s_x) (
  p_cc (n := 57) (s_x) (
  p_cc (n := 58) (s_ic1 K dX8_readsItem_58 rfl) (
  p_cc (n := 59) (s_zr K dX8_readsItem_59 hr hk) (p_cn)))))))))))))))))))))))))))))))))))))))))))))))))))))))))))))
set_option maxRecDepth 100000 in
set_option maxHeartbeats 4000000 in
theorem cl_X8_fault {b : Bool} {w : pW} {p : Program} {l : Launch} {e : Env} {R : Room} {s : State} {m : MethodId} {args : Array Value} {below : List Frame} {meth : Method} {c : Code} {cells slots : Nat} {d : Nat} {Q : pQ} (K : q_X b w p s m args c RX8 cX8_fault 2 R d cells slots) (hr : meth.sig.returnType = (some .int)) (hk : meth.locks = false) : p_Cl b (q_C l b w) tb_X8_fault d Q (q_Z b w p l e R s m args below meth c 2 cells slots (MQ below (q_Qc b w Q) args s cells slots (q_A b w))) := p_c0 (
  p_cc (n := 0) (s_al1 K dX8_fault_0 rfl) (
  p_cc (n := 1) (s_ic1 K dX8_fault_1 rfl) (
  p_cc (n := 2) (s_pi (host := "") K dX8_fault_2 (hc := rfl) (by decide) rfl inX8 (by decide) w_f_RX8_98 rfl rfl tyX8 tyX8_ok nmX8 rfl) (
  p_cc (n := 3) (s_x) (
  p_cc (n := 4) (s_x) (
  p_cc (n := 5) (s_al1 K dX8_fault_5 rfl) (
  p_cc (n := 6) (s_ic1 K dX8_fault_6 rfl) (
  p_cc (n := 7) (s_pi (host := "") K dX8_fault_7 (hc := rfl) (by decide) rfl inX8 (by decide) w_f_RX8_112 rfl rfl tyX8 tyX8_ok nmX8 rfl) (
  p_cc (n := 8) (s_x) (
  p_cc (n := 9) (s_x) (
  p_cc (n := 10) (s_al1 K dX8_fault_10 rfl) (
  p_cc (n := 11) (s_ic1 K dX8_fault_11 rfl) (
  p_cc (n := 12) (s_pi (host := "") K dX8_fault_12 (hc := rfl) (by decide) rfl inX8 (by decide) w_f_RX8_118 rfl rfl tyX8 tyX8_ok nmX8 rfl) (
  p_cc (n := 13) (s_x) (
  p_cc (n := 14) (s_x) (
  p_cc (n := 15) (s_al1 K dX8_fault_15 rfl) (
  p_cc (n := 16) (s_ic1 K dX8_fault_16 rfl) (
  p_cc (n := 17) (s_pi (host := "") K dX8_fault_17 (hc := rfl) (by decide) rfl inX8 (by decide) w_f_RX8_121 rfl rfl tyX8 tyX8_ok nmX8 rfl) (
  p_cc (n := 18) (s_x) (
  p_cc (n := 19) (s_x) (
  p_cc (n := 20) (s_al1 K dX8_fault_20 rfl) (
  p_cc (n := 21) (s_gi (host := "") K dX8_fault_21 (hc := rfl) (by decide) rfl inX8 (by decide) w_f_RX8_98 rfl) (
  p_cc (n := 22) (s_x) (
  p_cc (n := 23) (s_x) (
  p_cc (n := 24) (s_al1 K dX8_fault_24 rfl) (
  p_cc (n := 25) (s_gi (host := "") K dX8_fault_25 (hc := rfl) (by decide) rfl inX8 (by decide) w_f_RX8_95 rfl) (
  p_cc (n := 26) (s_x) (
  p_cc (n := 27) (s_x) (
  p_cc (n := 28) (s_ige K dX8_fault_28 rfl) (
  p_cc (n := 29) (s_x) (
  p_cc (n := 30) (s_x) (
  p_cc (n := 31) (s_al1 K dX8_fault_31 rfl) (
  p_cc (n := 32) (s_gi (host := "") K dX8_fault_32 (hc := rfl) (by decide) rfl inX8 (by decide) w_f_RX8_98 rfl) (
  p_cc (n := 33) (s_x) (
  p_cc (n := 34) (s_x) (
  p_cc (n := 35) (s_is1 K dX8_fault_35 rfl) (
  p_cc (n := 36) (s_al1 K dX8_fault_36 rfl) (
  p_cc (n := 37) (cV_X8_readsItem K dX8_fault_37 w_m_RX8_133) (
  p_cc (n := 38) (s_x) (
  p_cc (n := 39) (s_x) (
  p_cc (n := 40) (s_ne0 K dX8_fault_40 rfl) (
  p_cc (n := 41) (s_x) (
  p_cc (n := 42) (s_x) (
  p_cc (n := 43) (s_il1 K dX8_fault_43 rfl) (
  p_cc (n := 44) (s_ir K dX8_fault_44 hr hk) (
  p_cc (n := 45) (s_goto K dX8_fault_45 rfl) (
  p_cc (n := 46) (s_x) (
  p_cc (n := 47) (s_x) (
  p_cc (n := 48) (s_ic2 K dX8_fault_48 rfl) (
  p_cc (n := 49) (s_x) (
  p_cc (n := 50) (s_ir K dX8_fault_50 hr hk) (p_cn))))))))))))))))))))))))))))))))))))))))))))))))))))
set_option maxRecDepth 100000 in
set_option maxHeartbeats 4000000 in
theorem cl_X8_lay {b : Bool} {w : pW} {p : Program} {l : Launch} {e : Env} {R : Room} {s : State} {m : MethodId} {args : Array Value} {below : List Frame} {meth : Method} {c : Code} {cells slots : Nat} {d : Nat} {Q : pQ} (K : q_X b w p s m args c RX8 cX8_lay 2 R d cells slots) (hr : meth.sig.returnType = (some .int)) (hk : meth.locks = false) : p_Cl b (q_C l b w) tb_X8_lay d Q (q_Z b w p l e R s m args below meth c 2 cells slots (MQ below (q_Qc b w Q) args s cells slots (q_A b w))) := p_c0 (
  p_cc (n := 0) (s_al1 K dX8_lay_0 rfl) (
  p_cc (n := 1) (cV_X8_fault K dX8_lay_1 w_m_RX8_136) (
  p_cc (n := 2) (s_x) (
  p_cc (n := 3) (s_x) (
  p_cc (n := 4) (s_ic2 K dX8_lay_4 rfl) (
  p_cc (n := 5) (s_x) (
  p_cc (n := 6) (s_ine K dX8_lay_6 rfl) (
  p_cc (n := 7) (s_x) (
  p_cc (n := 8) (s_x) (
  p_cc (n := 9) (s_al1 K dX8_lay_9 rfl) (
  p_cc (n := 10) (s_gi (host := "") K dX8_lay_10 (hc := rfl) (by decide) rfl inX8 (by decide) w_f_RX8_112 rfl) (
  p_cc (n := 11) (s_x) (
  p_cc (n := 12) (s_x) (
  p_cc (n := 13) (s_eq0 K dX8_lay_13 rfl) (
  p_cc (n := 14) (s_x) (
  p_cc (n := 15) (s_x) (
  p_cc (n := 16) (s_al1 K dX8_lay_16 rfl) (
  p_cc (n := 17) (s_gi (host := "") K dX8_lay_17 (hc := rfl) (by decide) rfl inX8 (by decide) w_f_RX8_118 rfl) (
  p_cc (n := 18) (s_x) (
  p_cc (n := 19) (s_x) (
  p_cc (n := 20) (s_ne0 K dX8_lay_20 rfl) (
  p_cc (n := 21) (s_x) (
  p_cc (n := 22) (s_x) (
  p_cc (n := 23) (s_ic2 K dX8_lay_23 rfl) (
  p_cc (n := 24) (s_x) (
  p_cc (n := 25) (s_ir K dX8_lay_25 hr hk) (
  p_cc (n := 26) (s_al1 K dX8_lay_26 rfl) (
  p_cc (n := 27) (s_al1 K dX8_lay_27 rfl) (
  p_cc (n := 28) (s_gi (host := "") K dX8_lay_28 (hc := rfl) (by decide) rfl inX8 (by decide) w_f_RX8_112 rfl) (
  p_cc (n := 29) (s_x) (
  p_cc (n := 30) (s_x) (
  p_cc (n := 31) (s_pi (host := "") K dX8_lay_31 (hc := rfl) (by decide) rfl inX8 (by decide) w_f_RX8_88 rfl rfl tyX8 tyX8_ok nmX8 rfl) (
  p_cc (n := 32) (s_x) (
  p_cc (n := 33) (s_x) (
  p_cc (n := 34) (s_al1 K dX8_lay_34 rfl) (
  p_cc (n := 35) (s_al1 K dX8_lay_35 rfl) (
  p_cc (n := 36) (s_gi (host := "") K dX8_lay_36 (hc := rfl) (by decide) rfl inX8 (by decide) w_f_RX8_118 rfl) (
  p_cc (n := 37) (s_x) (
  p_cc (n := 38) (s_x) (
  p_cc (n := 39) (s_pi (host := "") K dX8_lay_39 (hc := rfl) (by decide) rfl inX8 (by decide) w_f_RX8_74 rfl rfl tyX8 tyX8_ok nmX8 rfl) (
  p_cc (n := 40) (s_x) (
  p_cc (n := 41) (s_x) (
  p_cc (n := 42) (s_al1 K dX8_lay_42 rfl) (
  p_cc (n := 43) (s_al1 K dX8_lay_43 rfl) (
  p_cc (n := 44) (s_gi (host := "") K dX8_lay_44 (hc := rfl) (by decide) rfl inX8 (by decide) w_f_RX8_121 rfl) (
  p_cc (n := 45) (s_x) (
  p_cc (n := 46) (s_x) (
  p_cc (n := 47) (s_pi (host := "") K dX8_lay_47 (hc := rfl) (by decide) rfl inX8 (by decide) w_f_RX8_85 rfl rfl tyX8 tyX8_ok nmX8 rfl) (
  p_cc (n := 48) (s_x) (
  p_cc (n := 49) (s_x) (
  p_cc (n := 50) (s_ic1 K dX8_lay_50 rfl) (
  p_cc (n := 51) (s_is1 K dX8_lay_51 rfl) (
  p_cc (n := 52) (s_il1 K dX8_lay_52 rfl) (
  p_cc (n := 53) (s_ic1 K dX8_lay_53 rfl) (
  p_cc (n := 54) (s_ige K dX8_lay_54 rfl) (
  p_cc (n := 55) (s_x) (
  p_cc (n := 56) (s_x) (
  p_cc (n := 57) (s_al1 K dX8_lay_57 rfl) (
  p_cc (n := 58) (s_gr (host := "") K dX8_lay_58 (hc := rfl) (by decide) rfl inX8 (by decide) w_f_RX8_9 rfl) (
  p_cc (n := 59) (s_x) (
  p_cc (n := 60) (s_x) (
  p_cc (n := 61) (s_il1 K dX8_lay_61 rfl) (
  p_cc (n := 62) (s_al1 K dX8_lay_62 rfl) (
  p_cc (n := 63) (s_gr (host := "") K dX8_lay_63 (hc := rfl) (by decide) rfl inX8 (by decide) w_f_RX8_37 rfl) (
  p_cc (n := 64) (s_x) (
  p_cc (n := 65) (s_x) (
  p_cc (n := 66) (s_il1 K dX8_lay_66 rfl) (
  p_cc (n := 67) (s_ia K dX8_lay_67) (
  p_cc (n := 68) (s_ist K dX8_lay_68) (
  p_cc (n := 69) (s_al1 K dX8_lay_69 rfl) (
  p_cc (n := 70) (s_gr (host := "") K dX8_lay_70 (hc := rfl) (by decide) rfl inX8 (by decide) w_f_RX8_13 rfl) (
  p_cc (n := 71) (s_x) (
  p_cc (n := 72) (s_x) (
  p_cc (n := 73) (s_il1 K dX8_lay_73 rfl) (
  p_cc (n := 74) (s_al1 K dX8_lay_74 rfl) (
  p_cc (n := 75) (s_gr (host := "") K dX8_lay_75 (hc := rfl) (by decide) rfl inX8 (by decide) w_f_RX8_40 rfl) (
  p_cc (n := 76) (s_x) (
  p_cc (n := 77) (s_x) (
  p_cc (n := 78) (s_il1 K dX8_lay_78 rfl) (
  p_cc (n := 79) (s_ia K dX8_lay_79) (
  p_cc (n := 80) (s_ist K dX8_lay_80) (
  p_cc (n := 81) (s_ii K dX8_lay_81 rfl) (
  p_cc (n := 82) (s_x) (
  p_cc (n := 83) (s_x) (
  p_cc (n := 84) (s_goto K dX8_lay_84 rfl) (
  p_cc (n := 85) (s_x) (
  p_cc (n := 86) (s_x) (
  p_cc (n := 87) (s_al1 K dX8_lay_87 rfl) (
  p_cc (n := 88) (s_ic1 K dX8_lay_88 rfl) (
  p_cc (n := 89) (s_pi (host := "") K dX8_lay_89 (hc := rfl) (by decide) rfl inX8 (by decide) w_f_RX8_78 rfl rfl tyX8 tyX8_ok nmX8 rfl) (
  p_cc (n := 90) (s_x) (
  p_cc (n := 91) (s_x) (
  p_cc (n := 92) (s_ic1 K dX8_lay_92 rfl) (
  p_cc (n := 93) (s_is1 K dX8_lay_93 rfl) (
  p_cc (n := 94) (s_il1 K dX8_lay_94 rfl) (
  p_cc (n := 95) (s_al1 K dX8_lay_95 rfl) (
  p_cc (n := 96) (s_gi (host := "") K dX8_lay_96 (hc := rfl) (by decide) rfl inX8 (by decide) w_f_RX8_74 rfl) (
  p_cc (n := 97) (s_x) (
  p_cc (n := 98) (s_x) (
  p_cc (n := 99) (s_ige K dX8_lay_99 rfl) (
  p_cc (n := 100) (s_x) (
  p_cc (n := 101) (s_x) (
  p_cc (n := 102) (s_al1 K dX8_lay_102 rfl) (
  p_cc (n := 103) (s_dup K dX8_lay_103) (
  p_cc (n := 104) (s_gi (host := "") K dX8_lay_104 (hc := rfl) (by decide) rfl inX8 (by decide) w_f_RX8_78 rfl) (
  p_cc (n := 105) (s_x) (
  p_cc (n := 106) (s_x) (
  p_cc (n := 107) (s_al1 K dX8_lay_107 rfl) (
  p_cc (n := 108) (s_gr (host := "") K dX8_lay_108 (hc := rfl) (by decide) rfl inX8 (by decide) w_f_RX8_43 rfl) (
  p_cc (n := 109) (s_x) (
  p_cc (n := 110) (s_x) (
  p_cc (n := 111) (s_il1 K dX8_lay_111 rfl) (
  p_cc (n := 112) (s_ia K dX8_lay_112) (
  p_cc (n := 113) (s_il1 K dX8_lay_113 rfl) (
  p_cc (n := 114) (s_shl K dX8_lay_114) (
  p_cc (n := 115) (s_or K dX8_lay_115) (
  p_cc (n := 116) (s_pi (host := "") K dX8_lay_116 (hc := rfl) (by decide) rfl inX8 (by decide) w_f_RX8_78 rfl rfl tyX8 tyX8_ok nmX8 rfl) (
  p_cc (n := 117) (s_x) (
  p_cc (n := 118) (s_x) (
  p_cc (n := 119) (s_ii K dX8_lay_119 rfl) (
  p_cc (n := 120) (s_x) (
  p_cc (n := 121) (s_x) (
  p_cc (n := 122) (s_goto K dX8_lay_122 rfl) (
  p_cc (n := 123) (s_x) (
  p_cc (n := 124) (s_x) (
  p_cc (n := 125) (s_ic1 K dX8_lay_125 rfl) (
  p_cc (n := 126) (s_is1 K dX8_lay_126 rfl) (
  p_cc (n := 127) (s_il1 K dX8_lay_127 rfl) (
  p_cc (n := 128) (s_al1 K dX8_lay_128 rfl) (
  p_cc (n := 129) (s_gi (host := "") K dX8_lay_129 (hc := rfl) (by decide) rfl inX8 (by decide) w_f_RX8_85 rfl) (
  p_cc (n := 130) (s_x) (
  p_cc (n := 131) (s_x) (
  p_cc (n := 132) (s_ige K dX8_lay_132 rfl) (
  p_cc (n := 133) (s_x) (
  p_cc (n := 134) (s_x) (
  p_cc (n := 135) (s_al1 K dX8_lay_135 rfl) (
  p_cc (n := 136) (s_il1 K dX8_lay_136 rfl) (
  p_cc (n := 137) (s_al1 K dX8_lay_137 rfl) (
  p_cc (n := 138) (s_gr (host := "") K dX8_lay_138 (hc := rfl) (by decide) rfl inX8 (by decide) w_f_RX8_46 rfl) (
  p_cc (n := 139) (s_x) (
  p_cc (n := 140) (s_x) (
  p_cc (n := 141) (s_ic1 K dX8_lay_141 rfl) (
  p_cc (n := 142) (s_il1 K dX8_lay_142 rfl) (
  p_cc (n := 143) (s_mul K dX8_lay_143) (
  p_cc (n := 144) (s_ia K dX8_lay_144) (
  p_cc (n := 145) (s_al1 K dX8_lay_145 rfl) (
  p_cc (n := 146) (s_gr (host := "") K dX8_lay_146 (hc := rfl) (by decide) rfl inX8 (by decide) w_f_RX8_46 rfl) (
  p_cc (n := 147) (s_x) (
  p_cc (n := 148) (s_x) (
  p_cc (n := 149) (s_ic1 K dX8_lay_149 rfl) (
  p_cc (n := 150) (s_il1 K dX8_lay_150 rfl) (
  p_cc (n := 151) (s_mul K dX8_lay_151) (
  p_cc (n := 152) (s_ic1 K dX8_lay_152 rfl) (
  p_cc (n := 153) (s_add K dX8_lay_153) (
  p_cc (n := 154) (s_ia K dX8_lay_154) (
  p_cc (n := 155) (s_al1 K dX8_lay_155 rfl) (
  p_cc (n := 156) (s_gr (host := "") K dX8_lay_156 (hc := rfl) (by decide) rfl inX8 (by decide) w_f_RX8_46 rfl) (
  p_cc (n := 157) (s_x) (
  p_cc (n := 158) (s_x) (
  p_cc (n := 159) (s_ic1 K dX8_lay_159 rfl) (
  p_cc (n := 160) (s_il1 K dX8_lay_160 rfl) (
  p_cc (n := 161) (s_mul K dX8_lay_161) (
  p_cc (n := 162) (s_ic1 K dX8_lay_162 rfl) (
  p_cc (n := 163) (s_add K dX8_lay_163) (
  p_cc (n := 164) (s_ia K dX8_lay_164) (
  p_cc (n := 165) (s_al1 K dX8_lay_165 rfl) (
  p_cc (n := 166) (s_gr (host := "") K dX8_lay_166 (hc := rfl) (by decide) rfl inX8 (by decide) w_f_RX8_46 rfl) (
  p_cc (n := 167) (s_x) (
  p_cc (n := 168) (s_x) (
  p_cc (n := 169) (s_ic1 K dX8_lay_169 rfl) (
  p_cc (n := 170) (s_il1 K dX8_lay_170 rfl) (
  p_cc (n := 171) (s_mul K dX8_lay_171) (
  p_cc (n := 172) (s_ic1 K dX8_lay_172 rfl) (
  p_cc (n := 173) (s_add K dX8_lay_173) (
  p_cc (n := 174) (s_ia K dX8_lay_174) (
  p_cc (n := 175) (cV_X8_sets K dX8_lay_175 w_m_RX8_81) (
  p_cc (n := 176) (s_x) (
  p_cc (n := 177) (s_x) (
  p_cc (n := 178) (s_ii K dX8_lay_178 rfl) (
  p_cc (n := 179) (s_x) (
  p_cc (n := 180) (s_x) (
  p_cc (n := 181) (s_goto K dX8_lay_181 rfl) (
  p_cc (n := 182) (s_x) (
  p_cc (n := 183) (s_x) (
  p_cc (n := 184) (s_al1 K dX8_lay_184 rfl) (
  p_cc (n := 185) (s_ic1 K dX8_lay_185 rfl) (
  p_cc (n := 186) (s_pi (host := "") K dX8_lay_186 (hc := rfl) (by decide) rfl inX8 (by decide) w_f_RX8_139 rfl rfl tyX8 tyX8_ok nmX8 rfl) (
  p_cc (n := 187) (s_x) (
  p_cc (n := 188) (s_x) (
  p_cc (n := 189) (s_al1 K dX8_lay_189 rfl) (
  p_cc (n := 190) (s_ic1 K dX8_lay_190 rfl) (
  p_cc (n := 191) (s_pi (host := "") K dX8_lay_191 (hc := rfl) (by decide) rfl inX8 (by decide) w_f_RX8_142 rfl rfl tyX8 tyX8_ok nmX8 rfl) (
  p_cc (n := 192) (s_x) (
  p_cc (n := 193) (s_x) (
  p_cc (n := 194) (s_al1 K dX8_lay_194 rfl) (
  p_cc (n := 195) (s_ic1 K dX8_lay_195 rfl) (
  p_cc (n := 196) (s_pi (host := "") K dX8_lay_196 (hc := rfl) (by decide) rfl inX8 (by decide) w_f_RX8_145 rfl rfl tyX8 tyX8_ok nmX8 rfl) (
  p_cc (n := 197) (s_x) (
  p_cc (n := 198) (s_x) (
  p_cc (n := 199) (s_al1 K dX8_lay_199 rfl) (
  p_cc (n := 200) (s_gi (host := "") K dX8_lay_200 (hc := rfl) (by decide) rfl inX8 (by decide) w_f_RX8_88 rfl) (
  p_cc (n := 201) (s_x) (
  p_cc (n := 202) (s_x) (
  p_cc (n := 203) (s_ir K dX8_lay_203 hr hk) (p_cn)))))))))))))))))))))))))))))))))))))))))))))))))))))))))))))))))))))))))))))))))))))))))))))))))))))))))))))))))))))))))))))))))))))))))))))))))))))))))))))))))))))))))))))))))))))))))))))))))))))))))))))
set_option maxRecDepth 100000 in
set_option maxHeartbeats 4000000 in
theorem cl_X8_isFalse {b : Bool} {w : pW} {p : Program} {l : Launch} {e : Env} {R : Room} {s : State} {m : MethodId} {args : Array Value} {below : List Frame} {meth : Method} {c : Code} {cells slots : Nat} {d : Nat} {Q : pQ} (K : q_X b w p s m args c RX8 cX8_isFalse 2 R d cells slots) (hr : meth.sig.returnType = (some .boolean)) (hk : meth.locks = false) : p_Cl b (q_C l b w) tb_X8_isFalse d Q (q_Z b w p l e R s m args below meth c 2 cells slots (MQ below (q_Qc b w Q) args s cells slots (q_A b w))) := p_c0 (
  p_cc (n := 0) (s_al1 K dX8_isFalse_0 rfl) (
  p_cc (n := 1) (s_gi (host := "") K dX8_isFalse_1 (hc := rfl) (by decide) rfl inX8 (by decide) w_f_RX8_78 rfl) (
  p_cc (n := 2) (s_x) (
  p_cc (n := 3) (s_x) (
  p_cc (n := 4) (s_al1 K dX8_isFalse_4 rfl) (
  p_cc (n := 5) (s_gr (host := "") K dX8_isFalse_5 (hc := rfl) (by decide) rfl inX8 (by decide) w_f_RX8_19 rfl) (
  p_cc (n := 6) (s_x) (
  p_cc (n := 7) (s_x) (
  p_cc (n := 8) (s_il1 K dX8_isFalse_8 rfl) (
  p_cc (n := 9) (s_ia K dX8_isFalse_9) (
  p_cc (n := 10) (s_shr K dX8_isFalse_10) (
  p_cc (n := 11) (s_ic1 K dX8_isFalse_11 rfl) (
  p_cc (n := 12) (s_and K dX8_isFalse_12) (
  p_cc (n := 13) (s_al1 K dX8_isFalse_13 rfl) (
  p_cc (n := 14) (s_gr (host := "") K dX8_isFalse_14 (hc := rfl) (by decide) rfl inX8 (by decide) w_f_RX8_22 rfl) (
  p_cc (n := 15) (s_x) (
  p_cc (n := 16) (s_x) (
  p_cc (n := 17) (s_il1 K dX8_isFalse_17 rfl) (
  p_cc (n := 18) (s_ia K dX8_isFalse_18) (
  p_cc (n := 19) (s_ieq K dX8_isFalse_19 rfl) (
  p_cc (n := 20) (s_x) (
  p_cc (n := 21) (s_x) (
  p_cc (n := 22) (s_ic1 K dX8_isFalse_22 rfl) (
  p_cc (n := 23) (s_goto K dX8_isFalse_23 rfl) (
  p_cc (n := 24) (s_x) (
  p_cc (n := 25) (s_x) (
  p_cc (n := 26) (s_ic1 K dX8_isFalse_26 rfl) (
  p_cc (n := 27) (s_zr K dX8_isFalse_27 hr hk) (p_cn)))))))))))))))))))))))))))))
set_option maxRecDepth 100000 in
set_option maxHeartbeats 4000000 in
theorem cl_X8_hotter {b : Bool} {w : pW} {p : Program} {l : Launch} {e : Env} {R : Room} {s : State} {m : MethodId} {args : Array Value} {below : List Frame} {meth : Method} {c : Code} {cells slots : Nat} {d : Nat} {Q : pQ} (K : q_X b w p s m args c RX8 cX8_hotter 4 R d cells slots) (hr : meth.sig.returnType = (some .int)) (hk : meth.locks = false) : p_Cl b (q_C l b w) tb_X8_hotter d Q (q_Z b w p l e R s m args below meth c 4 cells slots (MQ below (q_Qc b w Q) args s cells slots (q_A b w))) := p_c0 (
  p_cc (n := 0) (s_il1 K dX8_hotter_0 rfl) (
  p_cc (n := 1) (s_eq0 K dX8_hotter_1 rfl) (
  p_cc (n := 2) (s_x) (
  p_cc (n := 3) (s_x) (
  p_cc (n := 4) (s_il1 K dX8_hotter_4 rfl) (
  p_cc (n := 5) (s_goto K dX8_hotter_5 rfl) (
  p_cc (n := 6) (s_x) (
  p_cc (n := 7) (s_x) (
  p_cc (n := 8) (s_ic1 K dX8_hotter_8 rfl) (
  p_cc (n := 9) (s_is1 K dX8_hotter_9 rfl) (
  p_cc (n := 10) (s_il1 K dX8_hotter_10 rfl) (
  p_cc (n := 11) (s_tswB K dX8_hotter_11 rfl (by decide +kernel) (by decide +kernel) rfl) (
  p_cc (n := 12) (s_x) (
  p_cc (n := 13) (s_x) (
  p_cc (n := 14) (s_x) (
  p_cc (n := 15) (s_x) (
  p_cc (n := 16) (s_x) (
  p_cc (n := 17) (s_x) (
  p_cc (n := 18) (s_x) (
  p_cc (n := 19) (s_x) (
  p_cc (n := 20) (s_x) (
  p_cc (n := 21) (s_x) (
  p_cc (n := 22) (s_x) (
  p_cc (n := 23) (s_x) (
  p_cc (n := 24) (s_x) (
  p_cc (n := 25) (s_x) (
  p_cc (n := 26) (s_x) (
  p_cc (n := 27) (s_x) (
  p_cc (n := 28) (s_x) (
  p_cc (n := 29) (s_x) (
  p_cc (n := 30) (s_x) (
  p_cc (n := 31) (s_x) (
  p_cc (n := 32) (s_x) (
  p_cc (n := 33) (s_x) (
  p_cc (n := 34) (s_x) (
  p_cc (n := 35) (s_x) (
  p_cc (n := 36) (s_il1 K dX8_hotter_36 rfl) (
  p_cc (n := 37) (s_ic1 K dX8_hotter_37 rfl) (
  p_cc (n := 38) (s_div K dX8_hotter_38) (
  p_cc (n := 39) (s_ir K dX8_hotter_39 hr hk) (
  p_cc (n := 40) (s_il1 K dX8_hotter_40 rfl) (
  p_cc (n := 41) (s_eq0 K dX8_hotter_41 rfl) (
  p_cc (n := 42) (s_x) (
  p_cc (n := 43) (s_x) (
  p_cc (n := 44) (s_ic1 K dX8_hotter_44 rfl) (
  p_cc (n := 45) (s_il1 K dX8_hotter_45 rfl) (
  p_cc (n := 46) (s_mul K dX8_hotter_46) (
  p_cc (n := 47) (s_goto K dX8_hotter_47 rfl) (
  p_cc (n := 48) (s_x) (
  p_cc (n := 49) (s_x) (
  p_cc (n := 50) (s_ic1 K dX8_hotter_50 rfl) (
  p_cc (n := 51) (s_ir K dX8_hotter_51 hr hk) (
  p_cc (n := 52) (s_il1 K dX8_hotter_52 rfl) (
  p_cc (n := 53) (s_ic1 K dX8_hotter_53 rfl) (
  p_cc (n := 54) (s_add K dX8_hotter_54) (
  p_cc (n := 55) (s_ir K dX8_hotter_55 hr hk) (
  p_cc (n := 56) (s_il1 K dX8_hotter_56 rfl) (
  p_cc (n := 57) (s_ir K dX8_hotter_57 hr hk) (p_cn)))))))))))))))))))))))))))))))))))))))))))))))))))))))))))
set_option maxRecDepth 100000 in
set_option maxHeartbeats 4000000 in
theorem cl_X8_evening {b : Bool} {w : pW} {p : Program} {l : Launch} {e : Env} {R : Room} {s : State} {m : MethodId} {args : Array Value} {below : List Frame} {meth : Method} {c : Code} {cells slots : Nat} {d : Nat} {Q : pQ} (K : q_X b w p s m args c RX8 cX8_evening 7 R d cells slots) (hr : meth.sig.returnType = none) (hk : meth.locks = false) : p_Cl b (q_C l b w) tb_X8_evening d Q (q_Z b w p l e R s m args below meth c 7 cells slots (MQ below (q_Qc b w Q) args s cells slots (q_A b w))) := p_c0 (
  p_cc (n := 0) (s_ic1 K dX8_evening_0 rfl) (
  p_cc (n := 1) (s_is1 K dX8_evening_1 rfl) (
  p_cc (n := 2) (s_il1 K dX8_evening_2 rfl) (
  p_cc (n := 3) (s_al1 K dX8_evening_3 rfl) (
  p_cc (n := 4) (s_gi (host := "") K dX8_evening_4 (hc := rfl) (by decide) rfl inX8 (by decide) w_f_RX8_88 rfl) (
  p_cc (n := 5) (s_x) (
  p_cc (n := 6) (s_x) (
  p_cc (n := 7) (s_ige K dX8_evening_7 rfl) (
  p_cc (n := 8) (s_x) (
  p_cc (n := 9) (s_x) (
  p_cc (n := 10) (s_al1 K dX8_evening_10 rfl) (
  p_cc (n := 11) (s_gr (host := "") K dX8_evening_11 (hc := rfl) (by decide) rfl inX8 (by decide) w_f_RX8_52 rfl) (
  p_cc (n := 12) (s_x) (
  p_cc (n := 13) (s_x) (
  p_cc (n := 14) (s_il1 K dX8_evening_14 rfl) (
  p_cc (n := 15) (s_ic2 K dX8_evening_15 rfl) (
  p_cc (n := 16) (s_x) (
  p_cc (n := 17) (s_ist K dX8_evening_17) (
  p_cc (n := 18) (s_ii K dX8_evening_18 rfl) (
  p_cc (n := 19) (s_x) (
  p_cc (n := 20) (s_x) (
  p_cc (n := 21) (s_goto K dX8_evening_21 rfl) (
  p_cc (n := 22) (s_x) (
  p_cc (n := 23) (s_x) (
  p_cc (n := 24) (s_ic1 K dX8_evening_24 rfl) (
  p_cc (n := 25) (s_is1 K dX8_evening_25 rfl) (
  p_cc (n := 26) (s_il1 K dX8_evening_26 rfl) (
  p_cc (n := 27) (s_ic2 K dX8_evening_27 rfl) (
  p_cc (n := 28) (s_x) (
  p_cc (n := 29) (s_ige K dX8_evening_29 rfl) (
  p_cc (n := 30) (s_x) (
  p_cc (n := 31) (s_x) (
  p_cc (n := 32) (s_al1 K dX8_evening_32 rfl) (
  p_cc (n := 33) (s_gr (host := "") K dX8_evening_33 (hc := rfl) (by decide) rfl inX8 (by decide) w_f_RX8_55 rfl) (
  p_cc (n := 34) (s_x) (
  p_cc (n := 35) (s_x) (
  p_cc (n := 36) (s_il1 K dX8_evening_36 rfl) (
  p_cc (n := 37) (s_ic2 K dX8_evening_37 rfl) (
  p_cc (n := 38) (s_x) (
  p_cc (n := 39) (s_ist K dX8_evening_39) (
  p_cc (n := 40) (s_ii K dX8_evening_40 rfl) (
  p_cc (n := 41) (s_x) (
  p_cc (n := 42) (s_x) (
  p_cc (n := 43) (s_goto K dX8_evening_43 rfl) (
  p_cc (n := 44) (s_x) (
  p_cc (n := 45) (s_x) (
  p_cc (n := 46) (s_al1 K dX8_evening_46 rfl) (
  p_cc (n := 47) (s_ic1 K dX8_evening_47 rfl) (
  p_cc (n := 48) (s_pi (host := "") K dX8_evening_48 (hc := rfl) (by decide) rfl inX8 (by decide) w_f_RX8_148 rfl rfl tyX8 tyX8_ok nmX8 rfl) (
  p_cc (n := 49) (s_x) (
  p_cc (n := 50) (s_x) (
  p_cc (n := 51) (s_al1 K dX8_evening_51 rfl) (
  p_cc (n := 52) (s_ic1 K dX8_evening_52 rfl) (
  p_cc (n := 53) (s_pi (host := "") K dX8_evening_53 (hc := rfl) (by decide) rfl inX8 (by decide) w_f_RX8_151 rfl rfl tyX8 tyX8_ok nmX8 rfl) (
  p_cc (n := 54) (s_x) (
  p_cc (n := 55) (s_x) (
  p_cc (n := 56) (s_ic1 K dX8_evening_56 rfl) (
  p_cc (n := 57) (s_is1 K dX8_evening_57 rfl) (
  p_cc (n := 58) (s_ic2 K dX8_evening_58 rfl) (
  p_cc (n := 59) (s_x) (
  p_cc (n := 60) (s_is1 K dX8_evening_60 rfl) (
  p_cc (n := 61) (s_ic1 K dX8_evening_61 rfl) (
  p_cc (n := 62) (s_is2 K dX8_evening_62) (
  p_cc (n := 63) (s_x) (
  p_cc (n := 64) (s_il2 K dX8_evening_64) (
  p_cc (n := 65) (s_x) (
  p_cc (n := 66) (s_il1 K dX8_evening_66 rfl) (
  p_cc (n := 67) (s_ige K dX8_evening_67 rfl) (
  p_cc (n := 68) (s_x) (
  p_cc (n := 69) (s_x) (
  p_cc (n := 70) (s_al1 K dX8_evening_70 rfl) (
  p_cc (n := 71) (s_gr (host := "") K dX8_evening_71 (hc := rfl) (by decide) rfl inX8 (by decide) w_f_RX8_49 rfl) (
  p_cc (n := 72) (s_x) (
  p_cc (n := 73) (s_x) (
  p_cc (n := 74) (s_il2 K dX8_evening_74) (
  p_cc (n := 75) (s_x) (
  p_cc (n := 76) (s_ia K dX8_evening_76) (
  p_cc (n := 77) (s_is2 K dX8_evening_77) (
  p_cc (n := 78) (s_x) (
  p_cc (n := 79) (s_al1 K dX8_evening_79 rfl) (
  p_cc (n := 80) (s_gr (host := "") K dX8_evening_80 (hc := rfl) (by decide) rfl inX8 (by decide) w_f_RX8_16 rfl) (
  p_cc (n := 81) (s_x) (
  p_cc (n := 82) (s_x) (
  p_cc (n := 83) (s_il2 K dX8_evening_83) (
  p_cc (n := 84) (s_x) (
  p_cc (n := 85) (s_ia K dX8_evening_85) (
  p_cc (n := 86) (s_is2 K dX8_evening_86) (
  p_cc (n := 87) (s_x) (
  p_cc (n := 88) (s_al1 K dX8_evening_88 rfl) (
  p_cc (n := 89) (s_gr (host := "") K dX8_evening_89 (hc := rfl) (by decide) rfl inX8 (by decide) w_f_RX8_52 rfl) (
  p_cc (n := 90) (s_x) (
  p_cc (n := 91) (s_x) (
  p_cc (n := 92) (s_il2 K dX8_evening_92) (
  p_cc (n := 93) (s_x) (
  p_cc (n := 94) (s_ia K dX8_evening_94) (
  p_cc (n := 95) (s_ic2 K dX8_evening_95 rfl) (
  p_cc (n := 96) (s_x) (
  p_cc (n := 97) (s_ine K dX8_evening_97 rfl) (
  p_cc (n := 98) (s_x) (
  p_cc (n := 99) (s_x) (
  p_cc (n := 100) (s_il1 K dX8_evening_100 rfl) (
  p_cc (n := 101) (s_ic2 K dX8_evening_101 rfl) (
  p_cc (n := 102) (s_x) (
  p_cc (n := 103) (s_ieq K dX8_evening_103 rfl) (
  p_cc (n := 104) (s_x) (
  p_cc (n := 105) (s_x) (
  p_cc (n := 106) (s_il1 K dX8_evening_106 rfl) (
  p_cc (n := 107) (s_il2 K dX8_evening_107) (
  p_cc (n := 108) (s_x) (
  p_cc (n := 109) (s_ieq K dX8_evening_109 rfl) (
  p_cc (n := 110) (s_x) (
  p_cc (n := 111) (s_x) (
  p_cc (n := 112) (s_il1 K dX8_evening_112 rfl) (
  p_cc (n := 113) (s_ic1 K dX8_evening_113 rfl) (
  p_cc (n := 114) (s_div K dX8_evening_114) (
  p_cc (n := 115) (s_goto K dX8_evening_115 rfl) (
  p_cc (n := 116) (s_x) (
  p_cc (n := 117) (s_x) (
  p_cc (n := 118) (s_il1 K dX8_evening_118 rfl) (
  p_cc (n := 119) (s_is1 K dX8_evening_119 rfl) (
  p_cc (n := 120) (s_il1 K dX8_evening_120 rfl) (
  p_cc (n := 121) (s_al1 K dX8_evening_121 rfl) (
  p_cc (n := 122) (s_gr (host := "") K dX8_evening_122 (hc := rfl) (by decide) rfl inX8 (by decide) w_f_RX8_9 rfl) (
  p_cc (n := 123) (s_x) (
  p_cc (n := 124) (s_x) (
  p_cc (n := 125) (s_il2 K dX8_evening_125) (
  p_cc (n := 126) (s_x) (
  p_cc (n := 127) (s_ia K dX8_evening_127) (
  p_cc (n := 128) (s_al1 K dX8_evening_128 rfl) (
  p_cc (n := 129) (s_il2 K dX8_evening_129) (
  p_cc (n := 130) (s_x) (
  p_cc (n := 131) (cV_X8_isFalse K dX8_evening_131 w_m_RX8_154) (
  p_cc (n := 132) (s_x) (
  p_cc (n := 133) (s_x) (
  p_cc (n := 134) (s_al1 K dX8_evening_134 rfl) (
  p_cc (n := 135) (s_gr (host := "") K dX8_evening_135 (hc := rfl) (by decide) rfl inX8 (by decide) w_f_RX8_25 rfl) (
  p_cc (n := 136) (s_x) (
  p_cc (n := 137) (s_x) (
  p_cc (n := 138) (s_il2 K dX8_evening_138) (
  p_cc (n := 139) (s_x) (
  p_cc (n := 140) (s_ia K dX8_evening_140) (
  p_cc (n := 141) (cS_X8_hotter K dX8_evening_141 w_m_RX8_158) (
  p_cc (n := 142) (s_x) (
  p_cc (n := 143) (s_x) (
  p_cc (n := 144) (s_add K dX8_evening_144) (
  p_cc (n := 145) (s_is1 K dX8_evening_145 rfl) (
  p_cc (n := 146) (s_al1 K dX8_evening_146 rfl) (
  p_cc (n := 147) (s_gr (host := "") K dX8_evening_147 (hc := rfl) (by decide) rfl inX8 (by decide) w_f_RX8_55 rfl) (
  p_cc (n := 148) (s_x) (
  p_cc (n := 149) (s_x) (
  p_cc (n := 150) (s_il2 K dX8_evening_150) (
  p_cc (n := 151) (s_x) (
  p_cc (n := 152) (s_il1 K dX8_evening_152 rfl) (
  p_cc (n := 153) (s_ist K dX8_evening_153) (
  p_cc (n := 154) (s_al1 K dX8_evening_154 rfl) (
  p_cc (n := 155) (s_dup K dX8_evening_155) (
  p_cc (n := 156) (s_gi (host := "") K dX8_evening_156 (hc := rfl) (by decide) rfl inX8 (by decide) w_f_RX8_148 rfl) (
  p_cc (n := 157) (s_x) (
  p_cc (n := 158) (s_x) (
  p_cc (n := 159) (s_ic1 K dX8_evening_159 rfl) (
  p_cc (n := 160) (s_il2 K dX8_evening_160) (
  p_cc (n := 161) (s_x) (
  p_cc (n := 162) (s_shl K dX8_evening_162) (
  p_cc (n := 163) (s_or K dX8_evening_163) (
  p_cc (n := 164) (s_pi (host := "") K dX8_evening_164 (hc := rfl) (by decide) rfl inX8 (by decide) w_f_RX8_148 rfl rfl tyX8 tyX8_ok nmX8 rfl) (
  p_cc (n := 165) (s_x) (
  p_cc (n := 166) (s_x) (
  p_cc (n := 167) (s_al1 K dX8_evening_167 rfl) (
  p_cc (n := 168) (s_il1 K dX8_evening_168 rfl) (
  p_cc (n := 169) (s_al1 K dX8_evening_169 rfl) (
  p_cc (n := 170) (s_gi (host := "") K dX8_evening_170 (hc := rfl) (by decide) rfl inX8 (by decide) w_f_RX8_151 rfl) (
  p_cc (n := 171) (s_x) (
  p_cc (n := 172) (s_x) (
  p_cc (n := 173) (s_ile K dX8_evening_173 rfl) (
  p_cc (n := 174) (s_x) (
  p_cc (n := 175) (s_x) (
  p_cc (n := 176) (s_il1 K dX8_evening_176 rfl) (
  p_cc (n := 177) (s_goto K dX8_evening_177 rfl) (
  p_cc (n := 178) (s_x) (
  p_cc (n := 179) (s_x) (
  p_cc (n := 180) (s_al1 K dX8_evening_180 rfl) (
  p_cc (n := 181) (s_gi (host := "") K dX8_evening_181 (hc := rfl) (by decide) rfl inX8 (by decide) w_f_RX8_151 rfl) (
  p_cc (n := 182) (s_x) (
  p_cc (n := 183) (s_x) (
  p_cc (n := 184) (s_pi (host := "") K dX8_evening_184 (hc := rfl) (by decide) rfl inX8 (by decide) w_f_RX8_151 rfl rfl tyX8 tyX8_ok nmX8 rfl) (
  p_cc (n := 185) (s_x) (
  p_cc (n := 186) (s_x) (
  p_cc (n := 187) (s_il2 K dX8_evening_187) (
  p_cc (n := 188) (s_x) (
  p_cc (n := 189) (s_is1 K dX8_evening_189 rfl) (
  p_cc (n := 190) (s_il1 K dX8_evening_190 rfl) (
  p_cc (n := 191) (s_al1 K dX8_evening_191 rfl) (
  p_cc (n := 192) (s_gr (host := "") K dX8_evening_192 (hc := rfl) (by decide) rfl inX8 (by decide) w_f_RX8_13 rfl) (
  p_cc (n := 193) (s_x) (
  p_cc (n := 194) (s_x) (
  p_cc (n := 195) (s_il2 K dX8_evening_195) (
  p_cc (n := 196) (s_x) (
  p_cc (n := 197) (s_ia K dX8_evening_197) (
  p_cc (n := 198) (s_ile K dX8_evening_198 rfl) (
  p_cc (n := 199) (s_x) (
  p_cc (n := 200) (s_x) (
  p_cc (n := 201) (s_al1 K dX8_evening_201 rfl) (
  p_cc (n := 202) (s_gr (host := "") K dX8_evening_202 (hc := rfl) (by decide) rfl inX8 (by decide) w_f_RX8_52 rfl) (
  p_cc (n := 203) (s_x) (
  p_cc (n := 204) (s_x) (
  p_cc (n := 205) (s_il2 K dX8_evening_205) (
  p_cc (n := 206) (s_x) (
  p_cc (n := 207) (s_il2 K dX8_evening_207) (
  p_cc (n := 208) (s_x) (
  p_cc (n := 209) (s_ist K dX8_evening_209) (
  p_cc (n := 210) (s_ic1 K dX8_evening_210 rfl) (
  p_cc (n := 211) (s_is1 K dX8_evening_211 rfl) (
  p_cc (n := 212) (s_ii K dX8_evening_212 rfl) (
  p_cc (n := 213) (s_x) (
  p_cc (n := 214) (s_x) (
  p_cc (n := 215) (s_goto K dX8_evening_215 rfl) (
  p_cc (n := 216) (s_x) (
  p_cc (n := 217) (s_x) (
  p_cc (n := 218) (s_vr K dX8_evening_218 hr hk) (p_cn))))))))))))))))))))))))))))))))))))))))))))))))))))))))))))))))))))))))))))))))))))))))))))))))))))))))))))))))))))))))))))))))))))))))))))))))))))))))))))))))))))))))))))))))))))))))))))))))))))))))))))))))))))))))))))
set_option maxRecDepth 100000 in
set_option maxHeartbeats 4000000 in
theorem cl_X8_without {b : Bool} {w : pW} {p : Program} {l : Launch} {e : Env} {R : Room} {s : State} {m : MethodId} {args : Array Value} {below : List Frame} {meth : Method} {c : Code} {cells slots : Nat} {d : Nat} {Q : pQ} (K : q_X b w p s m args c RX8 cX8_without 4 R d cells slots) (hr : meth.sig.returnType = none) (hk : meth.locks = false) : p_Cl b (q_C l b w) tb_X8_without d Q (q_Z b w p l e R s m args below meth c 4 cells slots (MQ below (q_Qc b w Q) args s cells slots (q_A b w))) := p_c0 (
  p_cc (n := 0) (s_ic1 K dX8_without_0 rfl) (
  p_cc (n := 1) (s_is1 K dX8_without_1 rfl) (
  p_cc (n := 2) (s_ic1 K dX8_without_2 rfl) (
  p_cc (n := 3) (s_is1 K dX8_without_3 rfl) (
  p_cc (n := 4) (s_il1 K dX8_without_4 rfl) (
  p_cc (n := 5) (s_al1 K dX8_without_5 rfl) (
  p_cc (n := 6) (s_gi (host := "") K dX8_without_6 (hc := rfl) (by decide) rfl inX8 (by decide) w_f_RX8_85 rfl) (
  p_cc (n := 7) (s_x) (
  p_cc (n := 8) (s_x) (
  p_cc (n := 9) (s_ige K dX8_without_9 rfl) (
  p_cc (n := 10) (s_x) (
  p_cc (n := 11) (s_x) (
  p_cc (n := 12) (s_il1 K dX8_without_12 rfl) (
  p_cc (n := 13) (s_il1 K dX8_without_13 rfl) (
  p_cc (n := 14) (cS_X8_has K dX8_without_14 w_m_RX8_162) (
  p_cc (n := 15) (s_x) (
  p_cc (n := 16) (s_x) (
  p_cc (n := 17) (s_ne0 K dX8_without_17 rfl) (
  p_cc (n := 18) (s_x) (
  p_cc (n := 19) (s_x) (
  p_cc (n := 20) (s_al1 K dX8_without_20 rfl) (
  p_cc (n := 21) (s_gr (host := "") K dX8_without_21 (hc := rfl) (by decide) rfl inX8 (by decide) w_f_RX8_49 rfl) (
  p_cc (n := 22) (s_x) (
  p_cc (n := 23) (s_x) (
  p_cc (n := 24) (s_il1 K dX8_without_24 rfl) (
  p_cc (n := 25) (s_il1 K dX8_without_25 rfl) (
  p_cc (n := 26) (s_ist K dX8_without_26) (
  p_cc (n := 27) (s_ii K dX8_without_27 rfl) (
  p_cc (n := 28) (s_x) (
  p_cc (n := 29) (s_x) (
  p_cc (n := 30) (s_ii K dX8_without_30 rfl) (
  p_cc (n := 31) (s_x) (
  p_cc (n := 32) (s_x) (
  p_cc (n := 33) (s_goto K dX8_without_33 rfl) (
  p_cc (n := 34) (s_x) (
  p_cc (n := 35) (s_x) (
  p_cc (n := 36) (s_al1 K dX8_without_36 rfl) (
  p_cc (n := 37) (s_il1 K dX8_without_37 rfl) (
  p_cc (n := 38) (cV_X8_evening K dX8_without_38 w_m_RX8_166) (
  p_cc (n := 39) (s_x) (
  p_cc (n := 40) (s_x) (
  p_cc (n := 41) (s_vr K dX8_without_41 hr hk) (p_cn)))))))))))))))))))))))))))))))))))))))))))
set_option maxRecDepth 100000 in
set_option maxHeartbeats 4000000 in
theorem cl_X8_gone {b : Bool} {w : pW} {p : Program} {l : Launch} {e : Env} {R : Room} {s : State} {m : MethodId} {args : Array Value} {below : List Frame} {meth : Method} {c : Code} {cells slots : Nat} {d : Nat} {Q : pQ} (K : q_X b w p s m args c RX8 cX8_gone 3 R d cells slots) (hr : meth.sig.returnType = (some .int)) (hk : meth.locks = false) : p_Cl b (q_C l b w) tb_X8_gone d Q (q_Z b w p l e R s m args below meth c 3 cells slots (MQ below (q_Qc b w Q) args s cells slots (q_A b w))) := p_c0 (
  p_cc (n := 0) (s_ic1 K dX8_gone_0 rfl) (
  p_cc (n := 1) (s_is1 K dX8_gone_1 rfl) (
  p_cc (n := 2) (s_ic1 K dX8_gone_2 rfl) (
  p_cc (n := 3) (s_is1 K dX8_gone_3 rfl) (
  p_cc (n := 4) (s_il1 K dX8_gone_4 rfl) (
  p_cc (n := 5) (s_al1 K dX8_gone_5 rfl) (
  p_cc (n := 6) (s_gi (host := "") K dX8_gone_6 (hc := rfl) (by decide) rfl inX8 (by decide) w_f_RX8_88 rfl) (
  p_cc (n := 7) (s_x) (
  p_cc (n := 8) (s_x) (
  p_cc (n := 9) (s_ige K dX8_gone_9 rfl) (
  p_cc (n := 10) (s_x) (
  p_cc (n := 11) (s_x) (
  p_cc (n := 12) (s_il1 K dX8_gone_12 rfl) (
  p_cc (n := 13) (s_al1 K dX8_gone_13 rfl) (
  p_cc (n := 14) (s_gr (host := "") K dX8_gone_14 (hc := rfl) (by decide) rfl inX8 (by decide) w_f_RX8_52 rfl) (
  p_cc (n := 15) (s_x) (
  p_cc (n := 16) (s_x) (
  p_cc (n := 17) (s_il1 K dX8_gone_17 rfl) (
  p_cc (n := 18) (s_ia K dX8_gone_18) (
  p_cc (n := 19) (s_ic2 K dX8_gone_19 rfl) (
  p_cc (n := 20) (s_x) (
  p_cc (n := 21) (s_ine K dX8_gone_21 rfl) (
  p_cc (n := 22) (s_x) (
  p_cc (n := 23) (s_x) (
  p_cc (n := 24) (s_ic1 K dX8_gone_24 rfl) (
  p_cc (n := 25) (s_goto K dX8_gone_25 rfl) (
  p_cc (n := 26) (s_x) (
  p_cc (n := 27) (s_x) (
  p_cc (n := 28) (s_ic1 K dX8_gone_28 rfl) (
  p_cc (n := 29) (s_add K dX8_gone_29) (
  p_cc (n := 30) (s_is1 K dX8_gone_30 rfl) (
  p_cc (n := 31) (s_ii K dX8_gone_31 rfl) (
  p_cc (n := 32) (s_x) (
  p_cc (n := 33) (s_x) (
  p_cc (n := 34) (s_goto K dX8_gone_34 rfl) (
  p_cc (n := 35) (s_x) (
  p_cc (n := 36) (s_x) (
  p_cc (n := 37) (s_il1 K dX8_gone_37 rfl) (
  p_cc (n := 38) (s_ir K dX8_gone_38 hr hk) (p_cn))))))))))))))))))))))))))))))))))))))))
set_option maxRecDepth 100000 in
set_option maxHeartbeats 4000000 in
theorem cl_X8_teller {b : Bool} {w : pW} {p : Program} {l : Launch} {e : Env} {R : Room} {s : State} {m : MethodId} {args : Array Value} {below : List Frame} {meth : Method} {c : Code} {cells slots : Nat} {d : Nat} {Q : pQ} (K : q_X b w p s m args c RX8 cX8_teller 3 R d cells slots) (hr : meth.sig.returnType = (some .int)) (hk : meth.locks = false) : p_Cl b (q_C l b w) tb_X8_teller d Q (q_Z b w p l e R s m args below meth c 3 cells slots (MQ below (q_Qc b w Q) args s cells slots (q_A b w))) := p_c0 (
  p_cc (n := 0) (s_al1 K dX8_teller_0 rfl) (
  p_cc (n := 1) (s_il1 K dX8_teller_1 rfl) (
  p_cc (n := 2) (cV_X8_isTeller K dX8_teller_2 w_m_RX8_170) (
  p_cc (n := 3) (s_x) (
  p_cc (n := 4) (s_x) (
  p_cc (n := 5) (s_eq0 K dX8_teller_5 rfl) (
  p_cc (n := 6) (s_x) (
  p_cc (n := 7) (s_x) (
  p_cc (n := 8) (s_il1 K dX8_teller_8 rfl) (
  p_cc (n := 9) (s_ic1 K dX8_teller_9 rfl) (
  p_cc (n := 10) (s_ic1 K dX8_teller_10 rfl) (
  p_cc (n := 11) (cS_X8_in K dX8_teller_11 w_m_RX8_91) (
  p_cc (n := 12) (s_x) (
  p_cc (n := 13) (s_x) (
  p_cc (n := 14) (s_ne0 K dX8_teller_14 rfl) (
  p_cc (n := 15) (s_x) (
  p_cc (n := 16) (s_x) (
  p_cc (n := 17) (s_ic1 K dX8_teller_17 rfl) (
  p_cc (n := 18) (s_ir K dX8_teller_18 hr hk) (
  p_cc (n := 19) (s_il1 K dX8_teller_19 rfl) (
  p_cc (n := 20) (s_ne0 K dX8_teller_20 rfl) (
  p_cc (n := 21) (s_x) (
  p_cc (n := 22) (s_x) (
  p_cc (n := 23) (s_al1 K dX8_teller_23 rfl) (
  p_cc (n := 24) (s_gr (host := "") K dX8_teller_24 (hc := rfl) (by decide) rfl inX8 (by decide) w_f_RX8_9 rfl) (
  p_cc (n := 25) (s_x) (
  p_cc (n := 26) (s_x) (
  p_cc (n := 27) (s_il1 K dX8_teller_27 rfl) (
  p_cc (n := 28) (s_ia K dX8_teller_28) (
  p_cc (n := 29) (s_goto K dX8_teller_29 rfl) (
  p_cc (n := 30) (s_x) (
  p_cc (n := 31) (s_x) (
  p_cc (n := 32) (s_al1 K dX8_teller_32 rfl) (
  p_cc (n := 33) (s_gr (host := "") K dX8_teller_33 (hc := rfl) (by decide) rfl inX8 (by decide) w_f_RX8_13 rfl) (
  p_cc (n := 34) (s_x) (
  p_cc (n := 35) (s_x) (
  p_cc (n := 36) (s_il1 K dX8_teller_36 rfl) (
  p_cc (n := 37) (s_ia K dX8_teller_37) (
  p_cc (n := 38) (s_ir K dX8_teller_38 hr hk) (p_cn))))))))))))))))))))))))))))))))))))))))
set_option maxRecDepth 100000 in
set_option maxHeartbeats 4000000 in
theorem cl_X8_fact {b : Bool} {w : pW} {p : Program} {l : Launch} {e : Env} {R : Room} {s : State} {m : MethodId} {args : Array Value} {below : List Frame} {meth : Method} {c : Code} {cells slots : Nat} {d : Nat} {Q : pQ} (K : q_X b w p s m args c RX8 cX8_fact 2 R d cells slots) (hr : meth.sig.returnType = (some .int)) (hk : meth.locks = false) : p_Cl b (q_C l b w) tb_X8_fact d Q (q_Z b w p l e R s m args below meth c 2 cells slots (MQ below (q_Qc b w Q) args s cells slots (q_A b w))) := p_c0 (
  p_cc (n := 0) (s_al1 K dX8_fact_0 rfl) (
  p_cc (n := 1) (s_il1 K dX8_fact_1 rfl) (
  p_cc (n := 2) (cV_X8_isFact K dX8_fact_2 w_m_RX8_173) (
  p_cc (n := 3) (s_x) (
  p_cc (n := 4) (s_x) (
  p_cc (n := 5) (s_eq0 K dX8_fact_5 rfl) (
  p_cc (n := 6) (s_x) (
  p_cc (n := 7) (s_x) (
  p_cc (n := 8) (s_al1 K dX8_fact_8 rfl) (
  p_cc (n := 9) (s_gi (host := "") K dX8_fact_9 (hc := rfl) (by decide) rfl inX8 (by decide) w_f_RX8_78 rfl) (
  p_cc (n := 10) (s_x) (
  p_cc (n := 11) (s_x) (
  p_cc (n := 12) (s_il1 K dX8_fact_12 rfl) (
  p_cc (n := 13) (s_shr K dX8_fact_13) (
  p_cc (n := 14) (s_ic1 K dX8_fact_14 rfl) (
  p_cc (n := 15) (s_and K dX8_fact_15) (
  p_cc (n := 16) (s_goto K dX8_fact_16 rfl) (
  p_cc (n := 17) (s_x) (
  p_cc (n := 18) (s_x) (
  p_cc (n := 19) (s_ic1 K dX8_fact_19 rfl) (
  p_cc (n := 20) (s_ir K dX8_fact_20 hr hk) (p_cn))))))))))))))))))))))
set_option maxRecDepth 100000 in
set_option maxHeartbeats 4000000 in
theorem cl_X8_claim {b : Bool} {w : pW} {p : Program} {l : Launch} {e : Env} {R : Room} {s : State} {m : MethodId} {args : Array Value} {below : List Frame} {meth : Method} {c : Code} {cells slots : Nat} {d : Nat} {Q : pQ} (K : q_X b w p s m args c RX8 cX8_claim 3 R d cells slots) (hr : meth.sig.returnType = (some .int)) (hk : meth.locks = false) : p_Cl b (q_C l b w) tb_X8_claim d Q (q_Z b w p l e R s m args below meth c 3 cells slots (MQ below (q_Qc b w Q) args s cells slots (q_A b w))) := p_c0 (
  p_cc (n := 0) (s_al1 K dX8_claim_0 rfl) (
  p_cc (n := 1) (s_il1 K dX8_claim_1 rfl) (
  p_cc (n := 2) (cV_X8_isClaim K dX8_claim_2 w_m_RX8_176) (
  p_cc (n := 3) (s_x) (
  p_cc (n := 4) (s_x) (
  p_cc (n := 5) (s_eq0 K dX8_claim_5 rfl) (
  p_cc (n := 6) (s_x) (
  p_cc (n := 7) (s_x) (
  p_cc (n := 8) (s_il1 K dX8_claim_8 rfl) (
  p_cc (n := 9) (s_ic1 K dX8_claim_9 rfl) (
  p_cc (n := 10) (s_ic1 K dX8_claim_10 rfl) (
  p_cc (n := 11) (cS_X8_in K dX8_claim_11 w_m_RX8_91) (
  p_cc (n := 12) (s_x) (
  p_cc (n := 13) (s_x) (
  p_cc (n := 14) (s_ne0 K dX8_claim_14 rfl) (
  p_cc (n := 15) (s_x) (
  p_cc (n := 16) (s_x) (
  p_cc (n := 17) (s_ic1 K dX8_claim_17 rfl) (
  p_cc (n := 18) (s_ir K dX8_claim_18 hr hk) (
  p_cc (n := 19) (s_il1 K dX8_claim_19 rfl) (
  p_cc (n := 20) (s_tswB K dX8_claim_20 rfl (by decide +kernel) (by decide +kernel) rfl) (
  p_cc (n := 21) (s_x) (
  p_cc (n := 22) (s_x) (
  p_cc (n := 23) (s_x) (
  p_cc (n := 24) (s_x) (
  p_cc (n := 25) (s_x) (
  p_cc (n := 26) (s_x) (
  p_cc (n := 27) (s_x) (
  p_cc (n := 28) (s_x) (
  p_cc (n := 29) (s_x) (
  p_cc (n := 30) (s_x) (
  p_cc (n := 31) (s_x) (
  p_cc (n := 32) (s_x) (
  p_cc (n := 33) (s_x) (
  p_cc (n := 34) (s_x) (
  p_cc (n := 35) (s_x) (
  p_cc (n := 36) (s_x) (
  p_cc (n := 37) (s_x) (
  p_cc (n := 38) (s_x) (
  p_cc (n := 39) (s_x) (
  p_cc (n := 40) (s_x) (
  p_cc (n := 41) (s_x) (
  p_cc (n := 42) (s_x) (
  p_cc (n := 43) (s_x) (
  p_cc (n := 44) (s_x) (
  p_cc (n := 45) (s_x) (
  p_cc (n := 46) (s_x) (
  p_cc (n := 47) (s_x) (
  p_cc (n := 48) (s_x) (
  p_cc (n := 49) (s_x) (
  p_cc (n := 50) (s_x) (
  p_cc (n := 51) (s_x) (
  p_cc (n := 52) (s_al1 K dX8_claim_52 rfl) (
  p_cc (n := 53) (s_gr (host := "") K dX8_claim_53 (hc := rfl) (by decide) rfl inX8 (by decide) w_f_RX8_16 rfl) (
  p_cc (n := 54) (s_x) (
  p_cc (n := 55) (s_x) (
  p_cc (n := 56) (s_il1 K dX8_claim_56 rfl) (
  p_cc (n := 57) (s_ia K dX8_claim_57) (
  p_cc (n := 58) (s_ir K dX8_claim_58 hr hk) (
  p_cc (n := 59) (s_al1 K dX8_claim_59 rfl) (
  p_cc (n := 60) (s_gr (host := "") K dX8_claim_60 (hc := rfl) (by decide) rfl inX8 (by decide) w_f_RX8_19 rfl) (
  p_cc (n := 61) (s_x) (
  p_cc (n := 62) (s_x) (
  p_cc (n := 63) (s_il1 K dX8_claim_63 rfl) (
  p_cc (n := 64) (s_ia K dX8_claim_64) (
  p_cc (n := 65) (s_ir K dX8_claim_65 hr hk) (
  p_cc (n := 66) (s_al1 K dX8_claim_66 rfl) (
  p_cc (n := 67) (s_gr (host := "") K dX8_claim_67 (hc := rfl) (by decide) rfl inX8 (by decide) w_f_RX8_22 rfl) (
  p_cc (n := 68) (s_x) (
  p_cc (n := 69) (s_x) (
  p_cc (n := 70) (s_il1 K dX8_claim_70 rfl) (
  p_cc (n := 71) (s_ia K dX8_claim_71) (
  p_cc (n := 72) (s_ir K dX8_claim_72 hr hk) (
  p_cc (n := 73) (s_al1 K dX8_claim_73 rfl) (
  p_cc (n := 74) (s_gr (host := "") K dX8_claim_74 (hc := rfl) (by decide) rfl inX8 (by decide) w_f_RX8_25 rfl) (
  p_cc (n := 75) (s_x) (
  p_cc (n := 76) (s_x) (
  p_cc (n := 77) (s_il1 K dX8_claim_77 rfl) (
  p_cc (n := 78) (s_ia K dX8_claim_78) (
  p_cc (n := 79) (s_ir K dX8_claim_79 hr hk) (
  p_cc (n := 80) (s_al1 K dX8_claim_80 rfl) (
  p_cc (n := 81) (s_il1 K dX8_claim_81 rfl) (
  p_cc (n := 82) (cV_X8_isFalse K dX8_claim_82 w_m_RX8_154) (
  p_cc (n := 83) (s_x) (
  p_cc (n := 84) (s_x) (
  p_cc (n := 85) (s_eq0 K dX8_claim_85 rfl) (
  p_cc (n := 86) (s_x) (
  p_cc (n := 87) (s_x) (
  p_cc (n := 88) (s_ic1 K dX8_claim_88 rfl) (
  p_cc (n := 89) (s_goto K dX8_claim_89 rfl) (
  p_cc (n := 90) (s_x) (
  p_cc (n := 91) (s_x) (
  p_cc (n := 92) (s_ic1 K dX8_claim_92 rfl) (
  p_cc (n := 93) (s_ir K dX8_claim_93 hr hk) (p_cn)))))))))))))))))))))))))))))))))))))))))))))))))))))))))))))))))))))))))))))))))))))))))))))))
set_option maxRecDepth 100000 in
set_option maxHeartbeats 4000000 in
theorem cl_X8_lays {b : Bool} {w : pW} {p : Program} {l : Launch} {e : Env} {R : Room} {s : State} {m : MethodId} {args : Array Value} {below : List Frame} {meth : Method} {c : Code} {cells slots : Nat} {d : Nat} {Q : pQ} (K : q_X b w p s m args c RX8 cX8_lays 4 R d cells slots) (hr : meth.sig.returnType = none) (hk : meth.locks = false) : p_Cl b (q_C l b w) tb_X8_lays d Q (q_Z b w p l e R s m args below meth c 4 cells slots (MQ below (q_Qc b w Q) args s cells slots (q_A b w))) := p_c0 (
  p_cc (n := 0) (s_al1 K dX8_lays_0 rfl) (
  p_cc (n := 1) (s_il1 K dX8_lays_1 rfl) (
  p_cc (n := 2) (s_al1 K dX8_lays_2 rfl) (
  p_cc (n := 3) (s_gi (host := "") K dX8_lays_3 (hc := rfl) (by decide) rfl inX8 (by decide) w_f_RX8_78 rfl) (
  p_cc (n := 4) (s_x) (
  p_cc (n := 5) (s_x) (
  p_cc (n := 6) (s_ist K dX8_lays_6) (
  p_cc (n := 7) (s_al1 K dX8_lays_7 rfl) (
  p_cc (n := 8) (s_il1 K dX8_lays_8 rfl) (
  p_cc (n := 9) (s_ic1 K dX8_lays_9 rfl) (
  p_cc (n := 10) (s_add K dX8_lays_10) (
  p_cc (n := 11) (s_al1 K dX8_lays_11 rfl) (
  p_cc (n := 12) (s_gi (host := "") K dX8_lays_12 (hc := rfl) (by decide) rfl inX8 (by decide) w_f_RX8_85 rfl) (
  p_cc (n := 13) (s_x) (
  p_cc (n := 14) (s_x) (
  p_cc (n := 15) (s_ist K dX8_lays_15) (
  p_cc (n := 16) (s_ic1 K dX8_lays_16 rfl) (
  p_cc (n := 17) (s_is1 K dX8_lays_17 rfl) (
  p_cc (n := 18) (s_il1 K dX8_lays_18 rfl) (
  p_cc (n := 19) (s_ic2 K dX8_lays_19 rfl) (
  p_cc (n := 20) (s_x) (
  p_cc (n := 21) (s_ige K dX8_lays_21 rfl) (
  p_cc (n := 22) (s_x) (
  p_cc (n := 23) (s_x) (
  p_cc (n := 24) (s_al1 K dX8_lays_24 rfl) (
  p_cc (n := 25) (s_il1 K dX8_lays_25 rfl) (
  p_cc (n := 26) (s_ic1 K dX8_lays_26 rfl) (
  p_cc (n := 27) (s_add K dX8_lays_27) (
  p_cc (n := 28) (s_il1 K dX8_lays_28 rfl) (
  p_cc (n := 29) (s_add K dX8_lays_29) (
  p_cc (n := 30) (s_al1 K dX8_lays_30 rfl) (
  p_cc (n := 31) (s_gr (host := "") K dX8_lays_31 (hc := rfl) (by decide) rfl inX8 (by decide) w_f_RX8_16 rfl) (
  p_cc (n := 32) (s_x) (
  p_cc (n := 33) (s_x) (
  p_cc (n := 34) (s_il1 K dX8_lays_34 rfl) (
  p_cc (n := 35) (s_ia K dX8_lays_35) (
  p_cc (n := 36) (s_ist K dX8_lays_36) (
  p_cc (n := 37) (s_al1 K dX8_lays_37 rfl) (
  p_cc (n := 38) (s_il1 K dX8_lays_38 rfl) (
  p_cc (n := 39) (s_ic2 K dX8_lays_39 rfl) (
  p_cc (n := 40) (s_x) (
  p_cc (n := 41) (s_add K dX8_lays_41) (
  p_cc (n := 42) (s_il1 K dX8_lays_42 rfl) (
  p_cc (n := 43) (s_add K dX8_lays_43) (
  p_cc (n := 44) (s_al1 K dX8_lays_44 rfl) (
  p_cc (n := 45) (s_gr (host := "") K dX8_lays_45 (hc := rfl) (by decide) rfl inX8 (by decide) w_f_RX8_19 rfl) (
  p_cc (n := 46) (s_x) (
  p_cc (n := 47) (s_x) (
  p_cc (n := 48) (s_il1 K dX8_lays_48 rfl) (
  p_cc (n := 49) (s_ia K dX8_lays_49) (
  p_cc (n := 50) (s_ist K dX8_lays_50) (
  p_cc (n := 51) (s_al1 K dX8_lays_51 rfl) (
  p_cc (n := 52) (s_il1 K dX8_lays_52 rfl) (
  p_cc (n := 53) (s_ic2 K dX8_lays_53 rfl) (
  p_cc (n := 54) (s_x) (
  p_cc (n := 55) (s_add K dX8_lays_55) (
  p_cc (n := 56) (s_il1 K dX8_lays_56 rfl) (
  p_cc (n := 57) (s_add K dX8_lays_57) (
  p_cc (n := 58) (s_al1 K dX8_lays_58 rfl) (
  p_cc (n := 59) (s_gr (host := "") K dX8_lays_59 (hc := rfl) (by decide) rfl inX8 (by decide) w_f_RX8_22 rfl) (
  p_cc (n := 60) (s_x) (
  p_cc (n := 61) (s_x) (
  p_cc (n := 62) (s_il1 K dX8_lays_62 rfl) (
  p_cc (n := 63) (s_ia K dX8_lays_63) (
  p_cc (n := 64) (s_ist K dX8_lays_64) (
  p_cc (n := 65) (s_al1 K dX8_lays_65 rfl) (
  p_cc (n := 66) (s_il1 K dX8_lays_66 rfl) (
  p_cc (n := 67) (s_ic2 K dX8_lays_67 rfl) (
  p_cc (n := 68) (s_x) (
  p_cc (n := 69) (s_add K dX8_lays_69) (
  p_cc (n := 70) (s_il1 K dX8_lays_70 rfl) (
  p_cc (n := 71) (s_add K dX8_lays_71) (
  p_cc (n := 72) (s_al1 K dX8_lays_72 rfl) (
  p_cc (n := 73) (s_gr (host := "") K dX8_lays_73 (hc := rfl) (by decide) rfl inX8 (by decide) w_f_RX8_25 rfl) (
  p_cc (n := 74) (s_x) (
  p_cc (n := 75) (s_x) (
  p_cc (n := 76) (s_il1 K dX8_lays_76 rfl) (
  p_cc (n := 77) (s_ia K dX8_lays_77) (
  p_cc (n := 78) (s_ist K dX8_lays_78) (
  p_cc (n := 79) (s_ii K dX8_lays_79 rfl) (
  p_cc (n := 80) (s_x) (
  p_cc (n := 81) (s_x) (
  p_cc (n := 82) (s_goto K dX8_lays_82 rfl) (
  p_cc (n := 83) (s_x) (
  p_cc (n := 84) (s_x) (
  p_cc (n := 85) (s_ic1 K dX8_lays_85 rfl) (
  p_cc (n := 86) (s_is1 K dX8_lays_86 rfl) (
  p_cc (n := 87) (s_il1 K dX8_lays_87 rfl) (
  p_cc (n := 88) (s_ic1 K dX8_lays_88 rfl) (
  p_cc (n := 89) (s_ige K dX8_lays_89 rfl) (
  p_cc (n := 90) (s_x) (
  p_cc (n := 91) (s_x) (
  p_cc (n := 92) (s_al1 K dX8_lays_92 rfl) (
  p_cc (n := 93) (s_il1 K dX8_lays_93 rfl) (
  p_cc (n := 94) (s_ic2 K dX8_lays_94 rfl) (
  p_cc (n := 95) (s_x) (
  p_cc (n := 96) (s_add K dX8_lays_96) (
  p_cc (n := 97) (s_il1 K dX8_lays_97 rfl) (
  p_cc (n := 98) (s_add K dX8_lays_98) (
  p_cc (n := 99) (s_al1 K dX8_lays_99 rfl) (
  p_cc (n := 100) (s_gr (host := "") K dX8_lays_100 (hc := rfl) (by decide) rfl inX8 (by decide) w_f_RX8_13 rfl) (
  p_cc (n := 101) (s_x) (
  p_cc (n := 102) (s_x) (
  p_cc (n := 103) (s_il1 K dX8_lays_103 rfl) (
  p_cc (n := 104) (s_ia K dX8_lays_104) (
  p_cc (n := 105) (s_ist K dX8_lays_105) (
  p_cc (n := 106) (s_ii K dX8_lays_106 rfl) (
  p_cc (n := 107) (s_x) (
  p_cc (n := 108) (s_x) (
  p_cc (n := 109) (s_goto K dX8_lays_109 rfl) (
  p_cc (n := 110) (s_x) (
  p_cc (n := 111) (s_x) (
  p_cc (n := 112) (s_vr K dX8_lays_112 hr hk) (p_cn))))))))))))))))))))))))))))))))))))))))))))))))))))))))))))))))))))))))))))))))))))))))))))))))))))))))))))))))))
set_option maxRecDepth 100000 in
set_option maxHeartbeats 4000000 in
theorem cl_X8_takes {b : Bool} {w : pW} {p : Program} {l : Launch} {e : Env} {R : Room} {s : State} {m : MethodId} {args : Array Value} {below : List Frame} {meth : Method} {c : Code} {cells slots : Nat} {d : Nat} {Q : pQ} (K : q_X b w p s m args c RX8 cX8_takes 4 R d cells slots) (hr : meth.sig.returnType = none) (hk : meth.locks = false) : p_Cl b (q_C l b w) tb_X8_takes d Q (q_Z b w p l e R s m args below meth c 4 cells slots (MQ below (q_Qc b w Q) args s cells slots (q_A b w))) := p_c0 (
  p_cc (n := 0) (s_al1 K dX8_takes_0 rfl) (
  p_cc (n := 1) (s_al1 K dX8_takes_1 rfl) (
  p_cc (n := 2) (s_il1 K dX8_takes_2 rfl) (
  p_cc (n := 3) (s_ia K dX8_takes_3) (
  p_cc (n := 4) (s_pi (host := "") K dX8_takes_4 (hc := rfl) (by decide) rfl inX8 (by decide) w_f_RX8_78 rfl rfl tyX8 tyX8_ok nmX8 rfl) (
  p_cc (n := 5) (s_x) (
  p_cc (n := 6) (s_x) (
  p_cc (n := 7) (s_al1 K dX8_takes_7 rfl) (
  p_cc (n := 8) (s_al1 K dX8_takes_8 rfl) (
  p_cc (n := 9) (s_il1 K dX8_takes_9 rfl) (
  p_cc (n := 10) (s_ic1 K dX8_takes_10 rfl) (
  p_cc (n := 11) (s_add K dX8_takes_11) (
  p_cc (n := 12) (s_ia K dX8_takes_12) (
  p_cc (n := 13) (s_pi (host := "") K dX8_takes_13 (hc := rfl) (by decide) rfl inX8 (by decide) w_f_RX8_85 rfl rfl tyX8 tyX8_ok nmX8 rfl) (
  p_cc (n := 14) (s_x) (
  p_cc (n := 15) (s_x) (
  p_cc (n := 16) (s_ic1 K dX8_takes_16 rfl) (
  p_cc (n := 17) (s_is1 K dX8_takes_17 rfl) (
  p_cc (n := 18) (s_il1 K dX8_takes_18 rfl) (
  p_cc (n := 19) (s_ic2 K dX8_takes_19 rfl) (
  p_cc (n := 20) (s_x) (
  p_cc (n := 21) (s_ige K dX8_takes_21 rfl) (
  p_cc (n := 22) (s_x) (
  p_cc (n := 23) (s_x) (
  p_cc (n := 24) (s_al1 K dX8_takes_24 rfl) (
  p_cc (n := 25) (s_il1 K dX8_takes_25 rfl) (
  p_cc (n := 26) (s_al1 K dX8_takes_26 rfl) (
  p_cc (n := 27) (s_il1 K dX8_takes_27 rfl) (
  p_cc (n := 28) (s_ic1 K dX8_takes_28 rfl) (
  p_cc (n := 29) (s_add K dX8_takes_29) (
  p_cc (n := 30) (s_il1 K dX8_takes_30 rfl) (
  p_cc (n := 31) (s_add K dX8_takes_31) (
  p_cc (n := 32) (s_ia K dX8_takes_32) (
  p_cc (n := 33) (s_al1 K dX8_takes_33 rfl) (
  p_cc (n := 34) (s_il1 K dX8_takes_34 rfl) (
  p_cc (n := 35) (s_ic2 K dX8_takes_35 rfl) (
  p_cc (n := 36) (s_x) (
  p_cc (n := 37) (s_add K dX8_takes_37) (
  p_cc (n := 38) (s_il1 K dX8_takes_38 rfl) (
  p_cc (n := 39) (s_add K dX8_takes_39) (
  p_cc (n := 40) (s_ia K dX8_takes_40) (
  p_cc (n := 41) (s_al1 K dX8_takes_41 rfl) (
  p_cc (n := 42) (s_il1 K dX8_takes_42 rfl) (
  p_cc (n := 43) (s_ic2 K dX8_takes_43 rfl) (
  p_cc (n := 44) (s_x) (
  p_cc (n := 45) (s_add K dX8_takes_45) (
  p_cc (n := 46) (s_il1 K dX8_takes_46 rfl) (
  p_cc (n := 47) (s_add K dX8_takes_47) (
  p_cc (n := 48) (s_ia K dX8_takes_48) (
  p_cc (n := 49) (s_al1 K dX8_takes_49 rfl) (
  p_cc (n := 50) (s_il1 K dX8_takes_50 rfl) (
  p_cc (n := 51) (s_ic2 K dX8_takes_51 rfl) (
  p_cc (n := 52) (s_x) (
  p_cc (n := 53) (s_add K dX8_takes_53) (
  p_cc (n := 54) (s_il1 K dX8_takes_54 rfl) (
  p_cc (n := 55) (s_add K dX8_takes_55) (
  p_cc (n := 56) (s_ia K dX8_takes_56) (
  p_cc (n := 57) (cV_X8_sets K dX8_takes_57 w_m_RX8_81) (
  p_cc (n := 58) (s_x) (
  p_cc (n := 59) (s_x) (
  p_cc (n := 60) (s_ii K dX8_takes_60 rfl) (
  p_cc (n := 61) (s_x) (
  p_cc (n := 62) (s_x) (
  p_cc (n := 63) (s_goto K dX8_takes_63 rfl) (
  p_cc (n := 64) (s_x) (
  p_cc (n := 65) (s_x) (
  p_cc (n := 66) (s_ic1 K dX8_takes_66 rfl) (
  p_cc (n := 67) (s_is1 K dX8_takes_67 rfl) (
  p_cc (n := 68) (s_il1 K dX8_takes_68 rfl) (
  p_cc (n := 69) (s_ic1 K dX8_takes_69 rfl) (
  p_cc (n := 70) (s_ige K dX8_takes_70 rfl) (
  p_cc (n := 71) (s_x) (
  p_cc (n := 72) (s_x) (
  p_cc (n := 73) (s_al1 K dX8_takes_73 rfl) (
  p_cc (n := 74) (s_gr (host := "") K dX8_takes_74 (hc := rfl) (by decide) rfl inX8 (by decide) w_f_RX8_13 rfl) (
  p_cc (n := 75) (s_x) (
  p_cc (n := 76) (s_x) (
  p_cc (n := 77) (s_il1 K dX8_takes_77 rfl) (
  p_cc (n := 78) (s_al1 K dX8_takes_78 rfl) (
  p_cc (n := 79) (s_il1 K dX8_takes_79 rfl) (
  p_cc (n := 80) (s_ic2 K dX8_takes_80 rfl) (
  p_cc (n := 81) (s_x) (
  p_cc (n := 82) (s_add K dX8_takes_82) (
  p_cc (n := 83) (s_il1 K dX8_takes_83 rfl) (
  p_cc (n := 84) (s_add K dX8_takes_84) (
  p_cc (n := 85) (s_ia K dX8_takes_85) (
  p_cc (n := 86) (s_ist K dX8_takes_86) (
  p_cc (n := 87) (s_ii K dX8_takes_87 rfl) (
  p_cc (n := 88) (s_x) (
  p_cc (n := 89) (s_x) (
  p_cc (n := 90) (s_goto K dX8_takes_90 rfl) (
  p_cc (n := 91) (s_x) (
  p_cc (n := 92) (s_x) (
  p_cc (n := 93) (s_vr K dX8_takes_93 hr hk) (p_cn)))))))))))))))))))))))))))))))))))))))))))))))))))))))))))))))))))))))))))))))))))))))))))))))
set_option maxRecDepth 100000 in
set_option maxHeartbeats 4000000 in
theorem cl_X8_notes {b : Bool} {w : pW} {p : Program} {l : Launch} {e : Env} {R : Room} {s : State} {m : MethodId} {args : Array Value} {below : List Frame} {meth : Method} {c : Code} {cells slots : Nat} {d : Nat} {Q : pQ} (K : q_X b w p s m args c RX8 cX8_notes 2 R d cells slots) (hr : meth.sig.returnType = none) (hk : meth.locks = false) : p_Cl b (q_C l b w) tb_X8_notes d Q (q_Z b w p l e R s m args below meth c 2 cells slots (MQ below (q_Qc b w Q) args s cells slots (q_A b w))) := p_c0 (
  p_cc (n := 0) (s_al1 K dX8_notes_0 rfl) (
  p_cc (n := 1) (s_gi (host := "") K dX8_notes_1 (hc := rfl) (by decide) rfl inX8 (by decide) w_f_RX8_142 rfl) (
  p_cc (n := 2) (s_x) (
  p_cc (n := 3) (s_x) (
  p_cc (n := 4) (s_ic2 K dX8_notes_4 rfl) (
  p_cc (n := 5) (s_x) (
  p_cc (n := 6) (s_ine K dX8_notes_6 rfl) (
  p_cc (n := 7) (s_x) (
  p_cc (n := 8) (s_x) (
  p_cc (n := 9) (s_ic1 K dX8_notes_9 rfl) (
  p_cc (n := 10) (s_is1 K dX8_notes_10 rfl) (
  p_cc (n := 11) (s_il1 K dX8_notes_11 rfl) (
  p_cc (n := 12) (s_ic3 K dX8_notes_12 rfl) (
  p_cc (n := 13) (s_x) (
  p_cc (n := 14) (s_x) (
  p_cc (n := 15) (s_ige K dX8_notes_15 rfl) (
  p_cc (n := 16) (s_x) (
  p_cc (n := 17) (s_x) (
  p_cc (n := 18) (s_al1 K dX8_notes_18 rfl) (
  p_cc (n := 19) (s_gr (host := "") K dX8_notes_19 (hc := rfl) (by decide) rfl inX8 (by decide) w_f_RX8_58 rfl) (
  p_cc (n := 20) (s_x) (
  p_cc (n := 21) (s_x) (
  p_cc (n := 22) (s_il1 K dX8_notes_22 rfl) (
  p_cc (n := 23) (s_al1 K dX8_notes_23 rfl) (
  p_cc (n := 24) (s_gr (host := "") K dX8_notes_24 (hc := rfl) (by decide) rfl inX8 (by decide) w_f_RX8_58 rfl) (
  p_cc (n := 25) (s_x) (
  p_cc (n := 26) (s_x) (
  p_cc (n := 27) (s_il1 K dX8_notes_27 rfl) (
  p_cc (n := 28) (s_ic2 K dX8_notes_28 rfl) (
  p_cc (n := 29) (s_x) (
  p_cc (n := 30) (s_add K dX8_notes_30) (
  p_cc (n := 31) (s_ia K dX8_notes_31) (
  p_cc (n := 32) (s_ist K dX8_notes_32) (
  p_cc (n := 33) (s_ii K dX8_notes_33 rfl) (
  p_cc (n := 34) (s_x) (
  p_cc (n := 35) (s_x) (
  p_cc (n := 36) (s_goto K dX8_notes_36 rfl) (
  p_cc (n := 37) (s_x) (
  p_cc (n := 38) (s_x) (
  p_cc (n := 39) (s_al1 K dX8_notes_39 rfl) (
  p_cc (n := 40) (s_dup K dX8_notes_40) (
  p_cc (n := 41) (s_gi (host := "") K dX8_notes_41 (hc := rfl) (by decide) rfl inX8 (by decide) w_f_RX8_142 rfl) (
  p_cc (n := 42) (s_x) (
  p_cc (n := 43) (s_x) (
  p_cc (n := 44) (s_ic1 K dX8_notes_44 rfl) (
  p_cc (n := 45) (s_sub K dX8_notes_45) (
  p_cc (n := 46) (s_pi (host := "") K dX8_notes_46 (hc := rfl) (by decide) rfl inX8 (by decide) w_f_RX8_142 rfl rfl tyX8 tyX8_ok nmX8 rfl) (
  p_cc (n := 47) (s_x) (
  p_cc (n := 48) (s_x) (
  p_cc (n := 49) (s_al1 K dX8_notes_49 rfl) (
  p_cc (n := 50) (s_al1 K dX8_notes_50 rfl) (
  p_cc (n := 51) (s_gr (host := "") K dX8_notes_51 (hc := rfl) (by decide) rfl inX8 (by decide) w_f_RX8_58 rfl) (
  p_cc (n := 52) (s_x) (
  p_cc (n := 53) (s_x) (
  p_cc (n := 54) (s_ic2 K dX8_notes_54 rfl) (
  p_cc (n := 55) (s_x) (
  p_cc (n := 56) (s_al1 K dX8_notes_56 rfl) (
  p_cc (n := 57) (s_gi (host := "") K dX8_notes_57 (hc := rfl) (by decide) rfl inX8 (by decide) w_f_RX8_142 rfl) (
  p_cc (n := 58) (s_x) (
  p_cc (n := 59) (s_x) (
  p_cc (n := 60) (s_mul K dX8_notes_60) (
  p_cc (n := 61) (cV_X8_lays K dX8_notes_61 w_m_RX8_179) (
  p_cc (n := 62) (s_x) (
  p_cc (n := 63) (s_x) (
  p_cc (n := 64) (s_al1 K dX8_notes_64 rfl) (
  p_cc (n := 65) (s_dup K dX8_notes_65) (
  p_cc (n := 66) (s_gi (host := "") K dX8_notes_66 (hc := rfl) (by decide) rfl inX8 (by decide) w_f_RX8_142 rfl) (
  p_cc (n := 67) (s_x) (
  p_cc (n := 68) (s_x) (
  p_cc (n := 69) (s_ic1 K dX8_notes_69 rfl) (
  p_cc (n := 70) (s_add K dX8_notes_70) (
  p_cc (n := 71) (s_pi (host := "") K dX8_notes_71 (hc := rfl) (by decide) rfl inX8 (by decide) w_f_RX8_142 rfl rfl tyX8 tyX8_ok nmX8 rfl) (
  p_cc (n := 72) (s_x) (
  p_cc (n := 73) (s_x) (
  p_cc (n := 74) (s_vr K dX8_notes_74 hr hk) (p_cn))))))))))))))))))))))))))))))))))))))))))))))))))))))))))))))))))))))))))))
set_option maxRecDepth 100000 in
set_option maxHeartbeats 4000000 in
theorem cl_X8_turn {b : Bool} {w : pW} {p : Program} {l : Launch} {e : Env} {R : Room} {s : State} {m : MethodId} {args : Array Value} {below : List Frame} {meth : Method} {c : Code} {cells slots : Nat} {d : Nat} {Q : pQ} (K : q_X b w p s m args c RX8 cX8_turn 2 R d cells slots) (hr : meth.sig.returnType = (some .int)) (hk : meth.locks = false) : p_Cl b (q_C l b w) tb_X8_turn d Q (q_Z b w p l e R s m args below meth c 2 cells slots (MQ below (q_Qc b w Q) args s cells slots (q_A b w))) := p_c0 (
  p_cc (n := 0) (s_al1 K dX8_turn_0 rfl) (
  p_cc (n := 1) (s_il1 K dX8_turn_1 rfl) (
  p_cc (n := 2) (cV_X8_isFact K dX8_turn_2 w_m_RX8_173) (
  p_cc (n := 3) (s_x) (
  p_cc (n := 4) (s_x) (
  p_cc (n := 5) (s_ne0 K dX8_turn_5 rfl) (
  p_cc (n := 6) (s_x) (
  p_cc (n := 7) (s_x) (
  p_cc (n := 8) (s_ic1 K dX8_turn_8 rfl) (
  p_cc (n := 9) (s_ir K dX8_turn_9 hr hk) (
  p_cc (n := 10) (s_al1 K dX8_turn_10 rfl) (
  p_cc (n := 11) (cV_X8_notes K dX8_turn_11 w_m_RX8_183) (
  p_cc (n := 12) (s_x) (
  p_cc (n := 13) (s_x) (
  p_cc (n := 14) (s_al1 K dX8_turn_14 rfl) (
  p_cc (n := 15) (s_dup K dX8_turn_15) (
  p_cc (n := 16) (s_gi (host := "") K dX8_turn_16 (hc := rfl) (by decide) rfl inX8 (by decide) w_f_RX8_78 rfl) (
  p_cc (n := 17) (s_x) (
  p_cc (n := 18) (s_x) (
  p_cc (n := 19) (s_ic1 K dX8_turn_19 rfl) (
  p_cc (n := 20) (s_il1 K dX8_turn_20 rfl) (
  p_cc (n := 21) (s_shl K dX8_turn_21) (
  p_cc (n := 22) (s_xor K dX8_turn_22) (
  p_cc (n := 23) (s_pi (host := "") K dX8_turn_23 (hc := rfl) (by decide) rfl inX8 (by decide) w_f_RX8_78 rfl rfl tyX8 tyX8_ok nmX8 rfl) (
  p_cc (n := 24) (s_x) (
  p_cc (n := 25) (s_x) (
  p_cc (n := 26) (s_al1 K dX8_turn_26 rfl) (
  p_cc (n := 27) (s_gi (host := "") K dX8_turn_27 (hc := rfl) (by decide) rfl inX8 (by decide) w_f_RX8_78 rfl) (
  p_cc (n := 28) (s_x) (
  p_cc (n := 29) (s_x) (
  p_cc (n := 30) (s_il1 K dX8_turn_30 rfl) (
  p_cc (n := 31) (s_shr K dX8_turn_31) (
  p_cc (n := 32) (s_ic1 K dX8_turn_32 rfl) (
  p_cc (n := 33) (s_and K dX8_turn_33) (
  p_cc (n := 34) (s_ir K dX8_turn_34 hr hk) (p_cn))))))))))))))))))))))))))))))))))))
set_option maxRecDepth 100000 in
set_option maxHeartbeats 4000000 in
theorem cl_X8_add {b : Bool} {w : pW} {p : Program} {l : Launch} {e : Env} {R : Room} {s : State} {m : MethodId} {args : Array Value} {below : List Frame} {meth : Method} {c : Code} {cells slots : Nat} {d : Nat} {Q : pQ} (K : q_X b w p s m args c RX8 cX8_add 5 R d cells slots) (hr : meth.sig.returnType = (some .int)) (hk : meth.locks = false) : p_Cl b (q_C l b w) tb_X8_add d Q (q_Z b w p l e R s m args below meth c 5 cells slots (MQ below (q_Qc b w Q) args s cells slots (q_A b w))) := p_c0 (
  p_cc (n := 0) (s_al1 K dX8_add_0 rfl) (
  p_cc (n := 1) (s_il1 K dX8_add_1 rfl) (
  p_cc (n := 2) (cV_X8_isTeller K dX8_add_2 w_m_RX8_170) (
  p_cc (n := 3) (s_x) (
  p_cc (n := 4) (s_x) (
  p_cc (n := 5) (s_eq0 K dX8_add_5 rfl) (
  p_cc (n := 6) (s_x) (
  p_cc (n := 7) (s_x) (
  p_cc (n := 8) (s_al1 K dX8_add_8 rfl) (
  p_cc (n := 9) (s_il1 K dX8_add_9 rfl) (
  p_cc (n := 10) (cV_X8_isFact K dX8_add_10 w_m_RX8_173) (
  p_cc (n := 11) (s_x) (
  p_cc (n := 12) (s_x) (
  p_cc (n := 13) (s_eq0 K dX8_add_13 rfl) (
  p_cc (n := 14) (s_x) (
  p_cc (n := 15) (s_x) (
  p_cc (n := 16) (s_il1 K dX8_add_16 rfl) (
  p_cc (n := 17) (s_ic1 K dX8_add_17 rfl) (
  p_cc (n := 18) (s_ic1 K dX8_add_18 rfl) (
  p_cc (n := 19) (cS_X8_in K dX8_add_19 w_m_RX8_91) (
  p_cc (n := 20) (s_x) (
  p_cc (n := 21) (s_x) (
  p_cc (n := 22) (s_eq0 K dX8_add_22 rfl) (
  p_cc (n := 23) (s_x) (
  p_cc (n := 24) (s_x) (
  p_cc (n := 25) (s_il2 K dX8_add_25) (
  p_cc (n := 26) (s_x) (
  p_cc (n := 27) (s_ic1 K dX8_add_27 rfl) (
  p_cc (n := 28) (s_ic2 K dX8_add_28 rfl) (
  p_cc (n := 29) (s_x) (
  p_cc (n := 30) (cS_X8_in K dX8_add_30 w_m_RX8_91) (
  p_cc (n := 31) (s_x) (
  p_cc (n := 32) (s_x) (
  p_cc (n := 33) (s_ne0 K dX8_add_33 rfl) (
  p_cc (n := 34) (s_x) (
  p_cc (n := 35) (s_x) (
  p_cc (n := 36) (s_ic1 K dX8_add_36 rfl) (
  p_cc (n := 37) (s_ir K dX8_add_37 hr hk) (
  p_cc (n := 38) (s_al1 K dX8_add_38 rfl) (
  p_cc (n := 39) (s_gi (host := "") K dX8_add_39 (hc := rfl) (by decide) rfl inX8 (by decide) w_f_RX8_85 rfl) (
  p_cc (n := 40) (s_x) (
  p_cc (n := 41) (s_x) (
  p_cc (n := 42) (s_ic2 K dX8_add_42 rfl) (
  p_cc (n := 43) (s_x) (
  p_cc (n := 44) (s_ine K dX8_add_44 rfl) (
  p_cc (n := 45) (s_x) (
  p_cc (n := 46) (s_x) (
  p_cc (n := 47) (s_ic2 K dX8_add_47 rfl) (
  p_cc (n := 48) (s_x) (
  p_cc (n := 49) (s_ir K dX8_add_49 hr hk) (
  p_cc (n := 50) (s_al1 K dX8_add_50 rfl) (
  p_cc (n := 51) (cV_X8_notes K dX8_add_51 w_m_RX8_183) (
  p_cc (n := 52) (s_x) (
  p_cc (n := 53) (s_x) (
  p_cc (n := 54) (s_al1 K dX8_add_54 rfl) (
  p_cc (n := 55) (s_al1 K dX8_add_55 rfl) (
  p_cc (n := 56) (s_gi (host := "") K dX8_add_56 (hc := rfl) (by decide) rfl inX8 (by decide) w_f_RX8_85 rfl) (
  p_cc (n := 57) (s_x) (
  p_cc (n := 58) (s_x) (
  p_cc (n := 59) (s_il1 K dX8_add_59 rfl) (
  p_cc (n := 60) (s_il1 K dX8_add_60 rfl) (
  p_cc (n := 61) (s_il1 K dX8_add_61 rfl) (
  p_cc (n := 62) (s_il2 K dX8_add_62) (
  p_cc (n := 63) (s_x) (
  p_cc (n := 64) (cV_X8_sets K dX8_add_64 w_m_RX8_81) (
  p_cc (n := 65) (s_x) (
  p_cc (n := 66) (s_x) (
  p_cc (n := 67) (s_al1 K dX8_add_67 rfl) (
  p_cc (n := 68) (s_dup K dX8_add_68) (
  p_cc (n := 69) (s_gi (host := "") K dX8_add_69 (hc := rfl) (by decide) rfl inX8 (by decide) w_f_RX8_85 rfl) (
  p_cc (n := 70) (s_x) (
  p_cc (n := 71) (s_x) (
  p_cc (n := 72) (s_ic1 K dX8_add_72 rfl) (
  p_cc (n := 73) (s_add K dX8_add_73) (
  p_cc (n := 74) (s_pi (host := "") K dX8_add_74 (hc := rfl) (by decide) rfl inX8 (by decide) w_f_RX8_85 rfl rfl tyX8 tyX8_ok nmX8 rfl) (
  p_cc (n := 75) (s_x) (
  p_cc (n := 76) (s_x) (
  p_cc (n := 77) (s_al1 K dX8_add_77 rfl) (
  p_cc (n := 78) (s_gi (host := "") K dX8_add_78 (hc := rfl) (by decide) rfl inX8 (by decide) w_f_RX8_85 rfl) (
  p_cc (n := 79) (s_x) (
  p_cc (n := 80) (s_x) (
  p_cc (n := 81) (s_ic1 K dX8_add_81 rfl) (
  p_cc (n := 82) (s_sub K dX8_add_82) (
  p_cc (n := 83) (s_ir K dX8_add_83 hr hk) (p_cn)))))))))))))))))))))))))))))))))))))))))))))))))))))))))))))))))))))))))))))))))))))
set_option maxRecDepth 100000 in
set_option maxHeartbeats 4000000 in
theorem cl_X8_strike {b : Bool} {w : pW} {p : Program} {l : Launch} {e : Env} {R : Room} {s : State} {m : MethodId} {args : Array Value} {below : List Frame} {meth : Method} {c : Code} {cells slots : Nat} {d : Nat} {Q : pQ} (K : q_X b w p s m args c RX8 cX8_strike 3 R d cells slots) (hr : meth.sig.returnType = (some .int)) (hk : meth.locks = false) : p_Cl b (q_C l b w) tb_X8_strike d Q (q_Z b w p l e R s m args below meth c 3 cells slots (MQ below (q_Qc b w Q) args s cells slots (q_A b w))) := p_c0 (
  p_cc (n := 0) (s_al1 K dX8_strike_0 rfl) (
  p_cc (n := 1) (s_il1 K dX8_strike_1 rfl) (
  p_cc (n := 2) (cV_X8_isClaim K dX8_strike_2 w_m_RX8_176) (
  p_cc (n := 3) (s_x) (
  p_cc (n := 4) (s_x) (
  p_cc (n := 5) (s_ne0 K dX8_strike_5 rfl) (
  p_cc (n := 6) (s_x) (
  p_cc (n := 7) (s_x) (
  p_cc (n := 8) (s_ic1 K dX8_strike_8 rfl) (
  p_cc (n := 9) (s_ir K dX8_strike_9 hr hk) (
  p_cc (n := 10) (s_al1 K dX8_strike_10 rfl) (
  p_cc (n := 11) (cV_X8_notes K dX8_strike_11 w_m_RX8_183) (
  p_cc (n := 12) (s_x) (
  p_cc (n := 13) (s_x) (
  p_cc (n := 14) (s_il1 K dX8_strike_14 rfl) (
  p_cc (n := 15) (s_ic1 K dX8_strike_15 rfl) (
  p_cc (n := 16) (s_add K dX8_strike_16) (
  p_cc (n := 17) (s_is1 K dX8_strike_17 rfl) (
  p_cc (n := 18) (s_il1 K dX8_strike_18 rfl) (
  p_cc (n := 19) (s_al1 K dX8_strike_19 rfl) (
  p_cc (n := 20) (s_gi (host := "") K dX8_strike_20 (hc := rfl) (by decide) rfl inX8 (by decide) w_f_RX8_85 rfl) (
  p_cc (n := 21) (s_x) (
  p_cc (n := 22) (s_x) (
  p_cc (n := 23) (s_ige K dX8_strike_23 rfl) (
  p_cc (n := 24) (s_x) (
  p_cc (n := 25) (s_x) (
  p_cc (n := 26) (s_al1 K dX8_strike_26 rfl) (
  p_cc (n := 27) (s_il1 K dX8_strike_27 rfl) (
  p_cc (n := 28) (s_il1 K dX8_strike_28 rfl) (
  p_cc (n := 29) (s_ic1 K dX8_strike_29 rfl) (
  p_cc (n := 30) (s_sub K dX8_strike_30) (
  p_cc (n := 31) (cV_X8_copies K dX8_strike_31 w_m_RX8_186) (
  p_cc (n := 32) (s_x) (
  p_cc (n := 33) (s_x) (
  p_cc (n := 34) (s_ii K dX8_strike_34 rfl) (
  p_cc (n := 35) (s_x) (
  p_cc (n := 36) (s_x) (
  p_cc (n := 37) (s_goto K dX8_strike_37 rfl) (
  p_cc (n := 38) (s_x) (
  p_cc (n := 39) (s_x) (
  p_cc (n := 40) (s_al1 K dX8_strike_40 rfl) (
  p_cc (n := 41) (s_dup K dX8_strike_41) (
  p_cc (n := 42) (s_gi (host := "") K dX8_strike_42 (hc := rfl) (by decide) rfl inX8 (by decide) w_f_RX8_85 rfl) (
  p_cc (n := 43) (s_x) (
  p_cc (n := 44) (s_x) (
  p_cc (n := 45) (s_ic1 K dX8_strike_45 rfl) (
  p_cc (n := 46) (s_sub K dX8_strike_46) (
  p_cc (n := 47) (s_pi (host := "") K dX8_strike_47 (hc := rfl) (by decide) rfl inX8 (by decide) w_f_RX8_85 rfl rfl tyX8 tyX8_ok nmX8 rfl) (
  p_cc (n := 48) (s_x) (
  p_cc (n := 49) (s_x) (
  p_cc (n := 50) (s_al1 K dX8_strike_50 rfl) (
  p_cc (n := 51) (s_gi (host := "") K dX8_strike_51 (hc := rfl) (by decide) rfl inX8 (by decide) w_f_RX8_85 rfl) (
  p_cc (n := 52) (s_x) (
  p_cc (n := 53) (s_x) (
  p_cc (n := 54) (s_ir K dX8_strike_54 hr hk) (p_cn))))))))))))))))))))))))))))))))))))))))))))))))))))))))
set_option maxRecDepth 100000 in
set_option maxHeartbeats 4000000 in
theorem cl_X8_shifts {b : Bool} {w : pW} {p : Program} {l : Launch} {e : Env} {R : Room} {s : State} {m : MethodId} {args : Array Value} {below : List Frame} {meth : Method} {c : Code} {cells slots : Nat} {d : Nat} {Q : pQ} (K : q_X b w p s m args c RX8 cX8_shifts 8 R d cells slots) (hr : meth.sig.returnType = none) (hk : meth.locks = false) : p_Cl b (q_C l b w) tb_X8_shifts d Q (q_Z b w p l e R s m args below meth c 8 cells slots (MQ below (q_Qc b w Q) args s cells slots (q_A b w))) := p_c0 (
  p_cc (n := 0) (s_al1 K dX8_shifts_0 rfl) (
  p_cc (n := 1) (s_gr (host := "") K dX8_shifts_1 (hc := rfl) (by decide) rfl inX8 (by decide) w_f_RX8_16 rfl) (
  p_cc (n := 2) (s_x) (
  p_cc (n := 3) (s_x) (
  p_cc (n := 4) (s_il1 K dX8_shifts_4 rfl) (
  p_cc (n := 5) (s_ia K dX8_shifts_5) (
  p_cc (n := 6) (s_is1 K dX8_shifts_6 rfl) (
  p_cc (n := 7) (s_al1 K dX8_shifts_7 rfl) (
  p_cc (n := 8) (s_gr (host := "") K dX8_shifts_8 (hc := rfl) (by decide) rfl inX8 (by decide) w_f_RX8_19 rfl) (
  p_cc (n := 9) (s_x) (
  p_cc (n := 10) (s_x) (
  p_cc (n := 11) (s_il1 K dX8_shifts_11 rfl) (
  p_cc (n := 12) (s_ia K dX8_shifts_12) (
  p_cc (n := 13) (s_is2 K dX8_shifts_13) (
  p_cc (n := 14) (s_x) (
  p_cc (n := 15) (s_al1 K dX8_shifts_15 rfl) (
  p_cc (n := 16) (s_gr (host := "") K dX8_shifts_16 (hc := rfl) (by decide) rfl inX8 (by decide) w_f_RX8_22 rfl) (
  p_cc (n := 17) (s_x) (
  p_cc (n := 18) (s_x) (
  p_cc (n := 19) (s_il1 K dX8_shifts_19 rfl) (
  p_cc (n := 20) (s_ia K dX8_shifts_20) (
  p_cc (n := 21) (s_is2 K dX8_shifts_21) (
  p_cc (n := 22) (s_x) (
  p_cc (n := 23) (s_al1 K dX8_shifts_23 rfl) (
  p_cc (n := 24) (s_gr (host := "") K dX8_shifts_24 (hc := rfl) (by decide) rfl inX8 (by decide) w_f_RX8_25 rfl) (
  p_cc (n := 25) (s_x) (
  p_cc (n := 26) (s_x) (
  p_cc (n := 27) (s_il1 K dX8_shifts_27 rfl) (
  p_cc (n := 28) (s_ia K dX8_shifts_28) (
  p_cc (n := 29) (s_is2 K dX8_shifts_29) (
  p_cc (n := 30) (s_x) (
  p_cc (n := 31) (s_il1 K dX8_shifts_31 rfl) (
  p_cc (n := 32) (s_is2 K dX8_shifts_32) (
  p_cc (n := 33) (s_x) (
  p_cc (n := 34) (s_il2 K dX8_shifts_34) (
  p_cc (n := 35) (s_x) (
  p_cc (n := 36) (s_il1 K dX8_shifts_36 rfl) (
  p_cc (n := 37) (s_ige K dX8_shifts_37 rfl) (
  p_cc (n := 38) (s_x) (
  p_cc (n := 39) (s_x) (
  p_cc (n := 40) (s_al1 K dX8_shifts_40 rfl) (
  p_cc (n := 41) (s_il2 K dX8_shifts_41) (
  p_cc (n := 42) (s_x) (
  p_cc (n := 43) (s_ic1 K dX8_shifts_43 rfl) (
  p_cc (n := 44) (s_add K dX8_shifts_44) (
  p_cc (n := 45) (s_il2 K dX8_shifts_45) (
  p_cc (n := 46) (s_x) (
  p_cc (n := 47) (cV_X8_copies K dX8_shifts_47 w_m_RX8_186) (
  p_cc (n := 48) (s_x) (
  p_cc (n := 49) (s_x) (
  p_cc (n := 50) (s_ii K dX8_shifts_50 rfl) (
  p_cc (n := 51) (s_x) (
  p_cc (n := 52) (s_x) (
  p_cc (n := 53) (s_goto K dX8_shifts_53 rfl) (
  p_cc (n := 54) (s_x) (
  p_cc (n := 55) (s_x) (
  p_cc (n := 56) (s_il1 K dX8_shifts_56 rfl) (
  p_cc (n := 57) (s_is2 K dX8_shifts_57) (
  p_cc (n := 58) (s_x) (
  p_cc (n := 59) (s_il2 K dX8_shifts_59) (
  p_cc (n := 60) (s_x) (
  p_cc (n := 61) (s_il1 K dX8_shifts_61 rfl) (
  p_cc (n := 62) (s_ile K dX8_shifts_62 rfl) (
  p_cc (n := 63) (s_x) (
  p_cc (n := 64) (s_x) (
  p_cc (n := 65) (s_al1 K dX8_shifts_65 rfl) (
  p_cc (n := 66) (s_il2 K dX8_shifts_66) (
  p_cc (n := 67) (s_x) (
  p_cc (n := 68) (s_ic1 K dX8_shifts_68 rfl) (
  p_cc (n := 69) (s_sub K dX8_shifts_69) (
  p_cc (n := 70) (s_il2 K dX8_shifts_70) (
  p_cc (n := 71) (s_x) (
  p_cc (n := 72) (cV_X8_copies K dX8_shifts_72 w_m_RX8_186) (
  p_cc (n := 73) (s_x) (
  p_cc (n := 74) (s_x) (
  p_cc (n := 75) (s_ii K dX8_shifts_75 rfl) (
  p_cc (n := 76) (s_x) (
  p_cc (n := 77) (s_x) (
  p_cc (n := 78) (s_goto K dX8_shifts_78 rfl) (
  p_cc (n := 79) (s_x) (
  p_cc (n := 80) (s_x) (
  p_cc (n := 81) (s_al1 K dX8_shifts_81 rfl) (
  p_cc (n := 82) (s_il1 K dX8_shifts_82 rfl) (
  p_cc (n := 83) (s_il1 K dX8_shifts_83 rfl) (
  p_cc (n := 84) (s_il2 K dX8_shifts_84) (
  p_cc (n := 85) (s_x) (
  p_cc (n := 86) (s_il2 K dX8_shifts_86) (
  p_cc (n := 87) (s_x) (
  p_cc (n := 88) (s_il2 K dX8_shifts_88) (
  p_cc (n := 89) (s_x) (
  p_cc (n := 90) (cV_X8_sets K dX8_shifts_90 w_m_RX8_81) (
  p_cc (n := 91) (s_x) (
  p_cc (n := 92) (s_x) (
  p_cc (n := 93) (s_vr K dX8_shifts_93 hr hk) (p_cn)))))))))))))))))))))))))))))))))))))))))))))))))))))))))))))))))))))))))))))))))))))))))))))))
