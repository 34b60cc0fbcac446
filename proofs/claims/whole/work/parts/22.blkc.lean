theorem bl_Md_init_0 {d : Nat} {B : kv_B} {Q : kv_Q} {kc ks n : Nat} {S : kv_SM} {I : kv_IM} {a0 : Nat} {r2 : Nat → Option Nat} {r4 : Nat → Option Nat} {r6 : Nat → Option Nat} {r7 : Nat → Option Nat} {r9 : Nat → Option Nat} {r11 : Nat → Option Nat} {r13 : Nat → Option Nat} {r15 : Nat → Option Nat} {r17 : Nat → Option Nat} {r19 : Nat → Option Nat} {r21 : Nat → Option Nat} {r23 : Nat → Option Nat} {r25 : Nat → Option Nat} {r27 : Nat → Option Nat} {dc kcc ksc : Nat} {Qy : kv_Q} {r28 : Nat → Option Nat} (hd1 : 1 ≤ d) (hk1 : 1 ≤ kc) (hs1 : 6000 ≤ ks) (hO2 : (kv_su S (B.1 + n) (kI 6000)) a0 = kO 6 r2) (hk3 : 1 ≤ kc - 1) (hs3 : 4 ≤ ks - 6000) (hO4 : (kv_su (kv_su (kv_su S (B.1 + n) (kI 6000)) a0 (kO 6 (kv_ru r2 1 (some (B.1 + n))))) (B.1 + (n + 1)) (kI 4)) a0 = kO 6 r4) (hk5 : 1 ≤ (kc - 1) - 1) (hs5 : 256 ≤ (ks - 6000) - 4) (hO6 : (kv_su (kv_su (kv_su (kv_su (kv_su S (B.1 + n) (kI 6000)) a0 (kO 6 (kv_ru r2 1 (some (B.1 + n))))) (B.1 + (n + 1)) (kI 4)) a0 (kO 6 (kv_ru r4 2 (some (B.1 + (n + 1)))))) (B.1 + ((n + 1) + 1)) (kI 256)) a0 = kO 6 r6) (hO7 : (kv_su (kv_su (kv_su (kv_su (kv_su (kv_su S (B.1 + n) (kI 6000)) a0 (kO 6 (kv_ru r2 1 (some (B.1 + n))))) (B.1 + (n + 1)) (kI 4)) a0 (kO 6 (kv_ru r4 2 (some (B.1 + (n + 1)))))) (B.1 + ((n + 1) + 1)) (kI 256)) a0 (kO 6 (kv_ru r6 3 (some (B.1 + ((n + 1) + 1)))))) a0 = kO 6 r7) (hk8 : 1 ≤ ((kc - 1) - 1) - 1) (hs8 : 1501 ≤ ((ks - 6000) - 4) - 256) (hO9 : (kv_su (kv_su (kv_su (kv_su (kv_su (kv_su (kv_su S (B.1 + n) (kI 6000)) a0 (kO 6 (kv_ru r2 1 (some (B.1 + n))))) (B.1 + (n + 1)) (kI 4)) a0 (kO 6 (kv_ru r4 2 (some (B.1 + (n + 1)))))) (B.1 + ((n + 1) + 1)) (kI 256)) a0 (kO 6 (kv_ru r6 3 (some (B.1 + ((n + 1) + 1)))))) (B.1 + (((n + 1) + 1) + 1)) (kI 1501)) a0 = kO 6 r9) (hk10 : 1 ≤ (((kc - 1) - 1) - 1) - 1) (hs10 : 1501 ≤ (((ks - 6000) - 4) - 256) - 1501) (hO11 : (kv_su (kv_su (kv_su (kv_su (kv_su (kv_su (kv_su (kv_su (kv_su S (B.1 + n) (kI 6000)) a0 (kO 6 (kv_ru r2 1 (some (B.1 + n))))) (B.1 + (n + 1)) (kI 4)) a0 (kO 6 (kv_ru r4 2 (some (B.1 + (n + 1)))))) (B.1 + ((n + 1) + 1)) (kI 256)) a0 (kO 6 (kv_ru r6 3 (some (B.1 + ((n + 1) + 1)))))) (B.1 + (((n + 1) + 1) + 1)) (kI 1501)) a0 (kO 6 (kv_ru r9 10 (some (B.1 + (((n + 1) + 1) + 1)))))) (B.1 + ((((n + 1) + 1) + 1) + 1)) (kI 1501)) a0 = kO 6 r11) (hk12 : 1 ≤ ((((kc - 1) - 1) - 1) - 1) - 1) (hs12 : 6000 ≤ ((((ks - 6000) - 4) - 256) - 1501) - 1501) (hO13 : (kv_su (kv_su (kv_su (kv_su (kv_su (kv_su (kv_su (kv_su (kv_su (kv_su (kv_su S (B.1 + n) (kI 6000)) a0 (kO 6 (kv_ru r2 1 (some (B.1 + n))))) (B.1 + (n + 1)) (kI 4)) a0 (kO 6 (kv_ru r4 2 (some (B.1 + (n + 1)))))) (B.1 + ((n + 1) + 1)) (kI 256)) a0 (kO 6 (kv_ru r6 3 (some (B.1 + ((n + 1) + 1)))))) (B.1 + (((n + 1) + 1) + 1)) (kI 1501)) a0 (kO 6 (kv_ru r9 10 (some (B.1 + (((n + 1) + 1) + 1)))))) (B.1 + ((((n + 1) + 1) + 1) + 1)) (kI 1501)) a0 (kO 6 (kv_ru r11 12 (some (B.1 + ((((n + 1) + 1) + 1) + 1)))))) (B.1 + (((((n + 1) + 1) + 1) + 1) + 1)) (kI 6000)) a0 = kO 6 r13) (hk14 : 1 ≤ (((((kc - 1) - 1) - 1) - 1) - 1) - 1) (hs14 : 301 ≤ (((((ks - 6000) - 4) - 256) - 1501) - 1501) - 6000) (hO15 : (kv_su (kv_su (kv_su (kv_su (kv_su (kv_su (kv_su (kv_su (kv_su (kv_su (kv_su (kv_su (kv_su S (B.1 + n) (kI 6000)) a0 (kO 6 (kv_ru r2 1 (some (B.1 + n))))) (B.1 + (n + 1)) (kI 4)) a0 (kO 6 (kv_ru r4 2 (some (B.1 + (n + 1)))))) (B.1 + ((n + 1) + 1)) (kI 256)) a0 (kO 6 (kv_ru r6 3 (some (B.1 + ((n + 1) + 1)))))) (B.1 + (((n + 1) + 1) + 1)) (kI 1501)) a0 (kO 6 (kv_ru r9 10 (some (B.1 + (((n + 1) + 1) + 1)))))) (B.1 + ((((n + 1) + 1) + 1) + 1)) (kI 1501)) a0 (kO 6 (kv_ru r11 12 (some (B.1 + ((((n + 1) + 1) + 1) + 1)))))) (B.1 + (((((n + 1) + 1) + 1) + 1) + 1)) (kI 6000)) a0 (kO 6 (kv_ru r13 14 (some (B.1 + (((((n + 1) + 1) + 1) + 1) + 1)))))) (B.1 + ((((((n + 1) + 1) + 1) + 1) + 1) + 1)) (kI 301)) a0 = kO 6 r15) (hk16 : 1 ≤ ((((((kc - 1) - 1) - 1) - 1) - 1) - 1) - 1) (hs16 : 301 ≤ ((((((ks - 6000) - 4) - 256) - 1501) - 1501) - 6000) - 301) (hO17 : (kv_su (kv_su (kv_su (kv_su (kv_su (kv_su (kv_su (kv_su (kv_su (kv_su (kv_su (kv_su (kv_su (kv_su (kv_su S (B.1 + n) (kI 6000)) a0 (kO 6 (kv_ru r2 1 (some (B.1 + n))))) (B.1 + (n + 1)) (kI 4)) a0 (kO 6 (kv_ru r4 2 (some (B.1 + (n + 1)))))) (B.1 + ((n + 1) + 1)) (kI 256)) a0 (kO 6 (kv_ru r6 3 (some (B.1 + ((n + 1) + 1)))))) (B.1 + (((n + 1) + 1) + 1)) (kI 1501)) a0 (kO 6 (kv_ru r9 10 (some (B.1 + (((n + 1) + 1) + 1)))))) (B.1 + ((((n + 1) + 1) + 1) + 1)) (kI 1501)) a0 (kO 6 (kv_ru r11 12 (some (B.1 + ((((n + 1) + 1) + 1) + 1)))))) (B.1 + (((((n + 1) + 1) + 1) + 1) + 1)) (kI 6000)) a0 (kO 6 (kv_ru r13 14 (some (B.1 + (((((n + 1) + 1) + 1) + 1) + 1)))))) (B.1 + ((((((n + 1) + 1) + 1) + 1) + 1) + 1)) (kI 301)) a0 (kO 6 (kv_ru r15 17 (some (B.1 + ((((((n + 1) + 1) + 1) + 1) + 1) + 1)))))) (B.1 + (((((((n + 1) + 1) + 1) + 1) + 1) + 1) + 1)) (kI 301)) a0 = kO 6 r17) (hk18 : 1 ≤ (((((((kc - 1) - 1) - 1) - 1) - 1) - 1) - 1) - 1) (hs18 : 301 ≤ (((((((ks - 6000) - 4) - 256) - 1501) - 1501) - 6000) - 301) - 301) (hO19 : (kv_su (kv_su (kv_su (kv_su (kv_su (kv_su (kv_su (kv_su (kv_su (kv_su (kv_su (kv_su (kv_su (kv_su (kv_su (kv_su (kv_su S (B.1 + n) (kI 6000)) a0 (kO 6 (kv_ru r2 1 (some (B.1 + n))))) (B.1 + (n + 1)) (kI 4)) a0 (kO 6 (kv_ru r4 2 (some (B.1 + (n + 1)))))) (B.1 + ((n + 1) + 1)) (kI 256)) a0 (kO 6 (kv_ru r6 3 (some (B.1 + ((n + 1) + 1)))))) (B.1 + (((n + 1) + 1) + 1)) (kI 1501)) a0 (kO 6 (kv_ru r9 10 (some (B.1 + (((n + 1) + 1) + 1)))))) (B.1 + ((((n + 1) + 1) + 1) + 1)) (kI 1501)) a0 (kO 6 (kv_ru r11 12 (some (B.1 + ((((n + 1) + 1) + 1) + 1)))))) (B.1 + (((((n + 1) + 1) + 1) + 1) + 1)) (kI 6000)) a0 (kO 6 (kv_ru r13 14 (some (B.1 + (((((n + 1) + 1) + 1) + 1) + 1)))))) (B.1 + ((((((n + 1) + 1) + 1) + 1) + 1) + 1)) (kI 301)) a0 (kO 6 (kv_ru r15 17 (some (B.1 + ((((((n + 1) + 1) + 1) + 1) + 1) + 1)))))) (B.1 + (((((((n + 1) + 1) + 1) + 1) + 1) + 1) + 1)) (kI 301)) a0 (kO 6 (kv_ru r17 18 (some (B.1 + (((((((n + 1) + 1) + 1) + 1) + 1) + 1) + 1)))))) (B.1 + ((((((((n + 1) + 1) + 1) + 1) + 1) + 1) + 1) + 1)) (kI 301)) a0 = kO 6 r19) (hk20 : 1 ≤ ((((((((kc - 1) - 1) - 1) - 1) - 1) - 1) - 1) - 1) - 1) (hs20 : 10 ≤ ((((((((ks - 6000) - 4) - 256) - 1501) - 1501) - 6000) - 301) - 301) - 301) (hO21 : (kv_su (kv_su (kv_su (kv_su (kv_su (kv_su (kv_su (kv_su (kv_su (kv_su (kv_su (kv_su (kv_su (kv_su (kv_su (kv_su (kv_su (kv_su (kv_su S (B.1 + n) (kI 6000)) a0 (kO 6 (kv_ru r2 1 (some (B.1 + n))))) (B.1 + (n + 1)) (kI 4)) a0 (kO 6 (kv_ru r4 2 (some (B.1 + (n + 1)))))) (B.1 + ((n + 1) + 1)) (kI 256)) a0 (kO 6 (kv_ru r6 3 (some (B.1 + ((n + 1) + 1)))))) (B.1 + (((n + 1) + 1) + 1)) (kI 1501)) a0 (kO 6 (kv_ru r9 10 (some (B.1 + (((n + 1) + 1) + 1)))))) (B.1 + ((((n + 1) + 1) + 1) + 1)) (kI 1501)) a0 (kO 6 (kv_ru r11 12 (some (B.1 + ((((n + 1) + 1) + 1) + 1)))))) (B.1 + (((((n + 1) + 1) + 1) + 1) + 1)) (kI 6000)) a0 (kO 6 (kv_ru r13 14 (some (B.1 + (((((n + 1) + 1) + 1) + 1) + 1)))))) (B.1 + ((((((n + 1) + 1) + 1) + 1) + 1) + 1)) (kI 301)) a0 (kO 6 (kv_ru r15 17 (some (B.1 + ((((((n + 1) + 1) + 1) + 1) + 1) + 1)))))) (B.1 + (((((((n + 1) + 1) + 1) + 1) + 1) + 1) + 1)) (kI 301)) a0 (kO 6 (kv_ru r17 18 (some (B.1 + (((((((n + 1) + 1) + 1) + 1) + 1) + 1) + 1)))))) (B.1 + ((((((((n + 1) + 1) + 1) + 1) + 1) + 1) + 1) + 1)) (kI 301)) a0 (kO 6 (kv_ru r19 19 (some (B.1 + ((((((((n + 1) + 1) + 1) + 1) + 1) + 1) + 1) + 1)))))) (B.1 + (((((((((n + 1) + 1) + 1) + 1) + 1) + 1) + 1) + 1) + 1)) (kZ 10)) a0 = kO 6 r21) (hk22 : 1 ≤ (((((((((kc - 1) - 1) - 1) - 1) - 1) - 1) - 1) - 1) - 1) - 1) (hs22 : 10 ≤ (((((((((ks - 6000) - 4) - 256) - 1501) - 1501) - 6000) - 301) - 301) - 301) - 10) (hO23 : (kv_su (kv_su (kv_su (kv_su (kv_su (kv_su (kv_su (kv_su (kv_su (kv_su (kv_su (kv_su (kv_su (kv_su (kv_su (kv_su (kv_su (kv_su (kv_su (kv_su (kv_su S (B.1 + n) (kI 6000)) a0 (kO 6 (kv_ru r2 1 (some (B.1 + n))))) (B.1 + (n + 1)) (kI 4)) a0 (kO 6 (kv_ru r4 2 (some (B.1 + (n + 1)))))) (B.1 + ((n + 1) + 1)) (kI 256)) a0 (kO 6 (kv_ru r6 3 (some (B.1 + ((n + 1) + 1)))))) (B.1 + (((n + 1) + 1) + 1)) (kI 1501)) a0 (kO 6 (kv_ru r9 10 (some (B.1 + (((n + 1) + 1) + 1)))))) (B.1 + ((((n + 1) + 1) + 1) + 1)) (kI 1501)) a0 (kO 6 (kv_ru r11 12 (some (B.1 + ((((n + 1) + 1) + 1) + 1)))))) (B.1 + (((((n + 1) + 1) + 1) + 1) + 1)) (kI 6000)) a0 (kO 6 (kv_ru r13 14 (some (B.1 + (((((n + 1) + 1) + 1) + 1) + 1)))))) (B.1 + ((((((n + 1) + 1) + 1) + 1) + 1) + 1)) (kI 301)) a0 (kO 6 (kv_ru r15 17 (some (B.1 + ((((((n + 1) + 1) + 1) + 1) + 1) + 1)))))) (B.1 + (((((((n + 1) + 1) + 1) + 1) + 1) + 1) + 1)) (kI 301)) a0 (kO 6 (kv_ru r17 18 (some (B.1 + (((((((n + 1) + 1) + 1) + 1) + 1) + 1) + 1)))))) (B.1 + ((((((((n + 1) + 1) + 1) + 1) + 1) + 1) + 1) + 1)) (kI 301)) a0 (kO 6 (kv_ru r19 19 (some (B.1 + ((((((((n + 1) + 1) + 1) + 1) + 1) + 1) + 1) + 1)))))) (B.1 + (((((((((n + 1) + 1) + 1) + 1) + 1) + 1) + 1) + 1) + 1)) (kZ 10)) a0 (kO 6 (kv_ru r21 20 (some (B.1 + (((((((((n + 1) + 1) + 1) + 1) + 1) + 1) + 1) + 1) + 1)))))) (B.1 + ((((((((((n + 1) + 1) + 1) + 1) + 1) + 1) + 1) + 1) + 1) + 1)) (kI 10)) a0 = kO 6 r23) (hk24 : 1 ≤ ((((((((((kc - 1) - 1) - 1) - 1) - 1) - 1) - 1) - 1) - 1) - 1) - 1) (hs24 : 15000 ≤ ((((((((((ks - 6000) - 4) - 256) - 1501) - 1501) - 6000) - 301) - 301) - 301) - 10) - 10) (hO25 : (kv_su (kv_su (kv_su (kv_su (kv_su (kv_su (kv_su (kv_su (kv_su (kv_su (kv_su (kv_su (kv_su (kv_su (kv_su (kv_su (kv_su (kv_su (kv_su (kv_su (kv_su (kv_su (kv_su S (B.1 + n) (kI 6000)) a0 (kO 6 (kv_ru r2 1 (some (B.1 + n))))) (B.1 + (n + 1)) (kI 4)) a0 (kO 6 (kv_ru r4 2 (some (B.1 + (n + 1)))))) (B.1 + ((n + 1) + 1)) (kI 256)) a0 (kO 6 (kv_ru r6 3 (some (B.1 + ((n + 1) + 1)))))) (B.1 + (((n + 1) + 1) + 1)) (kI 1501)) a0 (kO 6 (kv_ru r9 10 (some (B.1 + (((n + 1) + 1) + 1)))))) (B.1 + ((((n + 1) + 1) + 1) + 1)) (kI 1501)) a0 (kO 6 (kv_ru r11 12 (some (B.1 + ((((n + 1) + 1) + 1) + 1)))))) (B.1 + (((((n + 1) + 1) + 1) + 1) + 1)) (kI 6000)) a0 (kO 6 (kv_ru r13 14 (some (B.1 + (((((n + 1) + 1) + 1) + 1) + 1)))))) (B.1 + ((((((n + 1) + 1) + 1) + 1) + 1) + 1)) (kI 301)) a0 (kO 6 (kv_ru r15 17 (some (B.1 + ((((((n + 1) + 1) + 1) + 1) + 1) + 1)))))) (B.1 + (((((((n + 1) + 1) + 1) + 1) + 1) + 1) + 1)) (kI 301)) a0 (kO 6 (kv_ru r17 18 (some (B.1 + (((((((n + 1) + 1) + 1) + 1) + 1) + 1) + 1)))))) (B.1 + ((((((((n + 1) + 1) + 1) + 1) + 1) + 1) + 1) + 1)) (kI 301)) a0 (kO 6 (kv_ru r19 19 (some (B.1 + ((((((((n + 1) + 1) + 1) + 1) + 1) + 1) + 1) + 1)))))) (B.1 + (((((((((n + 1) + 1) + 1) + 1) + 1) + 1) + 1) + 1) + 1)) (kZ 10)) a0 (kO 6 (kv_ru r21 20 (some (B.1 + (((((((((n + 1) + 1) + 1) + 1) + 1) + 1) + 1) + 1) + 1)))))) (B.1 + ((((((((((n + 1) + 1) + 1) + 1) + 1) + 1) + 1) + 1) + 1) + 1)) (kI 10)) a0 (kO 6 (kv_ru r23 21 (some (B.1 + ((((((((((n + 1) + 1) + 1) + 1) + 1) + 1) + 1) + 1) + 1) + 1)))))) (B.1 + (((((((((((n + 1) + 1) + 1) + 1) + 1) + 1) + 1) + 1) + 1) + 1) + 1)) (kI 15000)) a0 = kO 6 r25) (hk26 : 1 ≤ (((((((((((kc - 1) - 1) - 1) - 1) - 1) - 1) - 1) - 1) - 1) - 1) - 1) - 1) (hs26 : 256 ≤ (((((((((((ks - 6000) - 4) - 256) - 1501) - 1501) - 6000) - 301) - 301) - 301) - 10) - 10) - 15000) (hO27 : (kv_su (kv_su (kv_su (kv_su (kv_su (kv_su (kv_su (kv_su (kv_su (kv_su (kv_su (kv_su (kv_su (kv_su (kv_su (kv_su (kv_su (kv_su (kv_su (kv_su (kv_su (kv_su (kv_su (kv_su (kv_su S (B.1 + n) (kI 6000)) a0 (kO 6 (kv_ru r2 1 (some (B.1 + n))))) (B.1 + (n + 1)) (kI 4)) a0 (kO 6 (kv_ru r4 2 (some (B.1 + (n + 1)))))) (B.1 + ((n + 1) + 1)) (kI 256)) a0 (kO 6 (kv_ru r6 3 (some (B.1 + ((n + 1) + 1)))))) (B.1 + (((n + 1) + 1) + 1)) (kI 1501)) a0 (kO 6 (kv_ru r9 10 (some (B.1 + (((n + 1) + 1) + 1)))))) (B.1 + ((((n + 1) + 1) + 1) + 1)) (kI 1501)) a0 (kO 6 (kv_ru r11 12 (some (B.1 + ((((n + 1) + 1) + 1) + 1)))))) (B.1 + (((((n + 1) + 1) + 1) + 1) + 1)) (kI 6000)) a0 (kO 6 (kv_ru r13 14 (some (B.1 + (((((n + 1) + 1) + 1) + 1) + 1)))))) (B.1 + ((((((n + 1) + 1) + 1) + 1) + 1) + 1)) (kI 301)) a0 (kO 6 (kv_ru r15 17 (some (B.1 + ((((((n + 1) + 1) + 1) + 1) + 1) + 1)))))) (B.1 + (((((((n + 1) + 1) + 1) + 1) + 1) + 1) + 1)) (kI 301)) a0 (kO 6 (kv_ru r17 18 (some (B.1 + (((((((n + 1) + 1) + 1) + 1) + 1) + 1) + 1)))))) (B.1 + ((((((((n + 1) + 1) + 1) + 1) + 1) + 1) + 1) + 1)) (kI 301)) a0 (kO 6 (kv_ru r19 19 (some (B.1 + ((((((((n + 1) + 1) + 1) + 1) + 1) + 1) + 1) + 1)))))) (B.1 + (((((((((n + 1) + 1) + 1) + 1) + 1) + 1) + 1) + 1) + 1)) (kZ 10)) a0 (kO 6 (kv_ru r21 20 (some (B.1 + (((((((((n + 1) + 1) + 1) + 1) + 1) + 1) + 1) + 1) + 1)))))) (B.1 + ((((((((((n + 1) + 1) + 1) + 1) + 1) + 1) + 1) + 1) + 1) + 1)) (kI 10)) a0 (kO 6 (kv_ru r23 21 (some (B.1 + ((((((((((n + 1) + 1) + 1) + 1) + 1) + 1) + 1) + 1) + 1) + 1)))))) (B.1 + (((((((((((n + 1) + 1) + 1) + 1) + 1) + 1) + 1) + 1) + 1) + 1) + 1)) (kI 15000)) a0 (kO 6 (kv_ru r25 22 (some (B.1 + (((((((((((n + 1) + 1) + 1) + 1) + 1) + 1) + 1) + 1) + 1) + 1) + 1)))))) (B.1 + ((((((((((((n + 1) + 1) + 1) + 1) + 1) + 1) + 1) + 1) + 1) + 1) + 1) + 1)) (kI 256)) a0 = kO 6 r27) (hO28 : (kv_su (kv_su (kv_su (kv_su (kv_su (kv_su (kv_su (kv_su (kv_su (kv_su (kv_su (kv_su (kv_su (kv_su (kv_su (kv_su (kv_su (kv_su (kv_su (kv_su (kv_su (kv_su (kv_su (kv_su (kv_su (kv_su S (B.1 + n) (kI 6000)) a0 (kO 6 (kv_ru r2 1 (some (B.1 + n))))) (B.1 + (n + 1)) (kI 4)) a0 (kO 6 (kv_ru r4 2 (some (B.1 + (n + 1)))))) (B.1 + ((n + 1) + 1)) (kI 256)) a0 (kO 6 (kv_ru r6 3 (some (B.1 + ((n + 1) + 1)))))) (B.1 + (((n + 1) + 1) + 1)) (kI 1501)) a0 (kO 6 (kv_ru r9 10 (some (B.1 + (((n + 1) + 1) + 1)))))) (B.1 + ((((n + 1) + 1) + 1) + 1)) (kI 1501)) a0 (kO 6 (kv_ru r11 12 (some (B.1 + ((((n + 1) + 1) + 1) + 1)))))) (B.1 + (((((n + 1) + 1) + 1) + 1) + 1)) (kI 6000)) a0 (kO 6 (kv_ru r13 14 (some (B.1 + (((((n + 1) + 1) + 1) + 1) + 1)))))) (B.1 + ((((((n + 1) + 1) + 1) + 1) + 1) + 1)) (kI 301)) a0 (kO 6 (kv_ru r15 17 (some (B.1 + ((((((n + 1) + 1) + 1) + 1) + 1) + 1)))))) (B.1 + (((((((n + 1) + 1) + 1) + 1) + 1) + 1) + 1)) (kI 301)) a0 (kO 6 (kv_ru r17 18 (some (B.1 + (((((((n + 1) + 1) + 1) + 1) + 1) + 1) + 1)))))) (B.1 + ((((((((n + 1) + 1) + 1) + 1) + 1) + 1) + 1) + 1)) (kI 301)) a0 (kO 6 (kv_ru r19 19 (some (B.1 + ((((((((n + 1) + 1) + 1) + 1) + 1) + 1) + 1) + 1)))))) (B.1 + (((((((((n + 1) + 1) + 1) + 1) + 1) + 1) + 1) + 1) + 1)) (kZ 10)) a0 (kO 6 (kv_ru r21 20 (some (B.1 + (((((((((n + 1) + 1) + 1) + 1) + 1) + 1) + 1) + 1) + 1)))))) (B.1 + ((((((((((n + 1) + 1) + 1) + 1) + 1) + 1) + 1) + 1) + 1) + 1)) (kI 10)) a0 (kO 6 (kv_ru r23 21 (some (B.1 + ((((((((((n + 1) + 1) + 1) + 1) + 1) + 1) + 1) + 1) + 1) + 1)))))) (B.1 + (((((((((((n + 1) + 1) + 1) + 1) + 1) + 1) + 1) + 1) + 1) + 1) + 1)) (kI 15000)) a0 (kO 6 (kv_ru r25 22 (some (B.1 + (((((((((((n + 1) + 1) + 1) + 1) + 1) + 1) + 1) + 1) + 1) + 1) + 1)))))) (B.1 + ((((((((((((n + 1) + 1) + 1) + 1) + 1) + 1) + 1) + 1) + 1) + 1) + 1) + 1)) (kI 256)) a0 (kO 6 (kv_ru r27 23 (some (B.1 + ((((((((((((n + 1) + 1) + 1) + 1) + 1) + 1) + 1) + 1) + 1) + 1) + 1) + 1)))))) a0 = kO 6 r28) (hM : kv_T y_Md_layTable dc kcc ksc B [.ref a0, .int 1] (((((((((((((n + 1) + 1) + 1) + 1) + 1) + 1) + 1) + 1) + 1) + 1) + 1) + 1) + 1) (kv_su (kv_su (kv_su (kv_su (kv_su (kv_su (kv_su (kv_su (kv_su (kv_su (kv_su (kv_su (kv_su (kv_su (kv_su (kv_su (kv_su (kv_su (kv_su (kv_su (kv_su (kv_su (kv_su (kv_su (kv_su (kv_su S (B.1 + n) (kI 6000)) a0 (kO 6 (kv_ru r2 1 (some (B.1 + n))))) (B.1 + (n + 1)) (kI 4)) a0 (kO 6 (kv_ru r4 2 (some (B.1 + (n + 1)))))) (B.1 + ((n + 1) + 1)) (kI 256)) a0 (kO 6 (kv_ru r6 3 (some (B.1 + ((n + 1) + 1)))))) (B.1 + (((n + 1) + 1) + 1)) (kI 1501)) a0 (kO 6 (kv_ru r9 10 (some (B.1 + (((n + 1) + 1) + 1)))))) (B.1 + ((((n + 1) + 1) + 1) + 1)) (kI 1501)) a0 (kO 6 (kv_ru r11 12 (some (B.1 + ((((n + 1) + 1) + 1) + 1)))))) (B.1 + (((((n + 1) + 1) + 1) + 1) + 1)) (kI 6000)) a0 (kO 6 (kv_ru r13 14 (some (B.1 + (((((n + 1) + 1) + 1) + 1) + 1)))))) (B.1 + ((((((n + 1) + 1) + 1) + 1) + 1) + 1)) (kI 301)) a0 (kO 6 (kv_ru r15 17 (some (B.1 + ((((((n + 1) + 1) + 1) + 1) + 1) + 1)))))) (B.1 + (((((((n + 1) + 1) + 1) + 1) + 1) + 1) + 1)) (kI 301)) a0 (kO 6 (kv_ru r17 18 (some (B.1 + (((((((n + 1) + 1) + 1) + 1) + 1) + 1) + 1)))))) (B.1 + ((((((((n + 1) + 1) + 1) + 1) + 1) + 1) + 1) + 1)) (kI 301)) a0 (kO 6 (kv_ru r19 19 (some (B.1 + ((((((((n + 1) + 1) + 1) + 1) + 1) + 1) + 1) + 1)))))) (B.1 + (((((((((n + 1) + 1) + 1) + 1) + 1) + 1) + 1) + 1) + 1)) (kZ 10)) a0 (kO 6 (kv_ru r21 20 (some (B.1 + (((((((((n + 1) + 1) + 1) + 1) + 1) + 1) + 1) + 1) + 1)))))) (B.1 + ((((((((((n + 1) + 1) + 1) + 1) + 1) + 1) + 1) + 1) + 1) + 1)) (kI 10)) a0 (kO 6 (kv_ru r23 21 (some (B.1 + ((((((((((n + 1) + 1) + 1) + 1) + 1) + 1) + 1) + 1) + 1) + 1)))))) (B.1 + (((((((((((n + 1) + 1) + 1) + 1) + 1) + 1) + 1) + 1) + 1) + 1) + 1)) (kI 15000)) a0 (kO 6 (kv_ru r25 22 (some (B.1 + (((((((((((n + 1) + 1) + 1) + 1) + 1) + 1) + 1) + 1) + 1) + 1) + 1)))))) (B.1 + ((((((((((((n + 1) + 1) + 1) + 1) + 1) + 1) + 1) + 1) + 1) + 1) + 1) + 1)) (kI 256)) a0 (kO 6 (kv_ru r27 23 (some (B.1 + ((((((((((((n + 1) + 1) + 1) + 1) + 1) + 1) + 1) + 1) + 1) + 1) + 1) + 1)))))) (kv_iu (kv_iu (kv_iu (kv_iu (kv_iu (kv_iu (kv_iu (kv_iu (kv_iu (kv_iu (kv_up (kv_up (kv_up (kv_up (kv_iu (kv_iu (kv_iu I (B.1 + n) (fun _ => 0)) (B.1 + (n + 1)) (fun _ => 0)) (B.1 + ((n + 1) + 1)) (fun _ => 0)) a0 5 4) a0 6 64) a0 7 3) a0 9 1) (B.1 + (((n + 1) + 1) + 1)) (fun _ => 0)) (B.1 + ((((n + 1) + 1) + 1) + 1)) (fun _ => 0)) (B.1 + (((((n + 1) + 1) + 1) + 1) + 1)) (fun _ => 0)) (B.1 + ((((((n + 1) + 1) + 1) + 1) + 1) + 1)) (fun _ => 0)) (B.1 + (((((((n + 1) + 1) + 1) + 1) + 1) + 1) + 1)) (fun _ => 0)) (B.1 + ((((((((n + 1) + 1) + 1) + 1) + 1) + 1) + 1) + 1)) (fun _ => 0)) (B.1 + (((((((((n + 1) + 1) + 1) + 1) + 1) + 1) + 1) + 1) + 1)) (fun _ => 0)) (B.1 + ((((((((((n + 1) + 1) + 1) + 1) + 1) + 1) + 1) + 1) + 1) + 1)) (fun _ => 0)) (B.1 + (((((((((((n + 1) + 1) + 1) + 1) + 1) + 1) + 1) + 1) + 1) + 1) + 1)) (fun _ => 0)) (B.1 + ((((((((((((n + 1) + 1) + 1) + 1) + 1) + 1) + 1) + 1) + 1) + 1) + 1) + 1)) (fun _ => 0)) Qy) (hdp : dc + 1 ≤ d) (hkk : kcc ≤ ((((((((((((kc - 1) - 1) - 1) - 1) - 1) - 1) - 1) - 1) - 1) - 1) - 1) - 1) - 1) (hkl : ksc ≤ ((((((((((((ks - 6000) - 4) - 256) - 1501) - 1501) - 6000) - 301) - 301) - 301) - 10) - 10) - 15000) - 256) (K : ∀ v n' S' I', Qy v n' S' I' → kv_V y_Md_init d B Q (((((((((((((kc - 1) - 1) - 1) - 1) - 1) - 1) - 1) - 1) - 1) - 1) - 1) - 1) - 1 - kcc) (((((((((((((ks - 6000) - 4) - 256) - 1501) - 1501) - 6000) - 301) - 301) - 301) - 10) - 10) - 15000) - 256 - ksc) n' S' I' 143 [(0, .ref a0)] (v.toList ++ [])) : kv_V y_Md_init d B Q kc ks n S I 0 [(0, .ref a0)] [] := by
  refine kv_aload_n dd_Md_init_0 rfl ?_
  refine kv_objInit wm_Md_1 wo_in wo_code dd_Md_init_1 hd1 (Nat.le_of_ble_eq_true rfl) ?_
  refine kv_aload_n dd_Md_init_4 rfl ?_
  refine kv_sipush (v := 6000) dd_Md_init_5 (by decide) ?_
  refine kv_newI 6000 wa_int dd_Md_init_8 (by decide) (by decide) hk1 hs1 ?_
  refine kv_putR fp_Md_7 (fun _ => rfl) dd_Md_init_10 hO2 rfl rfl ?_
  refine kv_aload_n dd_Md_init_13 rfl ?_
  refine kv_iconst (v := 4) dd_Md_init_14 (by decide) ?_
  refine kv_newI 4 wa_int dd_Md_init_15 (by decide) (by decide) hk3 hs3 ?_
  refine kv_putR fp_Md_13 (fun _ => rfl) dd_Md_init_17 hO4 rfl rfl ?_
  refine kv_aload_n dd_Md_init_20 rfl ?_
  refine kv_sipush (v := 256) dd_Md_init_21 (by decide) ?_
  refine kv_newI 256 wa_int dd_Md_init_24 (by decide) (by decide) hk5 hs5 ?_
  refine kv_putR fp_Md_16 (fun _ => rfl) dd_Md_init_26 hO6 rfl rfl ?_
  refine kv_aload_n dd_Md_init_29 rfl ?_
  refine kv_iconst (v := 4) dd_Md_init_30 (by decide) ?_
  refine kv_putI fp_Md_19 (fun h => by cases h) dd_Md_init_31 hO7 rfl rfl ?_
  refine kv_aload_n dd_Md_init_34 rfl ?_
  refine kv_bipush (v := 64) dd_Md_init_35 (by decide) ?_
  refine kv_putI fp_Md_23 (fun h => by cases h) dd_Md_init_37 hO7 rfl rfl ?_
  refine kv_aload_n dd_Md_init_40 rfl ?_
  refine kv_iconst (v := 3) dd_Md_init_41 (by decide) ?_
  refine kv_putI fp_Md_26 (fun h => by cases h) dd_Md_init_42 hO7 rfl rfl ?_
  refine kv_aload_n dd_Md_init_45 rfl ?_
  refine kv_iconst (v := 1) dd_Md_init_46 (by decide) ?_
  refine kv_putI fp_Md_29 (fun h => by cases h) dd_Md_init_47 hO7 rfl rfl ?_
  refine kv_aload_n dd_Md_init_50 rfl ?_
  refine kv_sipush (v := 1501) dd_Md_init_51 (by decide) ?_
  refine kv_newI 1501 wa_int dd_Md_init_54 (by decide) (by decide) hk8 hs8 ?_
  refine kv_putR fp_Md_32 (fun _ => rfl) dd_Md_init_56 hO9 rfl rfl ?_
  refine kv_aload_n dd_Md_init_59 rfl ?_
  refine kv_sipush (v := 1501) dd_Md_init_60 (by decide) ?_
  refine kv_newI 1501 wa_int dd_Md_init_63 (by decide) (by decide) hk10 hs10 ?_
  refine kv_putR fp_Md_35 (fun _ => rfl) dd_Md_init_65 hO11 rfl rfl ?_
  refine kv_aload_n dd_Md_init_68 rfl ?_
  refine kv_sipush (v := 6000) dd_Md_init_69 (by decide) ?_
  refine kv_newI 6000 wa_int dd_Md_init_72 (by decide) (by decide) hk12 hs12 ?_
  refine kv_putR fp_Md_38 (fun _ => rfl) dd_Md_init_74 hO13 rfl rfl ?_
  refine kv_aload_n dd_Md_init_77 rfl ?_
  refine kv_sipush (v := 301) dd_Md_init_78 (by decide) ?_
  refine kv_newI 301 wa_int dd_Md_init_81 (by decide) (by decide) hk14 hs14 ?_
  refine kv_putR fp_Md_41 (fun _ => rfl) dd_Md_init_83 hO15 rfl rfl ?_
  refine kv_aload_n dd_Md_init_86 rfl ?_
  refine kv_sipush (v := 301) dd_Md_init_87 (by decide) ?_
  refine kv_newI 301 wa_int dd_Md_init_90 (by decide) (by decide) hk16 hs16 ?_
  refine kv_putR fp_Md_44 (fun _ => rfl) dd_Md_init_92 hO17 rfl rfl ?_
  refine kv_aload_n dd_Md_init_95 rfl ?_
  refine kv_sipush (v := 301) dd_Md_init_96 (by decide) ?_
  refine kv_newI 301 wa_int dd_Md_init_99 (by decide) (by decide) hk18 hs18 ?_
  refine kv_putR fp_Md_47 (fun _ => rfl) dd_Md_init_101 hO19 rfl rfl ?_
  refine kv_aload_n dd_Md_init_104 rfl ?_
  refine kv_bipush (v := 10) dd_Md_init_105 (by decide) ?_
  refine kv_newZ 10 wa_bool dd_Md_init_107 (by decide) (by decide) hk20 hs20 ?_
  refine kv_putR fp_Md_50 (fun _ => rfl) dd_Md_init_109 hO21 rfl rfl ?_
  refine kv_aload_n dd_Md_init_112 rfl ?_
  refine kv_bipush (v := 10) dd_Md_init_113 (by decide) ?_
  refine kv_newI 10 wa_int dd_Md_init_115 (by decide) (by decide) hk22 hs22 ?_
  refine kv_putR fp_Md_54 (fun _ => rfl) dd_Md_init_117 hO23 rfl rfl ?_
  refine kv_aload_n dd_Md_init_120 rfl ?_
  refine kv_sipush (v := 15000) dd_Md_init_121 (by decide) ?_
  refine kv_newI 15000 wa_int dd_Md_init_124 (by decide) (by decide) hk24 hs24 ?_
  refine kv_putR fp_Md_57 (fun _ => rfl) dd_Md_init_126 hO25 rfl rfl ?_
  refine kv_aload_n dd_Md_init_129 rfl ?_
  refine kv_sipush (v := 256) dd_Md_init_130 (by decide) ?_
  refine kv_newI 256 wa_int dd_Md_init_133 (by decide) (by decide) hk26 hs26 ?_
  refine kv_putR fp_Md_60 (fun _ => rfl) dd_Md_init_135 hO27 rfl rfl ?_
  refine kv_aload_n dd_Md_init_138 rfl ?_
  refine kv_iconst (v := 1) dd_Md_init_139 (by decide) ?_
  exact kv_callV [.int 1] [] ls_Md_63 hO28 hM dd_Md_init_140 rfl hdp (Nat.le_of_ble_eq_true rfl) hkk hkl (fun v n' S' I' hv => kv_loc [0] rfl (K v n' S' I' hv))
theorem bl_Md_init_143 {d : Nat} {B : kv_B} {Q : kv_Q} {kc ks n : Nat} {S : kv_SM} {I : kv_IM} {a0 : Nat} (hQ : Q (none) n S I) : kv_V y_Md_init d B Q kc ks n S I 143 [(0, .ref a0)] [] := by
  exact kv_end (v := none) hQ ⟨dd_Md_init_143, rfl⟩
theorem bl_Md_layTable_0 {d : Nat} {B : kv_B} {Q : kv_Q} {kc ks n : Nat} {S : kv_SM} {I : kv_IM} {a0 : Nat} {v1 : Int32} (K : kv_V y_Md_layTable d B Q kc ks n S I 4 [(0, .ref a0), (1, .int v1), (2, .int v1), (3, .int 0)] []) : kv_V y_Md_layTable d B Q kc ks n S I 0 [(0, .ref a0), (1, .int v1)] [] := by
  refine kv_iload_n dd_Md_layTable_0 rfl ?_
  refine kv_istore_n (L' := [(2, .int v1), (0, .ref a0), (1, .int v1)]) dd_Md_layTable_1 (by decide) rfl ?_
  refine kv_iconst (v := 0) dd_Md_layTable_2 (by decide) ?_
  refine kv_istore_n (L' := [(3, .int 0), (2, .int v1), (0, .ref a0), (1, .int v1)]) dd_Md_layTable_3 (by decide) rfl ?_
  exact kv_loc [2, 3, 1, 0] rfl K
theorem bl_Md_layTable_4 {d : Nat} {B : kv_B} {Q : kv_Q} {kc ks n : Nat} {S : kv_SM} {I : kv_IM} {a0 : Nat} {v1 : Int32} {v2 : Int32} {v3 : Int32} (Kt : 256 ≤ v3 → kv_V y_Md_layTable d B Q kc ks n S I 37 [(0, .ref a0), (1, .int v1), (2, .int v2), (3, .int v3)] []) (Kf : ¬ 256 ≤ v3 → kv_V y_Md_layTable d B Q kc ks n S I 11 [(0, .ref a0), (1, .int v1), (2, .int v2), (3, .int v3)] []) : kv_V y_Md_layTable d B Q kc ks n S I 4 [(0, .ref a0), (1, .int v1), (2, .int v2), (3, .int v3)] [] := by
  refine kv_iload_n dd_Md_layTable_4 rfl ?_
  refine kv_sipush (v := 256) dd_Md_layTable_5 (by decide) ?_
  exact kv_icmp_ge 37 dd_Md_layTable_8 (by decide) (fun h => kv_loc [0, 1, 2, 3] rfl (Kt h)) (fun h => kv_loc [0, 1, 2, 3] rfl (Kf h))
theorem bl_Md_layTable_11 {d : Nat} {B : kv_B} {Q : kv_Q} {kc ks n : Nat} {S : kv_SM} {I : kv_IM} {a0 : Nat} {v1 : Int32} {v2 : Int32} {v3 : Int32} {r1 : Nat → Option Nat} {q2 : Nat} {m3 : Nat} {j4 : Nat} (hO1 : S a0 = kO 6 r1) (hr2 : r1 3 = some q2) (hA3 : S q2 = kI m3) (hi4 : v3 = nI j4 ∧ j4 < m3 ∧ m3 < 2 ^ 31) (K : kv_V y_Md_layTable d B Q kc ks n S (kv_up I q2 j4 (((v2 * 1664525) + 1013904223) ^^^ ((Int32.toUInt32 ((v2 * 1664525) + 1013904223) >>> (Int32.toUInt32 16 &&& Int32.toUInt32 31)).toInt32))) 4 [(0, .ref a0), (1, .int v1), (2, .int ((v2 * 1664525) + 1013904223)), (3, .int (v3 + 1))] []) : kv_V y_Md_layTable d B Q kc ks n S I 11 [(0, .ref a0), (1, .int v1), (2, .int v2), (3, .int v3)] [] := by
  refine kv_iload_n dd_Md_layTable_11 rfl ?_
  refine kv_ldc wk_Md_70 dd_Md_layTable_12 ?_
  refine kv_imul dd_Md_layTable_14 ?_
  refine kv_ldc wk_Md_71 dd_Md_layTable_15 ?_
  refine kv_iadd dd_Md_layTable_17 ?_
  refine kv_istore_n (L' := [(2, .int ((v2 * 1664525) + 1013904223)), (0, .ref a0), (1, .int v1), (3, .int v3)]) dd_Md_layTable_18 (by decide) rfl ?_
  refine kv_aload_n dd_Md_layTable_19 rfl ?_
  refine kv_getR fl_Md_16 dd_Md_layTable_20 hO1 hr2 ?_
  refine kv_iload_n dd_Md_layTable_23 rfl ?_
  refine kv_iload_n dd_Md_layTable_24 rfl ?_
  refine kv_iload_n dd_Md_layTable_25 rfl ?_
  refine kv_bipush (v := 16) dd_Md_layTable_26 (by decide) ?_
  refine kv_iushr dd_Md_layTable_28 ?_
  refine kv_ixor dd_Md_layTable_29 ?_
  refine kv_iast j4 dd_Md_layTable_30 hA3 hi4.1 hi4.2.1 hi4.2.2 ?_
  refine kv_iinc (v := v3 + 1) (L' := [(3, .int (v3 + 1)), (2, .int ((v2 * 1664525) + 1013904223)), (0, .ref a0), (1, .int v1)]) dd_Md_layTable_31 rfl rfl (by decide) rfl ?_
  refine kv_goto 4 dd_Md_layTable_34 (by decide) ?_
  exact kv_loc [2, 3, 1, 0] rfl K
theorem bl_Md_layTable_37 {d : Nat} {B : kv_B} {Q : kv_Q} {kc ks n : Nat} {S : kv_SM} {I : kv_IM} {a0 : Nat} {v1 : Int32} {v2 : Int32} {v3 : Int32} (hQ : Q (none) n S I) : kv_V y_Md_layTable d B Q kc ks n S I 37 [(0, .ref a0), (1, .int v1), (2, .int v2), (3, .int v3)] [] := by
  exact kv_end (v := none) hQ ⟨dd_Md_layTable_37, rfl⟩
theorem bl_Md_seed_0 {d : Nat} {B : kv_B} {Q : kv_Q} {kc ks n : Nat} {S : kv_SM} {I : kv_IM} {a0 : Nat} {v1 : Int32} {r1 : Nat → Option Nat} {dc kcc ksc : Nat} {Qy : kv_Q} (hO1 : S a0 = kO 6 r1) (hM : kv_T y_Md_layTable dc kcc ksc B [.ref a0, .int v1] n S (kv_up I a0 0 0) Qy) (hdp : dc + 1 ≤ d) (hkk : kcc ≤ kc) (hkl : ksc ≤ ks) (K : ∀ v n' S' I', Qy v n' S' I' → kv_V y_Md_seed d B Q (kc - kcc) (ks - ksc) n' S' I' 10 [(0, .ref a0), (1, .int v1)] (v.toList ++ [])) : kv_V y_Md_seed d B Q kc ks n S I 0 [(0, .ref a0), (1, .int v1)] [] := by
  refine kv_aload_n dd_Md_seed_0 rfl ?_
  refine kv_iconst (v := 0) dd_Md_seed_1 (by decide) ?_
  refine kv_putI fp_Md_67 (fun h => by cases h) dd_Md_seed_2 hO1 rfl rfl ?_
  refine kv_aload_n dd_Md_seed_5 rfl ?_
  refine kv_iload_n dd_Md_seed_6 rfl ?_
  exact kv_callV [.int v1] [] ls_Md_63 hO1 hM dd_Md_seed_7 rfl hdp (Nat.le_of_ble_eq_true rfl) hkk hkl (fun v n' S' I' hv => kv_loc [0, 1] rfl (K v n' S' I' hv))
theorem bl_Md_seed_10 {d : Nat} {B : kv_B} {Q : kv_Q} {kc ks n : Nat} {S : kv_SM} {I : kv_IM} {a0 : Nat} {v1 : Int32} (hQ : Q (some (.int 1)) n S I) : kv_V y_Md_seed d B Q kc ks n S I 10 [(0, .ref a0), (1, .int v1)] [] := by
  refine kv_iconst (v := 1) dd_Md_seed_10 (by decide) ?_
  exact kv_end (v := some (.int 1)) hQ ⟨dd_Md_seed_11, .int, rfl, rfl⟩
theorem bl_Md_rule_0 {d : Nat} {B : kv_B} {Q : kv_Q} {kc ks n : Nat} {S : kv_SM} {I : kv_IM} {a0 : Nat} {v1 : Int32} {v2 : Int32} {v3 : Int32} {v4 : Int32} {v5 : Int32} {v6 : Int32} {r1 : Nat → Option Nat} {dc kcc ksc : Nat} {Qy : kv_Q} (hO1 : S a0 = kO 6 r1) (hM : kv_T y_Md_in dc kcc ksc B [.int v1, .int 0, .int 3] n S (kv_up I a0 0 0) Qy) (hdp : dc + 1 ≤ d) (hkk : kcc ≤ kc) (hkl : ksc ≤ ks) (K : ∀ v n' S' I', Qy v n' S' I' → kv_V y_Md_rule d B Q (kc - kcc) (ks - ksc) n' S' I' 11 [(0, .ref a0), (1, .int v1), (2, .int v2), (3, .int v3), (4, .int v4), (5, .int v5), (6, .int v6)] (v.toList ++ [])) : kv_V y_Md_rule d B Q kc ks n S I 0 [(0, .ref a0), (1, .int v1), (2, .int v2), (3, .int v3), (4, .int v4), (5, .int v5), (6, .int v6)] [] := by
  refine kv_aload_n dd_Md_rule_0 rfl ?_
  refine kv_iconst (v := 0) dd_Md_rule_1 (by decide) ?_
  refine kv_putI fp_Md_67 (fun h => by cases h) dd_Md_rule_2 hO1 rfl rfl ?_
  refine kv_iload_n dd_Md_rule_5 rfl ?_
  refine kv_iconst (v := 0) dd_Md_rule_6 (by decide) ?_
  refine kv_iconst (v := 3) dd_Md_rule_7 (by decide) ?_
  exact kv_callS [.int v1, .int 0, .int 3] [] ls_Md_72 hM dd_Md_rule_8 rfl hdp (Nat.le_of_ble_eq_true rfl) hkk hkl (fun v n' S' I' hv => kv_loc [0, 1, 2, 3, 4, 5, 6] rfl (K v n' S' I' hv))
theorem bl_Md_rule_11 {d : Nat} {B : kv_B} {Q : kv_Q} {kc ks n : Nat} {S : kv_SM} {I : kv_IM} {a0 : Nat} {v1 : Int32} {v2 : Int32} {v3 : Int32} {v4 : Int32} {v5 : Int32} {v6 : Int32} {t0 : Int32} (Kt : t0 = 0 → kv_V y_Md_rule d B Q kc ks n S I 69 [(0, .ref a0), (1, .int v1), (2, .int v2), (3, .int v3), (4, .int v4), (5, .int v5), (6, .int v6)] []) (Kf : ¬ t0 = 0 → kv_V y_Md_rule d B Q kc ks n S I 14 [(0, .ref a0), (1, .int v1), (2, .int v2), (3, .int v3), (4, .int v4), (5, .int v5), (6, .int v6)] []) : kv_V y_Md_rule d B Q kc ks n S I 11 [(0, .ref a0), (1, .int v1), (2, .int v2), (3, .int v3), (4, .int v4), (5, .int v5), (6, .int v6)] [.int t0] := by
  exact kv_if_eq 69 dd_Md_rule_11 (by decide) (fun h => kv_loc [0, 1, 2, 3, 4, 5, 6] rfl (Kt h)) (fun h => kv_loc [0, 1, 2, 3, 4, 5, 6] rfl (Kf h))
theorem bl_Md_rule_14 {d : Nat} {B : kv_B} {Q : kv_Q} {kc ks n : Nat} {S : kv_SM} {I : kv_IM} {a0 : Nat} {v1 : Int32} {v2 : Int32} {v3 : Int32} {v4 : Int32} {v5 : Int32} {v6 : Int32} {dc kcc ksc : Nat} {Qy : kv_Q} (hM : kv_T y_Md_in dc kcc ksc B [.int v2, .int 1, .int 200] n S I Qy) (hdp : dc + 1 ≤ d) (hkk : kcc ≤ kc) (hkl : ksc ≤ ks) (K : ∀ v n' S' I', Qy v n' S' I' → kv_V y_Md_rule d B Q (kc - kcc) (ks - ksc) n' S' I' 22 [(0, .ref a0), (1, .int v1), (2, .int v2), (3, .int v3), (4, .int v4), (5, .int v5), (6, .int v6)] (v.toList ++ [])) : kv_V y_Md_rule d B Q kc ks n S I 14 [(0, .ref a0), (1, .int v1), (2, .int v2), (3, .int v3), (4, .int v4), (5, .int v5), (6, .int v6)] [] := by
  refine kv_iload_n dd_Md_rule_14 rfl ?_
  refine kv_iconst (v := 1) dd_Md_rule_15 (by decide) ?_
  refine kv_sipush (v := 200) dd_Md_rule_16 (by decide) ?_
  exact kv_callS [.int v2, .int 1, .int 200] [] ls_Md_72 hM dd_Md_rule_19 rfl hdp (Nat.le_of_ble_eq_true rfl) hkk hkl (fun v n' S' I' hv => kv_loc [0, 1, 2, 3, 4, 5, 6] rfl (K v n' S' I' hv))
theorem bl_Md_rule_22 {d : Nat} {B : kv_B} {Q : kv_Q} {kc ks n : Nat} {S : kv_SM} {I : kv_IM} {a0 : Nat} {v1 : Int32} {v2 : Int32} {v3 : Int32} {v4 : Int32} {v5 : Int32} {v6 : Int32} {t0 : Int32} (Kt : t0 = 0 → kv_V y_Md_rule d B Q kc ks n S I 69 [(0, .ref a0), (1, .int v1), (2, .int v2), (3, .int v3), (4, .int v4), (5, .int v5), (6, .int v6)] []) (Kf : ¬ t0 = 0 → kv_V y_Md_rule d B Q kc ks n S I 25 [(0, .ref a0), (1, .int v1), (2, .int v2), (3, .int v3), (4, .int v4), (5, .int v5), (6, .int v6)] []) : kv_V y_Md_rule d B Q kc ks n S I 22 [(0, .ref a0), (1, .int v1), (2, .int v2), (3, .int v3), (4, .int v4), (5, .int v5), (6, .int v6)] [.int t0] := by
  exact kv_if_eq 69 dd_Md_rule_22 (by decide) (fun h => kv_loc [0, 1, 2, 3, 4, 5, 6] rfl (Kt h)) (fun h => kv_loc [0, 1, 2, 3, 4, 5, 6] rfl (Kf h))
theorem bl_Md_rule_25 {d : Nat} {B : kv_B} {Q : kv_Q} {kc ks n : Nat} {S : kv_SM} {I : kv_IM} {a0 : Nat} {v1 : Int32} {v2 : Int32} {v3 : Int32} {v4 : Int32} {v5 : Int32} {v6 : Int32} {dc kcc ksc : Nat} {Qy : kv_Q} (hM : kv_T y_Md_in dc kcc ksc B [.int v3, .int v2, .int 600] n S I Qy) (hdp : dc + 1 ≤ d) (hkk : kcc ≤ kc) (hkl : ksc ≤ ks) (K : ∀ v n' S' I', Qy v n' S' I' → kv_V y_Md_rule d B Q (kc - kcc) (ks - ksc) n' S' I' 33 [(0, .ref a0), (1, .int v1), (2, .int v2), (3, .int v3), (4, .int v4), (5, .int v5), (6, .int v6)] (v.toList ++ [])) : kv_V y_Md_rule d B Q kc ks n S I 25 [(0, .ref a0), (1, .int v1), (2, .int v2), (3, .int v3), (4, .int v4), (5, .int v5), (6, .int v6)] [] := by
  refine kv_iload_n dd_Md_rule_25 rfl ?_
  refine kv_iload_n dd_Md_rule_26 rfl ?_
  refine kv_sipush (v := 600) dd_Md_rule_27 (by decide) ?_
  exact kv_callS [.int v3, .int v2, .int 600] [] ls_Md_72 hM dd_Md_rule_30 rfl hdp (Nat.le_of_ble_eq_true rfl) hkk hkl (fun v n' S' I' hv => kv_loc [0, 1, 2, 3, 4, 5, 6] rfl (K v n' S' I' hv))
theorem bl_Md_rule_33 {d : Nat} {B : kv_B} {Q : kv_Q} {kc ks n : Nat} {S : kv_SM} {I : kv_IM} {a0 : Nat} {v1 : Int32} {v2 : Int32} {v3 : Int32} {v4 : Int32} {v5 : Int32} {v6 : Int32} {t0 : Int32} (Kt : t0 = 0 → kv_V y_Md_rule d B Q kc ks n S I 69 [(0, .ref a0), (1, .int v1), (2, .int v2), (3, .int v3), (4, .int v4), (5, .int v5), (6, .int v6)] []) (Kf : ¬ t0 = 0 → kv_V y_Md_rule d B Q kc ks n S I 36 [(0, .ref a0), (1, .int v1), (2, .int v2), (3, .int v3), (4, .int v4), (5, .int v5), (6, .int v6)] []) : kv_V y_Md_rule d B Q kc ks n S I 33 [(0, .ref a0), (1, .int v1), (2, .int v2), (3, .int v3), (4, .int v4), (5, .int v5), (6, .int v6)] [.int t0] := by
  exact kv_if_eq 69 dd_Md_rule_33 (by decide) (fun h => kv_loc [0, 1, 2, 3, 4, 5, 6] rfl (Kt h)) (fun h => kv_loc [0, 1, 2, 3, 4, 5, 6] rfl (Kf h))
theorem bl_Md_rule_36 {d : Nat} {B : kv_B} {Q : kv_Q} {kc ks n : Nat} {S : kv_SM} {I : kv_IM} {a0 : Nat} {v1 : Int32} {v2 : Int32} {v3 : Int32} {v4 : Int32} {v5 : Int32} {v6 : Int32} {dc kcc ksc : Nat} {Qy : kv_Q} (hM : kv_T y_Md_in dc kcc ksc B [.int v4, .int 1, .int 9] n S I Qy) (hdp : dc + 1 ≤ d) (hkk : kcc ≤ kc) (hkl : ksc ≤ ks) (K : ∀ v n' S' I', Qy v n' S' I' → kv_V y_Md_rule d B Q (kc - kcc) (ks - ksc) n' S' I' 44 [(0, .ref a0), (1, .int v1), (2, .int v2), (3, .int v3), (4, .int v4), (5, .int v5), (6, .int v6)] (v.toList ++ [])) : kv_V y_Md_rule d B Q kc ks n S I 36 [(0, .ref a0), (1, .int v1), (2, .int v2), (3, .int v3), (4, .int v4), (5, .int v5), (6, .int v6)] [] := by
  refine kv_iload dd_Md_rule_36 rfl ?_
  refine kv_iconst (v := 1) dd_Md_rule_38 (by decide) ?_
  refine kv_bipush (v := 9) dd_Md_rule_39 (by decide) ?_
  exact kv_callS [.int v4, .int 1, .int 9] [] ls_Md_72 hM dd_Md_rule_41 rfl hdp (Nat.le_of_ble_eq_true rfl) hkk hkl (fun v n' S' I' hv => kv_loc [0, 1, 2, 3, 4, 5, 6] rfl (K v n' S' I' hv))
theorem bl_Md_rule_44 {d : Nat} {B : kv_B} {Q : kv_Q} {kc ks n : Nat} {S : kv_SM} {I : kv_IM} {a0 : Nat} {v1 : Int32} {v2 : Int32} {v3 : Int32} {v4 : Int32} {v5 : Int32} {v6 : Int32} {t0 : Int32} (Kt : t0 = 0 → kv_V y_Md_rule d B Q kc ks n S I 69 [(0, .ref a0), (1, .int v1), (2, .int v2), (3, .int v3), (4, .int v4), (5, .int v5), (6, .int v6)] []) (Kf : ¬ t0 = 0 → kv_V y_Md_rule d B Q kc ks n S I 47 [(0, .ref a0), (1, .int v1), (2, .int v2), (3, .int v3), (4, .int v4), (5, .int v5), (6, .int v6)] []) : kv_V y_Md_rule d B Q kc ks n S I 44 [(0, .ref a0), (1, .int v1), (2, .int v2), (3, .int v3), (4, .int v4), (5, .int v5), (6, .int v6)] [.int t0] := by
  exact kv_if_eq 69 dd_Md_rule_44 (by decide) (fun h => kv_loc [0, 1, 2, 3, 4, 5, 6] rfl (Kt h)) (fun h => kv_loc [0, 1, 2, 3, 4, 5, 6] rfl (Kf h))
theorem bl_Md_rule_47 {d : Nat} {B : kv_B} {Q : kv_Q} {kc ks n : Nat} {S : kv_SM} {I : kv_IM} {a0 : Nat} {v1 : Int32} {v2 : Int32} {v3 : Int32} {v4 : Int32} {v5 : Int32} {v6 : Int32} {dc kcc ksc : Nat} {Qy : kv_Q} (hM : kv_T y_Md_in dc kcc ksc B [.int v5, .int 0, .int v4] n S I Qy) (hdp : dc + 1 ≤ d) (hkk : kcc ≤ kc) (hkl : ksc ≤ ks) (K : ∀ v n' S' I', Qy v n' S' I' → kv_V y_Md_rule d B Q (kc - kcc) (ks - ksc) n' S' I' 55 [(0, .ref a0), (1, .int v1), (2, .int v2), (3, .int v3), (4, .int v4), (5, .int v5), (6, .int v6)] (v.toList ++ [])) : kv_V y_Md_rule d B Q kc ks n S I 47 [(0, .ref a0), (1, .int v1), (2, .int v2), (3, .int v3), (4, .int v4), (5, .int v5), (6, .int v6)] [] := by
  refine kv_iload dd_Md_rule_47 rfl ?_
  refine kv_iconst (v := 0) dd_Md_rule_49 (by decide) ?_
  refine kv_iload dd_Md_rule_50 rfl ?_
  exact kv_callS [.int v5, .int 0, .int v4] [] ls_Md_72 hM dd_Md_rule_52 rfl hdp (Nat.le_of_ble_eq_true rfl) hkk hkl (fun v n' S' I' hv => kv_loc [0, 1, 2, 3, 4, 5, 6] rfl (K v n' S' I' hv))
theorem bl_Md_rule_55 {d : Nat} {B : kv_B} {Q : kv_Q} {kc ks n : Nat} {S : kv_SM} {I : kv_IM} {a0 : Nat} {v1 : Int32} {v2 : Int32} {v3 : Int32} {v4 : Int32} {v5 : Int32} {v6 : Int32} {t0 : Int32} (Kt : t0 = 0 → kv_V y_Md_rule d B Q kc ks n S I 69 [(0, .ref a0), (1, .int v1), (2, .int v2), (3, .int v3), (4, .int v4), (5, .int v5), (6, .int v6)] []) (Kf : ¬ t0 = 0 → kv_V y_Md_rule d B Q kc ks n S I 58 [(0, .ref a0), (1, .int v1), (2, .int v2), (3, .int v3), (4, .int v4), (5, .int v5), (6, .int v6)] []) : kv_V y_Md_rule d B Q kc ks n S I 55 [(0, .ref a0), (1, .int v1), (2, .int v2), (3, .int v3), (4, .int v4), (5, .int v5), (6, .int v6)] [.int t0] := by
  exact kv_if_eq 69 dd_Md_rule_55 (by decide) (fun h => kv_loc [0, 1, 2, 3, 4, 5, 6] rfl (Kt h)) (fun h => kv_loc [0, 1, 2, 3, 4, 5, 6] rfl (Kf h))
theorem bl_Md_rule_58 {d : Nat} {B : kv_B} {Q : kv_Q} {kc ks n : Nat} {S : kv_SM} {I : kv_IM} {a0 : Nat} {v1 : Int32} {v2 : Int32} {v3 : Int32} {v4 : Int32} {v5 : Int32} {v6 : Int32} {dc kcc ksc : Nat} {Qy : kv_Q} (hM : kv_T y_Md_in dc kcc ksc B [.int v6, .int 1, .int 16] n S I Qy) (hdp : dc + 1 ≤ d) (hkk : kcc ≤ kc) (hkl : ksc ≤ ks) (K : ∀ v n' S' I', Qy v n' S' I' → kv_V y_Md_rule d B Q (kc - kcc) (ks - ksc) n' S' I' 66 [(0, .ref a0), (1, .int v1), (2, .int v2), (3, .int v3), (4, .int v4), (5, .int v5), (6, .int v6)] (v.toList ++ [])) : kv_V y_Md_rule d B Q kc ks n S I 58 [(0, .ref a0), (1, .int v1), (2, .int v2), (3, .int v3), (4, .int v4), (5, .int v5), (6, .int v6)] [] := by
  refine kv_iload dd_Md_rule_58 rfl ?_
  refine kv_iconst (v := 1) dd_Md_rule_60 (by decide) ?_
  refine kv_bipush (v := 16) dd_Md_rule_61 (by decide) ?_
  exact kv_callS [.int v6, .int 1, .int 16] [] ls_Md_72 hM dd_Md_rule_63 rfl hdp (Nat.le_of_ble_eq_true rfl) hkk hkl (fun v n' S' I' hv => kv_loc [0, 1, 2, 3, 4, 5, 6] rfl (K v n' S' I' hv))
theorem bl_Md_rule_66 {d : Nat} {B : kv_B} {Q : kv_Q} {kc ks n : Nat} {S : kv_SM} {I : kv_IM} {a0 : Nat} {v1 : Int32} {v2 : Int32} {v3 : Int32} {v4 : Int32} {v5 : Int32} {v6 : Int32} {t0 : Int32} (Kt : ¬ t0 = 0 → kv_V y_Md_rule d B Q kc ks n S I 71 [(0, .ref a0), (1, .int v1), (2, .int v2), (3, .int v3), (4, .int v4), (5, .int v5), (6, .int v6)] []) (Kf : t0 = 0 → kv_V y_Md_rule d B Q kc ks n S I 69 [(0, .ref a0), (1, .int v1), (2, .int v2), (3, .int v3), (4, .int v4), (5, .int v5), (6, .int v6)] []) : kv_V y_Md_rule d B Q kc ks n S I 66 [(0, .ref a0), (1, .int v1), (2, .int v2), (3, .int v3), (4, .int v4), (5, .int v5), (6, .int v6)] [.int t0] := by
  exact kv_if_ne 71 dd_Md_rule_66 (by decide) (fun h => kv_loc [0, 1, 2, 3, 4, 5, 6] rfl (Kt h)) (fun h => kv_loc [0, 1, 2, 3, 4, 5, 6] rfl (Kf h))
theorem bl_Md_rule_69 {d : Nat} {B : kv_B} {Q : kv_Q} {kc ks n : Nat} {S : kv_SM} {I : kv_IM} {a0 : Nat} {v1 : Int32} {v2 : Int32} {v3 : Int32} {v4 : Int32} {v5 : Int32} {v6 : Int32} (hQ : Q (some (.int ((-1)))) n S I) : kv_V y_Md_rule d B Q kc ks n S I 69 [(0, .ref a0), (1, .int v1), (2, .int v2), (3, .int v3), (4, .int v4), (5, .int v5), (6, .int v6)] [] := by
  refine kv_iconst (v := (-1)) dd_Md_rule_69 (by decide) ?_
  exact kv_end (v := some (.int ((-1)))) hQ ⟨dd_Md_rule_70, .int, rfl, rfl⟩
theorem bl_Md_rule_71 {d : Nat} {B : kv_B} {Q : kv_Q} {kc ks n : Nat} {S : kv_SM} {I : kv_IM} {a0 : Nat} {v1 : Int32} {v2 : Int32} {v3 : Int32} {v4 : Int32} {v5 : Int32} {v6 : Int32} (hz1 : ¬ v6 = 0) (Kt : (v3 - (v3 - v3 / v6 * v6)) < v2 → kv_V y_Md_rule d B Q kc ks n S I 90 [(0, .ref a0), (1, .int v1), (2, .int v2), (3, .int v3), (4, .int v4), (5, .int v5), (6, .int v6), (7, .int (v3 - (v3 - v3 / v6 * v6)))] []) (Kf : ¬ (v3 - (v3 - v3 / v6 * v6)) < v2 → kv_V y_Md_rule d B Q kc ks n S I 85 [(0, .ref a0), (1, .int v1), (2, .int v2), (3, .int v3), (4, .int v4), (5, .int v5), (6, .int v6), (7, .int (v3 - (v3 - v3 / v6 * v6)))] []) : kv_V y_Md_rule d B Q kc ks n S I 71 [(0, .ref a0), (1, .int v1), (2, .int v2), (3, .int v3), (4, .int v4), (5, .int v5), (6, .int v6)] [] := by
  refine kv_iload_n dd_Md_rule_71 rfl ?_
  refine kv_iload_n dd_Md_rule_72 rfl ?_
  refine kv_iload dd_Md_rule_73 rfl ?_
  refine kv_irem dd_Md_rule_75 hz1 ?_
  refine kv_isub dd_Md_rule_76 ?_
  refine kv_istore (L' := [(7, .int (v3 - (v3 - v3 / v6 * v6))), (0, .ref a0), (1, .int v1), (2, .int v2), (3, .int v3), (4, .int v4), (5, .int v5), (6, .int v6)]) dd_Md_rule_77 (by decide) rfl ?_
  refine kv_iload dd_Md_rule_79 rfl ?_
  refine kv_iload_n dd_Md_rule_81 rfl ?_
  exact kv_icmp_lt 90 dd_Md_rule_82 (by decide) (fun h => kv_loc [1, 2, 3, 4, 5, 6, 7, 0] rfl (Kt h)) (fun h => kv_loc [1, 2, 3, 4, 5, 6, 7, 0] rfl (Kf h))
theorem bl_Md_rule_85 {d : Nat} {B : kv_B} {Q : kv_Q} {kc ks n : Nat} {S : kv_SM} {I : kv_IM} {a0 : Nat} {v1 : Int32} {v2 : Int32} {v3 : Int32} {v4 : Int32} {v5 : Int32} {v6 : Int32} {v7 : Int32} (Kt : ¬ v7 = 0 → kv_V y_Md_rule d B Q kc ks n S I 92 [(0, .ref a0), (1, .int v1), (2, .int v2), (3, .int v3), (4, .int v4), (5, .int v5), (6, .int v6), (7, .int v7)] []) (Kf : v7 = 0 → kv_V y_Md_rule d B Q kc ks n S I 90 [(0, .ref a0), (1, .int v1), (2, .int v2), (3, .int v3), (4, .int v4), (5, .int v5), (6, .int v6), (7, .int v7)] []) : kv_V y_Md_rule d B Q kc ks n S I 85 [(0, .ref a0), (1, .int v1), (2, .int v2), (3, .int v3), (4, .int v4), (5, .int v5), (6, .int v6), (7, .int v7)] [] := by
  refine kv_iload dd_Md_rule_85 rfl ?_
  exact kv_if_ne 92 dd_Md_rule_87 (by decide) (fun h => kv_loc [0, 1, 2, 3, 4, 5, 6, 7] rfl (Kt h)) (fun h => kv_loc [0, 1, 2, 3, 4, 5, 6, 7] rfl (Kf h))
theorem bl_Md_rule_90 {d : Nat} {B : kv_B} {Q : kv_Q} {kc ks n : Nat} {S : kv_SM} {I : kv_IM} {a0 : Nat} {v1 : Int32} {v2 : Int32} {v3 : Int32} {v4 : Int32} {v5 : Int32} {v6 : Int32} {v7 : Int32} (hQ : Q (some (.int ((-1)))) n S I) : kv_V y_Md_rule d B Q kc ks n S I 90 [(0, .ref a0), (1, .int v1), (2, .int v2), (3, .int v3), (4, .int v4), (5, .int v5), (6, .int v6), (7, .int v7)] [] := by
  refine kv_iconst (v := (-1)) dd_Md_rule_90 (by decide) ?_
  exact kv_end (v := some (.int ((-1)))) hQ ⟨dd_Md_rule_91, .int, rfl, rfl⟩
theorem bl_Md_rule_92 {d : Nat} {B : kv_B} {Q : kv_Q} {kc ks n : Nat} {S : kv_SM} {I : kv_IM} {a0 : Nat} {v1 : Int32} {v2 : Int32} {v3 : Int32} {v4 : Int32} {v5 : Int32} {v6 : Int32} {v7 : Int32} {r1 : Nat → Option Nat} (hO1 : S a0 = kO 6 r1) (hQ : Q (some (.int 1)) n S (kv_up (kv_up (kv_up (kv_up (kv_up (kv_up I a0 4 v1) a0 5 v2) a0 6 v3) a0 7 v4) a0 8 v5) a0 9 v6)) : kv_V y_Md_rule d B Q kc ks n S I 92 [(0, .ref a0), (1, .int v1), (2, .int v2), (3, .int v3), (4, .int v4), (5, .int v5), (6, .int v6), (7, .int v7)] [] := by
  refine kv_aload_n dd_Md_rule_92 rfl ?_
  refine kv_iload_n dd_Md_rule_93 rfl ?_
  refine kv_putI fp_Md_76 (fun h => by cases h) dd_Md_rule_94 hO1 rfl rfl ?_
  refine kv_aload_n dd_Md_rule_97 rfl ?_
  refine kv_iload_n dd_Md_rule_98 rfl ?_
  refine kv_putI fp_Md_19 (fun h => by cases h) dd_Md_rule_99 hO1 rfl rfl ?_
  refine kv_aload_n dd_Md_rule_102 rfl ?_
  refine kv_iload_n dd_Md_rule_103 rfl ?_
  refine kv_putI fp_Md_23 (fun h => by cases h) dd_Md_rule_104 hO1 rfl rfl ?_
  refine kv_aload_n dd_Md_rule_107 rfl ?_
  refine kv_iload dd_Md_rule_108 rfl ?_
  refine kv_putI fp_Md_26 (fun h => by cases h) dd_Md_rule_110 hO1 rfl rfl ?_
  refine kv_aload_n dd_Md_rule_113 rfl ?_
  refine kv_iload dd_Md_rule_114 rfl ?_
  refine kv_putI fp_Md_79 (fun h => by cases h) dd_Md_rule_116 hO1 rfl rfl ?_
  refine kv_aload_n dd_Md_rule_119 rfl ?_
  refine kv_iload dd_Md_rule_120 rfl ?_
  refine kv_putI fp_Md_29 (fun h => by cases h) dd_Md_rule_122 hO1 rfl rfl ?_
  refine kv_iconst (v := 1) dd_Md_rule_125 (by decide) ?_
  exact kv_end (v := some (.int 1)) hQ ⟨dd_Md_rule_126, .int, rfl, rfl⟩
theorem bl_Md_in_0 {d : Nat} {B : kv_B} {Q : kv_Q} {kc ks n : Nat} {S : kv_SM} {I : kv_IM} {v0 : Int32} {v1 : Int32} {v2 : Int32} (Kt : v0 < v1 → kv_V y_Md_in d B Q kc ks n S I 14 [(0, .int v0), (1, .int v1), (2, .int v2)] []) (Kf : ¬ v0 < v1 → kv_V y_Md_in d B Q kc ks n S I 5 [(0, .int v0), (1, .int v1), (2, .int v2)] []) : kv_V y_Md_in d B Q kc ks n S I 0 [(0, .int v0), (1, .int v1), (2, .int v2)] [] := by
  refine kv_iload_n dd_Md_in_0 rfl ?_
  refine kv_iload_n dd_Md_in_1 rfl ?_
  exact kv_icmp_lt 14 dd_Md_in_2 (by decide) (fun h => kv_loc [0, 1, 2] rfl (Kt h)) (fun h => kv_loc [0, 1, 2] rfl (Kf h))
theorem bl_Md_in_5 {d : Nat} {B : kv_B} {Q : kv_Q} {kc ks n : Nat} {S : kv_SM} {I : kv_IM} {v0 : Int32} {v1 : Int32} {v2 : Int32} (Kt : v2 < v0 → kv_V y_Md_in d B Q kc ks n S I 14 [(0, .int v0), (1, .int v1), (2, .int v2)] []) (Kf : ¬ v2 < v0 → kv_V y_Md_in d B Q kc ks n S I 10 [(0, .int v0), (1, .int v1), (2, .int v2)] []) : kv_V y_Md_in d B Q kc ks n S I 5 [(0, .int v0), (1, .int v1), (2, .int v2)] [] := by
  refine kv_iload_n dd_Md_in_5 rfl ?_
  refine kv_iload_n dd_Md_in_6 rfl ?_
  exact kv_icmp_gt 14 dd_Md_in_7 (by decide) (fun h => kv_loc [0, 1, 2] rfl (Kt h)) (fun h => kv_loc [0, 1, 2] rfl (Kf h))
theorem bl_Md_in_10 {d : Nat} {B : kv_B} {Q : kv_Q} {kc ks n : Nat} {S : kv_SM} {I : kv_IM} {v0 : Int32} {v1 : Int32} {v2 : Int32} (K : kv_V y_Md_in d B Q kc ks n S I 15 [(0, .int v0), (1, .int v1), (2, .int v2)] [.int 1]) : kv_V y_Md_in d B Q kc ks n S I 10 [(0, .int v0), (1, .int v1), (2, .int v2)] [] := by
  refine kv_iconst (v := 1) dd_Md_in_10 (by decide) ?_
  refine kv_goto 15 dd_Md_in_11 (by decide) ?_
  exact kv_loc [0, 1, 2] rfl K
theorem bl_Md_in_14 {d : Nat} {B : kv_B} {Q : kv_Q} {kc ks n : Nat} {S : kv_SM} {I : kv_IM} {v0 : Int32} {v1 : Int32} {v2 : Int32} (K : kv_V y_Md_in d B Q kc ks n S I 15 [(0, .int v0), (1, .int v1), (2, .int v2)] [.int 0]) : kv_V y_Md_in d B Q kc ks n S I 14 [(0, .int v0), (1, .int v1), (2, .int v2)] [] := by
  refine kv_iconst (v := 0) dd_Md_in_14 (by decide) ?_
  exact kv_loc [0, 1, 2] rfl K
theorem bl_Md_in_15 {d : Nat} {B : kv_B} {Q : kv_Q} {kc ks n : Nat} {S : kv_SM} {I : kv_IM} {v0 : Int32} {v1 : Int32} {v2 : Int32} {t0 : Int32} (hb : narrow .boolean (.int t0) = .int t0) (hQ : Q (some (.int t0)) n S I) : kv_V y_Md_in d B Q kc ks n S I 15 [(0, .int v0), (1, .int v1), (2, .int v2)] [.int t0] := by
  exact kv_end (v := some (.int t0)) hQ ⟨dd_Md_in_15, .boolean, rfl, hb⟩
theorem bl_Md_add_0 {d : Nat} {B : kv_B} {Q : kv_Q} {kc ks n : Nat} {S : kv_SM} {I : kv_IM} {a0 : Nat} {v1 : Int32} {v2 : Int32} {r1 : Nat → Option Nat} {dc kcc ksc : Nat} {Qy : kv_Q} (hO1 : S a0 = kO 6 r1) (hM : kv_T y_Md_isText dc kcc ksc B [.int v1] n S (kv_up I a0 0 0) Qy) (hdp : dc + 1 ≤ d) (hkk : kcc ≤ kc) (hkl : ksc ≤ ks) (K : ∀ v n' S' I', Qy v n' S' I' → kv_V y_Md_add d B Q (kc - kcc) (ks - ksc) n' S' I' 11 [(0, .ref a0), (1, .int v1), (2, .int v2)] (v.toList ++ [.int v1, .ref a0])) : kv_V y_Md_add d B Q kc ks n S I 0 [(0, .ref a0), (1, .int v1), (2, .int v2)] [] := by
  refine kv_aload_n dd_Md_add_0 rfl ?_
  refine kv_iconst (v := 0) dd_Md_add_1 (by decide) ?_
  refine kv_putI fp_Md_67 (fun h => by cases h) dd_Md_add_2 hO1 rfl rfl ?_
  refine kv_aload_n dd_Md_add_5 rfl ?_
  refine kv_iload_n dd_Md_add_6 rfl ?_
  refine kv_iload_n dd_Md_add_7 rfl ?_
  exact kv_callS [.int v1] [.int v1, .ref a0] ls_Md_82 hM dd_Md_add_8 rfl hdp (Nat.le_of_ble_eq_true rfl) hkk hkl (fun v n' S' I' hv => kv_loc [0, 1, 2] rfl (K v n' S' I' hv))
theorem bl_Md_add_11 {d : Nat} {B : kv_B} {Q : kv_Q} {kc ks n : Nat} {S : kv_SM} {I : kv_IM} {a0 : Nat} {v1 : Int32} {v2 : Int32} {t0 : Int32} {t1 : Int32} {t2 : Nat} (Kt : t0 = 0 → kv_V y_Md_add d B Q kc ks n S I 23 [(0, .ref a0), (1, .int v1), (2, .int v2)] [.int t1, .ref t2]) (Kf : ¬ t0 = 0 → kv_V y_Md_add d B Q kc ks n S I 14 [(0, .ref a0), (1, .int v1), (2, .int v2)] [.int t1, .ref t2]) : kv_V y_Md_add d B Q kc ks n S I 11 [(0, .ref a0), (1, .int v1), (2, .int v2)] [.int t0, .int t1, .ref t2] := by
  exact kv_if_eq 23 dd_Md_add_11 (by decide) (fun h => kv_loc [0, 1, 2] rfl (Kt h)) (fun h => kv_loc [0, 1, 2] rfl (Kf h))
theorem bl_Md_add_14 {d : Nat} {B : kv_B} {Q : kv_Q} {kc ks n : Nat} {S : kv_SM} {I : kv_IM} {a0 : Nat} {v1 : Int32} {v2 : Int32} {t0 : Int32} {t1 : Nat} {r1 : Nat → Option Nat} {q2 : Nat} {m3 : Nat} {j4 : Nat} (hO1 : S a0 = kO 6 r1) (hr2 : r1 2 = some q2) (hA3 : S q2 = kI m3) (hi4 : v1 = nI j4 ∧ j4 < m3 ∧ m3 < 2 ^ 31) (K : kv_V y_Md_add d B Q kc ks n S I 24 [(0, .ref a0), (1, .int v1), (2, .int v2)] [.int (I q2 j4), .int t0, .ref t1]) : kv_V y_Md_add d B Q kc ks n S I 14 [(0, .ref a0), (1, .int v1), (2, .int v2)] [.int t0, .ref t1] := by
  refine kv_aload_n dd_Md_add_14 rfl ?_
  refine kv_getR fl_Md_13 dd_Md_add_15 hO1 hr2 ?_
  refine kv_iload_n dd_Md_add_18 rfl ?_
  refine kv_iald j4 dd_Md_add_19 hA3 hi4.1 hi4.2.1 hi4.2.2 ?_
  refine kv_goto 24 dd_Md_add_20 (by decide) ?_
  exact kv_loc [0, 1, 2] rfl K
theorem bl_Md_add_23 {d : Nat} {B : kv_B} {Q : kv_Q} {kc ks n : Nat} {S : kv_SM} {I : kv_IM} {a0 : Nat} {v1 : Int32} {v2 : Int32} {t0 : Int32} {t1 : Nat} (K : kv_V y_Md_add d B Q kc ks n S I 24 [(0, .ref a0), (1, .int v1), (2, .int v2)] [.int 0, .int t0, .ref t1]) : kv_V y_Md_add d B Q kc ks n S I 23 [(0, .ref a0), (1, .int v1), (2, .int v2)] [.int t0, .ref t1] := by
  refine kv_iconst (v := 0) dd_Md_add_23 (by decide) ?_
  exact kv_loc [0, 1, 2] rfl K
theorem bl_Md_add_24 {d : Nat} {B : kv_B} {Q : kv_Q} {kc ks n : Nat} {S : kv_SM} {I : kv_IM} {a0 : Nat} {v1 : Int32} {v2 : Int32} {t0 : Int32} {t1 : Int32} {t2 : Nat} {dc kcc ksc : Nat} {Qy : kv_Q} {r1 : Nat → Option Nat} (hO1 : S t2 = kO 6 r1) (hM : kv_T y_Md_insertAt dc kcc ksc B [.ref t2, .int t1, .int t0, .int v2] n S I Qy) (hdp : dc + 1 ≤ d) (hkk : kcc ≤ kc) (hkl : ksc ≤ ks) (K : ∀ v n' S' I', Qy v n' S' I' → kv_V y_Md_add d B Q (kc - kcc) (ks - ksc) n' S' I' 28 [(0, .ref a0), (1, .int v1), (2, .int v2)] (v.toList ++ [])) : kv_V y_Md_add d B Q kc ks n S I 24 [(0, .ref a0), (1, .int v1), (2, .int v2)] [.int t0, .int t1, .ref t2] := by
  refine kv_iload_n dd_Md_add_24 rfl ?_
  exact kv_callV [.int t1, .int t0, .int v2] [] ls_Md_86 hO1 hM dd_Md_add_25 rfl hdp (Nat.le_of_ble_eq_true rfl) hkk hkl (fun v n' S' I' hv => kv_loc [0, 1, 2] rfl (K v n' S' I' hv))
theorem bl_Md_add_28 {d : Nat} {B : kv_B} {Q : kv_Q} {kc ks n : Nat} {S : kv_SM} {I : kv_IM} {a0 : Nat} {v1 : Int32} {v2 : Int32} {t0 : Int32} (hQ : Q (some (.int t0)) n S I) : kv_V y_Md_add d B Q kc ks n S I 28 [(0, .ref a0), (1, .int v1), (2, .int v2)] [.int t0] := by
  exact kv_end (v := some (.int t0)) hQ ⟨dd_Md_add_28, .int, rfl, rfl⟩
theorem bl_Md_isText_0 {d : Nat} {B : kv_B} {Q : kv_Q} {kc ks n : Nat} {S : kv_SM} {I : kv_IM} {v0 : Int32} {dc kcc ksc : Nat} {Qy : kv_Q} (hM : kv_T y_Md_in dc kcc ksc B [.int v0, .int 0, .int 3] n S I Qy) (hdp : dc + 1 ≤ d) (hkk : kcc ≤ kc) (hkl : ksc ≤ ks) (K : ∀ v n' S' I', Qy v n' S' I' → kv_V y_Md_isText d B Q (kc - kcc) (ks - ksc) n' S' I' 6 [(0, .int v0)] (v.toList ++ [])) : kv_V y_Md_isText d B Q kc ks n S I 0 [(0, .int v0)] [] := by
  refine kv_iload_n dd_Md_isText_0 rfl ?_
  refine kv_iconst (v := 0) dd_Md_isText_1 (by decide) ?_
  refine kv_iconst (v := 3) dd_Md_isText_2 (by decide) ?_
  exact kv_callS [.int v0, .int 0, .int 3] [] ls_Md_72 hM dd_Md_isText_3 rfl hdp (Nat.le_of_ble_eq_true rfl) hkk hkl (fun v n' S' I' hv => kv_loc [0] rfl (K v n' S' I' hv))
theorem bl_Md_isText_6 {d : Nat} {B : kv_B} {Q : kv_Q} {kc ks n : Nat} {S : kv_SM} {I : kv_IM} {v0 : Int32} {t0 : Int32} (hb : narrow .boolean (.int t0) = .int t0) (hQ : Q (some (.int t0)) n S I) : kv_V y_Md_isText d B Q kc ks n S I 6 [(0, .int v0)] [.int t0] := by
  exact kv_end (v := some (.int t0)) hQ ⟨dd_Md_isText_6, .boolean, rfl, hb⟩
theorem bl_Md_insertAt_0 {d : Nat} {B : kv_B} {Q : kv_Q} {kc ks n : Nat} {S : kv_SM} {I : kv_IM} {a0 : Nat} {v1 : Int32} {v2 : Int32} {v3 : Int32} {dc kcc ksc : Nat} {Qy : kv_Q} (hM : kv_T y_Md_isText dc kcc ksc B [.int v1] n S I Qy) (hdp : dc + 1 ≤ d) (hkk : kcc ≤ kc) (hkl : ksc ≤ ks) (K : ∀ v n' S' I', Qy v n' S' I' → kv_V y_Md_insertAt d B Q (kc - kcc) (ks - ksc) n' S' I' 4 [(0, .ref a0), (1, .int v1), (2, .int v2), (3, .int v3)] (v.toList ++ [])) : kv_V y_Md_insertAt d B Q kc ks n S I 0 [(0, .ref a0), (1, .int v1), (2, .int v2), (3, .int v3)] [] := by
  refine kv_iload_n dd_Md_insertAt_0 rfl ?_
  exact kv_callS [.int v1] [] ls_Md_82 hM dd_Md_insertAt_1 rfl hdp (Nat.le_of_ble_eq_true rfl) hkk hkl (fun v n' S' I' hv => kv_loc [0, 1, 2, 3] rfl (K v n' S' I' hv))
theorem bl_Md_insertAt_4 {d : Nat} {B : kv_B} {Q : kv_Q} {kc ks n : Nat} {S : kv_SM} {I : kv_IM} {a0 : Nat} {v1 : Int32} {v2 : Int32} {v3 : Int32} {t0 : Int32} (Kt : t0 = 0 → kv_V y_Md_insertAt d B Q kc ks n S I 32 [(0, .ref a0), (1, .int v1), (2, .int v2), (3, .int v3)] []) (Kf : ¬ t0 = 0 → kv_V y_Md_insertAt d B Q kc ks n S I 7 [(0, .ref a0), (1, .int v1), (2, .int v2), (3, .int v3)] []) : kv_V y_Md_insertAt d B Q kc ks n S I 4 [(0, .ref a0), (1, .int v1), (2, .int v2), (3, .int v3)] [.int t0] := by
  exact kv_if_eq 32 dd_Md_insertAt_4 (by decide) (fun h => kv_loc [0, 1, 2, 3] rfl (Kt h)) (fun h => kv_loc [0, 1, 2, 3] rfl (Kf h))
theorem bl_Md_insertAt_7 {d : Nat} {B : kv_B} {Q : kv_Q} {kc ks n : Nat} {S : kv_SM} {I : kv_IM} {a0 : Nat} {v1 : Int32} {v2 : Int32} {v3 : Int32} {r1 : Nat → Option Nat} {q2 : Nat} {m3 : Nat} {j4 : Nat} {dc kcc ksc : Nat} {Qy : kv_Q} (hO1 : S a0 = kO 6 r1) (hr2 : r1 2 = some q2) (hA3 : S q2 = kI m3) (hi4 : v1 = nI j4 ∧ j4 < m3 ∧ m3 < 2 ^ 31) (hM : kv_T y_Md_in dc kcc ksc B [.int v2, .int 0, .int (I q2 j4)] n S I Qy) (hdp : dc + 1 ≤ d) (hkk : kcc ≤ kc) (hkl : ksc ≤ ks) (K : ∀ v n' S' I', Qy v n' S' I' → kv_V y_Md_insertAt d B Q (kc - kcc) (ks - ksc) n' S' I' 18 [(0, .ref a0), (1, .int v1), (2, .int v2), (3, .int v3)] (v.toList ++ [])) : kv_V y_Md_insertAt d B Q kc ks n S I 7 [(0, .ref a0), (1, .int v1), (2, .int v2), (3, .int v3)] [] := by
  refine kv_iload_n dd_Md_insertAt_7 rfl ?_
  refine kv_iconst (v := 0) dd_Md_insertAt_8 (by decide) ?_
  refine kv_aload_n dd_Md_insertAt_9 rfl ?_
  refine kv_getR fl_Md_13 dd_Md_insertAt_10 hO1 hr2 ?_
  refine kv_iload_n dd_Md_insertAt_13 rfl ?_
  refine kv_iald j4 dd_Md_insertAt_14 hA3 hi4.1 hi4.2.1 hi4.2.2 ?_
  exact kv_callS [.int v2, .int 0, .int (I q2 j4)] [] ls_Md_72 hM dd_Md_insertAt_15 rfl hdp (Nat.le_of_ble_eq_true rfl) hkk hkl (fun v n' S' I' hv => kv_loc [0, 1, 2, 3] rfl (K v n' S' I' hv))
theorem bl_Md_insertAt_18 {d : Nat} {B : kv_B} {Q : kv_Q} {kc ks n : Nat} {S : kv_SM} {I : kv_IM} {a0 : Nat} {v1 : Int32} {v2 : Int32} {v3 : Int32} {t0 : Int32} (Kt : t0 = 0 → kv_V y_Md_insertAt d B Q kc ks n S I 32 [(0, .ref a0), (1, .int v1), (2, .int v2), (3, .int v3)] []) (Kf : ¬ t0 = 0 → kv_V y_Md_insertAt d B Q kc ks n S I 21 [(0, .ref a0), (1, .int v1), (2, .int v2), (3, .int v3)] []) : kv_V y_Md_insertAt d B Q kc ks n S I 18 [(0, .ref a0), (1, .int v1), (2, .int v2), (3, .int v3)] [.int t0] := by
  exact kv_if_eq 32 dd_Md_insertAt_18 (by decide) (fun h => kv_loc [0, 1, 2, 3] rfl (Kt h)) (fun h => kv_loc [0, 1, 2, 3] rfl (Kf h))
theorem bl_Md_insertAt_21 {d : Nat} {B : kv_B} {Q : kv_Q} {kc ks n : Nat} {S : kv_SM} {I : kv_IM} {a0 : Nat} {v1 : Int32} {v2 : Int32} {v3 : Int32} {dc kcc ksc : Nat} {Qy : kv_Q} (hM : kv_T y_Md_in dc kcc ksc B [.int v3, .int 0, .int 255] n S I Qy) (hdp : dc + 1 ≤ d) (hkk : kcc ≤ kc) (hkl : ksc ≤ ks) (K : ∀ v n' S' I', Qy v n' S' I' → kv_V y_Md_insertAt d B Q (kc - kcc) (ks - ksc) n' S' I' 29 [(0, .ref a0), (1, .int v1), (2, .int v2), (3, .int v3)] (v.toList ++ [])) : kv_V y_Md_insertAt d B Q kc ks n S I 21 [(0, .ref a0), (1, .int v1), (2, .int v2), (3, .int v3)] [] := by
  refine kv_iload_n dd_Md_insertAt_21 rfl ?_
  refine kv_iconst (v := 0) dd_Md_insertAt_22 (by decide) ?_
  refine kv_sipush (v := 255) dd_Md_insertAt_23 (by decide) ?_
  exact kv_callS [.int v3, .int 0, .int 255] [] ls_Md_72 hM dd_Md_insertAt_26 rfl hdp (Nat.le_of_ble_eq_true rfl) hkk hkl (fun v n' S' I' hv => kv_loc [0, 1, 2, 3] rfl (K v n' S' I' hv))
theorem bl_Md_insertAt_29 {d : Nat} {B : kv_B} {Q : kv_Q} {kc ks n : Nat} {S : kv_SM} {I : kv_IM} {a0 : Nat} {v1 : Int32} {v2 : Int32} {v3 : Int32} {t0 : Int32} (Kt : ¬ t0 = 0 → kv_V y_Md_insertAt d B Q kc ks n S I 34 [(0, .ref a0), (1, .int v1), (2, .int v2), (3, .int v3)] []) (Kf : t0 = 0 → kv_V y_Md_insertAt d B Q kc ks n S I 32 [(0, .ref a0), (1, .int v1), (2, .int v2), (3, .int v3)] []) : kv_V y_Md_insertAt d B Q kc ks n S I 29 [(0, .ref a0), (1, .int v1), (2, .int v2), (3, .int v3)] [.int t0] := by
  exact kv_if_ne 34 dd_Md_insertAt_29 (by decide) (fun h => kv_loc [0, 1, 2, 3] rfl (Kt h)) (fun h => kv_loc [0, 1, 2, 3] rfl (Kf h))
theorem bl_Md_insertAt_32 {d : Nat} {B : kv_B} {Q : kv_Q} {kc ks n : Nat} {S : kv_SM} {I : kv_IM} {a0 : Nat} {v1 : Int32} {v2 : Int32} {v3 : Int32} (hQ : Q (some (.int ((-1)))) n S I) : kv_V y_Md_insertAt d B Q kc ks n S I 32 [(0, .ref a0), (1, .int v1), (2, .int v2), (3, .int v3)] [] := by
  refine kv_iconst (v := (-1)) dd_Md_insertAt_32 (by decide) ?_
  exact kv_end (v := some (.int ((-1)))) hQ ⟨dd_Md_insertAt_33, .int, rfl, rfl⟩
theorem bl_Md_insertAt_34 {d : Nat} {B : kv_B} {Q : kv_Q} {kc ks n : Nat} {S : kv_SM} {I : kv_IM} {a0 : Nat} {v1 : Int32} {v2 : Int32} {v3 : Int32} {r1 : Nat → Option Nat} {q2 : Nat} {m3 : Nat} {j4 : Nat} (hO1 : S a0 = kO 6 r1) (hr2 : r1 2 = some q2) (hA3 : S q2 = kI m3) (hi4 : v1 = nI j4 ∧ j4 < m3 ∧ m3 < 2 ^ 31) (Kt : ¬ (I q2 j4) = 1500 → kv_V y_Md_insertAt d B Q kc ks n S I 49 [(0, .ref a0), (1, .int v1), (2, .int v2), (3, .int v3)] []) (Kf : (I q2 j4) = 1500 → kv_V y_Md_insertAt d B Q kc ks n S I 46 [(0, .ref a0), (1, .int v1), (2, .int v2), (3, .int v3)] []) : kv_V y_Md_insertAt d B Q kc ks n S I 34 [(0, .ref a0), (1, .int v1), (2, .int v2), (3, .int v3)] [] := by
  refine kv_aload_n dd_Md_insertAt_34 rfl ?_
  refine kv_getR fl_Md_13 dd_Md_insertAt_35 hO1 hr2 ?_
  refine kv_iload_n dd_Md_insertAt_38 rfl ?_
  refine kv_iald j4 dd_Md_insertAt_39 hA3 hi4.1 hi4.2.1 hi4.2.2 ?_
  refine kv_sipush (v := 1500) dd_Md_insertAt_40 (by decide) ?_
  exact kv_icmp_ne 49 dd_Md_insertAt_43 (by decide) (fun h => kv_loc [0, 1, 2, 3] rfl (Kt h)) (fun h => kv_loc [0, 1, 2, 3] rfl (Kf h))
theorem bl_Md_insertAt_46 {d : Nat} {B : kv_B} {Q : kv_Q} {kc ks n : Nat} {S : kv_SM} {I : kv_IM} {a0 : Nat} {v1 : Int32} {v2 : Int32} {v3 : Int32} (hQ : Q (some (.int ((-2)))) n S I) : kv_V y_Md_insertAt d B Q kc ks n S I 46 [(0, .ref a0), (1, .int v1), (2, .int v2), (3, .int v3)] [] := by
  refine kv_bipush (v := (-2)) dd_Md_insertAt_46 (by decide) ?_
  exact kv_end (v := some (.int ((-2)))) hQ ⟨dd_Md_insertAt_48, .int, rfl, rfl⟩
theorem bl_Md_insertAt_49 {d : Nat} {B : kv_B} {Q : kv_Q} {kc ks n : Nat} {S : kv_SM} {I : kv_IM} {a0 : Nat} {v1 : Int32} {v2 : Int32} {v3 : Int32} {r1 : Nat → Option Nat} {q2 : Nat} {m3 : Nat} {j4 : Nat} (hO1 : S a0 = kO 6 r1) (hr2 : r1 2 = some q2) (hA3 : S q2 = kI m3) (hi4 : v1 = nI j4 ∧ j4 < m3 ∧ m3 < 2 ^ 31) (K : kv_V y_Md_insertAt d B Q kc ks n S I 57 [(0, .ref a0), (1, .int v1), (2, .int v2), (3, .int v3), (4, .int (I q2 j4))] []) : kv_V y_Md_insertAt d B Q kc ks n S I 49 [(0, .ref a0), (1, .int v1), (2, .int v2), (3, .int v3)] [] := by
  refine kv_aload_n dd_Md_insertAt_49 rfl ?_
  refine kv_getR fl_Md_13 dd_Md_insertAt_50 hO1 hr2 ?_
  refine kv_iload_n dd_Md_insertAt_53 rfl ?_
  refine kv_iald j4 dd_Md_insertAt_54 hA3 hi4.1 hi4.2.1 hi4.2.2 ?_
  refine kv_istore (L' := [(4, .int (I q2 j4)), (0, .ref a0), (1, .int v1), (2, .int v2), (3, .int v3)]) dd_Md_insertAt_55 (by decide) rfl ?_
  exact kv_loc [1, 2, 3, 4, 0] rfl K
theorem bl_Md_insertAt_57 {d : Nat} {B : kv_B} {Q : kv_Q} {kc ks n : Nat} {S : kv_SM} {I : kv_IM} {a0 : Nat} {v1 : Int32} {v2 : Int32} {v3 : Int32} {v4 : Int32} (Kt : v4 ≤ v2 → kv_V y_Md_insertAt d B Q kc ks n S I 97 [(0, .ref a0), (1, .int v1), (2, .int v2), (3, .int v3), (4, .int v4)] []) (Kf : ¬ v4 ≤ v2 → kv_V y_Md_insertAt d B Q kc ks n S I 63 [(0, .ref a0), (1, .int v1), (2, .int v2), (3, .int v3), (4, .int v4)] []) : kv_V y_Md_insertAt d B Q kc ks n S I 57 [(0, .ref a0), (1, .int v1), (2, .int v2), (3, .int v3), (4, .int v4)] [] := by
  refine kv_iload dd_Md_insertAt_57 rfl ?_
  refine kv_iload_n dd_Md_insertAt_59 rfl ?_
  exact kv_icmp_le 97 dd_Md_insertAt_60 (by decide) (fun h => kv_loc [0, 1, 2, 3, 4] rfl (Kt h)) (fun h => kv_loc [0, 1, 2, 3, 4] rfl (Kf h))
theorem bl_Md_insertAt_63 {d : Nat} {B : kv_B} {Q : kv_Q} {kc ks n : Nat} {S : kv_SM} {I : kv_IM} {a0 : Nat} {v1 : Int32} {v2 : Int32} {v3 : Int32} {v4 : Int32} {r1 : Nat → Option Nat} {q2 : Nat} {m3 : Nat} {j4 : Nat} {j5 : Nat} (hO1 : S a0 = kO 6 r1) (hr2 : r1 1 = some q2) (hA3 : S q2 = kI m3) (hi4 : ((1500 * v1) + v4) - 1 = nI j4 ∧ j4 < m3 ∧ m3 < 2 ^ 31) (hi5 : (1500 * v1) + v4 = nI j5 ∧ j5 < m3 ∧ m3 < 2 ^ 31) (K : kv_V y_Md_insertAt d B Q kc ks n S (kv_up I q2 j5 (I q2 j4)) 57 [(0, .ref a0), (1, .int v1), (2, .int v2), (3, .int v3), (4, .int (v4 + (-1)))] []) : kv_V y_Md_insertAt d B Q kc ks n S I 63 [(0, .ref a0), (1, .int v1), (2, .int v2), (3, .int v3), (4, .int v4)] [] := by
  refine kv_aload_n dd_Md_insertAt_63 rfl ?_
  refine kv_getR fl_Md_7 dd_Md_insertAt_64 hO1 hr2 ?_
  refine kv_sipush (v := 1500) dd_Md_insertAt_67 (by decide) ?_
  refine kv_iload_n dd_Md_insertAt_70 rfl ?_
  refine kv_imul dd_Md_insertAt_71 ?_
  refine kv_iload dd_Md_insertAt_72 rfl ?_
  refine kv_iadd dd_Md_insertAt_74 ?_
  refine kv_aload_n dd_Md_insertAt_75 rfl ?_
  refine kv_getR fl_Md_7 dd_Md_insertAt_76 hO1 hr2 ?_
  refine kv_sipush (v := 1500) dd_Md_insertAt_79 (by decide) ?_
  refine kv_iload_n dd_Md_insertAt_82 rfl ?_
  refine kv_imul dd_Md_insertAt_83 ?_
  refine kv_iload dd_Md_insertAt_84 rfl ?_
  refine kv_iadd dd_Md_insertAt_86 ?_
  refine kv_iconst (v := 1) dd_Md_insertAt_87 (by decide) ?_
  refine kv_isub dd_Md_insertAt_88 ?_
  refine kv_iald j4 dd_Md_insertAt_89 hA3 hi4.1 hi4.2.1 hi4.2.2 ?_
  refine kv_iast j5 dd_Md_insertAt_90 hA3 hi5.1 hi5.2.1 hi5.2.2 ?_
  refine kv_iinc (v := v4 + (-1)) (L' := [(4, .int (v4 + (-1))), (0, .ref a0), (1, .int v1), (2, .int v2), (3, .int v3)]) dd_Md_insertAt_91 rfl rfl (by decide) rfl ?_
  refine kv_goto 57 dd_Md_insertAt_94 (by decide) ?_
  exact kv_loc [1, 2, 3, 4, 0] rfl K
theorem bl_Md_insertAt_97 {d : Nat} {B : kv_B} {Q : kv_Q} {kc ks n : Nat} {S : kv_SM} {I : kv_IM} {a0 : Nat} {v1 : Int32} {v2 : Int32} {v3 : Int32} {v4 : Int32} {r1 : Nat → Option Nat} {q2 : Nat} {m3 : Nat} {j4 : Nat} {q5 : Nat} {m6 : Nat} {j7 : Nat} (hO1 : S a0 = kO 6 r1) (hr2 : r1 1 = some q2) (hA3 : S q2 = kI m3) (hi4 : (1500 * v1) + v2 = nI j4 ∧ j4 < m3 ∧ m3 < 2 ^ 31) (hr5 : r1 2 = some q5) (hA6 : S q5 = kI m6) (hi7 : v1 = nI j7 ∧ j7 < m6 ∧ m6 < 2 ^ 31) (hQ : Q (some (.int ((kv_up (kv_up I q2 j4 v3) q5 j7 (((kv_up I q2 j4 v3) q5 j7) + 1)) q5 j7))) n S (kv_up (kv_up I q2 j4 v3) q5 j7 (((kv_up I q2 j4 v3) q5 j7) + 1))) : kv_V y_Md_insertAt d B Q kc ks n S I 97 [(0, .ref a0), (1, .int v1), (2, .int v2), (3, .int v3), (4, .int v4)] [] := by
  refine kv_aload_n dd_Md_insertAt_97 rfl ?_
  refine kv_getR fl_Md_7 dd_Md_insertAt_98 hO1 hr2 ?_
  refine kv_sipush (v := 1500) dd_Md_insertAt_101 (by decide) ?_
  refine kv_iload_n dd_Md_insertAt_104 rfl ?_
  refine kv_imul dd_Md_insertAt_105 ?_
  refine kv_iload_n dd_Md_insertAt_106 rfl ?_
  refine kv_iadd dd_Md_insertAt_107 ?_
  refine kv_iload_n dd_Md_insertAt_108 rfl ?_
  refine kv_iast j4 dd_Md_insertAt_109 hA3 hi4.1 hi4.2.1 hi4.2.2 ?_
  refine kv_aload_n dd_Md_insertAt_110 rfl ?_
  refine kv_getR fl_Md_13 dd_Md_insertAt_111 hO1 hr5 ?_
  refine kv_iload_n dd_Md_insertAt_114 rfl ?_
  refine kv_dup2 dd_Md_insertAt_115 rfl rfl ?_
  refine kv_iald j7 dd_Md_insertAt_116 hA6 hi7.1 hi7.2.1 hi7.2.2 ?_
  refine kv_iconst (v := 1) dd_Md_insertAt_117 (by decide) ?_
  refine kv_iadd dd_Md_insertAt_118 ?_
  refine kv_iast j7 dd_Md_insertAt_119 hA6 hi7.1 hi7.2.1 hi7.2.2 ?_
  refine kv_aload_n dd_Md_insertAt_120 rfl ?_
  refine kv_getR fl_Md_13 dd_Md_insertAt_121 hO1 hr5 ?_
  refine kv_iload_n dd_Md_insertAt_124 rfl ?_
  refine kv_iald j7 dd_Md_insertAt_125 hA6 hi7.1 hi7.2.1 hi7.2.2 ?_
  exact kv_end (v := some (.int ((kv_up (kv_up I q2 j4 v3) q5 j7 (((kv_up I q2 j4 v3) q5 j7) + 1)) q5 j7))) hQ ⟨dd_Md_insertAt_126, .int, rfl, rfl⟩
theorem bl_Md_fill_0 {d : Nat} {B : kv_B} {Q : kv_Q} {kc ks n : Nat} {S : kv_SM} {I : kv_IM} {a0 : Nat} {v1 : Int32} {v2 : Int32} {v3 : Int32} {v4 : Int32} {r1 : Nat → Option Nat} {dc kcc ksc : Nat} {Qy : kv_Q} (hO1 : S a0 = kO 6 r1) (hM : kv_T y_Md_isText dc kcc ksc B [.int v1] n S (kv_up I a0 0 0) Qy) (hdp : dc + 1 ≤ d) (hkk : kcc ≤ kc) (hkl : ksc ≤ ks) (K : ∀ v n' S' I', Qy v n' S' I' → kv_V y_Md_fill d B Q (kc - kcc) (ks - ksc) n' S' I' 9 [(0, .ref a0), (1, .int v1), (2, .int v2), (3, .int v3), (4, .int v4)] (v.toList ++ [])) : kv_V y_Md_fill d B Q kc ks n S I 0 [(0, .ref a0), (1, .int v1), (2, .int v2), (3, .int v3), (4, .int v4)] [] := by
  refine kv_aload_n dd_Md_fill_0 rfl ?_
  refine kv_iconst (v := 0) dd_Md_fill_1 (by decide) ?_
  refine kv_putI fp_Md_67 (fun h => by cases h) dd_Md_fill_2 hO1 rfl rfl ?_
  refine kv_iload_n dd_Md_fill_5 rfl ?_
  exact kv_callS [.int v1] [] ls_Md_82 hM dd_Md_fill_6 rfl hdp (Nat.le_of_ble_eq_true rfl) hkk hkl (fun v n' S' I' hv => kv_loc [0, 1, 2, 3, 4] rfl (K v n' S' I' hv))
theorem bl_Md_fill_9 {d : Nat} {B : kv_B} {Q : kv_Q} {kc ks n : Nat} {S : kv_SM} {I : kv_IM} {a0 : Nat} {v1 : Int32} {v2 : Int32} {v3 : Int32} {v4 : Int32} {t0 : Int32} (Kt : t0 = 0 → kv_V y_Md_fill d B Q kc ks n S I 35 [(0, .ref a0), (1, .int v1), (2, .int v2), (3, .int v3), (4, .int v4)] []) (Kf : ¬ t0 = 0 → kv_V y_Md_fill d B Q kc ks n S I 12 [(0, .ref a0), (1, .int v1), (2, .int v2), (3, .int v3), (4, .int v4)] []) : kv_V y_Md_fill d B Q kc ks n S I 9 [(0, .ref a0), (1, .int v1), (2, .int v2), (3, .int v3), (4, .int v4)] [.int t0] := by
  exact kv_if_eq 35 dd_Md_fill_9 (by decide) (fun h => kv_loc [0, 1, 2, 3, 4] rfl (Kt h)) (fun h => kv_loc [0, 1, 2, 3, 4] rfl (Kf h))
theorem bl_Md_fill_12 {d : Nat} {B : kv_B} {Q : kv_Q} {kc ks n : Nat} {S : kv_SM} {I : kv_IM} {a0 : Nat} {v1 : Int32} {v2 : Int32} {v3 : Int32} {v4 : Int32} {dc kcc ksc : Nat} {Qy : kv_Q} (hM : kv_T y_Md_in dc kcc ksc B [.int v2, .int 1, .int 400] n S I Qy) (hdp : dc + 1 ≤ d) (hkk : kcc ≤ kc) (hkl : ksc ≤ ks) (K : ∀ v n' S' I', Qy v n' S' I' → kv_V y_Md_fill d B Q (kc - kcc) (ks - ksc) n' S' I' 20 [(0, .ref a0), (1, .int v1), (2, .int v2), (3, .int v3), (4, .int v4)] (v.toList ++ [])) : kv_V y_Md_fill d B Q kc ks n S I 12 [(0, .ref a0), (1, .int v1), (2, .int v2), (3, .int v3), (4, .int v4)] [] := by
  refine kv_iload_n dd_Md_fill_12 rfl ?_
  refine kv_iconst (v := 1) dd_Md_fill_13 (by decide) ?_
  refine kv_sipush (v := 400) dd_Md_fill_14 (by decide) ?_
  exact kv_callS [.int v2, .int 1, .int 400] [] ls_Md_72 hM dd_Md_fill_17 rfl hdp (Nat.le_of_ble_eq_true rfl) hkk hkl (fun v n' S' I' hv => kv_loc [0, 1, 2, 3, 4] rfl (K v n' S' I' hv))
theorem bl_Md_fill_20 {d : Nat} {B : kv_B} {Q : kv_Q} {kc ks n : Nat} {S : kv_SM} {I : kv_IM} {a0 : Nat} {v1 : Int32} {v2 : Int32} {v3 : Int32} {v4 : Int32} {t0 : Int32} (Kt : t0 = 0 → kv_V y_Md_fill d B Q kc ks n S I 35 [(0, .ref a0), (1, .int v1), (2, .int v2), (3, .int v3), (4, .int v4)] []) (Kf : ¬ t0 = 0 → kv_V y_Md_fill d B Q kc ks n S I 23 [(0, .ref a0), (1, .int v1), (2, .int v2), (3, .int v3), (4, .int v4)] []) : kv_V y_Md_fill d B Q kc ks n S I 20 [(0, .ref a0), (1, .int v1), (2, .int v2), (3, .int v3), (4, .int v4)] [.int t0] := by
  exact kv_if_eq 35 dd_Md_fill_20 (by decide) (fun h => kv_loc [0, 1, 2, 3, 4] rfl (Kt h)) (fun h => kv_loc [0, 1, 2, 3, 4] rfl (Kf h))
theorem bl_Md_fill_23 {d : Nat} {B : kv_B} {Q : kv_Q} {kc ks n : Nat} {S : kv_SM} {I : kv_IM} {a0 : Nat} {v1 : Int32} {v2 : Int32} {v3 : Int32} {v4 : Int32} {dc kcc ksc : Nat} {Qy : kv_Q} (hM : kv_T y_Md_in dc kcc ksc B [.int v4, .int 1, .int 256] n S I Qy) (hdp : dc + 1 ≤ d) (hkk : kcc ≤ kc) (hkl : ksc ≤ ks) (K : ∀ v n' S' I', Qy v n' S' I' → kv_V y_Md_fill d B Q (kc - kcc) (ks - ksc) n' S' I' 32 [(0, .ref a0), (1, .int v1), (2, .int v2), (3, .int v3), (4, .int v4)] (v.toList ++ [])) : kv_V y_Md_fill d B Q kc ks n S I 23 [(0, .ref a0), (1, .int v1), (2, .int v2), (3, .int v3), (4, .int v4)] [] := by
  refine kv_iload dd_Md_fill_23 rfl ?_
  refine kv_iconst (v := 1) dd_Md_fill_25 (by decide) ?_
  refine kv_sipush (v := 256) dd_Md_fill_26 (by decide) ?_
  exact kv_callS [.int v4, .int 1, .int 256] [] ls_Md_72 hM dd_Md_fill_29 rfl hdp (Nat.le_of_ble_eq_true rfl) hkk hkl (fun v n' S' I' hv => kv_loc [0, 1, 2, 3, 4] rfl (K v n' S' I' hv))
theorem bl_Md_fill_32 {d : Nat} {B : kv_B} {Q : kv_Q} {kc ks n : Nat} {S : kv_SM} {I : kv_IM} {a0 : Nat} {v1 : Int32} {v2 : Int32} {v3 : Int32} {v4 : Int32} {t0 : Int32} (Kt : ¬ t0 = 0 → kv_V y_Md_fill d B Q kc ks n S I 37 [(0, .ref a0), (1, .int v1), (2, .int v2), (3, .int v3), (4, .int v4)] []) (Kf : t0 = 0 → kv_V y_Md_fill d B Q kc ks n S I 35 [(0, .ref a0), (1, .int v1), (2, .int v2), (3, .int v3), (4, .int v4)] []) : kv_V y_Md_fill d B Q kc ks n S I 32 [(0, .ref a0), (1, .int v1), (2, .int v2), (3, .int v3), (4, .int v4)] [.int t0] := by
  exact kv_if_ne 37 dd_Md_fill_32 (by decide) (fun h => kv_loc [0, 1, 2, 3, 4] rfl (Kt h)) (fun h => kv_loc [0, 1, 2, 3, 4] rfl (Kf h))
theorem bl_Md_fill_35 {d : Nat} {B : kv_B} {Q : kv_Q} {kc ks n : Nat} {S : kv_SM} {I : kv_IM} {a0 : Nat} {v1 : Int32} {v2 : Int32} {v3 : Int32} {v4 : Int32} (hQ : Q (some (.int ((-1)))) n S I) : kv_V y_Md_fill d B Q kc ks n S I 35 [(0, .ref a0), (1, .int v1), (2, .int v2), (3, .int v3), (4, .int v4)] [] := by
  refine kv_iconst (v := (-1)) dd_Md_fill_35 (by decide) ?_
  exact kv_end (v := some (.int ((-1)))) hQ ⟨dd_Md_fill_36, .int, rfl, rfl⟩
theorem bl_Md_fill_37 {d : Nat} {B : kv_B} {Q : kv_Q} {kc ks n : Nat} {S : kv_SM} {I : kv_IM} {a0 : Nat} {v1 : Int32} {v2 : Int32} {v3 : Int32} {v4 : Int32} {r1 : Nat → Option Nat} {q2 : Nat} {m3 : Nat} {j4 : Nat} (hO1 : S a0 = kO 6 r1) (hr2 : r1 2 = some q2) (hA3 : S q2 = kI m3) (hi4 : v1 = nI j4 ∧ j4 < m3 ∧ m3 < 2 ^ 31) (Kt : ((I q2 j4) + v2) ≤ 1500 → kv_V y_Md_fill d B Q kc ks n S I 54 [(0, .ref a0), (1, .int v1), (2, .int v2), (3, .int v3), (4, .int v4)] []) (Kf : ¬ ((I q2 j4) + v2) ≤ 1500 → kv_V y_Md_fill d B Q kc ks n S I 51 [(0, .ref a0), (1, .int v1), (2, .int v2), (3, .int v3), (4, .int v4)] []) : kv_V y_Md_fill d B Q kc ks n S I 37 [(0, .ref a0), (1, .int v1), (2, .int v2), (3, .int v3), (4, .int v4)] [] := by
  refine kv_aload_n dd_Md_fill_37 rfl ?_
  refine kv_getR fl_Md_13 dd_Md_fill_38 hO1 hr2 ?_
  refine kv_iload_n dd_Md_fill_41 rfl ?_
  refine kv_iald j4 dd_Md_fill_42 hA3 hi4.1 hi4.2.1 hi4.2.2 ?_
  refine kv_iload_n dd_Md_fill_43 rfl ?_
  refine kv_iadd dd_Md_fill_44 ?_
  refine kv_sipush (v := 1500) dd_Md_fill_45 (by decide) ?_
  exact kv_icmp_le 54 dd_Md_fill_48 (by decide) (fun h => kv_loc [0, 1, 2, 3, 4] rfl (Kt h)) (fun h => kv_loc [0, 1, 2, 3, 4] rfl (Kf h))
theorem bl_Md_fill_51 {d : Nat} {B : kv_B} {Q : kv_Q} {kc ks n : Nat} {S : kv_SM} {I : kv_IM} {a0 : Nat} {v1 : Int32} {v2 : Int32} {v3 : Int32} {v4 : Int32} (hQ : Q (some (.int ((-2)))) n S I) : kv_V y_Md_fill d B Q kc ks n S I 51 [(0, .ref a0), (1, .int v1), (2, .int v2), (3, .int v3), (4, .int v4)] [] := by
  refine kv_bipush (v := (-2)) dd_Md_fill_51 (by decide) ?_
  exact kv_end (v := some (.int ((-2)))) hQ ⟨dd_Md_fill_53, .int, rfl, rfl⟩
theorem bl_Md_fill_54 {d : Nat} {B : kv_B} {Q : kv_Q} {kc ks n : Nat} {S : kv_SM} {I : kv_IM} {a0 : Nat} {v1 : Int32} {v2 : Int32} {v3 : Int32} {v4 : Int32} (K : kv_V y_Md_fill d B Q kc ks n S I 60 [(0, .ref a0), (1, .int v1), (2, .int v2), (3, .int v3), (4, .int v4), (5, .int v3), (6, .int 0)] []) : kv_V y_Md_fill d B Q kc ks n S I 54 [(0, .ref a0), (1, .int v1), (2, .int v2), (3, .int v3), (4, .int v4)] [] := by
  refine kv_iload_n dd_Md_fill_54 rfl ?_
  refine kv_istore (L' := [(5, .int v3), (0, .ref a0), (1, .int v1), (2, .int v2), (3, .int v3), (4, .int v4)]) dd_Md_fill_55 (by decide) rfl ?_
  refine kv_iconst (v := 0) dd_Md_fill_57 (by decide) ?_
  refine kv_istore (L' := [(6, .int 0), (5, .int v3), (0, .ref a0), (1, .int v1), (2, .int v2), (3, .int v3), (4, .int v4)]) dd_Md_fill_58 (by decide) rfl ?_
  exact kv_loc [2, 3, 4, 5, 6, 1, 0] rfl K
theorem bl_Md_fill_60 {d : Nat} {B : kv_B} {Q : kv_Q} {kc ks n : Nat} {S : kv_SM} {I : kv_IM} {a0 : Nat} {v1 : Int32} {v2 : Int32} {v3 : Int32} {v4 : Int32} {v5 : Int32} {v6 : Int32} (Kt : v2 ≤ v6 → kv_V y_Md_fill d B Q kc ks n S I 118 [(0, .ref a0), (1, .int v1), (2, .int v2), (3, .int v3), (4, .int v4), (5, .int v5), (6, .int v6)] []) (Kf : ¬ v2 ≤ v6 → kv_V y_Md_fill d B Q kc ks n S I 66 [(0, .ref a0), (1, .int v1), (2, .int v2), (3, .int v3), (4, .int v4), (5, .int v5), (6, .int v6)] []) : kv_V y_Md_fill d B Q kc ks n S I 60 [(0, .ref a0), (1, .int v1), (2, .int v2), (3, .int v3), (4, .int v4), (5, .int v5), (6, .int v6)] [] := by
  refine kv_iload dd_Md_fill_60 rfl ?_
  refine kv_iload_n dd_Md_fill_62 rfl ?_
  exact kv_icmp_ge 118 dd_Md_fill_63 (by decide) (fun h => kv_loc [0, 1, 2, 3, 4, 5, 6] rfl (Kt h)) (fun h => kv_loc [0, 1, 2, 3, 4, 5, 6] rfl (Kf h))
theorem bl_Md_fill_66 {d : Nat} {B : kv_B} {Q : kv_Q} {kc ks n : Nat} {S : kv_SM} {I : kv_IM} {a0 : Nat} {v1 : Int32} {v2 : Int32} {v3 : Int32} {v4 : Int32} {v5 : Int32} {v6 : Int32} {r1 : Nat → Option Nat} {q2 : Nat} {q3 : Nat} {m4 : Nat} {j5 : Nat} {m7 : Nat} {j8 : Nat} (hO1 : S a0 = kO 6 r1) (hr2 : r1 1 = some q2) (hr3 : r1 2 = some q3) (hA4 : S q3 = kI m4) (hi5 : v1 = nI j5 ∧ j5 < m4 ∧ m4 < 2 ^ 31) (hz6 : ¬ v4 = 0) (hA7 : S q2 = kI m7) (hi8 : (1500 * v1) + (I q3 j5) = nI j8 ∧ j8 < m7 ∧ m7 < 2 ^ 31) (K : kv_V y_Md_fill d B Q kc ks n S (kv_up (kv_up I q2 j8 (((Int32.toUInt32 ((v5 * 1103515245) + 12345) >>> (Int32.toUInt32 16 &&& Int32.toUInt32 31)).toInt32) - ((Int32.toUInt32 ((v5 * 1103515245) + 12345) >>> (Int32.toUInt32 16 &&& Int32.toUInt32 31)).toInt32) / v4 * v4)) q3 j5 (((kv_up I q2 j8 (((Int32.toUInt32 ((v5 * 1103515245) + 12345) >>> (Int32.toUInt32 16 &&& Int32.toUInt32 31)).toInt32) - ((Int32.toUInt32 ((v5 * 1103515245) + 12345) >>> (Int32.toUInt32 16 &&& Int32.toUInt32 31)).toInt32) / v4 * v4)) q3 j5) + 1)) 60 [(0, .ref a0), (1, .int v1), (2, .int v2), (3, .int v3), (4, .int v4), (5, .int ((v5 * 1103515245) + 12345)), (6, .int (v6 + 1))] []) : kv_V y_Md_fill d B Q kc ks n S I 66 [(0, .ref a0), (1, .int v1), (2, .int v2), (3, .int v3), (4, .int v4), (5, .int v5), (6, .int v6)] [] := by
  refine kv_iload dd_Md_fill_66 rfl ?_
  refine kv_ldc wk_Md_90 dd_Md_fill_68 ?_
  refine kv_imul dd_Md_fill_70 ?_
  refine kv_sipush (v := 12345) dd_Md_fill_71 (by decide) ?_
  refine kv_iadd dd_Md_fill_74 ?_
  refine kv_istore (L' := [(5, .int ((v5 * 1103515245) + 12345)), (0, .ref a0), (1, .int v1), (2, .int v2), (3, .int v3), (4, .int v4), (6, .int v6)]) dd_Md_fill_75 (by decide) rfl ?_
  refine kv_aload_n dd_Md_fill_77 rfl ?_
  refine kv_getR fl_Md_7 dd_Md_fill_78 hO1 hr2 ?_
  refine kv_sipush (v := 1500) dd_Md_fill_81 (by decide) ?_
  refine kv_iload_n dd_Md_fill_84 rfl ?_
  refine kv_imul dd_Md_fill_85 ?_
  refine kv_aload_n dd_Md_fill_86 rfl ?_
  refine kv_getR fl_Md_13 dd_Md_fill_87 hO1 hr3 ?_
  refine kv_iload_n dd_Md_fill_90 rfl ?_
  refine kv_iald j5 dd_Md_fill_91 hA4 hi5.1 hi5.2.1 hi5.2.2 ?_
  refine kv_iadd dd_Md_fill_92 ?_
  refine kv_iload dd_Md_fill_93 rfl ?_
  refine kv_bipush (v := 16) dd_Md_fill_95 (by decide) ?_
  refine kv_iushr dd_Md_fill_97 ?_
  refine kv_iload dd_Md_fill_98 rfl ?_
  refine kv_irem dd_Md_fill_100 hz6 ?_
  refine kv_iast j8 dd_Md_fill_101 hA7 hi8.1 hi8.2.1 hi8.2.2 ?_
  refine kv_aload_n dd_Md_fill_102 rfl ?_
  refine kv_getR fl_Md_13 dd_Md_fill_103 hO1 hr3 ?_
  refine kv_iload_n dd_Md_fill_106 rfl ?_
  refine kv_dup2 dd_Md_fill_107 rfl rfl ?_
  refine kv_iald j5 dd_Md_fill_108 hA4 hi5.1 hi5.2.1 hi5.2.2 ?_
  refine kv_iconst (v := 1) dd_Md_fill_109 (by decide) ?_
  refine kv_iadd dd_Md_fill_110 ?_
  refine kv_iast j5 dd_Md_fill_111 hA4 hi5.1 hi5.2.1 hi5.2.2 ?_
  refine kv_iinc (v := v6 + 1) (L' := [(6, .int (v6 + 1)), (5, .int ((v5 * 1103515245) + 12345)), (0, .ref a0), (1, .int v1), (2, .int v2), (3, .int v3), (4, .int v4)]) dd_Md_fill_112 rfl rfl (by decide) rfl ?_
  refine kv_goto 60 dd_Md_fill_115 (by decide) ?_
  exact kv_loc [2, 3, 4, 5, 6, 1, 0] rfl K
theorem bl_Md_fill_118 {d : Nat} {B : kv_B} {Q : kv_Q} {kc ks n : Nat} {S : kv_SM} {I : kv_IM} {a0 : Nat} {v1 : Int32} {v2 : Int32} {v3 : Int32} {v4 : Int32} {v5 : Int32} {v6 : Int32} {r1 : Nat → Option Nat} {q2 : Nat} {m3 : Nat} {j4 : Nat} (hO1 : S a0 = kO 6 r1) (hr2 : r1 2 = some q2) (hA3 : S q2 = kI m3) (hi4 : v1 = nI j4 ∧ j4 < m3 ∧ m3 < 2 ^ 31) (hQ : Q (some (.int (I q2 j4))) n S I) : kv_V y_Md_fill d B Q kc ks n S I 118 [(0, .ref a0), (1, .int v1), (2, .int v2), (3, .int v3), (4, .int v4), (5, .int v5), (6, .int v6)] [] := by
  refine kv_aload_n dd_Md_fill_118 rfl ?_
  refine kv_getR fl_Md_13 dd_Md_fill_119 hO1 hr2 ?_
  refine kv_iload_n dd_Md_fill_122 rfl ?_
  refine kv_iald j4 dd_Md_fill_123 hA3 hi4.1 hi4.2.1 hi4.2.2 ?_
  exact kv_end (v := some (.int (I q2 j4))) hQ ⟨dd_Md_fill_124, .int, rfl, rfl⟩
theorem bl_Md_insert_0 {d : Nat} {B : kv_B} {Q : kv_Q} {kc ks n : Nat} {S : kv_SM} {I : kv_IM} {a0 : Nat} {v1 : Int32} {v2 : Int32} {v3 : Int32} {r1 : Nat → Option Nat} {dc kcc ksc : Nat} {Qy : kv_Q} (hO1 : S a0 = kO 6 r1) (hM : kv_T y_Md_insertAt dc kcc ksc B [.ref a0, .int v1, .int v2, .int v3] n S (kv_up I a0 0 0) Qy) (hdp : dc + 1 ≤ d) (hkk : kcc ≤ kc) (hkl : ksc ≤ ks) (K : ∀ v n' S' I', Qy v n' S' I' → kv_V y_Md_insert d B Q (kc - kcc) (ks - ksc) n' S' I' 12 [(0, .ref a0), (1, .int v1), (2, .int v2), (3, .int v3)] (v.toList ++ [])) : kv_V y_Md_insert d B Q kc ks n S I 0 [(0, .ref a0), (1, .int v1), (2, .int v2), (3, .int v3)] [] := by
  refine kv_aload_n dd_Md_insert_0 rfl ?_
  refine kv_iconst (v := 0) dd_Md_insert_1 (by decide) ?_
  refine kv_putI fp_Md_67 (fun h => by cases h) dd_Md_insert_2 hO1 rfl rfl ?_
  refine kv_aload_n dd_Md_insert_5 rfl ?_
  refine kv_iload_n dd_Md_insert_6 rfl ?_
  refine kv_iload_n dd_Md_insert_7 rfl ?_
  refine kv_iload_n dd_Md_insert_8 rfl ?_
  exact kv_callV [.int v1, .int v2, .int v3] [] ls_Md_86 hO1 hM dd_Md_insert_9 rfl hdp (Nat.le_of_ble_eq_true rfl) hkk hkl (fun v n' S' I' hv => kv_loc [0, 1, 2, 3] rfl (K v n' S' I' hv))
theorem bl_Md_insert_12 {d : Nat} {B : kv_B} {Q : kv_Q} {kc ks n : Nat} {S : kv_SM} {I : kv_IM} {a0 : Nat} {v1 : Int32} {v2 : Int32} {v3 : Int32} {t0 : Int32} (hQ : Q (some (.int t0)) n S I) : kv_V y_Md_insert d B Q kc ks n S I 12 [(0, .ref a0), (1, .int v1), (2, .int v2), (3, .int v3)] [.int t0] := by
  exact kv_end (v := some (.int t0)) hQ ⟨dd_Md_insert_12, .int, rfl, rfl⟩
theorem bl_Md_remove_0 {d : Nat} {B : kv_B} {Q : kv_Q} {kc ks n : Nat} {S : kv_SM} {I : kv_IM} {a0 : Nat} {v1 : Int32} {v2 : Int32} {v3 : Int32} {r1 : Nat → Option Nat} {dc kcc ksc : Nat} {Qy : kv_Q} (hO1 : S a0 = kO 6 r1) (hM : kv_T y_Md_isText dc kcc ksc B [.int v1] n S (kv_up I a0 0 0) Qy) (hdp : dc + 1 ≤ d) (hkk : kcc ≤ kc) (hkl : ksc ≤ ks) (K : ∀ v n' S' I', Qy v n' S' I' → kv_V y_Md_remove d B Q (kc - kcc) (ks - ksc) n' S' I' 9 [(0, .ref a0), (1, .int v1), (2, .int v2), (3, .int v3)] (v.toList ++ [])) : kv_V y_Md_remove d B Q kc ks n S I 0 [(0, .ref a0), (1, .int v1), (2, .int v2), (3, .int v3)] [] := by
  refine kv_aload_n dd_Md_remove_0 rfl ?_
  refine kv_iconst (v := 0) dd_Md_remove_1 (by decide) ?_
  refine kv_putI fp_Md_67 (fun h => by cases h) dd_Md_remove_2 hO1 rfl rfl ?_
  refine kv_iload_n dd_Md_remove_5 rfl ?_
  exact kv_callS [.int v1] [] ls_Md_82 hM dd_Md_remove_6 rfl hdp (Nat.le_of_ble_eq_true rfl) hkk hkl (fun v n' S' I' hv => kv_loc [0, 1, 2, 3] rfl (K v n' S' I' hv))
theorem bl_Md_remove_9 {d : Nat} {B : kv_B} {Q : kv_Q} {kc ks n : Nat} {S : kv_SM} {I : kv_IM} {a0 : Nat} {v1 : Int32} {v2 : Int32} {v3 : Int32} {t0 : Int32} (Kt : t0 = 0 → kv_V y_Md_remove d B Q kc ks n S I 42 [(0, .ref a0), (1, .int v1), (2, .int v2), (3, .int v3)] []) (Kf : ¬ t0 = 0 → kv_V y_Md_remove d B Q kc ks n S I 12 [(0, .ref a0), (1, .int v1), (2, .int v2), (3, .int v3)] []) : kv_V y_Md_remove d B Q kc ks n S I 9 [(0, .ref a0), (1, .int v1), (2, .int v2), (3, .int v3)] [.int t0] := by
  exact kv_if_eq 42 dd_Md_remove_9 (by decide) (fun h => kv_loc [0, 1, 2, 3] rfl (Kt h)) (fun h => kv_loc [0, 1, 2, 3] rfl (Kf h))
theorem bl_Md_remove_12 {d : Nat} {B : kv_B} {Q : kv_Q} {kc ks n : Nat} {S : kv_SM} {I : kv_IM} {a0 : Nat} {v1 : Int32} {v2 : Int32} {v3 : Int32} {r1 : Nat → Option Nat} {q2 : Nat} {m3 : Nat} {j4 : Nat} {dc kcc ksc : Nat} {Qy : kv_Q} (hO1 : S a0 = kO 6 r1) (hr2 : r1 2 = some q2) (hA3 : S q2 = kI m3) (hi4 : v1 = nI j4 ∧ j4 < m3 ∧ m3 < 2 ^ 31) (hM : kv_T y_Md_in dc kcc ksc B [.int v2, .int 0, .int (I q2 j4)] n S I Qy) (hdp : dc + 1 ≤ d) (hkk : kcc ≤ kc) (hkl : ksc ≤ ks) (K : ∀ v n' S' I', Qy v n' S' I' → kv_V y_Md_remove d B Q (kc - kcc) (ks - ksc) n' S' I' 23 [(0, .ref a0), (1, .int v1), (2, .int v2), (3, .int v3)] (v.toList ++ [])) : kv_V y_Md_remove d B Q kc ks n S I 12 [(0, .ref a0), (1, .int v1), (2, .int v2), (3, .int v3)] [] := by
  refine kv_iload_n dd_Md_remove_12 rfl ?_
  refine kv_iconst (v := 0) dd_Md_remove_13 (by decide) ?_
  refine kv_aload_n dd_Md_remove_14 rfl ?_
  refine kv_getR fl_Md_13 dd_Md_remove_15 hO1 hr2 ?_
  refine kv_iload_n dd_Md_remove_18 rfl ?_
  refine kv_iald j4 dd_Md_remove_19 hA3 hi4.1 hi4.2.1 hi4.2.2 ?_
  exact kv_callS [.int v2, .int 0, .int (I q2 j4)] [] ls_Md_72 hM dd_Md_remove_20 rfl hdp (Nat.le_of_ble_eq_true rfl) hkk hkl (fun v n' S' I' hv => kv_loc [0, 1, 2, 3] rfl (K v n' S' I' hv))
theorem bl_Md_remove_23 {d : Nat} {B : kv_B} {Q : kv_Q} {kc ks n : Nat} {S : kv_SM} {I : kv_IM} {a0 : Nat} {v1 : Int32} {v2 : Int32} {v3 : Int32} {t0 : Int32} (Kt : t0 = 0 → kv_V y_Md_remove d B Q kc ks n S I 42 [(0, .ref a0), (1, .int v1), (2, .int v2), (3, .int v3)] []) (Kf : ¬ t0 = 0 → kv_V y_Md_remove d B Q kc ks n S I 26 [(0, .ref a0), (1, .int v1), (2, .int v2), (3, .int v3)] []) : kv_V y_Md_remove d B Q kc ks n S I 23 [(0, .ref a0), (1, .int v1), (2, .int v2), (3, .int v3)] [.int t0] := by
  exact kv_if_eq 42 dd_Md_remove_23 (by decide) (fun h => kv_loc [0, 1, 2, 3] rfl (Kt h)) (fun h => kv_loc [0, 1, 2, 3] rfl (Kf h))
theorem bl_Md_remove_26 {d : Nat} {B : kv_B} {Q : kv_Q} {kc ks n : Nat} {S : kv_SM} {I : kv_IM} {a0 : Nat} {v1 : Int32} {v2 : Int32} {v3 : Int32} {r1 : Nat → Option Nat} {q2 : Nat} {m3 : Nat} {j4 : Nat} {dc kcc ksc : Nat} {Qy : kv_Q} (hO1 : S a0 = kO 6 r1) (hr2 : r1 2 = some q2) (hA3 : S q2 = kI m3) (hi4 : v1 = nI j4 ∧ j4 < m3 ∧ m3 < 2 ^ 31) (hM : kv_T y_Md_in dc kcc ksc B [.int v3, .int 0, .int ((I q2 j4) - v2)] n S I Qy) (hdp : dc + 1 ≤ d) (hkk : kcc ≤ kc) (hkl : ksc ≤ ks) (K : ∀ v n' S' I', Qy v n' S' I' → kv_V y_Md_remove d B Q (kc - kcc) (ks - ksc) n' S' I' 39 [(0, .ref a0), (1, .int v1), (2, .int v2), (3, .int v3)] (v.toList ++ [])) : kv_V y_Md_remove d B Q kc ks n S I 26 [(0, .ref a0), (1, .int v1), (2, .int v2), (3, .int v3)] [] := by
  refine kv_iload_n dd_Md_remove_26 rfl ?_
  refine kv_iconst (v := 0) dd_Md_remove_27 (by decide) ?_
  refine kv_aload_n dd_Md_remove_28 rfl ?_
  refine kv_getR fl_Md_13 dd_Md_remove_29 hO1 hr2 ?_
  refine kv_iload_n dd_Md_remove_32 rfl ?_
  refine kv_iald j4 dd_Md_remove_33 hA3 hi4.1 hi4.2.1 hi4.2.2 ?_
  refine kv_iload_n dd_Md_remove_34 rfl ?_
  refine kv_isub dd_Md_remove_35 ?_
  exact kv_callS [.int v3, .int 0, .int ((I q2 j4) - v2)] [] ls_Md_72 hM dd_Md_remove_36 rfl hdp (Nat.le_of_ble_eq_true rfl) hkk hkl (fun v n' S' I' hv => kv_loc [0, 1, 2, 3] rfl (K v n' S' I' hv))
theorem bl_Md_remove_39 {d : Nat} {B : kv_B} {Q : kv_Q} {kc ks n : Nat} {S : kv_SM} {I : kv_IM} {a0 : Nat} {v1 : Int32} {v2 : Int32} {v3 : Int32} {t0 : Int32} (Kt : ¬ t0 = 0 → kv_V y_Md_remove d B Q kc ks n S I 44 [(0, .ref a0), (1, .int v1), (2, .int v2), (3, .int v3)] []) (Kf : t0 = 0 → kv_V y_Md_remove d B Q kc ks n S I 42 [(0, .ref a0), (1, .int v1), (2, .int v2), (3, .int v3)] []) : kv_V y_Md_remove d B Q kc ks n S I 39 [(0, .ref a0), (1, .int v1), (2, .int v2), (3, .int v3)] [.int t0] := by
  exact kv_if_ne 44 dd_Md_remove_39 (by decide) (fun h => kv_loc [0, 1, 2, 3] rfl (Kt h)) (fun h => kv_loc [0, 1, 2, 3] rfl (Kf h))
theorem bl_Md_remove_42 {d : Nat} {B : kv_B} {Q : kv_Q} {kc ks n : Nat} {S : kv_SM} {I : kv_IM} {a0 : Nat} {v1 : Int32} {v2 : Int32} {v3 : Int32} (hQ : Q (some (.int ((-1)))) n S I) : kv_V y_Md_remove d B Q kc ks n S I 42 [(0, .ref a0), (1, .int v1), (2, .int v2), (3, .int v3)] [] := by
  refine kv_iconst (v := (-1)) dd_Md_remove_42 (by decide) ?_
  exact kv_end (v := some (.int ((-1)))) hQ ⟨dd_Md_remove_43, .int, rfl, rfl⟩
theorem bl_Md_remove_44 {d : Nat} {B : kv_B} {Q : kv_Q} {kc ks n : Nat} {S : kv_SM} {I : kv_IM} {a0 : Nat} {v1 : Int32} {v2 : Int32} {v3 : Int32} (K : kv_V y_Md_remove d B Q kc ks n S I 47 [(0, .ref a0), (1, .int v1), (2, .int v2), (3, .int v3), (4, .int v2)] []) : kv_V y_Md_remove d B Q kc ks n S I 44 [(0, .ref a0), (1, .int v1), (2, .int v2), (3, .int v3)] [] := by
  refine kv_iload_n dd_Md_remove_44 rfl ?_
  refine kv_istore (L' := [(4, .int v2), (0, .ref a0), (1, .int v1), (2, .int v2), (3, .int v3)]) dd_Md_remove_45 (by decide) rfl ?_
  exact kv_loc [1, 2, 3, 4, 0] rfl K
theorem bl_Md_remove_47 {d : Nat} {B : kv_B} {Q : kv_Q} {kc ks n : Nat} {S : kv_SM} {I : kv_IM} {a0 : Nat} {v1 : Int32} {v2 : Int32} {v3 : Int32} {v4 : Int32} {r1 : Nat → Option Nat} {q2 : Nat} {m3 : Nat} {j4 : Nat} (hO1 : S a0 = kO 6 r1) (hr2 : r1 2 = some q2) (hA3 : S q2 = kI m3) (hi4 : v1 = nI j4 ∧ j4 < m3 ∧ m3 < 2 ^ 31) (Kt : (I q2 j4) ≤ (v4 + v3) → kv_V y_Md_remove d B Q kc ks n S I 94 [(0, .ref a0), (1, .int v1), (2, .int v2), (3, .int v3), (4, .int v4)] []) (Kf : ¬ (I q2 j4) ≤ (v4 + v3) → kv_V y_Md_remove d B Q kc ks n S I 60 [(0, .ref a0), (1, .int v1), (2, .int v2), (3, .int v3), (4, .int v4)] []) : kv_V y_Md_remove d B Q kc ks n S I 47 [(0, .ref a0), (1, .int v1), (2, .int v2), (3, .int v3), (4, .int v4)] [] := by
  refine kv_iload dd_Md_remove_47 rfl ?_
  refine kv_iload_n dd_Md_remove_49 rfl ?_
  refine kv_iadd dd_Md_remove_50 ?_
  refine kv_aload_n dd_Md_remove_51 rfl ?_
  refine kv_getR fl_Md_13 dd_Md_remove_52 hO1 hr2 ?_
  refine kv_iload_n dd_Md_remove_55 rfl ?_
  refine kv_iald j4 dd_Md_remove_56 hA3 hi4.1 hi4.2.1 hi4.2.2 ?_
  exact kv_icmp_ge 94 dd_Md_remove_57 (by decide) (fun h => kv_loc [0, 1, 2, 3, 4] rfl (Kt h)) (fun h => kv_loc [0, 1, 2, 3, 4] rfl (Kf h))
theorem bl_Md_remove_60 {d : Nat} {B : kv_B} {Q : kv_Q} {kc ks n : Nat} {S : kv_SM} {I : kv_IM} {a0 : Nat} {v1 : Int32} {v2 : Int32} {v3 : Int32} {v4 : Int32} {r1 : Nat → Option Nat} {q2 : Nat} {m3 : Nat} {j4 : Nat} {j5 : Nat} (hO1 : S a0 = kO 6 r1) (hr2 : r1 1 = some q2) (hA3 : S q2 = kI m3) (hi4 : ((1500 * v1) + v4) + v3 = nI j4 ∧ j4 < m3 ∧ m3 < 2 ^ 31) (hi5 : (1500 * v1) + v4 = nI j5 ∧ j5 < m3 ∧ m3 < 2 ^ 31) (K : kv_V y_Md_remove d B Q kc ks n S (kv_up I q2 j5 (I q2 j4)) 47 [(0, .ref a0), (1, .int v1), (2, .int v2), (3, .int v3), (4, .int (v4 + 1))] []) : kv_V y_Md_remove d B Q kc ks n S I 60 [(0, .ref a0), (1, .int v1), (2, .int v2), (3, .int v3), (4, .int v4)] [] := by
  refine kv_aload_n dd_Md_remove_60 rfl ?_
  refine kv_getR fl_Md_7 dd_Md_remove_61 hO1 hr2 ?_
  refine kv_sipush (v := 1500) dd_Md_remove_64 (by decide) ?_
  refine kv_iload_n dd_Md_remove_67 rfl ?_
  refine kv_imul dd_Md_remove_68 ?_
  refine kv_iload dd_Md_remove_69 rfl ?_
  refine kv_iadd dd_Md_remove_71 ?_
  refine kv_aload_n dd_Md_remove_72 rfl ?_
  refine kv_getR fl_Md_7 dd_Md_remove_73 hO1 hr2 ?_
  refine kv_sipush (v := 1500) dd_Md_remove_76 (by decide) ?_
  refine kv_iload_n dd_Md_remove_79 rfl ?_
  refine kv_imul dd_Md_remove_80 ?_
  refine kv_iload dd_Md_remove_81 rfl ?_
  refine kv_iadd dd_Md_remove_83 ?_
  refine kv_iload_n dd_Md_remove_84 rfl ?_
  refine kv_iadd dd_Md_remove_85 ?_
  refine kv_iald j4 dd_Md_remove_86 hA3 hi4.1 hi4.2.1 hi4.2.2 ?_
  refine kv_iast j5 dd_Md_remove_87 hA3 hi5.1 hi5.2.1 hi5.2.2 ?_
  refine kv_iinc (v := v4 + 1) (L' := [(4, .int (v4 + 1)), (0, .ref a0), (1, .int v1), (2, .int v2), (3, .int v3)]) dd_Md_remove_88 rfl rfl (by decide) rfl ?_
  refine kv_goto 47 dd_Md_remove_91 (by decide) ?_
  exact kv_loc [1, 2, 3, 4, 0] rfl K
theorem bl_Md_remove_94 {d : Nat} {B : kv_B} {Q : kv_Q} {kc ks n : Nat} {S : kv_SM} {I : kv_IM} {a0 : Nat} {v1 : Int32} {v2 : Int32} {v3 : Int32} {v4 : Int32} {r1 : Nat → Option Nat} {q2 : Nat} {m3 : Nat} {j4 : Nat} (hO1 : S a0 = kO 6 r1) (hr2 : r1 2 = some q2) (hA3 : S q2 = kI m3) (hi4 : v1 = nI j4 ∧ j4 < m3 ∧ m3 < 2 ^ 31) (hQ : Q (some (.int ((kv_up I q2 j4 ((I q2 j4) - v3)) q2 j4))) n S (kv_up I q2 j4 ((I q2 j4) - v3))) : kv_V y_Md_remove d B Q kc ks n S I 94 [(0, .ref a0), (1, .int v1), (2, .int v2), (3, .int v3), (4, .int v4)] [] := by
  refine kv_aload_n dd_Md_remove_94 rfl ?_
  refine kv_getR fl_Md_13 dd_Md_remove_95 hO1 hr2 ?_
  refine kv_iload_n dd_Md_remove_98 rfl ?_
  refine kv_dup2 dd_Md_remove_99 rfl rfl ?_
  refine kv_iald j4 dd_Md_remove_100 hA3 hi4.1 hi4.2.1 hi4.2.2 ?_
  refine kv_iload_n dd_Md_remove_101 rfl ?_
  refine kv_isub dd_Md_remove_102 ?_
  refine kv_iast j4 dd_Md_remove_103 hA3 hi4.1 hi4.2.1 hi4.2.2 ?_
  refine kv_aload_n dd_Md_remove_104 rfl ?_
  refine kv_getR fl_Md_13 dd_Md_remove_105 hO1 hr2 ?_
  refine kv_iload_n dd_Md_remove_108 rfl ?_
  refine kv_iald j4 dd_Md_remove_109 hA3 hi4.1 hi4.2.1 hi4.2.2 ?_
  exact kv_end (v := some (.int ((kv_up I q2 j4 ((I q2 j4) - v3)) q2 j4))) hQ ⟨dd_Md_remove_110, .int, rfl, rfl⟩
theorem bl_Md_copy_0 {d : Nat} {B : kv_B} {Q : kv_Q} {kc ks n : Nat} {S : kv_SM} {I : kv_IM} {a0 : Nat} {v1 : Int32} {v2 : Int32} {r1 : Nat → Option Nat} {dc kcc ksc : Nat} {Qy : kv_Q} (hO1 : S a0 = kO 6 r1) (hM : kv_T y_Md_isText dc kcc ksc B [.int v1] n S (kv_up I a0 0 0) Qy) (hdp : dc + 1 ≤ d) (hkk : kcc ≤ kc) (hkl : ksc ≤ ks) (K : ∀ v n' S' I', Qy v n' S' I' → kv_V y_Md_copy d B Q (kc - kcc) (ks - ksc) n' S' I' 9 [(0, .ref a0), (1, .int v1), (2, .int v2)] (v.toList ++ [])) : kv_V y_Md_copy d B Q kc ks n S I 0 [(0, .ref a0), (1, .int v1), (2, .int v2)] [] := by
  refine kv_aload_n dd_Md_copy_0 rfl ?_
  refine kv_iconst (v := 0) dd_Md_copy_1 (by decide) ?_
  refine kv_putI fp_Md_67 (fun h => by cases h) dd_Md_copy_2 hO1 rfl rfl ?_
  refine kv_iload_n dd_Md_copy_5 rfl ?_
  exact kv_callS [.int v1] [] ls_Md_82 hM dd_Md_copy_6 rfl hdp (Nat.le_of_ble_eq_true rfl) hkk hkl (fun v n' S' I' hv => kv_loc [0, 1, 2] rfl (K v n' S' I' hv))
theorem bl_Md_copy_9 {d : Nat} {B : kv_B} {Q : kv_Q} {kc ks n : Nat} {S : kv_SM} {I : kv_IM} {a0 : Nat} {v1 : Int32} {v2 : Int32} {t0 : Int32} (Kt : t0 = 0 → kv_V y_Md_copy d B Q kc ks n S I 19 [(0, .ref a0), (1, .int v1), (2, .int v2)] []) (Kf : ¬ t0 = 0 → kv_V y_Md_copy d B Q kc ks n S I 12 [(0, .ref a0), (1, .int v1), (2, .int v2)] []) : kv_V y_Md_copy d B Q kc ks n S I 9 [(0, .ref a0), (1, .int v1), (2, .int v2)] [.int t0] := by
  exact kv_if_eq 19 dd_Md_copy_9 (by decide) (fun h => kv_loc [0, 1, 2] rfl (Kt h)) (fun h => kv_loc [0, 1, 2] rfl (Kf h))
theorem bl_Md_copy_12 {d : Nat} {B : kv_B} {Q : kv_Q} {kc ks n : Nat} {S : kv_SM} {I : kv_IM} {a0 : Nat} {v1 : Int32} {v2 : Int32} {dc kcc ksc : Nat} {Qy : kv_Q} (hM : kv_T y_Md_isText dc kcc ksc B [.int v2] n S I Qy) (hdp : dc + 1 ≤ d) (hkk : kcc ≤ kc) (hkl : ksc ≤ ks) (K : ∀ v n' S' I', Qy v n' S' I' → kv_V y_Md_copy d B Q (kc - kcc) (ks - ksc) n' S' I' 16 [(0, .ref a0), (1, .int v1), (2, .int v2)] (v.toList ++ [])) : kv_V y_Md_copy d B Q kc ks n S I 12 [(0, .ref a0), (1, .int v1), (2, .int v2)] [] := by
  refine kv_iload_n dd_Md_copy_12 rfl ?_
  exact kv_callS [.int v2] [] ls_Md_82 hM dd_Md_copy_13 rfl hdp (Nat.le_of_ble_eq_true rfl) hkk hkl (fun v n' S' I' hv => kv_loc [0, 1, 2] rfl (K v n' S' I' hv))
theorem bl_Md_copy_16 {d : Nat} {B : kv_B} {Q : kv_Q} {kc ks n : Nat} {S : kv_SM} {I : kv_IM} {a0 : Nat} {v1 : Int32} {v2 : Int32} {t0 : Int32} (Kt : ¬ t0 = 0 → kv_V y_Md_copy d B Q kc ks n S I 21 [(0, .ref a0), (1, .int v1), (2, .int v2)] []) (Kf : t0 = 0 → kv_V y_Md_copy d B Q kc ks n S I 19 [(0, .ref a0), (1, .int v1), (2, .int v2)] []) : kv_V y_Md_copy d B Q kc ks n S I 16 [(0, .ref a0), (1, .int v1), (2, .int v2)] [.int t0] := by
  exact kv_if_ne 21 dd_Md_copy_16 (by decide) (fun h => kv_loc [0, 1, 2] rfl (Kt h)) (fun h => kv_loc [0, 1, 2] rfl (Kf h))
theorem bl_Md_copy_19 {d : Nat} {B : kv_B} {Q : kv_Q} {kc ks n : Nat} {S : kv_SM} {I : kv_IM} {a0 : Nat} {v1 : Int32} {v2 : Int32} (hQ : Q (some (.int ((-1)))) n S I) : kv_V y_Md_copy d B Q kc ks n S I 19 [(0, .ref a0), (1, .int v1), (2, .int v2)] [] := by
  refine kv_iconst (v := (-1)) dd_Md_copy_19 (by decide) ?_
  exact kv_end (v := some (.int ((-1)))) hQ ⟨dd_Md_copy_20, .int, rfl, rfl⟩
theorem bl_Md_copy_21 {d : Nat} {B : kv_B} {Q : kv_Q} {kc ks n : Nat} {S : kv_SM} {I : kv_IM} {a0 : Nat} {v1 : Int32} {v2 : Int32} (K : kv_V y_Md_copy d B Q kc ks n S I 23 [(0, .ref a0), (1, .int v1), (2, .int v2), (3, .int 0)] []) : kv_V y_Md_copy d B Q kc ks n S I 21 [(0, .ref a0), (1, .int v1), (2, .int v2)] [] := by
  refine kv_iconst (v := 0) dd_Md_copy_21 (by decide) ?_
  refine kv_istore_n (L' := [(3, .int 0), (0, .ref a0), (1, .int v1), (2, .int v2)]) dd_Md_copy_22 (by decide) rfl ?_
  exact kv_loc [1, 2, 3, 0] rfl K
theorem bl_Md_copy_23 {d : Nat} {B : kv_B} {Q : kv_Q} {kc ks n : Nat} {S : kv_SM} {I : kv_IM} {a0 : Nat} {v1 : Int32} {v2 : Int32} {v3 : Int32} {r1 : Nat → Option Nat} {q2 : Nat} {m3 : Nat} {j4 : Nat} (hO1 : S a0 = kO 6 r1) (hr2 : r1 2 = some q2) (hA3 : S q2 = kI m3) (hi4 : v2 = nI j4 ∧ j4 < m3 ∧ m3 < 2 ^ 31) (Kt : (I q2 j4) ≤ v3 → kv_V y_Md_copy d B Q kc ks n S I 63 [(0, .ref a0), (1, .int v1), (2, .int v2), (3, .int v3)] []) (Kf : ¬ (I q2 j4) ≤ v3 → kv_V y_Md_copy d B Q kc ks n S I 33 [(0, .ref a0), (1, .int v1), (2, .int v2), (3, .int v3)] []) : kv_V y_Md_copy d B Q kc ks n S I 23 [(0, .ref a0), (1, .int v1), (2, .int v2), (3, .int v3)] [] := by
  refine kv_iload_n dd_Md_copy_23 rfl ?_
  refine kv_aload_n dd_Md_copy_24 rfl ?_
  refine kv_getR fl_Md_13 dd_Md_copy_25 hO1 hr2 ?_
  refine kv_iload_n dd_Md_copy_28 rfl ?_
  refine kv_iald j4 dd_Md_copy_29 hA3 hi4.1 hi4.2.1 hi4.2.2 ?_
  exact kv_icmp_ge 63 dd_Md_copy_30 (by decide) (fun h => kv_loc [0, 1, 2, 3] rfl (Kt h)) (fun h => kv_loc [0, 1, 2, 3] rfl (Kf h))
theorem bl_Md_copy_33 {d : Nat} {B : kv_B} {Q : kv_Q} {kc ks n : Nat} {S : kv_SM} {I : kv_IM} {a0 : Nat} {v1 : Int32} {v2 : Int32} {v3 : Int32} {r1 : Nat → Option Nat} {q2 : Nat} {m3 : Nat} {j4 : Nat} {j5 : Nat} (hO1 : S a0 = kO 6 r1) (hr2 : r1 1 = some q2) (hA3 : S q2 = kI m3) (hi4 : (1500 * v2) + v3 = nI j4 ∧ j4 < m3 ∧ m3 < 2 ^ 31) (hi5 : (1500 * v1) + v3 = nI j5 ∧ j5 < m3 ∧ m3 < 2 ^ 31) (K : kv_V y_Md_copy d B Q kc ks n S (kv_up I q2 j5 (I q2 j4)) 23 [(0, .ref a0), (1, .int v1), (2, .int v2), (3, .int (v3 + 1))] []) : kv_V y_Md_copy d B Q kc ks n S I 33 [(0, .ref a0), (1, .int v1), (2, .int v2), (3, .int v3)] [] := by
  refine kv_aload_n dd_Md_copy_33 rfl ?_
  refine kv_getR fl_Md_7 dd_Md_copy_34 hO1 hr2 ?_
  refine kv_sipush (v := 1500) dd_Md_copy_37 (by decide) ?_
  refine kv_iload_n dd_Md_copy_40 rfl ?_
  refine kv_imul dd_Md_copy_41 ?_
  refine kv_iload_n dd_Md_copy_42 rfl ?_
  refine kv_iadd dd_Md_copy_43 ?_
  refine kv_aload_n dd_Md_copy_44 rfl ?_
  refine kv_getR fl_Md_7 dd_Md_copy_45 hO1 hr2 ?_
  refine kv_sipush (v := 1500) dd_Md_copy_48 (by decide) ?_
  refine kv_iload_n dd_Md_copy_51 rfl ?_
  refine kv_imul dd_Md_copy_52 ?_
  refine kv_iload_n dd_Md_copy_53 rfl ?_
  refine kv_iadd dd_Md_copy_54 ?_
  refine kv_iald j4 dd_Md_copy_55 hA3 hi4.1 hi4.2.1 hi4.2.2 ?_
  refine kv_iast j5 dd_Md_copy_56 hA3 hi5.1 hi5.2.1 hi5.2.2 ?_
  refine kv_iinc (v := v3 + 1) (L' := [(3, .int (v3 + 1)), (0, .ref a0), (1, .int v1), (2, .int v2)]) dd_Md_copy_57 rfl rfl (by decide) rfl ?_
  refine kv_goto 23 dd_Md_copy_60 (by decide) ?_
  exact kv_loc [1, 2, 3, 0] rfl K
theorem bl_Md_copy_63 {d : Nat} {B : kv_B} {Q : kv_Q} {kc ks n : Nat} {S : kv_SM} {I : kv_IM} {a0 : Nat} {v1 : Int32} {v2 : Int32} {v3 : Int32} {r1 : Nat → Option Nat} {q2 : Nat} {m3 : Nat} {j4 : Nat} {j5 : Nat} (hO1 : S a0 = kO 6 r1) (hr2 : r1 2 = some q2) (hA3 : S q2 = kI m3) (hi4 : v2 = nI j4 ∧ j4 < m3 ∧ m3 < 2 ^ 31) (hi5 : v1 = nI j5 ∧ j5 < m3 ∧ m3 < 2 ^ 31) (hQ : Q (some (.int ((kv_up I q2 j5 (I q2 j4)) q2 j5))) n S (kv_up I q2 j5 (I q2 j4))) : kv_V y_Md_copy d B Q kc ks n S I 63 [(0, .ref a0), (1, .int v1), (2, .int v2), (3, .int v3)] [] := by
  refine kv_aload_n dd_Md_copy_63 rfl ?_
  refine kv_getR fl_Md_13 dd_Md_copy_64 hO1 hr2 ?_
  refine kv_iload_n dd_Md_copy_67 rfl ?_
  refine kv_aload_n dd_Md_copy_68 rfl ?_
  refine kv_getR fl_Md_13 dd_Md_copy_69 hO1 hr2 ?_
  refine kv_iload_n dd_Md_copy_72 rfl ?_
  refine kv_iald j4 dd_Md_copy_73 hA3 hi4.1 hi4.2.1 hi4.2.2 ?_
  refine kv_iast j5 dd_Md_copy_74 hA3 hi5.1 hi5.2.1 hi5.2.2 ?_
  refine kv_aload_n dd_Md_copy_75 rfl ?_
  refine kv_getR fl_Md_13 dd_Md_copy_76 hO1 hr2 ?_
  refine kv_iload_n dd_Md_copy_79 rfl ?_
  refine kv_iald j5 dd_Md_copy_80 hA3 hi5.1 hi5.2.1 hi5.2.2 ?_
  exact kv_end (v := some (.int ((kv_up I q2 j5 (I q2 j4)) q2 j5))) hQ ⟨dd_Md_copy_81, .int, rfl, rfl⟩
theorem bl_Md_size_0 {d : Nat} {B : kv_B} {Q : kv_Q} {kc ks n : Nat} {S : kv_SM} {I : kv_IM} {a0 : Nat} {v1 : Int32} {r1 : Nat → Option Nat} {dc kcc ksc : Nat} {Qy : kv_Q} (hO1 : S a0 = kO 6 r1) (hM : kv_T y_Md_isText dc kcc ksc B [.int v1] n S (kv_up I a0 0 0) Qy) (hdp : dc + 1 ≤ d) (hkk : kcc ≤ kc) (hkl : ksc ≤ ks) (K : ∀ v n' S' I', Qy v n' S' I' → kv_V y_Md_size d B Q (kc - kcc) (ks - ksc) n' S' I' 9 [(0, .ref a0), (1, .int v1)] (v.toList ++ [])) : kv_V y_Md_size d B Q kc ks n S I 0 [(0, .ref a0), (1, .int v1)] [] := by
  refine kv_aload_n dd_Md_size_0 rfl ?_
  refine kv_iconst (v := 0) dd_Md_size_1 (by decide) ?_
  refine kv_putI fp_Md_67 (fun h => by cases h) dd_Md_size_2 hO1 rfl rfl ?_
  refine kv_iload_n dd_Md_size_5 rfl ?_
  exact kv_callS [.int v1] [] ls_Md_82 hM dd_Md_size_6 rfl hdp (Nat.le_of_ble_eq_true rfl) hkk hkl (fun v n' S' I' hv => kv_loc [0, 1] rfl (K v n' S' I' hv))
theorem bl_Md_size_9 {d : Nat} {B : kv_B} {Q : kv_Q} {kc ks n : Nat} {S : kv_SM} {I : kv_IM} {a0 : Nat} {v1 : Int32} {t0 : Int32} (Kt : t0 = 0 → kv_V y_Md_size d B Q kc ks n S I 21 [(0, .ref a0), (1, .int v1)] []) (Kf : ¬ t0 = 0 → kv_V y_Md_size d B Q kc ks n S I 12 [(0, .ref a0), (1, .int v1)] []) : kv_V y_Md_size d B Q kc ks n S I 9 [(0, .ref a0), (1, .int v1)] [.int t0] := by
  exact kv_if_eq 21 dd_Md_size_9 (by decide) (fun h => kv_loc [0, 1] rfl (Kt h)) (fun h => kv_loc [0, 1] rfl (Kf h))
theorem bl_Md_size_12 {d : Nat} {B : kv_B} {Q : kv_Q} {kc ks n : Nat} {S : kv_SM} {I : kv_IM} {a0 : Nat} {v1 : Int32} {r1 : Nat → Option Nat} {q2 : Nat} {m3 : Nat} {j4 : Nat} (hO1 : S a0 = kO 6 r1) (hr2 : r1 2 = some q2) (hA3 : S q2 = kI m3) (hi4 : v1 = nI j4 ∧ j4 < m3 ∧ m3 < 2 ^ 31) (K : kv_V y_Md_size d B Q kc ks n S I 22 [(0, .ref a0), (1, .int v1)] [.int (I q2 j4)]) : kv_V y_Md_size d B Q kc ks n S I 12 [(0, .ref a0), (1, .int v1)] [] := by
  refine kv_aload_n dd_Md_size_12 rfl ?_
  refine kv_getR fl_Md_13 dd_Md_size_13 hO1 hr2 ?_
  refine kv_iload_n dd_Md_size_16 rfl ?_
  refine kv_iald j4 dd_Md_size_17 hA3 hi4.1 hi4.2.1 hi4.2.2 ?_
  refine kv_goto 22 dd_Md_size_18 (by decide) ?_
  exact kv_loc [0, 1] rfl K
theorem bl_Md_size_21 {d : Nat} {B : kv_B} {Q : kv_Q} {kc ks n : Nat} {S : kv_SM} {I : kv_IM} {a0 : Nat} {v1 : Int32} (K : kv_V y_Md_size d B Q kc ks n S I 22 [(0, .ref a0), (1, .int v1)] [.int ((-1))]) : kv_V y_Md_size d B Q kc ks n S I 21 [(0, .ref a0), (1, .int v1)] [] := by
  refine kv_iconst (v := (-1)) dd_Md_size_21 (by decide) ?_
  exact kv_loc [0, 1] rfl K
theorem bl_Md_size_22 {d : Nat} {B : kv_B} {Q : kv_Q} {kc ks n : Nat} {S : kv_SM} {I : kv_IM} {a0 : Nat} {v1 : Int32} {t0 : Int32} (hQ : Q (some (.int t0)) n S I) : kv_V y_Md_size d B Q kc ks n S I 22 [(0, .ref a0), (1, .int v1)] [.int t0] := by
  exact kv_end (v := some (.int t0)) hQ ⟨dd_Md_size_22, .int, rfl, rfl⟩
theorem bl_Md_byteAt_0 {d : Nat} {B : kv_B} {Q : kv_Q} {kc ks n : Nat} {S : kv_SM} {I : kv_IM} {a0 : Nat} {v1 : Int32} {v2 : Int32} {r1 : Nat → Option Nat} {dc kcc ksc : Nat} {Qy : kv_Q} (hO1 : S a0 = kO 6 r1) (hM : kv_T y_Md_isText dc kcc ksc B [.int v1] n S (kv_up I a0 0 0) Qy) (hdp : dc + 1 ≤ d) (hkk : kcc ≤ kc) (hkl : ksc ≤ ks) (K : ∀ v n' S' I', Qy v n' S' I' → kv_V y_Md_byteAt d B Q (kc - kcc) (ks - ksc) n' S' I' 9 [(0, .ref a0), (1, .int v1), (2, .int v2)] (v.toList ++ [])) : kv_V y_Md_byteAt d B Q kc ks n S I 0 [(0, .ref a0), (1, .int v1), (2, .int v2)] [] := by
  refine kv_aload_n dd_Md_byteAt_0 rfl ?_
  refine kv_iconst (v := 0) dd_Md_byteAt_1 (by decide) ?_
  refine kv_putI fp_Md_67 (fun h => by cases h) dd_Md_byteAt_2 hO1 rfl rfl ?_
  refine kv_iload_n dd_Md_byteAt_5 rfl ?_
  exact kv_callS [.int v1] [] ls_Md_82 hM dd_Md_byteAt_6 rfl hdp (Nat.le_of_ble_eq_true rfl) hkk hkl (fun v n' S' I' hv => kv_loc [0, 1, 2] rfl (K v n' S' I' hv))
theorem bl_Md_byteAt_9 {d : Nat} {B : kv_B} {Q : kv_Q} {kc ks n : Nat} {S : kv_SM} {I : kv_IM} {a0 : Nat} {v1 : Int32} {v2 : Int32} {t0 : Int32} (Kt : t0 = 0 → kv_V y_Md_byteAt d B Q kc ks n S I 43 [(0, .ref a0), (1, .int v1), (2, .int v2)] []) (Kf : ¬ t0 = 0 → kv_V y_Md_byteAt d B Q kc ks n S I 12 [(0, .ref a0), (1, .int v1), (2, .int v2)] []) : kv_V y_Md_byteAt d B Q kc ks n S I 9 [(0, .ref a0), (1, .int v1), (2, .int v2)] [.int t0] := by
  exact kv_if_eq 43 dd_Md_byteAt_9 (by decide) (fun h => kv_loc [0, 1, 2] rfl (Kt h)) (fun h => kv_loc [0, 1, 2] rfl (Kf h))
theorem bl_Md_byteAt_12 {d : Nat} {B : kv_B} {Q : kv_Q} {kc ks n : Nat} {S : kv_SM} {I : kv_IM} {a0 : Nat} {v1 : Int32} {v2 : Int32} {r1 : Nat → Option Nat} {q2 : Nat} {m3 : Nat} {j4 : Nat} {dc kcc ksc : Nat} {Qy : kv_Q} (hO1 : S a0 = kO 6 r1) (hr2 : r1 2 = some q2) (hA3 : S q2 = kI m3) (hi4 : v1 = nI j4 ∧ j4 < m3 ∧ m3 < 2 ^ 31) (hM : kv_T y_Md_in dc kcc ksc B [.int v2, .int 0, .int ((I q2 j4) - 1)] n S I Qy) (hdp : dc + 1 ≤ d) (hkk : kcc ≤ kc) (hkl : ksc ≤ ks) (K : ∀ v n' S' I', Qy v n' S' I' → kv_V y_Md_byteAt d B Q (kc - kcc) (ks - ksc) n' S' I' 25 [(0, .ref a0), (1, .int v1), (2, .int v2)] (v.toList ++ [])) : kv_V y_Md_byteAt d B Q kc ks n S I 12 [(0, .ref a0), (1, .int v1), (2, .int v2)] [] := by
  refine kv_iload_n dd_Md_byteAt_12 rfl ?_
  refine kv_iconst (v := 0) dd_Md_byteAt_13 (by decide) ?_
  refine kv_aload_n dd_Md_byteAt_14 rfl ?_
  refine kv_getR fl_Md_13 dd_Md_byteAt_15 hO1 hr2 ?_
  refine kv_iload_n dd_Md_byteAt_18 rfl ?_
  refine kv_iald j4 dd_Md_byteAt_19 hA3 hi4.1 hi4.2.1 hi4.2.2 ?_
  refine kv_iconst (v := 1) dd_Md_byteAt_20 (by decide) ?_
  refine kv_isub dd_Md_byteAt_21 ?_
  exact kv_callS [.int v2, .int 0, .int ((I q2 j4) - 1)] [] ls_Md_72 hM dd_Md_byteAt_22 rfl hdp (Nat.le_of_ble_eq_true rfl) hkk hkl (fun v n' S' I' hv => kv_loc [0, 1, 2] rfl (K v n' S' I' hv))
theorem bl_Md_byteAt_25 {d : Nat} {B : kv_B} {Q : kv_Q} {kc ks n : Nat} {S : kv_SM} {I : kv_IM} {a0 : Nat} {v1 : Int32} {v2 : Int32} {t0 : Int32} (Kt : t0 = 0 → kv_V y_Md_byteAt d B Q kc ks n S I 43 [(0, .ref a0), (1, .int v1), (2, .int v2)] []) (Kf : ¬ t0 = 0 → kv_V y_Md_byteAt d B Q kc ks n S I 28 [(0, .ref a0), (1, .int v1), (2, .int v2)] []) : kv_V y_Md_byteAt d B Q kc ks n S I 25 [(0, .ref a0), (1, .int v1), (2, .int v2)] [.int t0] := by
  exact kv_if_eq 43 dd_Md_byteAt_25 (by decide) (fun h => kv_loc [0, 1, 2] rfl (Kt h)) (fun h => kv_loc [0, 1, 2] rfl (Kf h))
theorem bl_Md_byteAt_28 {d : Nat} {B : kv_B} {Q : kv_Q} {kc ks n : Nat} {S : kv_SM} {I : kv_IM} {a0 : Nat} {v1 : Int32} {v2 : Int32} {r1 : Nat → Option Nat} {q2 : Nat} {m3 : Nat} {j4 : Nat} (hO1 : S a0 = kO 6 r1) (hr2 : r1 1 = some q2) (hA3 : S q2 = kI m3) (hi4 : (1500 * v1) + v2 = nI j4 ∧ j4 < m3 ∧ m3 < 2 ^ 31) (K : kv_V y_Md_byteAt d B Q kc ks n S I 44 [(0, .ref a0), (1, .int v1), (2, .int v2)] [.int (I q2 j4)]) : kv_V y_Md_byteAt d B Q kc ks n S I 28 [(0, .ref a0), (1, .int v1), (2, .int v2)] [] := by
  refine kv_aload_n dd_Md_byteAt_28 rfl ?_
  refine kv_getR fl_Md_7 dd_Md_byteAt_29 hO1 hr2 ?_
  refine kv_sipush (v := 1500) dd_Md_byteAt_32 (by decide) ?_
  refine kv_iload_n dd_Md_byteAt_35 rfl ?_
  refine kv_imul dd_Md_byteAt_36 ?_
  refine kv_iload_n dd_Md_byteAt_37 rfl ?_
  refine kv_iadd dd_Md_byteAt_38 ?_
  refine kv_iald j4 dd_Md_byteAt_39 hA3 hi4.1 hi4.2.1 hi4.2.2 ?_
  refine kv_goto 44 dd_Md_byteAt_40 (by decide) ?_
  exact kv_loc [0, 1, 2] rfl K
theorem bl_Md_byteAt_43 {d : Nat} {B : kv_B} {Q : kv_Q} {kc ks n : Nat} {S : kv_SM} {I : kv_IM} {a0 : Nat} {v1 : Int32} {v2 : Int32} (K : kv_V y_Md_byteAt d B Q kc ks n S I 44 [(0, .ref a0), (1, .int v1), (2, .int v2)] [.int ((-1))]) : kv_V y_Md_byteAt d B Q kc ks n S I 43 [(0, .ref a0), (1, .int v1), (2, .int v2)] [] := by
  refine kv_iconst (v := (-1)) dd_Md_byteAt_43 (by decide) ?_
  exact kv_loc [0, 1, 2] rfl K
theorem bl_Md_byteAt_44 {d : Nat} {B : kv_B} {Q : kv_Q} {kc ks n : Nat} {S : kv_SM} {I : kv_IM} {a0 : Nat} {v1 : Int32} {v2 : Int32} {t0 : Int32} (hQ : Q (some (.int t0)) n S I) : kv_V y_Md_byteAt d B Q kc ks n S I 44 [(0, .ref a0), (1, .int v1), (2, .int v2)] [.int t0] := by
  exact kv_end (v := some (.int t0)) hQ ⟨dd_Md_byteAt_44, .int, rfl, rfl⟩
theorem bl_Md_blocks_0 {d : Nat} {B : kv_B} {Q : kv_Q} {kc ks n : Nat} {S : kv_SM} {I : kv_IM} {a0 : Nat} {v1 : Int32} {r1 : Nat → Option Nat} {dc kcc ksc : Nat} {Qy : kv_Q} (hO1 : S a0 = kO 6 r1) (hM : kv_T y_Md_isText dc kcc ksc B [.int v1] n S (kv_up I a0 0 0) Qy) (hdp : dc + 1 ≤ d) (hkk : kcc ≤ kc) (hkl : ksc ≤ ks) (K : ∀ v n' S' I', Qy v n' S' I' → kv_V y_Md_blocks d B Q (kc - kcc) (ks - ksc) n' S' I' 9 [(0, .ref a0), (1, .int v1)] (v.toList ++ [])) : kv_V y_Md_blocks d B Q kc ks n S I 0 [(0, .ref a0), (1, .int v1)] [] := by
  refine kv_aload_n dd_Md_blocks_0 rfl ?_
  refine kv_iconst (v := 0) dd_Md_blocks_1 (by decide) ?_
  refine kv_putI fp_Md_67 (fun h => by cases h) dd_Md_blocks_2 hO1 rfl rfl ?_
  refine kv_iload_n dd_Md_blocks_5 rfl ?_
  exact kv_callS [.int v1] [] ls_Md_82 hM dd_Md_blocks_6 rfl hdp (Nat.le_of_ble_eq_true rfl) hkk hkl (fun v n' S' I' hv => kv_loc [0, 1] rfl (K v n' S' I' hv))
theorem bl_Md_blocks_9 {d : Nat} {B : kv_B} {Q : kv_Q} {kc ks n : Nat} {S : kv_SM} {I : kv_IM} {a0 : Nat} {v1 : Int32} {t0 : Int32} (Kt : t0 = 0 → kv_V y_Md_blocks d B Q kc ks n S I 24 [(0, .ref a0), (1, .int v1)] []) (Kf : ¬ t0 = 0 → kv_V y_Md_blocks d B Q kc ks n S I 12 [(0, .ref a0), (1, .int v1)] []) : kv_V y_Md_blocks d B Q kc ks n S I 9 [(0, .ref a0), (1, .int v1)] [.int t0] := by
  exact kv_if_eq 24 dd_Md_blocks_9 (by decide) (fun h => kv_loc [0, 1] rfl (Kt h)) (fun h => kv_loc [0, 1] rfl (Kf h))
theorem bl_Md_blocks_12 {d : Nat} {B : kv_B} {Q : kv_Q} {kc ks n : Nat} {S : kv_SM} {I : kv_IM} {a0 : Nat} {v1 : Int32} {r1 : Nat → Option Nat} {q2 : Nat} {dc kcc ksc : Nat} {Qy : kv_Q} (hO1 : S a0 = kO 6 r1) (hr2 : r1 10 = some q2) (hM : kv_T y_Md_layCuts dc kcc ksc B [.ref a0, .int v1, .ref q2] n S I Qy) (hdp : dc + 1 ≤ d) (hkk : kcc ≤ kc) (hkl : ksc ≤ ks) (K : ∀ v n' S' I', Qy v n' S' I' → kv_V y_Md_blocks d B Q (kc - kcc) (ks - ksc) n' S' I' 21 [(0, .ref a0), (1, .int v1)] (v.toList ++ [])) : kv_V y_Md_blocks d B Q kc ks n S I 12 [(0, .ref a0), (1, .int v1)] [] := by
  refine kv_aload_n dd_Md_blocks_12 rfl ?_
  refine kv_iload_n dd_Md_blocks_13 rfl ?_
  refine kv_aload_n dd_Md_blocks_14 rfl ?_
  refine kv_getR fl_Md_32 dd_Md_blocks_15 hO1 hr2 ?_
  exact kv_callV [.int v1, .ref q2] [] ls_Md_106 hO1 hM dd_Md_blocks_18 rfl hdp (Nat.le_of_ble_eq_true rfl) hkk hkl (fun v n' S' I' hv => kv_loc [0, 1] rfl (K v n' S' I' hv))
theorem bl_Md_blocks_21 {d : Nat} {B : kv_B} {Q : kv_Q} {kc ks n : Nat} {S : kv_SM} {I : kv_IM} {a0 : Nat} {v1 : Int32} {t0 : Int32} (K : kv_V y_Md_blocks d B Q kc ks n S I 25 [(0, .ref a0), (1, .int v1)] [.int t0]) : kv_V y_Md_blocks d B Q kc ks n S I 21 [(0, .ref a0), (1, .int v1)] [.int t0] := by
  refine kv_goto 25 dd_Md_blocks_21 (by decide) ?_
  exact kv_loc [0, 1] rfl K
theorem bl_Md_blocks_24 {d : Nat} {B : kv_B} {Q : kv_Q} {kc ks n : Nat} {S : kv_SM} {I : kv_IM} {a0 : Nat} {v1 : Int32} (K : kv_V y_Md_blocks d B Q kc ks n S I 25 [(0, .ref a0), (1, .int v1)] [.int ((-1))]) : kv_V y_Md_blocks d B Q kc ks n S I 24 [(0, .ref a0), (1, .int v1)] [] := by
  refine kv_iconst (v := (-1)) dd_Md_blocks_24 (by decide) ?_
  exact kv_loc [0, 1] rfl K
theorem bl_Md_blocks_25 {d : Nat} {B : kv_B} {Q : kv_Q} {kc ks n : Nat} {S : kv_SM} {I : kv_IM} {a0 : Nat} {v1 : Int32} {t0 : Int32} (hQ : Q (some (.int t0)) n S I) : kv_V y_Md_blocks d B Q kc ks n S I 25 [(0, .ref a0), (1, .int v1)] [.int t0] := by
  exact kv_end (v := some (.int t0)) hQ ⟨dd_Md_blocks_25, .int, rfl, rfl⟩
theorem bl_Md_layCuts_0 {d : Nat} {B : kv_B} {Q : kv_Q} {kc ks n : Nat} {S : kv_SM} {I : kv_IM} {a0 : Nat} {v1 : Int32} {a2 : Nat} (K : kv_V y_Md_layCuts d B Q kc ks n S I 5 [(0, .ref a0), (1, .int v1), (2, .ref a2), (3, .int 0), (4, .int 0)] []) : kv_V y_Md_layCuts d B Q kc ks n S I 0 [(0, .ref a0), (1, .int v1), (2, .ref a2)] [] := by
  refine kv_iconst (v := 0) dd_Md_layCuts_0 (by decide) ?_
  refine kv_istore_n (L' := [(3, .int 0), (0, .ref a0), (1, .int v1), (2, .ref a2)]) dd_Md_layCuts_1 (by decide) rfl ?_
  refine kv_iconst (v := 0) dd_Md_layCuts_2 (by decide) ?_
  refine kv_istore (L' := [(4, .int 0), (3, .int 0), (0, .ref a0), (1, .int v1), (2, .ref a2)]) dd_Md_layCuts_3 (by decide) rfl ?_
  exact kv_loc [2, 3, 4, 1, 0] rfl K
theorem bl_Md_layCuts_5 {d : Nat} {B : kv_B} {Q : kv_Q} {kc ks n : Nat} {S : kv_SM} {I : kv_IM} {a0 : Nat} {v1 : Int32} {a2 : Nat} {v3 : Int32} {v4 : Int32} {r1 : Nat → Option Nat} {q2 : Nat} {m3 : Nat} {j4 : Nat} (hO1 : S a0 = kO 6 r1) (hr2 : r1 2 = some q2) (hA3 : S q2 = kI m3) (hi4 : v1 = nI j4 ∧ j4 < m3 ∧ m3 < 2 ^ 31) (Kt : (I q2 j4) ≤ v4 → kv_V y_Md_layCuts d B Q kc ks n S I 39 [(0, .ref a0), (1, .int v1), (2, .ref a2), (3, .int v3), (4, .int v4)] []) (Kf : ¬ (I q2 j4) ≤ v4 → kv_V y_Md_layCuts d B Q kc ks n S I 16 [(0, .ref a0), (1, .int v1), (2, .ref a2), (3, .int v3), (4, .int v4)] []) : kv_V y_Md_layCuts d B Q kc ks n S I 5 [(0, .ref a0), (1, .int v1), (2, .ref a2), (3, .int v3), (4, .int v4)] [] := by
  refine kv_iload dd_Md_layCuts_5 rfl ?_
  refine kv_aload_n dd_Md_layCuts_7 rfl ?_
  refine kv_getR fl_Md_13 dd_Md_layCuts_8 hO1 hr2 ?_
  refine kv_iload_n dd_Md_layCuts_11 rfl ?_
  refine kv_iald j4 dd_Md_layCuts_12 hA3 hi4.1 hi4.2.1 hi4.2.2 ?_
  exact kv_icmp_ge 39 dd_Md_layCuts_13 (by decide) (fun h => kv_loc [0, 1, 2, 3, 4] rfl (Kt h)) (fun h => kv_loc [0, 1, 2, 3, 4] rfl (Kf h))
theorem bl_Md_layCuts_16 {d : Nat} {B : kv_B} {Q : kv_Q} {kc ks n : Nat} {S : kv_SM} {I : kv_IM} {a0 : Nat} {v1 : Int32} {a2 : Nat} {v3 : Int32} {v4 : Int32} {m1 : Nat} {j2 : Nat} {dc kcc ksc : Nat} {Qy : kv_Q} {r3 : Nat → Option Nat} (hA1 : S a2 = kI m1) (hi2 : v3 = nI j2 ∧ j2 < m1 ∧ m1 < 2 ^ 31) (hO3 : S a0 = kO 6 r3) (hM : kv_T y_Md_longFrom dc kcc ksc B [.ref a0, .int v1, .int v4] n S (kv_up I a2 j2 v4) Qy) (hdp : dc + 1 ≤ d) (hkk : kcc ≤ kc) (hkl : ksc ≤ ks) (K : ∀ v n' S' I', Qy v n' S' I' → kv_V y_Md_layCuts d B Q (kc - kcc) (ks - ksc) n' S' I' 33 [(0, .ref a0), (1, .int v1), (2, .ref a2), (3, .int (v3 + 1)), (4, .int v4)] (v.toList ++ [.int v4])) : kv_V y_Md_layCuts d B Q kc ks n S I 16 [(0, .ref a0), (1, .int v1), (2, .ref a2), (3, .int v3), (4, .int v4)] [] := by
  refine kv_aload_n dd_Md_layCuts_16 rfl ?_
  refine kv_iload_n dd_Md_layCuts_17 rfl ?_
  refine kv_iload dd_Md_layCuts_18 rfl ?_
  refine kv_iast j2 dd_Md_layCuts_20 hA1 hi2.1 hi2.2.1 hi2.2.2 ?_
  refine kv_iinc (v := v3 + 1) (L' := [(3, .int (v3 + 1)), (0, .ref a0), (1, .int v1), (2, .ref a2), (4, .int v4)]) dd_Md_layCuts_21 rfl rfl (by decide) rfl ?_
  refine kv_iload dd_Md_layCuts_24 rfl ?_
  refine kv_aload_n dd_Md_layCuts_26 rfl ?_
  refine kv_iload_n dd_Md_layCuts_27 rfl ?_
  refine kv_iload dd_Md_layCuts_28 rfl ?_
  exact kv_callV [.int v1, .int v4] [.int v4] ls_Md_103 hO3 hM dd_Md_layCuts_30 rfl hdp (Nat.le_of_ble_eq_true rfl) hkk hkl (fun v n' S' I' hv => kv_loc [1, 2, 3, 0, 4] rfl (K v n' S' I' hv))
theorem bl_Md_layCuts_33 {d : Nat} {B : kv_B} {Q : kv_Q} {kc ks n : Nat} {S : kv_SM} {I : kv_IM} {a0 : Nat} {v1 : Int32} {a2 : Nat} {v3 : Int32} {v4 : Int32} {t0 : Int32} {t1 : Int32} (K : kv_V y_Md_layCuts d B Q kc ks n S I 5 [(0, .ref a0), (1, .int v1), (2, .ref a2), (3, .int v3), (4, .int (t1 + t0))] []) : kv_V y_Md_layCuts d B Q kc ks n S I 33 [(0, .ref a0), (1, .int v1), (2, .ref a2), (3, .int v3), (4, .int v4)] [.int t0, .int t1] := by
  refine kv_iadd dd_Md_layCuts_33 ?_
  refine kv_istore (L' := [(4, .int (t1 + t0)), (0, .ref a0), (1, .int v1), (2, .ref a2), (3, .int v3)]) dd_Md_layCuts_34 (by decide) rfl ?_
  refine kv_goto 5 dd_Md_layCuts_36 (by decide) ?_
  exact kv_loc [1, 2, 3, 4, 0] rfl K
theorem bl_Md_layCuts_39 {d : Nat} {B : kv_B} {Q : kv_Q} {kc ks n : Nat} {S : kv_SM} {I : kv_IM} {a0 : Nat} {v1 : Int32} {a2 : Nat} {v3 : Int32} {v4 : Int32} {r1 : Nat → Option Nat} {q2 : Nat} {m3 : Nat} {j4 : Nat} {m5 : Nat} {j6 : Nat} (hO1 : S a0 = kO 6 r1) (hr2 : r1 2 = some q2) (hA3 : S q2 = kI m3) (hi4 : v1 = nI j4 ∧ j4 < m3 ∧ m3 < 2 ^ 31) (hA5 : S a2 = kI m5) (hi6 : v3 = nI j6 ∧ j6 < m5 ∧ m5 < 2 ^ 31) (hQ : Q (some (.int v3)) n S (kv_up I a2 j6 (I q2 j4))) : kv_V y_Md_layCuts d B Q kc ks n S I 39 [(0, .ref a0), (1, .int v1), (2, .ref a2), (3, .int v3), (4, .int v4)] [] := by
  refine kv_aload_n dd_Md_layCuts_39 rfl ?_
  refine kv_iload_n dd_Md_layCuts_40 rfl ?_
  refine kv_aload_n dd_Md_layCuts_41 rfl ?_
  refine kv_getR fl_Md_13 dd_Md_layCuts_42 hO1 hr2 ?_
  refine kv_iload_n dd_Md_layCuts_45 rfl ?_
  refine kv_iald j4 dd_Md_layCuts_46 hA3 hi4.1 hi4.2.1 hi4.2.2 ?_
  refine kv_iast j6 dd_Md_layCuts_47 hA5 hi6.1 hi6.2.1 hi6.2.2 ?_
  refine kv_iload_n dd_Md_layCuts_48 rfl ?_
  exact kv_end (v := some (.int v3)) hQ ⟨dd_Md_layCuts_49, .int, rfl, rfl⟩
theorem bl_Md_longFrom_0 {d : Nat} {B : kv_B} {Q : kv_Q} {kc ks n : Nat} {S : kv_SM} {I : kv_IM} {a0 : Nat} {v1 : Int32} {v2 : Int32} (K : kv_V y_Md_longFrom d B Q kc ks n S I 8 [(0, .ref a0), (1, .int v1), (2, .int v2), (3, .int 0), (4, .int 0), (5, .int 1)] []) : kv_V y_Md_longFrom d B Q kc ks n S I 0 [(0, .ref a0), (1, .int v1), (2, .int v2)] [] := by
  refine kv_iconst (v := 0) dd_Md_longFrom_0 (by decide) ?_
  refine kv_istore_n (L' := [(3, .int 0), (0, .ref a0), (1, .int v1), (2, .int v2)]) dd_Md_longFrom_1 (by decide) rfl ?_
  refine kv_iconst (v := 0) dd_Md_longFrom_2 (by decide) ?_
  refine kv_istore (L' := [(4, .int 0), (3, .int 0), (0, .ref a0), (1, .int v1), (2, .int v2)]) dd_Md_longFrom_3 (by decide) rfl ?_
  refine kv_iconst (v := 1) dd_Md_longFrom_5 (by decide) ?_
  refine kv_istore (L' := [(5, .int 1), (4, .int 0), (3, .int 0), (0, .ref a0), (1, .int v1), (2, .int v2)]) dd_Md_longFrom_6 (by decide) rfl ?_
  exact kv_loc [3, 4, 5, 2, 1, 0] rfl K
theorem bl_Md_longFrom_8 {d : Nat} {B : kv_B} {Q : kv_Q} {kc ks n : Nat} {S : kv_SM} {I : kv_IM} {a0 : Nat} {v1 : Int32} {v2 : Int32} {v3 : Int32} {v4 : Int32} {v5 : Int32} {r1 : Nat → Option Nat} {q2 : Nat} {m3 : Nat} {j4 : Nat} (hO1 : S a0 = kO 6 r1) (hr2 : r1 2 = some q2) (hA3 : S q2 = kI m3) (hi4 : v1 = nI j4 ∧ j4 < m3 ∧ m3 < 2 ^ 31) (Kt : (I q2 j4) < (v2 + v5) → kv_V y_Md_longFrom d B Q kc ks n S I 200 [(0, .ref a0), (1, .int v1), (2, .int v2), (3, .int v3), (4, .int v4), (5, .int v5)] []) (Kf : ¬ (I q2 j4) < (v2 + v5) → kv_V y_Md_longFrom d B Q kc ks n S I 21 [(0, .ref a0), (1, .int v1), (2, .int v2), (3, .int v3), (4, .int v4), (5, .int v5)] []) : kv_V y_Md_longFrom d B Q kc ks n S I 8 [(0, .ref a0), (1, .int v1), (2, .int v2), (3, .int v3), (4, .int v4), (5, .int v5)] [] := by
  refine kv_iload_n dd_Md_longFrom_8 rfl ?_
  refine kv_iload dd_Md_longFrom_9 rfl ?_
  refine kv_iadd dd_Md_longFrom_11 ?_
  refine kv_aload_n dd_Md_longFrom_12 rfl ?_
  refine kv_getR fl_Md_13 dd_Md_longFrom_13 hO1 hr2 ?_
  refine kv_iload_n dd_Md_longFrom_16 rfl ?_
  refine kv_iald j4 dd_Md_longFrom_17 hA3 hi4.1 hi4.2.1 hi4.2.2 ?_
  exact kv_icmp_gt 200 dd_Md_longFrom_18 (by decide) (fun h => kv_loc [0, 1, 2, 3, 4, 5] rfl (Kt h)) (fun h => kv_loc [0, 1, 2, 3, 4, 5] rfl (Kf h))
theorem bl_Md_longFrom_21 {d : Nat} {B : kv_B} {Q : kv_Q} {kc ks n : Nat} {S : kv_SM} {I : kv_IM} {a0 : Nat} {v1 : Int32} {v2 : Int32} {v3 : Int32} {v4 : Int32} {v5 : Int32} {dc kcc ksc : Nat} {Qy : kv_Q} {r1 : Nat → Option Nat} (hO1 : S a0 = kO 6 r1) (hM : kv_T y_Md_next dc kcc ksc B [.ref a0, .int v3, .int v1, .int v2, .int v5] n S I Qy) (hdp : dc + 1 ≤ d) (hkk : kcc ≤ kc) (hkl : ksc ≤ ks) (K : ∀ v n' S' I', Qy v n' S' I' → kv_V y_Md_longFrom d B Q (kc - kcc) (ks - ksc) n' S' I' 30 [(0, .ref a0), (1, .int v1), (2, .int v2), (3, .int v3), (4, .int v4), (5, .int v5)] (v.toList ++ [])) : kv_V y_Md_longFrom d B Q kc ks n S I 21 [(0, .ref a0), (1, .int v1), (2, .int v2), (3, .int v3), (4, .int v4), (5, .int v5)] [] := by
  refine kv_aload_n dd_Md_longFrom_21 rfl ?_
  refine kv_iload_n dd_Md_longFrom_22 rfl ?_
  refine kv_iload_n dd_Md_longFrom_23 rfl ?_
  refine kv_iload_n dd_Md_longFrom_24 rfl ?_
  refine kv_iload dd_Md_longFrom_25 rfl ?_
  exact kv_callV [.int v3, .int v1, .int v2, .int v5] [] ls_Md_95 hO1 hM dd_Md_longFrom_27 rfl hdp (Nat.le_of_ble_eq_true rfl) hkk hkl (fun v n' S' I' hv => kv_loc [0, 1, 2, 3, 4, 5] rfl (K v n' S' I' hv))
theorem bl_Md_longFrom_30 {d : Nat} {B : kv_B} {Q : kv_Q} {kc ks n : Nat} {S : kv_SM} {I : kv_IM} {a0 : Nat} {v1 : Int32} {v2 : Int32} {v3 : Int32} {v4 : Int32} {v5 : Int32} {t0 : Int32} {r1 : Nat → Option Nat} (hO1 : S a0 = kO 6 r1) (Kt : v5 < (I a0 5) → kv_V y_Md_longFrom d B Q kc ks n S I 194 [(0, .ref a0), (1, .int v1), (2, .int v2), (3, .int t0), (4, .int v4), (5, .int v5)] []) (Kf : ¬ v5 < (I a0 5) → kv_V y_Md_longFrom d B Q kc ks n S I 40 [(0, .ref a0), (1, .int v1), (2, .int v2), (3, .int t0), (4, .int v4), (5, .int v5)] []) : kv_V y_Md_longFrom d B Q kc ks n S I 30 [(0, .ref a0), (1, .int v1), (2, .int v2), (3, .int v3), (4, .int v4), (5, .int v5)] [.int t0] := by
  refine kv_istore_n (L' := [(3, .int t0), (0, .ref a0), (1, .int v1), (2, .int v2), (4, .int v4), (5, .int v5)]) dd_Md_longFrom_30 (by decide) rfl ?_
  refine kv_iload dd_Md_longFrom_31 rfl ?_
  refine kv_aload_n dd_Md_longFrom_33 rfl ?_
  refine kv_getI fl_Md_19 dd_Md_longFrom_34 hO1 ?_
  exact kv_icmp_lt 194 dd_Md_longFrom_37 (by decide) (fun h => kv_loc [1, 2, 3, 0, 4, 5] rfl (Kt h)) (fun h => kv_loc [1, 2, 3, 0, 4, 5] rfl (Kf h))
theorem bl_Md_longFrom_40 {d : Nat} {B : kv_B} {Q : kv_Q} {kc ks n : Nat} {S : kv_SM} {I : kv_IM} {a0 : Nat} {v1 : Int32} {v2 : Int32} {v3 : Int32} {v4 : Int32} {v5 : Int32} {r1 : Nat → Option Nat} (hO1 : S a0 = kO 6 r1) (hz2 : ¬ I a0 9 = 0) (Kt : (v5 - v5 / (I a0 9) * (I a0 9)) = 0 → kv_V y_Md_longFrom d B Q kc ks n S I 53 [(0, .ref a0), (1, .int v1), (2, .int v2), (3, .int v3), (4, .int v4), (5, .int v5)] []) (Kf : ¬ (v5 - v5 / (I a0 9) * (I a0 9)) = 0 → kv_V y_Md_longFrom d B Q kc ks n S I 50 [(0, .ref a0), (1, .int v1), (2, .int v2), (3, .int v3), (4, .int v4), (5, .int v5)] []) : kv_V y_Md_longFrom d B Q kc ks n S I 40 [(0, .ref a0), (1, .int v1), (2, .int v2), (3, .int v3), (4, .int v4), (5, .int v5)] [] := by
  refine kv_iload dd_Md_longFrom_40 rfl ?_
  refine kv_aload_n dd_Md_longFrom_42 rfl ?_
  refine kv_getI fl_Md_29 dd_Md_longFrom_43 hO1 ?_
  refine kv_irem dd_Md_longFrom_46 hz2 ?_
  exact kv_if_eq 53 dd_Md_longFrom_47 (by decide) (fun h => kv_loc [0, 1, 2, 3, 4, 5] rfl (Kt h)) (fun h => kv_loc [0, 1, 2, 3, 4, 5] rfl (Kf h))
theorem bl_Md_longFrom_50 {d : Nat} {B : kv_B} {Q : kv_Q} {kc ks n : Nat} {S : kv_SM} {I : kv_IM} {a0 : Nat} {v1 : Int32} {v2 : Int32} {v3 : Int32} {v4 : Int32} {v5 : Int32} (K : kv_V y_Md_longFrom d B Q kc ks n S I 194 [(0, .ref a0), (1, .int v1), (2, .int v2), (3, .int v3), (4, .int v4), (5, .int v5)] []) : kv_V y_Md_longFrom d B Q kc ks n S I 50 [(0, .ref a0), (1, .int v1), (2, .int v2), (3, .int v3), (4, .int v4), (5, .int v5)] [] := by
  refine kv_goto 194 dd_Md_longFrom_50 (by decide) ?_
  exact kv_loc [0, 1, 2, 3, 4, 5] rfl K
theorem bl_Md_longFrom_53 {d : Nat} {B : kv_B} {Q : kv_Q} {kc ks n : Nat} {S : kv_SM} {I : kv_IM} {a0 : Nat} {v1 : Int32} {v2 : Int32} {v3 : Int32} {v4 : Int32} {v5 : Int32} {r1 : Nat → Option Nat} (hO1 : S a0 = kO 6 r1) (Kt : (v5 + (I a0 9)) ≤ (I a0 6) → kv_V y_Md_longFrom d B Q kc ks n S I 71 [(0, .ref a0), (1, .int v1), (2, .int v2), (3, .int v3), (4, .int v4), (5, .int v5)] []) (Kf : ¬ (v5 + (I a0 9)) ≤ (I a0 6) → kv_V y_Md_longFrom d B Q kc ks n S I 67 [(0, .ref a0), (1, .int v1), (2, .int v2), (3, .int v3), (4, .int v4), (5, .int v5)] []) : kv_V y_Md_longFrom d B Q kc ks n S I 53 [(0, .ref a0), (1, .int v1), (2, .int v2), (3, .int v3), (4, .int v4), (5, .int v5)] [] := by
  refine kv_iload dd_Md_longFrom_53 rfl ?_
  refine kv_aload_n dd_Md_longFrom_55 rfl ?_
  refine kv_getI fl_Md_29 dd_Md_longFrom_56 hO1 ?_
  refine kv_iadd dd_Md_longFrom_59 ?_
  refine kv_aload_n dd_Md_longFrom_60 rfl ?_
  refine kv_getI fl_Md_23 dd_Md_longFrom_61 hO1 ?_
  exact kv_icmp_le 71 dd_Md_longFrom_64 (by decide) (fun h => kv_loc [0, 1, 2, 3, 4, 5] rfl (Kt h)) (fun h => kv_loc [0, 1, 2, 3, 4, 5] rfl (Kf h))
theorem bl_Md_longFrom_67 {d : Nat} {B : kv_B} {Q : kv_Q} {kc ks n : Nat} {S : kv_SM} {I : kv_IM} {a0 : Nat} {v1 : Int32} {v2 : Int32} {v3 : Int32} {v4 : Int32} {v5 : Int32} (K : kv_V y_Md_longFrom d B Q kc ks n S I 72 [(0, .ref a0), (1, .int v1), (2, .int v2), (3, .int v3), (4, .int v4), (5, .int v5)] [.int 1]) : kv_V y_Md_longFrom d B Q kc ks n S I 67 [(0, .ref a0), (1, .int v1), (2, .int v2), (3, .int v3), (4, .int v4), (5, .int v5)] [] := by
  refine kv_iconst (v := 1) dd_Md_longFrom_67 (by decide) ?_
  refine kv_goto 72 dd_Md_longFrom_68 (by decide) ?_
  exact kv_loc [0, 1, 2, 3, 4, 5] rfl K
theorem bl_Md_longFrom_71 {d : Nat} {B : kv_B} {Q : kv_Q} {kc ks n : Nat} {S : kv_SM} {I : kv_IM} {a0 : Nat} {v1 : Int32} {v2 : Int32} {v3 : Int32} {v4 : Int32} {v5 : Int32} (K : kv_V y_Md_longFrom d B Q kc ks n S I 72 [(0, .ref a0), (1, .int v1), (2, .int v2), (3, .int v3), (4, .int v4), (5, .int v5)] [.int 0]) : kv_V y_Md_longFrom d B Q kc ks n S I 71 [(0, .ref a0), (1, .int v1), (2, .int v2), (3, .int v3), (4, .int v4), (5, .int v5)] [] := by
  refine kv_iconst (v := 0) dd_Md_longFrom_71 (by decide) ?_
  exact kv_loc [0, 1, 2, 3, 4, 5] rfl K
theorem bl_Md_longFrom_72 {d : Nat} {B : kv_B} {Q : kv_Q} {kc ks n : Nat} {S : kv_SM} {I : kv_IM} {a0 : Nat} {v1 : Int32} {v2 : Int32} {v3 : Int32} {v4 : Int32} {v5 : Int32} {t0 : Int32} {r1 : Nat → Option Nat} (hO1 : S a0 = kO 6 r1) (Kt : (I a0 4) = 1 → kv_V y_Md_longFrom d B Q kc ks n S I 89 [(0, .ref a0), (1, .int v1), (2, .int v2), (3, .int v3), (4, .int v4), (5, .int v5), (6, .int t0)] []) (Kf : ¬ (I a0 4) = 1 → kv_V y_Md_longFrom d B Q kc ks n S I 82 [(0, .ref a0), (1, .int v1), (2, .int v2), (3, .int v3), (4, .int v4), (5, .int v5), (6, .int t0)] []) : kv_V y_Md_longFrom d B Q kc ks n S I 72 [(0, .ref a0), (1, .int v1), (2, .int v2), (3, .int v3), (4, .int v4), (5, .int v5)] [.int t0] := by
  refine kv_istore (L' := [(6, .int t0), (0, .ref a0), (1, .int v1), (2, .int v2), (3, .int v3), (4, .int v4), (5, .int v5)]) dd_Md_longFrom_72 (by decide) rfl ?_
  refine kv_aload_n dd_Md_longFrom_74 rfl ?_
  refine kv_getI fl_Md_76 dd_Md_longFrom_75 hO1 ?_
  refine kv_iconst (v := 1) dd_Md_longFrom_78 (by decide) ?_
  exact kv_icmp_eq 89 dd_Md_longFrom_79 (by decide) (fun h => kv_loc [1, 2, 3, 4, 5, 6, 0] rfl (Kt h)) (fun h => kv_loc [1, 2, 3, 4, 5, 6, 0] rfl (Kf h))
theorem bl_Md_longFrom_82 {d : Nat} {B : kv_B} {Q : kv_Q} {kc ks n : Nat} {S : kv_SM} {I : kv_IM} {a0 : Nat} {v1 : Int32} {v2 : Int32} {v3 : Int32} {v4 : Int32} {v5 : Int32} {v6 : Int32} {r1 : Nat → Option Nat} (hO1 : S a0 = kO 6 r1) (K : kv_V y_Md_longFrom d B Q kc ks n S I 121 [(0, .ref a0), (1, .int v1), (2, .int v2), (3, .int v3), (4, .int v4), (5, .int v5), (6, .int v6)] [.int (I a0 7)]) : kv_V y_Md_longFrom d B Q kc ks n S I 82 [(0, .ref a0), (1, .int v1), (2, .int v2), (3, .int v3), (4, .int v4), (5, .int v5), (6, .int v6)] [] := by
  refine kv_aload_n dd_Md_longFrom_82 rfl ?_
  refine kv_getI fl_Md_26 dd_Md_longFrom_83 hO1 ?_
  refine kv_goto 121 dd_Md_longFrom_86 (by decide) ?_
  exact kv_loc [0, 1, 2, 3, 4, 5, 6] rfl K
theorem bl_Md_longFrom_89 {d : Nat} {B : kv_B} {Q : kv_Q} {kc ks n : Nat} {S : kv_SM} {I : kv_IM} {a0 : Nat} {v1 : Int32} {v2 : Int32} {v3 : Int32} {v4 : Int32} {v5 : Int32} {v6 : Int32} {r1 : Nat → Option Nat} (hO1 : S a0 = kO 6 r1) (Kt : (1 <<< ((I a0 7) &&& 31)) ≤ v5 → kv_V y_Md_longFrom d B Q kc ks n S I 112 [(0, .ref a0), (1, .int v1), (2, .int v2), (3, .int v3), (4, .int v4), (5, .int v5), (6, .int v6)] []) (Kf : ¬ (1 <<< ((I a0 7) &&& 31)) ≤ v5 → kv_V y_Md_longFrom d B Q kc ks n S I 100 [(0, .ref a0), (1, .int v1), (2, .int v2), (3, .int v3), (4, .int v4), (5, .int v5), (6, .int v6)] []) : kv_V y_Md_longFrom d B Q kc ks n S I 89 [(0, .ref a0), (1, .int v1), (2, .int v2), (3, .int v3), (4, .int v4), (5, .int v5), (6, .int v6)] [] := by
  refine kv_iload dd_Md_longFrom_89 rfl ?_
  refine kv_iconst (v := 1) dd_Md_longFrom_91 (by decide) ?_
  refine kv_aload_n dd_Md_longFrom_92 rfl ?_
  refine kv_getI fl_Md_26 dd_Md_longFrom_93 hO1 ?_
  refine kv_ishl dd_Md_longFrom_96 ?_
  exact kv_icmp_ge 112 dd_Md_longFrom_97 (by decide) (fun h => kv_loc [0, 1, 2, 3, 4, 5, 6] rfl (Kt h)) (fun h => kv_loc [0, 1, 2, 3, 4, 5, 6] rfl (Kf h))
theorem bl_Md_longFrom_100 {d : Nat} {B : kv_B} {Q : kv_Q} {kc ks n : Nat} {S : kv_SM} {I : kv_IM} {a0 : Nat} {v1 : Int32} {v2 : Int32} {v3 : Int32} {v4 : Int32} {v5 : Int32} {v6 : Int32} {r1 : Nat → Option Nat} (hO1 : S a0 = kO 6 r1) (K : kv_V y_Md_longFrom d B Q kc ks n S I 121 [(0, .ref a0), (1, .int v1), (2, .int v2), (3, .int v3), (4, .int v4), (5, .int v5), (6, .int v6)] [.int ((I a0 7) + (I a0 8))]) : kv_V y_Md_longFrom d B Q kc ks n S I 100 [(0, .ref a0), (1, .int v1), (2, .int v2), (3, .int v3), (4, .int v4), (5, .int v5), (6, .int v6)] [] := by
  refine kv_aload_n dd_Md_longFrom_100 rfl ?_
  refine kv_getI fl_Md_26 dd_Md_longFrom_101 hO1 ?_
  refine kv_aload_n dd_Md_longFrom_104 rfl ?_
  refine kv_getI fl_Md_79 dd_Md_longFrom_105 hO1 ?_
  refine kv_iadd dd_Md_longFrom_108 ?_
  refine kv_goto 121 dd_Md_longFrom_109 (by decide) ?_
  exact kv_loc [0, 1, 2, 3, 4, 5, 6] rfl K
theorem bl_Md_longFrom_112 {d : Nat} {B : kv_B} {Q : kv_Q} {kc ks n : Nat} {S : kv_SM} {I : kv_IM} {a0 : Nat} {v1 : Int32} {v2 : Int32} {v3 : Int32} {v4 : Int32} {v5 : Int32} {v6 : Int32} {r1 : Nat → Option Nat} (hO1 : S a0 = kO 6 r1) (K : kv_V y_Md_longFrom d B Q kc ks n S I 121 [(0, .ref a0), (1, .int v1), (2, .int v2), (3, .int v3), (4, .int v4), (5, .int v5), (6, .int v6)] [.int ((I a0 7) - (I a0 8))]) : kv_V y_Md_longFrom d B Q kc ks n S I 112 [(0, .ref a0), (1, .int v1), (2, .int v2), (3, .int v3), (4, .int v4), (5, .int v5), (6, .int v6)] [] := by
  refine kv_aload_n dd_Md_longFrom_112 rfl ?_
  refine kv_getI fl_Md_26 dd_Md_longFrom_113 hO1 ?_
  refine kv_aload_n dd_Md_longFrom_116 rfl ?_
  refine kv_getI fl_Md_79 dd_Md_longFrom_117 hO1 ?_
  refine kv_isub dd_Md_longFrom_120 ?_
  exact kv_loc [0, 1, 2, 3, 4, 5, 6] rfl K
theorem bl_Md_longFrom_121 {d : Nat} {B : kv_B} {Q : kv_Q} {kc ks n : Nat} {S : kv_SM} {I : kv_IM} {a0 : Nat} {v1 : Int32} {v2 : Int32} {v3 : Int32} {v4 : Int32} {v5 : Int32} {v6 : Int32} {t0 : Int32} {dc kcc ksc : Nat} {Qy : kv_Q} (hM : kv_T y_Md_isMarked dc kcc ksc B [.int v3, .int t0] n S I Qy) (hdp : dc + 1 ≤ d) (hkk : kcc ≤ kc) (hkl : ksc ≤ ks) (K : ∀ v n' S' I', Qy v n' S' I' → kv_V y_Md_longFrom d B Q (kc - kcc) (ks - ksc) n' S' I' 129 [(0, .ref a0), (1, .int v1), (2, .int v2), (3, .int v3), (4, .int v4), (5, .int v5), (6, .int v6), (7, .int t0)] (v.toList ++ [])) : kv_V y_Md_longFrom d B Q kc ks n S I 121 [(0, .ref a0), (1, .int v1), (2, .int v2), (3, .int v3), (4, .int v4), (5, .int v5), (6, .int v6)] [.int t0] := by
  refine kv_istore (L' := [(7, .int t0), (0, .ref a0), (1, .int v1), (2, .int v2), (3, .int v3), (4, .int v4), (5, .int v5), (6, .int v6)]) dd_Md_longFrom_121 (by decide) rfl ?_
  refine kv_iload_n dd_Md_longFrom_123 rfl ?_
  refine kv_iload dd_Md_longFrom_124 rfl ?_
  exact kv_callS [.int v3, .int t0] [] ls_Md_99 hM dd_Md_longFrom_126 rfl hdp (Nat.le_of_ble_eq_true rfl) hkk hkl (fun v n' S' I' hv => kv_loc [1, 2, 3, 4, 5, 6, 7, 0] rfl (K v n' S' I' hv))
theorem bl_Md_longFrom_129 {d : Nat} {B : kv_B} {Q : kv_Q} {kc ks n : Nat} {S : kv_SM} {I : kv_IM} {a0 : Nat} {v1 : Int32} {v2 : Int32} {v3 : Int32} {v4 : Int32} {v5 : Int32} {v6 : Int32} {v7 : Int32} {t0 : Int32} (Kt : t0 = 0 → kv_V y_Md_longFrom d B Q kc ks n S I 135 [(0, .ref a0), (1, .int v1), (2, .int v2), (3, .int v3), (4, .int v4), (5, .int v5), (6, .int v6), (7, .int v7)] []) (Kf : ¬ t0 = 0 → kv_V y_Md_longFrom d B Q kc ks n S I 132 [(0, .ref a0), (1, .int v1), (2, .int v2), (3, .int v3), (4, .int v4), (5, .int v5), (6, .int v6), (7, .int v7)] []) : kv_V y_Md_longFrom d B Q kc ks n S I 129 [(0, .ref a0), (1, .int v1), (2, .int v2), (3, .int v3), (4, .int v4), (5, .int v5), (6, .int v6), (7, .int v7)] [.int t0] := by
  exact kv_if_eq 135 dd_Md_longFrom_129 (by decide) (fun h => kv_loc [0, 1, 2, 3, 4, 5, 6, 7] rfl (Kt h)) (fun h => kv_loc [0, 1, 2, 3, 4, 5, 6, 7] rfl (Kf h))
theorem bl_Md_longFrom_132 {d : Nat} {B : kv_B} {Q : kv_Q} {kc ks n : Nat} {S : kv_SM} {I : kv_IM} {a0 : Nat} {v1 : Int32} {v2 : Int32} {v3 : Int32} {v4 : Int32} {v5 : Int32} {v6 : Int32} {v7 : Int32} (hQ : Q (some (.int v5)) n S I) : kv_V y_Md_longFrom d B Q kc ks n S I 132 [(0, .ref a0), (1, .int v1), (2, .int v2), (3, .int v3), (4, .int v4), (5, .int v5), (6, .int v6), (7, .int v7)] [] := by
  refine kv_iload dd_Md_longFrom_132 rfl ?_
  exact kv_end (v := some (.int v5)) hQ ⟨dd_Md_longFrom_134, .int, rfl, rfl⟩
theorem bl_Md_longFrom_135 {d : Nat} {B : kv_B} {Q : kv_Q} {kc ks n : Nat} {S : kv_SM} {I : kv_IM} {a0 : Nat} {v1 : Int32} {v2 : Int32} {v3 : Int32} {v4 : Int32} {v5 : Int32} {v6 : Int32} {v7 : Int32} (Kt : v6 = 0 → kv_V y_Md_longFrom d B Q kc ks n S I 161 [(0, .ref a0), (1, .int v1), (2, .int v2), (3, .int v3), (4, .int v4), (5, .int v5), (6, .int v6), (7, .int v7)] []) (Kf : ¬ v6 = 0 → kv_V y_Md_longFrom d B Q kc ks n S I 140 [(0, .ref a0), (1, .int v1), (2, .int v2), (3, .int v3), (4, .int v4), (5, .int v5), (6, .int v6), (7, .int v7)] []) : kv_V y_Md_longFrom d B Q kc ks n S I 135 [(0, .ref a0), (1, .int v1), (2, .int v2), (3, .int v3), (4, .int v4), (5, .int v5), (6, .int v6), (7, .int v7)] [] := by
  refine kv_iload dd_Md_longFrom_135 rfl ?_
  exact kv_if_eq 161 dd_Md_longFrom_137 (by decide) (fun h => kv_loc [0, 1, 2, 3, 4, 5, 6, 7] rfl (Kt h)) (fun h => kv_loc [0, 1, 2, 3, 4, 5, 6, 7] rfl (Kf h))
theorem bl_Md_longFrom_140 {d : Nat} {B : kv_B} {Q : kv_Q} {kc ks n : Nat} {S : kv_SM} {I : kv_IM} {a0 : Nat} {v1 : Int32} {v2 : Int32} {v3 : Int32} {v4 : Int32} {v5 : Int32} {v6 : Int32} {v7 : Int32} {r1 : Nat → Option Nat} (hO1 : S a0 = kO 6 r1) (Kt : ¬ (I a0 4) = 2 → kv_V y_Md_longFrom d B Q kc ks n S I 158 [(0, .ref a0), (1, .int v1), (2, .int v2), (3, .int v3), (4, .int v4), (5, .int v5), (6, .int v6), (7, .int v7)] []) (Kf : (I a0 4) = 2 → kv_V y_Md_longFrom d B Q kc ks n S I 148 [(0, .ref a0), (1, .int v1), (2, .int v2), (3, .int v3), (4, .int v4), (5, .int v5), (6, .int v6), (7, .int v7)] []) : kv_V y_Md_longFrom d B Q kc ks n S I 140 [(0, .ref a0), (1, .int v1), (2, .int v2), (3, .int v3), (4, .int v4), (5, .int v5), (6, .int v6), (7, .int v7)] [] := by
  refine kv_aload_n dd_Md_longFrom_140 rfl ?_
  refine kv_getI fl_Md_76 dd_Md_longFrom_141 hO1 ?_
  refine kv_iconst (v := 2) dd_Md_longFrom_144 (by decide) ?_
  exact kv_icmp_ne 158 dd_Md_longFrom_145 (by decide) (fun h => kv_loc [0, 1, 2, 3, 4, 5, 6, 7] rfl (Kt h)) (fun h => kv_loc [0, 1, 2, 3, 4, 5, 6, 7] rfl (Kf h))
theorem bl_Md_longFrom_148 {d : Nat} {B : kv_B} {Q : kv_Q} {kc ks n : Nat} {S : kv_SM} {I : kv_IM} {a0 : Nat} {v1 : Int32} {v2 : Int32} {v3 : Int32} {v4 : Int32} {v5 : Int32} {v6 : Int32} {v7 : Int32} (Kt : v4 ≤ 0 → kv_V y_Md_longFrom d B Q kc ks n S I 158 [(0, .ref a0), (1, .int v1), (2, .int v2), (3, .int v3), (4, .int v4), (5, .int v5), (6, .int v6), (7, .int v7)] []) (Kf : ¬ v4 ≤ 0 → kv_V y_Md_longFrom d B Q kc ks n S I 153 [(0, .ref a0), (1, .int v1), (2, .int v2), (3, .int v3), (4, .int v4), (5, .int v5), (6, .int v6), (7, .int v7)] []) : kv_V y_Md_longFrom d B Q kc ks n S I 148 [(0, .ref a0), (1, .int v1), (2, .int v2), (3, .int v3), (4, .int v4), (5, .int v5), (6, .int v6), (7, .int v7)] [] := by
  refine kv_iload dd_Md_longFrom_148 rfl ?_
  exact kv_if_le 158 dd_Md_longFrom_150 (by decide) (fun h => kv_loc [0, 1, 2, 3, 4, 5, 6, 7] rfl (Kt h)) (fun h => kv_loc [0, 1, 2, 3, 4, 5, 6, 7] rfl (Kf h))
theorem bl_Md_longFrom_153 {d : Nat} {B : kv_B} {Q : kv_Q} {kc ks n : Nat} {S : kv_SM} {I : kv_IM} {a0 : Nat} {v1 : Int32} {v2 : Int32} {v3 : Int32} {v4 : Int32} {v5 : Int32} {v6 : Int32} {v7 : Int32} (K : kv_V y_Md_longFrom d B Q kc ks n S I 160 [(0, .ref a0), (1, .int v1), (2, .int v2), (3, .int v3), (4, .int v4), (5, .int v5), (6, .int v6), (7, .int v7)] [.int v4]) : kv_V y_Md_longFrom d B Q kc ks n S I 153 [(0, .ref a0), (1, .int v1), (2, .int v2), (3, .int v3), (4, .int v4), (5, .int v5), (6, .int v6), (7, .int v7)] [] := by
  refine kv_iload dd_Md_longFrom_153 rfl ?_
  refine kv_goto 160 dd_Md_longFrom_155 (by decide) ?_
  exact kv_loc [0, 1, 2, 3, 4, 5, 6, 7] rfl K
theorem bl_Md_longFrom_158 {d : Nat} {B : kv_B} {Q : kv_Q} {kc ks n : Nat} {S : kv_SM} {I : kv_IM} {a0 : Nat} {v1 : Int32} {v2 : Int32} {v3 : Int32} {v4 : Int32} {v5 : Int32} {v6 : Int32} {v7 : Int32} (K : kv_V y_Md_longFrom d B Q kc ks n S I 160 [(0, .ref a0), (1, .int v1), (2, .int v2), (3, .int v3), (4, .int v4), (5, .int v5), (6, .int v6), (7, .int v7)] [.int v5]) : kv_V y_Md_longFrom d B Q kc ks n S I 158 [(0, .ref a0), (1, .int v1), (2, .int v2), (3, .int v3), (4, .int v4), (5, .int v5), (6, .int v6), (7, .int v7)] [] := by
  refine kv_iload dd_Md_longFrom_158 rfl ?_
  exact kv_loc [0, 1, 2, 3, 4, 5, 6, 7] rfl K
theorem bl_Md_longFrom_160 {d : Nat} {B : kv_B} {Q : kv_Q} {kc ks n : Nat} {S : kv_SM} {I : kv_IM} {a0 : Nat} {v1 : Int32} {v2 : Int32} {v3 : Int32} {v4 : Int32} {v5 : Int32} {v6 : Int32} {v7 : Int32} {t0 : Int32} (hQ : Q (some (.int t0)) n S I) : kv_V y_Md_longFrom d B Q kc ks n S I 160 [(0, .ref a0), (1, .int v1), (2, .int v2), (3, .int v3), (4, .int v4), (5, .int v5), (6, .int v6), (7, .int v7)] [.int t0] := by
  exact kv_end (v := some (.int t0)) hQ ⟨dd_Md_longFrom_160, .int, rfl, rfl⟩
theorem bl_Md_longFrom_161 {d : Nat} {B : kv_B} {Q : kv_Q} {kc ks n : Nat} {S : kv_SM} {I : kv_IM} {a0 : Nat} {v1 : Int32} {v2 : Int32} {v3 : Int32} {v4 : Int32} {v5 : Int32} {v6 : Int32} {v7 : Int32} {r1 : Nat → Option Nat} (hO1 : S a0 = kO 6 r1) (Kt : ¬ (I a0 4) = 2 → kv_V y_Md_longFrom d B Q kc ks n S I 190 [(0, .ref a0), (1, .int v1), (2, .int v2), (3, .int v3), (4, .int v4), (5, .int v5), (6, .int v6), (7, .int v7)] []) (Kf : (I a0 4) = 2 → kv_V y_Md_longFrom d B Q kc ks n S I 169 [(0, .ref a0), (1, .int v1), (2, .int v2), (3, .int v3), (4, .int v4), (5, .int v5), (6, .int v6), (7, .int v7)] []) : kv_V y_Md_longFrom d B Q kc ks n S I 161 [(0, .ref a0), (1, .int v1), (2, .int v2), (3, .int v3), (4, .int v4), (5, .int v5), (6, .int v6), (7, .int v7)] [] := by
  refine kv_aload_n dd_Md_longFrom_161 rfl ?_
  refine kv_getI fl_Md_76 dd_Md_longFrom_162 hO1 ?_
  refine kv_iconst (v := 2) dd_Md_longFrom_165 (by decide) ?_
  exact kv_icmp_ne 190 dd_Md_longFrom_166 (by decide) (fun h => kv_loc [0, 1, 2, 3, 4, 5, 6, 7] rfl (Kt h)) (fun h => kv_loc [0, 1, 2, 3, 4, 5, 6, 7] rfl (Kf h))
theorem bl_Md_longFrom_169 {d : Nat} {B : kv_B} {Q : kv_Q} {kc ks n : Nat} {S : kv_SM} {I : kv_IM} {a0 : Nat} {v1 : Int32} {v2 : Int32} {v3 : Int32} {v4 : Int32} {v5 : Int32} {v6 : Int32} {v7 : Int32} {r1 : Nat → Option Nat} {dc kcc ksc : Nat} {Qy : kv_Q} (hO1 : S a0 = kO 6 r1) (hM : kv_T y_Md_isMarked dc kcc ksc B [.int v3, .int ((I a0 7) - (I a0 8))] n S I Qy) (hdp : dc + 1 ≤ d) (hkk : kcc ≤ kc) (hkl : ksc ≤ ks) (K : ∀ v n' S' I', Qy v n' S' I' → kv_V y_Md_longFrom d B Q (kc - kcc) (ks - ksc) n' S' I' 182 [(0, .ref a0), (1, .int v1), (2, .int v2), (3, .int v3), (4, .int v4), (5, .int v5), (6, .int v6), (7, .int v7)] (v.toList ++ [])) : kv_V y_Md_longFrom d B Q kc ks n S I 169 [(0, .ref a0), (1, .int v1), (2, .int v2), (3, .int v3), (4, .int v4), (5, .int v5), (6, .int v6), (7, .int v7)] [] := by
  refine kv_iload_n dd_Md_longFrom_169 rfl ?_
  refine kv_aload_n dd_Md_longFrom_170 rfl ?_
  refine kv_getI fl_Md_26 dd_Md_longFrom_171 hO1 ?_
  refine kv_aload_n dd_Md_longFrom_174 rfl ?_
  refine kv_getI fl_Md_79 dd_Md_longFrom_175 hO1 ?_
  refine kv_isub dd_Md_longFrom_178 ?_
  exact kv_callS [.int v3, .int ((I a0 7) - (I a0 8))] [] ls_Md_99 hM dd_Md_longFrom_179 rfl hdp (Nat.le_of_ble_eq_true rfl) hkk hkl (fun v n' S' I' hv => kv_loc [0, 1, 2, 3, 4, 5, 6, 7] rfl (K v n' S' I' hv))
theorem bl_Md_longFrom_182 {d : Nat} {B : kv_B} {Q : kv_Q} {kc ks n : Nat} {S : kv_SM} {I : kv_IM} {a0 : Nat} {v1 : Int32} {v2 : Int32} {v3 : Int32} {v4 : Int32} {v5 : Int32} {v6 : Int32} {v7 : Int32} {t0 : Int32} (Kt : t0 = 0 → kv_V y_Md_longFrom d B Q kc ks n S I 190 [(0, .ref a0), (1, .int v1), (2, .int v2), (3, .int v3), (4, .int v4), (5, .int v5), (6, .int v6), (7, .int v7)] []) (Kf : ¬ t0 = 0 → kv_V y_Md_longFrom d B Q kc ks n S I 185 [(0, .ref a0), (1, .int v1), (2, .int v2), (3, .int v3), (4, .int v4), (5, .int v5), (6, .int v6), (7, .int v7)] []) : kv_V y_Md_longFrom d B Q kc ks n S I 182 [(0, .ref a0), (1, .int v1), (2, .int v2), (3, .int v3), (4, .int v4), (5, .int v5), (6, .int v6), (7, .int v7)] [.int t0] := by
  exact kv_if_eq 190 dd_Md_longFrom_182 (by decide) (fun h => kv_loc [0, 1, 2, 3, 4, 5, 6, 7] rfl (Kt h)) (fun h => kv_loc [0, 1, 2, 3, 4, 5, 6, 7] rfl (Kf h))
theorem bl_Md_longFrom_185 {d : Nat} {B : kv_B} {Q : kv_Q} {kc ks n : Nat} {S : kv_SM} {I : kv_IM} {a0 : Nat} {v1 : Int32} {v2 : Int32} {v3 : Int32} {v4 : Int32} {v5 : Int32} {v6 : Int32} {v7 : Int32} (K : kv_V y_Md_longFrom d B Q kc ks n S I 192 [(0, .ref a0), (1, .int v1), (2, .int v2), (3, .int v3), (4, .int v4), (5, .int v5), (6, .int v6), (7, .int v7)] [.int v5]) : kv_V y_Md_longFrom d B Q kc ks n S I 185 [(0, .ref a0), (1, .int v1), (2, .int v2), (3, .int v3), (4, .int v4), (5, .int v5), (6, .int v6), (7, .int v7)] [] := by
  refine kv_iload dd_Md_longFrom_185 rfl ?_
  refine kv_goto 192 dd_Md_longFrom_187 (by decide) ?_
  exact kv_loc [0, 1, 2, 3, 4, 5, 6, 7] rfl K
theorem bl_Md_longFrom_190 {d : Nat} {B : kv_B} {Q : kv_Q} {kc ks n : Nat} {S : kv_SM} {I : kv_IM} {a0 : Nat} {v1 : Int32} {v2 : Int32} {v3 : Int32} {v4 : Int32} {v5 : Int32} {v6 : Int32} {v7 : Int32} (K : kv_V y_Md_longFrom d B Q kc ks n S I 192 [(0, .ref a0), (1, .int v1), (2, .int v2), (3, .int v3), (4, .int v4), (5, .int v5), (6, .int v6), (7, .int v7)] [.int v4]) : kv_V y_Md_longFrom d B Q kc ks n S I 190 [(0, .ref a0), (1, .int v1), (2, .int v2), (3, .int v3), (4, .int v4), (5, .int v5), (6, .int v6), (7, .int v7)] [] := by
  refine kv_iload dd_Md_longFrom_190 rfl ?_
  exact kv_loc [0, 1, 2, 3, 4, 5, 6, 7] rfl K
theorem bl_Md_longFrom_192 {d : Nat} {B : kv_B} {Q : kv_Q} {kc ks n : Nat} {S : kv_SM} {I : kv_IM} {a0 : Nat} {v1 : Int32} {v2 : Int32} {v3 : Int32} {v4 : Int32} {v5 : Int32} {v6 : Int32} {v7 : Int32} {t0 : Int32} (K : kv_V y_Md_longFrom d B Q kc ks n S I 194 [(0, .ref a0), (1, .int v1), (2, .int v2), (3, .int v3), (4, .int t0), (5, .int v5)] []) : kv_V y_Md_longFrom d B Q kc ks n S I 192 [(0, .ref a0), (1, .int v1), (2, .int v2), (3, .int v3), (4, .int v4), (5, .int v5), (6, .int v6), (7, .int v7)] [.int t0] := by
  refine kv_istore (L' := [(4, .int t0), (0, .ref a0), (1, .int v1), (2, .int v2), (3, .int v3), (5, .int v5), (6, .int v6), (7, .int v7)]) dd_Md_longFrom_192 (by decide) rfl ?_
  exact kv_loc [1, 2, 3, 4, 0, 5] rfl K
theorem bl_Md_longFrom_194 {d : Nat} {B : kv_B} {Q : kv_Q} {kc ks n : Nat} {S : kv_SM} {I : kv_IM} {a0 : Nat} {v1 : Int32} {v2 : Int32} {v3 : Int32} {v4 : Int32} {v5 : Int32} (K : kv_V y_Md_longFrom d B Q kc ks n S I 8 [(0, .ref a0), (1, .int v1), (2, .int v2), (3, .int v3), (4, .int v4), (5, .int (v5 + 1))] []) : kv_V y_Md_longFrom d B Q kc ks n S I 194 [(0, .ref a0), (1, .int v1), (2, .int v2), (3, .int v3), (4, .int v4), (5, .int v5)] [] := by
  refine kv_iinc (v := v5 + 1) (L' := [(5, .int (v5 + 1)), (0, .ref a0), (1, .int v1), (2, .int v2), (3, .int v3), (4, .int v4)]) dd_Md_longFrom_194 rfl rfl (by decide) rfl ?_
  refine kv_goto 8 dd_Md_longFrom_197 (by decide) ?_
  exact kv_loc [1, 2, 3, 4, 5, 0] rfl K
theorem bl_Md_longFrom_200 {d : Nat} {B : kv_B} {Q : kv_Q} {kc ks n : Nat} {S : kv_SM} {I : kv_IM} {a0 : Nat} {v1 : Int32} {v2 : Int32} {v3 : Int32} {v4 : Int32} {v5 : Int32} {r1 : Nat → Option Nat} {q2 : Nat} {m3 : Nat} {j4 : Nat} (hO1 : S a0 = kO 6 r1) (hr2 : r1 2 = some q2) (hA3 : S q2 = kI m3) (hi4 : v1 = nI j4 ∧ j4 < m3 ∧ m3 < 2 ^ 31) (hQ : Q (some (.int ((I q2 j4) - v2))) n S I) : kv_V y_Md_longFrom d B Q kc ks n S I 200 [(0, .ref a0), (1, .int v1), (2, .int v2), (3, .int v3), (4, .int v4), (5, .int v5)] [] := by
  refine kv_aload_n dd_Md_longFrom_200 rfl ?_
  refine kv_getR fl_Md_13 dd_Md_longFrom_201 hO1 hr2 ?_
  refine kv_iload_n dd_Md_longFrom_204 rfl ?_
  refine kv_iald j4 dd_Md_longFrom_205 hA3 hi4.1 hi4.2.1 hi4.2.2 ?_
  refine kv_iload_n dd_Md_longFrom_206 rfl ?_
  refine kv_isub dd_Md_longFrom_207 ?_
  exact kv_end (v := some (.int ((I q2 j4) - v2))) hQ ⟨dd_Md_longFrom_208, .int, rfl, rfl⟩
theorem bl_Md_next_0 {d : Nat} {B : kv_B} {Q : kv_Q} {kc ks n : Nat} {S : kv_SM} {I : kv_IM} {a0 : Nat} {v1 : Int32} {v2 : Int32} {v3 : Int32} {v4 : Int32} {r1 : Nat → Option Nat} {q2 : Nat} {q3 : Nat} {m4 : Nat} {j5 : Nat} {m6 : Nat} {j7 : Nat} (hO1 : S a0 = kO 6 r1) (hr2 : r1 3 = some q2) (hr3 : r1 1 = some q3) (hA4 : S q3 = kI m4) (hi5 : (((1500 * v2) + v3) + v4) - 1 = nI j5 ∧ j5 < m4 ∧ m4 < 2 ^ 31) (hA6 : S q2 = kI m6) (hi7 : I q3 j5 = nI j7 ∧ j7 < m6 ∧ m6 < 2 ^ 31) (Kt : (I a0 4) = 3 → kv_V y_Md_next d B Q kc ks n S I 39 [(0, .ref a0), (1, .int v1), (2, .int v2), (3, .int v3), (4, .int v4), (5, .int (I q2 j7))] []) (Kf : ¬ (I a0 4) = 3 → kv_V y_Md_next d B Q kc ks n S I 32 [(0, .ref a0), (1, .int v1), (2, .int v2), (3, .int v3), (4, .int v4), (5, .int (I q2 j7))] []) : kv_V y_Md_next d B Q kc ks n S I 0 [(0, .ref a0), (1, .int v1), (2, .int v2), (3, .int v3), (4, .int v4)] [] := by
  refine kv_aload_n dd_Md_next_0 rfl ?_
  refine kv_getR fl_Md_16 dd_Md_next_1 hO1 hr2 ?_
  refine kv_aload_n dd_Md_next_4 rfl ?_
  refine kv_getR fl_Md_7 dd_Md_next_5 hO1 hr3 ?_
  refine kv_sipush (v := 1500) dd_Md_next_8 (by decide) ?_
  refine kv_iload_n dd_Md_next_11 rfl ?_
  refine kv_imul dd_Md_next_12 ?_
  refine kv_iload_n dd_Md_next_13 rfl ?_
  refine kv_iadd dd_Md_next_14 ?_
  refine kv_iload dd_Md_next_15 rfl ?_
  refine kv_iadd dd_Md_next_17 ?_
  refine kv_iconst (v := 1) dd_Md_next_18 (by decide) ?_
  refine kv_isub dd_Md_next_19 ?_
  refine kv_iald j5 dd_Md_next_20 hA4 hi5.1 hi5.2.1 hi5.2.2 ?_
  refine kv_iald j7 dd_Md_next_21 hA6 hi7.1 hi7.2.1 hi7.2.2 ?_
  refine kv_istore (L' := [(5, .int (I q2 j7)), (0, .ref a0), (1, .int v1), (2, .int v2), (3, .int v3), (4, .int v4)]) dd_Md_next_22 (by decide) rfl ?_
  refine kv_aload_n dd_Md_next_24 rfl ?_
  refine kv_getI fl_Md_76 dd_Md_next_25 hO1 ?_
  refine kv_iconst (v := 3) dd_Md_next_28 (by decide) ?_
  exact kv_icmp_eq 39 dd_Md_next_29 (by decide) (fun h => kv_loc [1, 2, 3, 4, 5, 0] rfl (Kt h)) (fun h => kv_loc [1, 2, 3, 4, 5, 0] rfl (Kf h))
theorem bl_Md_next_32 {d : Nat} {B : kv_B} {Q : kv_Q} {kc ks n : Nat} {S : kv_SM} {I : kv_IM} {a0 : Nat} {v1 : Int32} {v2 : Int32} {v3 : Int32} {v4 : Int32} {v5 : Int32} (hQ : Q (some (.int ((v1 <<< (1 &&& 31)) + v5))) n S I) : kv_V y_Md_next d B Q kc ks n S I 32 [(0, .ref a0), (1, .int v1), (2, .int v2), (3, .int v3), (4, .int v4), (5, .int v5)] [] := by
  refine kv_iload_n dd_Md_next_32 rfl ?_
  refine kv_iconst (v := 1) dd_Md_next_33 (by decide) ?_
  refine kv_ishl dd_Md_next_34 ?_
  refine kv_iload dd_Md_next_35 rfl ?_
  refine kv_iadd dd_Md_next_37 ?_
  exact kv_end (v := some (.int ((v1 <<< (1 &&& 31)) + v5))) hQ ⟨dd_Md_next_38, .int, rfl, rfl⟩
theorem bl_Md_next_39 {d : Nat} {B : kv_B} {Q : kv_Q} {kc ks n : Nat} {S : kv_SM} {I : kv_IM} {a0 : Nat} {v1 : Int32} {v2 : Int32} {v3 : Int32} {v4 : Int32} {v5 : Int32} {dc kcc ksc : Nat} {Qy : kv_Q} (hM : kv_T y_Md_turn dc kcc ksc B [.int v1, .int 1] n S I Qy) (hdp : dc + 1 ≤ d) (hkk : kcc ≤ kc) (hkl : ksc ≤ ks) (K : ∀ v n' S' I', Qy v n' S' I' → kv_V y_Md_next d B Q (kc - kcc) (ks - ksc) n' S' I' 44 [(0, .ref a0), (1, .int v1), (2, .int v2), (3, .int v3), (4, .int v4), (5, .int v5)] (v.toList ++ [])) : kv_V y_Md_next d B Q kc ks n S I 39 [(0, .ref a0), (1, .int v1), (2, .int v2), (3, .int v3), (4, .int v4), (5, .int v5)] [] := by
  refine kv_iload_n dd_Md_next_39 rfl ?_
  refine kv_iconst (v := 1) dd_Md_next_40 (by decide) ?_
  exact kv_callS [.int v1, .int 1] [] ls_Md_91 hM dd_Md_next_41 rfl hdp (Nat.le_of_ble_eq_true rfl) hkk hkl (fun v n' S' I' hv => kv_loc [0, 1, 2, 3, 4, 5] rfl (K v n' S' I' hv))
theorem bl_Md_next_44 {d : Nat} {B : kv_B} {Q : kv_Q} {kc ks n : Nat} {S : kv_SM} {I : kv_IM} {a0 : Nat} {v1 : Int32} {v2 : Int32} {v3 : Int32} {v4 : Int32} {v5 : Int32} {t0 : Int32} (Kt : v4 ≤ 16 → kv_V y_Md_next d B Q kc ks n S I 90 [(0, .ref a0), (1, .int v1), (2, .int v2), (3, .int v3), (4, .int v4), (5, .int v5), (6, .int (t0 ^^^ v5))] []) (Kf : ¬ v4 ≤ 16 → kv_V y_Md_next d B Q kc ks n S I 56 [(0, .ref a0), (1, .int v1), (2, .int v2), (3, .int v3), (4, .int v4), (5, .int v5), (6, .int (t0 ^^^ v5))] []) : kv_V y_Md_next d B Q kc ks n S I 44 [(0, .ref a0), (1, .int v1), (2, .int v2), (3, .int v3), (4, .int v4), (5, .int v5)] [.int t0] := by
  refine kv_iload dd_Md_next_44 rfl ?_
  refine kv_ixor dd_Md_next_46 ?_
  refine kv_istore (L' := [(6, .int (t0 ^^^ v5)), (0, .ref a0), (1, .int v1), (2, .int v2), (3, .int v3), (4, .int v4), (5, .int v5)]) dd_Md_next_47 (by decide) rfl ?_
  refine kv_iload dd_Md_next_49 rfl ?_
  refine kv_bipush (v := 16) dd_Md_next_51 (by decide) ?_
  exact kv_icmp_le 90 dd_Md_next_53 (by decide) (fun h => kv_loc [1, 2, 3, 4, 5, 6, 0] rfl (Kt h)) (fun h => kv_loc [1, 2, 3, 4, 5, 6, 0] rfl (Kf h))
theorem bl_Md_next_56 {d : Nat} {B : kv_B} {Q : kv_Q} {kc ks n : Nat} {S : kv_SM} {I : kv_IM} {a0 : Nat} {v1 : Int32} {v2 : Int32} {v3 : Int32} {v4 : Int32} {v5 : Int32} {v6 : Int32} {r1 : Nat → Option Nat} {q2 : Nat} {q3 : Nat} {m4 : Nat} {j5 : Nat} {m6 : Nat} {j7 : Nat} {dc kcc ksc : Nat} {Qy : kv_Q} (hO1 : S a0 = kO 6 r1) (hr2 : r1 3 = some q2) (hr3 : r1 1 = some q3) (hA4 : S q3 = kI m4) (hi5 : (((1500 * v2) + v3) + v4) - 17 = nI j5 ∧ j5 < m4 ∧ m4 < 2 ^ 31) (hA6 : S q2 = kI m6) (hi7 : I q3 j5 = nI j7 ∧ j7 < m6 ∧ m6 < 2 ^ 31) (hM : kv_T y_Md_turn dc kcc ksc B [.int (I q2 j7), .int 16] n S I Qy) (hdp : dc + 1 ≤ d) (hkk : kcc ≤ kc) (hkl : ksc ≤ ks) (K : ∀ v n' S' I', Qy v n' S' I' → kv_V y_Md_next d B Q (kc - kcc) (ks - ksc) n' S' I' 86 [(0, .ref a0), (1, .int v1), (2, .int v2), (3, .int v3), (4, .int v4), (5, .int v5), (6, .int v6)] (v.toList ++ [.int v6])) : kv_V y_Md_next d B Q kc ks n S I 56 [(0, .ref a0), (1, .int v1), (2, .int v2), (3, .int v3), (4, .int v4), (5, .int v5), (6, .int v6)] [] := by
  refine kv_iload dd_Md_next_56 rfl ?_
  refine kv_aload_n dd_Md_next_58 rfl ?_
  refine kv_getR fl_Md_16 dd_Md_next_59 hO1 hr2 ?_
  refine kv_aload_n dd_Md_next_62 rfl ?_
  refine kv_getR fl_Md_7 dd_Md_next_63 hO1 hr3 ?_
  refine kv_sipush (v := 1500) dd_Md_next_66 (by decide) ?_
  refine kv_iload_n dd_Md_next_69 rfl ?_
  refine kv_imul dd_Md_next_70 ?_
  refine kv_iload_n dd_Md_next_71 rfl ?_
  refine kv_iadd dd_Md_next_72 ?_
  refine kv_iload dd_Md_next_73 rfl ?_
  refine kv_iadd dd_Md_next_75 ?_
  refine kv_bipush (v := 17) dd_Md_next_76 (by decide) ?_
  refine kv_isub dd_Md_next_78 ?_
  refine kv_iald j5 dd_Md_next_79 hA4 hi5.1 hi5.2.1 hi5.2.2 ?_
  refine kv_iald j7 dd_Md_next_80 hA6 hi7.1 hi7.2.1 hi7.2.2 ?_
  refine kv_bipush (v := 16) dd_Md_next_81 (by decide) ?_
  exact kv_callS [.int (I q2 j7), .int 16] [.int v6] ls_Md_91 hM dd_Md_next_83 rfl hdp (Nat.le_of_ble_eq_true rfl) hkk hkl (fun v n' S' I' hv => kv_loc [0, 1, 2, 3, 4, 5, 6] rfl (K v n' S' I' hv))
theorem bl_Md_next_86 {d : Nat} {B : kv_B} {Q : kv_Q} {kc ks n : Nat} {S : kv_SM} {I : kv_IM} {a0 : Nat} {v1 : Int32} {v2 : Int32} {v3 : Int32} {v4 : Int32} {v5 : Int32} {v6 : Int32} {t0 : Int32} {t1 : Int32} (K : kv_V y_Md_next d B Q kc ks n S I 92 [(0, .ref a0), (1, .int v1), (2, .int v2), (3, .int v3), (4, .int v4), (5, .int v5), (6, .int v6)] [.int (t1 ^^^ t0)]) : kv_V y_Md_next d B Q kc ks n S I 86 [(0, .ref a0), (1, .int v1), (2, .int v2), (3, .int v3), (4, .int v4), (5, .int v5), (6, .int v6)] [.int t0, .int t1] := by
  refine kv_ixor dd_Md_next_86 ?_
  refine kv_goto 92 dd_Md_next_87 (by decide) ?_
  exact kv_loc [0, 1, 2, 3, 4, 5, 6] rfl K
theorem bl_Md_next_90 {d : Nat} {B : kv_B} {Q : kv_Q} {kc ks n : Nat} {S : kv_SM} {I : kv_IM} {a0 : Nat} {v1 : Int32} {v2 : Int32} {v3 : Int32} {v4 : Int32} {v5 : Int32} {v6 : Int32} (K : kv_V y_Md_next d B Q kc ks n S I 92 [(0, .ref a0), (1, .int v1), (2, .int v2), (3, .int v3), (4, .int v4), (5, .int v5), (6, .int v6)] [.int v6]) : kv_V y_Md_next d B Q kc ks n S I 90 [(0, .ref a0), (1, .int v1), (2, .int v2), (3, .int v3), (4, .int v4), (5, .int v5), (6, .int v6)] [] := by
  refine kv_iload dd_Md_next_90 rfl ?_
  exact kv_loc [0, 1, 2, 3, 4, 5, 6] rfl K
theorem bl_Md_next_92 {d : Nat} {B : kv_B} {Q : kv_Q} {kc ks n : Nat} {S : kv_SM} {I : kv_IM} {a0 : Nat} {v1 : Int32} {v2 : Int32} {v3 : Int32} {v4 : Int32} {v5 : Int32} {v6 : Int32} {t0 : Int32} (hQ : Q (some (.int t0)) n S I) : kv_V y_Md_next d B Q kc ks n S I 92 [(0, .ref a0), (1, .int v1), (2, .int v2), (3, .int v3), (4, .int v4), (5, .int v5), (6, .int v6)] [.int t0] := by
  exact kv_end (v := some (.int t0)) hQ ⟨dd_Md_next_92, .int, rfl, rfl⟩
theorem bl_Md_turn_0 {d : Nat} {B : kv_B} {Q : kv_Q} {kc ks n : Nat} {S : kv_SM} {I : kv_IM} {v0 : Int32} {v1 : Int32} (hQ : Q (some (.int ((v0 <<< (v1 &&& 31)) ||| ((Int32.toUInt32 v0 >>> (Int32.toUInt32 (32 - v1) &&& Int32.toUInt32 31)).toInt32)))) n S I) : kv_V y_Md_turn d B Q kc ks n S I 0 [(0, .int v0), (1, .int v1)] [] := by
  refine kv_iload_n dd_Md_turn_0 rfl ?_
  refine kv_iload_n dd_Md_turn_1 rfl ?_
  refine kv_ishl dd_Md_turn_2 ?_
  refine kv_iload_n dd_Md_turn_3 rfl ?_
  refine kv_bipush (v := 32) dd_Md_turn_4 (by decide) ?_
  refine kv_iload_n dd_Md_turn_6 rfl ?_
  refine kv_isub dd_Md_turn_7 ?_
  refine kv_iushr dd_Md_turn_8 ?_
  refine kv_ior dd_Md_turn_9 ?_
  exact kv_end (v := some (.int ((v0 <<< (v1 &&& 31)) ||| ((Int32.toUInt32 v0 >>> (Int32.toUInt32 (32 - v1) &&& Int32.toUInt32 31)).toInt32)))) hQ ⟨dd_Md_turn_10, .int, rfl, rfl⟩
theorem bl_Md_isMarked_0 {d : Nat} {B : kv_B} {Q : kv_Q} {kc ks n : Nat} {S : kv_SM} {I : kv_IM} {v0 : Int32} {v1 : Int32} (K : kv_V y_Md_isMarked d B Q kc ks n S I 4 [(0, .int v0), (1, .int v1), (2, .int 1), (3, .int 0)] []) : kv_V y_Md_isMarked d B Q kc ks n S I 0 [(0, .int v0), (1, .int v1)] [] := by
  refine kv_iconst (v := 1) dd_Md_isMarked_0 (by decide) ?_
  refine kv_istore_n (L' := [(2, .int 1), (0, .int v0), (1, .int v1)]) dd_Md_isMarked_1 (by decide) rfl ?_
  refine kv_iconst (v := 0) dd_Md_isMarked_2 (by decide) ?_
  refine kv_istore_n (L' := [(3, .int 0), (2, .int 1), (0, .int v0), (1, .int v1)]) dd_Md_isMarked_3 (by decide) rfl ?_
  exact kv_loc [2, 3, 1, 0] rfl K
theorem bl_Md_isMarked_4 {d : Nat} {B : kv_B} {Q : kv_Q} {kc ks n : Nat} {S : kv_SM} {I : kv_IM} {v0 : Int32} {v1 : Int32} {v2 : Int32} {v3 : Int32} (Kt : v1 ≤ v3 → kv_V y_Md_isMarked d B Q kc ks n S I 36 [(0, .int v0), (1, .int v1), (2, .int v2), (3, .int v3)] []) (Kf : ¬ v1 ≤ v3 → kv_V y_Md_isMarked d B Q kc ks n S I 9 [(0, .int v0), (1, .int v1), (2, .int v2), (3, .int v3)] []) : kv_V y_Md_isMarked d B Q kc ks n S I 4 [(0, .int v0), (1, .int v1), (2, .int v2), (3, .int v3)] [] := by
  refine kv_iload_n dd_Md_isMarked_4 rfl ?_
  refine kv_iload_n dd_Md_isMarked_5 rfl ?_
  exact kv_icmp_ge 36 dd_Md_isMarked_6 (by decide) (fun h => kv_loc [0, 1, 2, 3] rfl (Kt h)) (fun h => kv_loc [0, 1, 2, 3] rfl (Kf h))
theorem bl_Md_isMarked_9 {d : Nat} {B : kv_B} {Q : kv_Q} {kc ks n : Nat} {S : kv_SM} {I : kv_IM} {v0 : Int32} {v1 : Int32} {v2 : Int32} {v3 : Int32} (Kt : v2 = 0 → kv_V y_Md_isMarked d B Q kc ks n S I 28 [(0, .int v0), (1, .int v1), (2, .int v2), (3, .int v3)] []) (Kf : ¬ v2 = 0 → kv_V y_Md_isMarked d B Q kc ks n S I 13 [(0, .int v0), (1, .int v1), (2, .int v2), (3, .int v3)] []) : kv_V y_Md_isMarked d B Q kc ks n S I 9 [(0, .int v0), (1, .int v1), (2, .int v2), (3, .int v3)] [] := by
  refine kv_iload_n dd_Md_isMarked_9 rfl ?_
  exact kv_if_eq 28 dd_Md_isMarked_10 (by decide) (fun h => kv_loc [0, 1, 2, 3] rfl (Kt h)) (fun h => kv_loc [0, 1, 2, 3] rfl (Kf h))
theorem bl_Md_isMarked_13 {d : Nat} {B : kv_B} {Q : kv_Q} {kc ks n : Nat} {S : kv_SM} {I : kv_IM} {v0 : Int32} {v1 : Int32} {v2 : Int32} {v3 : Int32} (Kt : ¬ (((Int32.toUInt32 v0 >>> (Int32.toUInt32 (31 - v3) &&& Int32.toUInt32 31)).toInt32) &&& 1) = 0 → kv_V y_Md_isMarked d B Q kc ks n S I 28 [(0, .int v0), (1, .int v1), (2, .int v2), (3, .int v3)] []) (Kf : (((Int32.toUInt32 v0 >>> (Int32.toUInt32 (31 - v3) &&& Int32.toUInt32 31)).toInt32) &&& 1) = 0 → kv_V y_Md_isMarked d B Q kc ks n S I 24 [(0, .int v0), (1, .int v1), (2, .int v2), (3, .int v3)] []) : kv_V y_Md_isMarked d B Q kc ks n S I 13 [(0, .int v0), (1, .int v1), (2, .int v2), (3, .int v3)] [] := by
  refine kv_iload_n dd_Md_isMarked_13 rfl ?_
  refine kv_bipush (v := 31) dd_Md_isMarked_14 (by decide) ?_
  refine kv_iload_n dd_Md_isMarked_16 rfl ?_
  refine kv_isub dd_Md_isMarked_17 ?_
  refine kv_iushr dd_Md_isMarked_18 ?_
  refine kv_iconst (v := 1) dd_Md_isMarked_19 (by decide) ?_
  refine kv_iand dd_Md_isMarked_20 ?_
  exact kv_if_ne 28 dd_Md_isMarked_21 (by decide) (fun h => kv_loc [0, 1, 2, 3] rfl (Kt h)) (fun h => kv_loc [0, 1, 2, 3] rfl (Kf h))
theorem bl_Md_isMarked_24 {d : Nat} {B : kv_B} {Q : kv_Q} {kc ks n : Nat} {S : kv_SM} {I : kv_IM} {v0 : Int32} {v1 : Int32} {v2 : Int32} {v3 : Int32} (K : kv_V y_Md_isMarked d B Q kc ks n S I 29 [(0, .int v0), (1, .int v1), (2, .int v2), (3, .int v3)] [.int 1]) : kv_V y_Md_isMarked d B Q kc ks n S I 24 [(0, .int v0), (1, .int v1), (2, .int v2), (3, .int v3)] [] := by
  refine kv_iconst (v := 1) dd_Md_isMarked_24 (by decide) ?_
  refine kv_goto 29 dd_Md_isMarked_25 (by decide) ?_
  exact kv_loc [0, 1, 2, 3] rfl K
theorem bl_Md_isMarked_28 {d : Nat} {B : kv_B} {Q : kv_Q} {kc ks n : Nat} {S : kv_SM} {I : kv_IM} {v0 : Int32} {v1 : Int32} {v2 : Int32} {v3 : Int32} (K : kv_V y_Md_isMarked d B Q kc ks n S I 29 [(0, .int v0), (1, .int v1), (2, .int v2), (3, .int v3)] [.int 0]) : kv_V y_Md_isMarked d B Q kc ks n S I 28 [(0, .int v0), (1, .int v1), (2, .int v2), (3, .int v3)] [] := by
  refine kv_iconst (v := 0) dd_Md_isMarked_28 (by decide) ?_
  exact kv_loc [0, 1, 2, 3] rfl K
theorem bl_Md_isMarked_29 {d : Nat} {B : kv_B} {Q : kv_Q} {kc ks n : Nat} {S : kv_SM} {I : kv_IM} {v0 : Int32} {v1 : Int32} {v2 : Int32} {v3 : Int32} {t0 : Int32} (K : kv_V y_Md_isMarked d B Q kc ks n S I 4 [(0, .int v0), (1, .int v1), (2, .int t0), (3, .int (v3 + 1))] []) : kv_V y_Md_isMarked d B Q kc ks n S I 29 [(0, .int v0), (1, .int v1), (2, .int v2), (3, .int v3)] [.int t0] := by
  refine kv_istore_n (L' := [(2, .int t0), (0, .int v0), (1, .int v1), (3, .int v3)]) dd_Md_isMarked_29 (by decide) rfl ?_
  refine kv_iinc (v := v3 + 1) (L' := [(3, .int (v3 + 1)), (2, .int t0), (0, .int v0), (1, .int v1)]) dd_Md_isMarked_30 rfl rfl (by decide) rfl ?_
  refine kv_goto 4 dd_Md_isMarked_33 (by decide) ?_
  exact kv_loc [2, 3, 1, 0] rfl K
theorem bl_Md_isMarked_36 {d : Nat} {B : kv_B} {Q : kv_Q} {kc ks n : Nat} {S : kv_SM} {I : kv_IM} {v0 : Int32} {v1 : Int32} {v2 : Int32} {v3 : Int32} (hb : narrow .boolean (.int v2) = .int v2) (hQ : Q (some (.int v2)) n S I) : kv_V y_Md_isMarked d B Q kc ks n S I 36 [(0, .int v0), (1, .int v1), (2, .int v2), (3, .int v3)] [] := by
  refine kv_iload_n dd_Md_isMarked_36 rfl ?_
  exact kv_end (v := some (.int v2)) hQ ⟨dd_Md_isMarked_37, .boolean, rfl, hb⟩
theorem bl_Md_block_0 {d : Nat} {B : kv_B} {Q : kv_Q} {kc ks n : Nat} {S : kv_SM} {I : kv_IM} {a0 : Nat} {v1 : Int32} {v2 : Int32} {v3 : Int32} {r1 : Nat → Option Nat} {dc kcc ksc : Nat} {Qy : kv_Q} (hO1 : S a0 = kO 6 r1) (hM : kv_T y_Md_isBlock dc kcc ksc B [.ref a0, .int v1, .int v2] n S (kv_up I a0 0 0) Qy) (hdp : dc + 1 ≤ d) (hkk : kcc ≤ kc) (hkl : ksc ≤ ks) (K : ∀ v n' S' I', Qy v n' S' I' → kv_V y_Md_block d B Q (kc - kcc) (ks - ksc) n' S' I' 11 [(0, .ref a0), (1, .int v1), (2, .int v2), (3, .int v3)] (v.toList ++ [])) : kv_V y_Md_block d B Q kc ks n S I 0 [(0, .ref a0), (1, .int v1), (2, .int v2), (3, .int v3)] [] := by
  refine kv_aload_n dd_Md_block_0 rfl ?_
  refine kv_iconst (v := 0) dd_Md_block_1 (by decide) ?_
  refine kv_putI fp_Md_67 (fun h => by cases h) dd_Md_block_2 hO1 rfl rfl ?_
  refine kv_aload_n dd_Md_block_5 rfl ?_
  refine kv_iload_n dd_Md_block_6 rfl ?_
  refine kv_iload_n dd_Md_block_7 rfl ?_
  exact kv_callV [.int v1, .int v2] [] ls_Md_113 hO1 hM dd_Md_block_8 rfl hdp (Nat.le_of_ble_eq_true rfl) hkk hkl (fun v n' S' I' hv => kv_loc [0, 1, 2, 3] rfl (K v n' S' I' hv))
theorem bl_Md_block_11 {d : Nat} {B : kv_B} {Q : kv_Q} {kc ks n : Nat} {S : kv_SM} {I : kv_IM} {a0 : Nat} {v1 : Int32} {v2 : Int32} {v3 : Int32} {t0 : Int32} (Kt : t0 = 0 → kv_V y_Md_block d B Q kc ks n S I 23 [(0, .ref a0), (1, .int v1), (2, .int v2), (3, .int v3)] []) (Kf : ¬ t0 = 0 → kv_V y_Md_block d B Q kc ks n S I 14 [(0, .ref a0), (1, .int v1), (2, .int v2), (3, .int v3)] []) : kv_V y_Md_block d B Q kc ks n S I 11 [(0, .ref a0), (1, .int v1), (2, .int v2), (3, .int v3)] [.int t0] := by
  exact kv_if_eq 23 dd_Md_block_11 (by decide) (fun h => kv_loc [0, 1, 2, 3] rfl (Kt h)) (fun h => kv_loc [0, 1, 2, 3] rfl (Kf h))
theorem bl_Md_block_14 {d : Nat} {B : kv_B} {Q : kv_Q} {kc ks n : Nat} {S : kv_SM} {I : kv_IM} {a0 : Nat} {v1 : Int32} {v2 : Int32} {v3 : Int32} {dc kcc ksc : Nat} {Qy : kv_Q} (hM : kv_T y_Md_in dc kcc ksc B [.int v3, .int 0, .int 1] n S I Qy) (hdp : dc + 1 ≤ d) (hkk : kcc ≤ kc) (hkl : ksc ≤ ks) (K : ∀ v n' S' I', Qy v n' S' I' → kv_V y_Md_block d B Q (kc - kcc) (ks - ksc) n' S' I' 20 [(0, .ref a0), (1, .int v1), (2, .int v2), (3, .int v3)] (v.toList ++ [])) : kv_V y_Md_block d B Q kc ks n S I 14 [(0, .ref a0), (1, .int v1), (2, .int v2), (3, .int v3)] [] := by
  refine kv_iload_n dd_Md_block_14 rfl ?_
  refine kv_iconst (v := 0) dd_Md_block_15 (by decide) ?_
  refine kv_iconst (v := 1) dd_Md_block_16 (by decide) ?_
  exact kv_callS [.int v3, .int 0, .int 1] [] ls_Md_72 hM dd_Md_block_17 rfl hdp (Nat.le_of_ble_eq_true rfl) hkk hkl (fun v n' S' I' hv => kv_loc [0, 1, 2, 3] rfl (K v n' S' I' hv))
theorem bl_Md_block_20 {d : Nat} {B : kv_B} {Q : kv_Q} {kc ks n : Nat} {S : kv_SM} {I : kv_IM} {a0 : Nat} {v1 : Int32} {v2 : Int32} {v3 : Int32} {t0 : Int32} (Kt : ¬ t0 = 0 → kv_V y_Md_block d B Q kc ks n S I 25 [(0, .ref a0), (1, .int v1), (2, .int v2), (3, .int v3)] []) (Kf : t0 = 0 → kv_V y_Md_block d B Q kc ks n S I 23 [(0, .ref a0), (1, .int v1), (2, .int v2), (3, .int v3)] []) : kv_V y_Md_block d B Q kc ks n S I 20 [(0, .ref a0), (1, .int v1), (2, .int v2), (3, .int v3)] [.int t0] := by
  exact kv_if_ne 25 dd_Md_block_20 (by decide) (fun h => kv_loc [0, 1, 2, 3] rfl (Kt h)) (fun h => kv_loc [0, 1, 2, 3] rfl (Kf h))
theorem bl_Md_block_23 {d : Nat} {B : kv_B} {Q : kv_Q} {kc ks n : Nat} {S : kv_SM} {I : kv_IM} {a0 : Nat} {v1 : Int32} {v2 : Int32} {v3 : Int32} (hQ : Q (some (.int ((-1)))) n S I) : kv_V y_Md_block d B Q kc ks n S I 23 [(0, .ref a0), (1, .int v1), (2, .int v2), (3, .int v3)] [] := by
  refine kv_iconst (v := (-1)) dd_Md_block_23 (by decide) ?_
  exact kv_end (v := some (.int ((-1)))) hQ ⟨dd_Md_block_24, .int, rfl, rfl⟩
theorem bl_Md_block_25 {d : Nat} {B : kv_B} {Q : kv_Q} {kc ks n : Nat} {S : kv_SM} {I : kv_IM} {a0 : Nat} {v1 : Int32} {v2 : Int32} {v3 : Int32} (Kt : ¬ v3 = 0 → kv_V y_Md_block d B Q kc ks n S I 38 [(0, .ref a0), (1, .int v1), (2, .int v2), (3, .int v3)] []) (Kf : v3 = 0 → kv_V y_Md_block d B Q kc ks n S I 29 [(0, .ref a0), (1, .int v1), (2, .int v2), (3, .int v3)] []) : kv_V y_Md_block d B Q kc ks n S I 25 [(0, .ref a0), (1, .int v1), (2, .int v2), (3, .int v3)] [] := by
  refine kv_iload_n dd_Md_block_25 rfl ?_
  exact kv_if_ne 38 dd_Md_block_26 (by decide) (fun h => kv_loc [0, 1, 2, 3] rfl (Kt h)) (fun h => kv_loc [0, 1, 2, 3] rfl (Kf h))
theorem bl_Md_block_29 {d : Nat} {B : kv_B} {Q : kv_Q} {kc ks n : Nat} {S : kv_SM} {I : kv_IM} {a0 : Nat} {v1 : Int32} {v2 : Int32} {v3 : Int32} {r1 : Nat → Option Nat} {q2 : Nat} {m3 : Nat} {j4 : Nat} (hO1 : S a0 = kO 6 r1) (hr2 : r1 10 = some q2) (hA3 : S q2 = kI m3) (hi4 : v2 = nI j4 ∧ j4 < m3 ∧ m3 < 2 ^ 31) (K : kv_V y_Md_block d B Q kc ks n S I 53 [(0, .ref a0), (1, .int v1), (2, .int v2), (3, .int v3)] [.int (I q2 j4)]) : kv_V y_Md_block d B Q kc ks n S I 29 [(0, .ref a0), (1, .int v1), (2, .int v2), (3, .int v3)] [] := by
  refine kv_aload_n dd_Md_block_29 rfl ?_
  refine kv_getR fl_Md_32 dd_Md_block_30 hO1 hr2 ?_
  refine kv_iload_n dd_Md_block_33 rfl ?_
  refine kv_iald j4 dd_Md_block_34 hA3 hi4.1 hi4.2.1 hi4.2.2 ?_
  refine kv_goto 53 dd_Md_block_35 (by decide) ?_
  exact kv_loc [0, 1, 2, 3] rfl K
theorem bl_Md_block_38 {d : Nat} {B : kv_B} {Q : kv_Q} {kc ks n : Nat} {S : kv_SM} {I : kv_IM} {a0 : Nat} {v1 : Int32} {v2 : Int32} {v3 : Int32} {r1 : Nat → Option Nat} {q2 : Nat} {m3 : Nat} {j4 : Nat} {j5 : Nat} (hO1 : S a0 = kO 6 r1) (hr2 : r1 10 = some q2) (hA3 : S q2 = kI m3) (hi4 : v2 + 1 = nI j4 ∧ j4 < m3 ∧ m3 < 2 ^ 31) (hi5 : v2 = nI j5 ∧ j5 < m3 ∧ m3 < 2 ^ 31) (K : kv_V y_Md_block d B Q kc ks n S I 53 [(0, .ref a0), (1, .int v1), (2, .int v2), (3, .int v3)] [.int ((I q2 j4) - (I q2 j5))]) : kv_V y_Md_block d B Q kc ks n S I 38 [(0, .ref a0), (1, .int v1), (2, .int v2), (3, .int v3)] [] := by
  refine kv_aload_n dd_Md_block_38 rfl ?_
  refine kv_getR fl_Md_32 dd_Md_block_39 hO1 hr2 ?_
  refine kv_iload_n dd_Md_block_42 rfl ?_
  refine kv_iconst (v := 1) dd_Md_block_43 (by decide) ?_
  refine kv_iadd dd_Md_block_44 ?_
  refine kv_iald j4 dd_Md_block_45 hA3 hi4.1 hi4.2.1 hi4.2.2 ?_
  refine kv_aload_n dd_Md_block_46 rfl ?_
  refine kv_getR fl_Md_32 dd_Md_block_47 hO1 hr2 ?_
  refine kv_iload_n dd_Md_block_50 rfl ?_
  refine kv_iald j5 dd_Md_block_51 hA3 hi5.1 hi5.2.1 hi5.2.2 ?_
  refine kv_isub dd_Md_block_52 ?_
  exact kv_loc [0, 1, 2, 3] rfl K
theorem bl_Md_block_53 {d : Nat} {B : kv_B} {Q : kv_Q} {kc ks n : Nat} {S : kv_SM} {I : kv_IM} {a0 : Nat} {v1 : Int32} {v2 : Int32} {v3 : Int32} {t0 : Int32} (hQ : Q (some (.int t0)) n S I) : kv_V y_Md_block d B Q kc ks n S I 53 [(0, .ref a0), (1, .int v1), (2, .int v2), (3, .int v3)] [.int t0] := by
  exact kv_end (v := some (.int t0)) hQ ⟨dd_Md_block_53, .int, rfl, rfl⟩
theorem bl_Md_isBlock_0 {d : Nat} {B : kv_B} {Q : kv_Q} {kc ks n : Nat} {S : kv_SM} {I : kv_IM} {a0 : Nat} {v1 : Int32} {v2 : Int32} {dc kcc ksc : Nat} {Qy : kv_Q} (hM : kv_T y_Md_isText dc kcc ksc B [.int v1] n S I Qy) (hdp : dc + 1 ≤ d) (hkk : kcc ≤ kc) (hkl : ksc ≤ ks) (K : ∀ v n' S' I', Qy v n' S' I' → kv_V y_Md_isBlock d B Q (kc - kcc) (ks - ksc) n' S' I' 4 [(0, .ref a0), (1, .int v1), (2, .int v2)] (v.toList ++ [])) : kv_V y_Md_isBlock d B Q kc ks n S I 0 [(0, .ref a0), (1, .int v1), (2, .int v2)] [] := by
  refine kv_iload_n dd_Md_isBlock_0 rfl ?_
  exact kv_callS [.int v1] [] ls_Md_82 hM dd_Md_isBlock_1 rfl hdp (Nat.le_of_ble_eq_true rfl) hkk hkl (fun v n' S' I' hv => kv_loc [0, 1, 2] rfl (K v n' S' I' hv))
theorem bl_Md_isBlock_4 {d : Nat} {B : kv_B} {Q : kv_Q} {kc ks n : Nat} {S : kv_SM} {I : kv_IM} {a0 : Nat} {v1 : Int32} {v2 : Int32} {t0 : Int32} (Kt : ¬ t0 = 0 → kv_V y_Md_isBlock d B Q kc ks n S I 9 [(0, .ref a0), (1, .int v1), (2, .int v2)] []) (Kf : t0 = 0 → kv_V y_Md_isBlock d B Q kc ks n S I 7 [(0, .ref a0), (1, .int v1), (2, .int v2)] []) : kv_V y_Md_isBlock d B Q kc ks n S I 4 [(0, .ref a0), (1, .int v1), (2, .int v2)] [.int t0] := by
  exact kv_if_ne 9 dd_Md_isBlock_4 (by decide) (fun h => kv_loc [0, 1, 2] rfl (Kt h)) (fun h => kv_loc [0, 1, 2] rfl (Kf h))
theorem bl_Md_isBlock_7 {d : Nat} {B : kv_B} {Q : kv_Q} {kc ks n : Nat} {S : kv_SM} {I : kv_IM} {a0 : Nat} {v1 : Int32} {v2 : Int32} (hQ : Q (some (.int 0)) n S I) : kv_V y_Md_isBlock d B Q kc ks n S I 7 [(0, .ref a0), (1, .int v1), (2, .int v2)] [] := by
  refine kv_iconst (v := 0) dd_Md_isBlock_7 (by decide) ?_
  exact kv_end (v := some (.int 0)) hQ ⟨dd_Md_isBlock_8, .boolean, rfl, rfl⟩
theorem bl_Md_isBlock_9 {d : Nat} {B : kv_B} {Q : kv_Q} {kc ks n : Nat} {S : kv_SM} {I : kv_IM} {a0 : Nat} {v1 : Int32} {v2 : Int32} {r1 : Nat → Option Nat} {q2 : Nat} {dc kcc ksc : Nat} {Qy : kv_Q} (hO1 : S a0 = kO 6 r1) (hr2 : r1 10 = some q2) (hM : kv_T y_Md_layCuts dc kcc ksc B [.ref a0, .int v1, .ref q2] n S I Qy) (hdp : dc + 1 ≤ d) (hkk : kcc ≤ kc) (hkl : ksc ≤ ks) (K : ∀ v n' S' I', Qy v n' S' I' → kv_V y_Md_isBlock d B Q (kc - kcc) (ks - ksc) n' S' I' 19 [(0, .ref a0), (1, .int v1), (2, .int v2)] (v.toList ++ [.ref a0])) : kv_V y_Md_isBlock d B Q kc ks n S I 9 [(0, .ref a0), (1, .int v1), (2, .int v2)] [] := by
  refine kv_aload_n dd_Md_isBlock_9 rfl ?_
  refine kv_aload_n dd_Md_isBlock_10 rfl ?_
  refine kv_iload_n dd_Md_isBlock_11 rfl ?_
  refine kv_aload_n dd_Md_isBlock_12 rfl ?_
  refine kv_getR fl_Md_32 dd_Md_isBlock_13 hO1 hr2 ?_
  exact kv_callV [.int v1, .ref q2] [.ref a0] ls_Md_106 hO1 hM dd_Md_isBlock_16 rfl hdp (Nat.le_of_ble_eq_true rfl) hkk hkl (fun v n' S' I' hv => kv_loc [0, 1, 2] rfl (K v n' S' I' hv))
theorem bl_Md_isBlock_19 {d : Nat} {B : kv_B} {Q : kv_Q} {kc ks n : Nat} {S : kv_SM} {I : kv_IM} {a0 : Nat} {v1 : Int32} {v2 : Int32} {t0 : Int32} {t1 : Nat} {r1 : Nat → Option Nat} {r2 : Nat → Option Nat} {dc kcc ksc : Nat} {Qy : kv_Q} (hO1 : S t1 = kO 6 r1) (hO2 : S a0 = kO 6 r2) (hM : kv_T y_Md_in dc kcc ksc B [.int v2, .int 0, .int (((kv_up I t1 11 t0) a0 11) - 1)] n S (kv_up I t1 11 t0) Qy) (hdp : dc + 1 ≤ d) (hkk : kcc ≤ kc) (hkl : ksc ≤ ks) (K : ∀ v n' S' I', Qy v n' S' I' → kv_V y_Md_isBlock d B Q (kc - kcc) (ks - ksc) n' S' I' 33 [(0, .ref a0), (1, .int v1), (2, .int v2)] (v.toList ++ [])) : kv_V y_Md_isBlock d B Q kc ks n S I 19 [(0, .ref a0), (1, .int v1), (2, .int v2)] [.int t0, .ref t1] := by
  refine kv_putI fp_Md_110 (fun h => by cases h) dd_Md_isBlock_19 hO1 rfl rfl ?_
  refine kv_iload_n dd_Md_isBlock_22 rfl ?_
  refine kv_iconst (v := 0) dd_Md_isBlock_23 (by decide) ?_
  refine kv_aload_n dd_Md_isBlock_24 rfl ?_
  refine kv_getI fl_Md_110 dd_Md_isBlock_25 hO2 ?_
  refine kv_iconst (v := 1) dd_Md_isBlock_28 (by decide) ?_
  refine kv_isub dd_Md_isBlock_29 ?_
  exact kv_callS [.int v2, .int 0, .int (((kv_up I t1 11 t0) a0 11) - 1)] [] ls_Md_72 hM dd_Md_isBlock_30 rfl hdp (Nat.le_of_ble_eq_true rfl) hkk hkl (fun v n' S' I' hv => kv_loc [0, 1, 2] rfl (K v n' S' I' hv))
theorem bl_Md_isBlock_33 {d : Nat} {B : kv_B} {Q : kv_Q} {kc ks n : Nat} {S : kv_SM} {I : kv_IM} {a0 : Nat} {v1 : Int32} {v2 : Int32} {t0 : Int32} (hb : narrow .boolean (.int t0) = .int t0) (hQ : Q (some (.int t0)) n S I) : kv_V y_Md_isBlock d B Q kc ks n S I 33 [(0, .ref a0), (1, .int v1), (2, .int v2)] [.int t0] := by
  exact kv_end (v := some (.int t0)) hQ ⟨dd_Md_isBlock_33, .boolean, rfl, hb⟩
theorem bl_Md_digest_0 {d : Nat} {B : kv_B} {Q : kv_Q} {kc ks n : Nat} {S : kv_SM} {I : kv_IM} {a0 : Nat} {v1 : Int32} {v2 : Int32} {v3 : Int32} {r1 : Nat → Option Nat} {dc kcc ksc : Nat} {Qy : kv_Q} (hO1 : S a0 = kO 6 r1) (hM : kv_T y_Md_isBlock dc kcc ksc B [.ref a0, .int v1, .int v2] n S (kv_up I a0 0 0) Qy) (hdp : dc + 1 ≤ d) (hkk : kcc ≤ kc) (hkl : ksc ≤ ks) (K : ∀ v n' S' I', Qy v n' S' I' → kv_V y_Md_digest d B Q (kc - kcc) (ks - ksc) n' S' I' 11 [(0, .ref a0), (1, .int v1), (2, .int v2), (3, .int v3)] (v.toList ++ [])) : kv_V y_Md_digest d B Q kc ks n S I 0 [(0, .ref a0), (1, .int v1), (2, .int v2), (3, .int v3)] [] := by
  refine kv_aload_n dd_Md_digest_0 rfl ?_
  refine kv_iconst (v := 0) dd_Md_digest_1 (by decide) ?_
  refine kv_putI fp_Md_67 (fun h => by cases h) dd_Md_digest_2 hO1 rfl rfl ?_
  refine kv_aload_n dd_Md_digest_5 rfl ?_
  refine kv_iload_n dd_Md_digest_6 rfl ?_
  refine kv_iload_n dd_Md_digest_7 rfl ?_
  exact kv_callV [.int v1, .int v2] [] ls_Md_113 hO1 hM dd_Md_digest_8 rfl hdp (Nat.le_of_ble_eq_true rfl) hkk hkl (fun v n' S' I' hv => kv_loc [0, 1, 2, 3] rfl (K v n' S' I' hv))
theorem bl_Md_digest_11 {d : Nat} {B : kv_B} {Q : kv_Q} {kc ks n : Nat} {S : kv_SM} {I : kv_IM} {a0 : Nat} {v1 : Int32} {v2 : Int32} {v3 : Int32} {t0 : Int32} (Kt : t0 = 0 → kv_V y_Md_digest d B Q kc ks n S I 23 [(0, .ref a0), (1, .int v1), (2, .int v2), (3, .int v3)] []) (Kf : ¬ t0 = 0 → kv_V y_Md_digest d B Q kc ks n S I 14 [(0, .ref a0), (1, .int v1), (2, .int v2), (3, .int v3)] []) : kv_V y_Md_digest d B Q kc ks n S I 11 [(0, .ref a0), (1, .int v1), (2, .int v2), (3, .int v3)] [.int t0] := by
  exact kv_if_eq 23 dd_Md_digest_11 (by decide) (fun h => kv_loc [0, 1, 2, 3] rfl (Kt h)) (fun h => kv_loc [0, 1, 2, 3] rfl (Kf h))
theorem bl_Md_digest_14 {d : Nat} {B : kv_B} {Q : kv_Q} {kc ks n : Nat} {S : kv_SM} {I : kv_IM} {a0 : Nat} {v1 : Int32} {v2 : Int32} {v3 : Int32} {dc kcc ksc : Nat} {Qy : kv_Q} (hM : kv_T y_Md_in dc kcc ksc B [.int v3, .int 0, .int 1] n S I Qy) (hdp : dc + 1 ≤ d) (hkk : kcc ≤ kc) (hkl : ksc ≤ ks) (K : ∀ v n' S' I', Qy v n' S' I' → kv_V y_Md_digest d B Q (kc - kcc) (ks - ksc) n' S' I' 20 [(0, .ref a0), (1, .int v1), (2, .int v2), (3, .int v3)] (v.toList ++ [])) : kv_V y_Md_digest d B Q kc ks n S I 14 [(0, .ref a0), (1, .int v1), (2, .int v2), (3, .int v3)] [] := by
  refine kv_iload_n dd_Md_digest_14 rfl ?_
  refine kv_iconst (v := 0) dd_Md_digest_15 (by decide) ?_
  refine kv_iconst (v := 1) dd_Md_digest_16 (by decide) ?_
  exact kv_callS [.int v3, .int 0, .int 1] [] ls_Md_72 hM dd_Md_digest_17 rfl hdp (Nat.le_of_ble_eq_true rfl) hkk hkl (fun v n' S' I' hv => kv_loc [0, 1, 2, 3] rfl (K v n' S' I' hv))
theorem bl_Md_digest_20 {d : Nat} {B : kv_B} {Q : kv_Q} {kc ks n : Nat} {S : kv_SM} {I : kv_IM} {a0 : Nat} {v1 : Int32} {v2 : Int32} {v3 : Int32} {t0 : Int32} (Kt : ¬ t0 = 0 → kv_V y_Md_digest d B Q kc ks n S I 27 [(0, .ref a0), (1, .int v1), (2, .int v2), (3, .int v3)] []) (Kf : t0 = 0 → kv_V y_Md_digest d B Q kc ks n S I 23 [(0, .ref a0), (1, .int v1), (2, .int v2), (3, .int v3)] []) : kv_V y_Md_digest d B Q kc ks n S I 20 [(0, .ref a0), (1, .int v1), (2, .int v2), (3, .int v3)] [.int t0] := by
  exact kv_if_ne 27 dd_Md_digest_20 (by decide) (fun h => kv_loc [0, 1, 2, 3] rfl (Kt h)) (fun h => kv_loc [0, 1, 2, 3] rfl (Kf h))
theorem bl_Md_digest_23 {d : Nat} {B : kv_B} {Q : kv_Q} {kc ks n : Nat} {S : kv_SM} {I : kv_IM} {a0 : Nat} {v1 : Int32} {v2 : Int32} {v3 : Int32} (hQ : Q (some (.long ((-1)))) n S I) : kv_V y_Md_digest d B Q kc ks n S I 23 [(0, .ref a0), (1, .int v1), (2, .int v2), (3, .int v3)] [] := by
  refine kv_ldc2 wk_Md_123 dd_Md_digest_23 ?_
  exact kv_end (v := some (.long ((-1)))) hQ ⟨dd_Md_digest_26, rfl⟩
theorem bl_Md_digest_27 {d : Nat} {B : kv_B} {Q : kv_Q} {kc ks n : Nat} {S : kv_SM} {I : kv_IM} {a0 : Nat} {v1 : Int32} {v2 : Int32} {v3 : Int32} {r1 : Nat → Option Nat} {q2 : Nat} {q3 : Nat} {m4 : Nat} {j5 : Nat} {j6 : Nat} {dc kcc ksc : Nat} {Qy : kv_Q} (hO1 : S a0 = kO 6 r1) (hr2 : r1 1 = some q2) (hr3 : r1 10 = some q3) (hA4 : S q3 = kI m4) (hi5 : v2 = nI j5 ∧ j5 < m4 ∧ m4 < 2 ^ 31) (hi6 : v2 + 1 = nI j6 ∧ j6 < m4 ∧ m4 < 2 ^ 31) (hM : kv_T y_Md_digestOf dc kcc ksc B [.ref q2, .int ((1500 * v1) + (I q3 j5)), .int ((1500 * v1) + (I q3 j6)), .int v3] n S I Qy) (hdp : dc + 1 ≤ d) (hkk : kcc ≤ kc) (hkl : ksc ≤ ks) (K : ∀ v n' S' I', Qy v n' S' I' → kv_V y_Md_digest d B Q (kc - kcc) (ks - ksc) n' S' I' 61 [(0, .ref a0), (1, .int v1), (2, .int v2), (3, .int v3)] (v.toList ++ [])) : kv_V y_Md_digest d B Q kc ks n S I 27 [(0, .ref a0), (1, .int v1), (2, .int v2), (3, .int v3)] [] := by
  refine kv_aload_n dd_Md_digest_27 rfl ?_
  refine kv_getR fl_Md_7 dd_Md_digest_28 hO1 hr2 ?_
  refine kv_sipush (v := 1500) dd_Md_digest_31 (by decide) ?_
  refine kv_iload_n dd_Md_digest_34 rfl ?_
  refine kv_imul dd_Md_digest_35 ?_
  refine kv_aload_n dd_Md_digest_36 rfl ?_
  refine kv_getR fl_Md_32 dd_Md_digest_37 hO1 hr3 ?_
  refine kv_iload_n dd_Md_digest_40 rfl ?_
  refine kv_iald j5 dd_Md_digest_41 hA4 hi5.1 hi5.2.1 hi5.2.2 ?_
  refine kv_iadd dd_Md_digest_42 ?_
  refine kv_sipush (v := 1500) dd_Md_digest_43 (by decide) ?_
  refine kv_iload_n dd_Md_digest_46 rfl ?_
  refine kv_imul dd_Md_digest_47 ?_
  refine kv_aload_n dd_Md_digest_48 rfl ?_
  refine kv_getR fl_Md_32 dd_Md_digest_49 hO1 hr3 ?_
  refine kv_iload_n dd_Md_digest_52 rfl ?_
  refine kv_iconst (v := 1) dd_Md_digest_53 (by decide) ?_
  refine kv_iadd dd_Md_digest_54 ?_
  refine kv_iald j6 dd_Md_digest_55 hA4 hi6.1 hi6.2.1 hi6.2.2 ?_
  refine kv_iadd dd_Md_digest_56 ?_
  refine kv_iload_n dd_Md_digest_57 rfl ?_
  exact kv_callS [.ref q2, .int ((1500 * v1) + (I q3 j5)), .int ((1500 * v1) + (I q3 j6)), .int v3] [] ls_Md_125 hM dd_Md_digest_58 rfl hdp (Nat.le_of_ble_eq_true rfl) hkk hkl (fun v n' S' I' hv => kv_loc [0, 1, 2, 3] rfl (K v n' S' I' hv))
theorem bl_Md_digest_61 {d : Nat} {B : kv_B} {Q : kv_Q} {kc ks n : Nat} {S : kv_SM} {I : kv_IM} {a0 : Nat} {v1 : Int32} {v2 : Int32} {v3 : Int32} {t0 : Int64} (hQ : Q (some (.long t0)) n S I) : kv_V y_Md_digest d B Q kc ks n S I 61 [(0, .ref a0), (1, .int v1), (2, .int v2), (3, .int v3)] [.long t0] := by
  exact kv_end (v := some (.long t0)) hQ ⟨dd_Md_digest_61, rfl⟩
theorem bl_Md_digestOf_0 {d : Nat} {B : kv_B} {Q : kv_Q} {kc ks n : Nat} {S : kv_SM} {I : kv_IM} {a0 : Nat} {v1 : Int32} {v2 : Int32} {v3 : Int32} (K : kv_V y_Md_digestOf d B Q kc ks n S I 13 [(0, .ref a0), (1, .int v1), (2, .int v2), (3, .int v3), (4, .int ((-2128831035))), (5, .int 1), (6, .int 0), (7, .int v1)] []) : kv_V y_Md_digestOf d B Q kc ks n S I 0 [(0, .ref a0), (1, .int v1), (2, .int v2), (3, .int v3)] [] := by
  refine kv_ldc wk_Md_116 dd_Md_digestOf_0 ?_
  refine kv_istore (L' := [(4, .int ((-2128831035))), (0, .ref a0), (1, .int v1), (2, .int v2), (3, .int v3)]) dd_Md_digestOf_2 (by decide) rfl ?_
  refine kv_iconst (v := 1) dd_Md_digestOf_4 (by decide) ?_
  refine kv_istore (L' := [(5, .int 1), (4, .int ((-2128831035))), (0, .ref a0), (1, .int v1), (2, .int v2), (3, .int v3)]) dd_Md_digestOf_5 (by decide) rfl ?_
  refine kv_iconst (v := 0) dd_Md_digestOf_7 (by decide) ?_
  refine kv_istore (L' := [(6, .int 0), (5, .int 1), (4, .int ((-2128831035))), (0, .ref a0), (1, .int v1), (2, .int v2), (3, .int v3)]) dd_Md_digestOf_8 (by decide) rfl ?_
  refine kv_iload_n dd_Md_digestOf_10 rfl ?_
  refine kv_istore (L' := [(7, .int v1), (6, .int 0), (5, .int 1), (4, .int ((-2128831035))), (0, .ref a0), (1, .int v1), (2, .int v2), (3, .int v3)]) dd_Md_digestOf_11 (by decide) rfl ?_
  exact kv_loc [4, 5, 6, 7, 3, 2, 1, 0] rfl K
theorem bl_Md_digestOf_13 {d : Nat} {B : kv_B} {Q : kv_Q} {kc ks n : Nat} {S : kv_SM} {I : kv_IM} {a0 : Nat} {v1 : Int32} {v2 : Int32} {v3 : Int32} {v4 : Int32} {v5 : Int32} {v6 : Int32} {v7 : Int32} (Kt : v2 ≤ v7 → kv_V y_Md_digestOf d B Q kc ks n S I 59 [(0, .ref a0), (1, .int v1), (2, .int v2), (3, .int v3), (4, .int v4), (5, .int v5), (6, .int v6), (7, .int v7)] []) (Kf : ¬ v2 ≤ v7 → kv_V y_Md_digestOf d B Q kc ks n S I 19 [(0, .ref a0), (1, .int v1), (2, .int v2), (3, .int v3), (4, .int v4), (5, .int v5), (6, .int v6), (7, .int v7)] []) : kv_V y_Md_digestOf d B Q kc ks n S I 13 [(0, .ref a0), (1, .int v1), (2, .int v2), (3, .int v3), (4, .int v4), (5, .int v5), (6, .int v6), (7, .int v7)] [] := by
  refine kv_iload dd_Md_digestOf_13 rfl ?_
  refine kv_iload_n dd_Md_digestOf_15 rfl ?_
  exact kv_icmp_ge 59 dd_Md_digestOf_16 (by decide) (fun h => kv_loc [0, 1, 2, 3, 4, 5, 6, 7] rfl (Kt h)) (fun h => kv_loc [0, 1, 2, 3, 4, 5, 6, 7] rfl (Kf h))
theorem bl_Md_digestOf_19 {d : Nat} {B : kv_B} {Q : kv_Q} {kc ks n : Nat} {S : kv_SM} {I : kv_IM} {a0 : Nat} {v1 : Int32} {v2 : Int32} {v3 : Int32} {v4 : Int32} {v5 : Int32} {v6 : Int32} {v7 : Int32} {m1 : Nat} {j2 : Nat} (hA1 : S a0 = kI m1) (hi2 : v7 = nI j2 ∧ j2 < m1 ∧ m1 < 2 ^ 31) (K : kv_V y_Md_digestOf d B Q kc ks n S I 13 [(0, .ref a0), (1, .int v1), (2, .int v2), (3, .int v3), (4, .int ((v4 ^^^ (I a0 j2)) * 16777619)), (5, .int ((v5 + (I a0 j2)) - (v5 + (I a0 j2)) / 65521 * 65521)), (6, .int ((v6 + ((v5 + (I a0 j2)) - (v5 + (I a0 j2)) / 65521 * 65521)) - (v6 + ((v5 + (I a0 j2)) - (v5 + (I a0 j2)) / 65521 * 65521)) / 65521 * 65521)), (7, .int (v7 + 1))] []) : kv_V y_Md_digestOf d B Q kc ks n S I 19 [(0, .ref a0), (1, .int v1), (2, .int v2), (3, .int v3), (4, .int v4), (5, .int v5), (6, .int v6), (7, .int v7)] [] := by
  refine kv_iload dd_Md_digestOf_19 rfl ?_
  refine kv_aload_n dd_Md_digestOf_21 rfl ?_
  refine kv_iload dd_Md_digestOf_22 rfl ?_
  refine kv_iald j2 dd_Md_digestOf_24 hA1 hi2.1 hi2.2.1 hi2.2.2 ?_
  refine kv_ixor dd_Md_digestOf_25 ?_
  refine kv_ldc wk_Md_117 dd_Md_digestOf_26 ?_
  refine kv_imul dd_Md_digestOf_28 ?_
  refine kv_istore (L' := [(4, .int ((v4 ^^^ (I a0 j2)) * 16777619)), (0, .ref a0), (1, .int v1), (2, .int v2), (3, .int v3), (5, .int v5), (6, .int v6), (7, .int v7)]) dd_Md_digestOf_29 (by decide) rfl ?_
  refine kv_iload dd_Md_digestOf_31 rfl ?_
  refine kv_aload_n dd_Md_digestOf_33 rfl ?_
  refine kv_iload dd_Md_digestOf_34 rfl ?_
  refine kv_iald j2 dd_Md_digestOf_36 hA1 hi2.1 hi2.2.1 hi2.2.2 ?_
  refine kv_iadd dd_Md_digestOf_37 ?_
  refine kv_ldc wk_Md_118 dd_Md_digestOf_38 ?_
  refine kv_irem dd_Md_digestOf_40 (by decide) ?_
  refine kv_istore (L' := [(5, .int ((v5 + (I a0 j2)) - (v5 + (I a0 j2)) / 65521 * 65521)), (4, .int ((v4 ^^^ (I a0 j2)) * 16777619)), (0, .ref a0), (1, .int v1), (2, .int v2), (3, .int v3), (6, .int v6), (7, .int v7)]) dd_Md_digestOf_41 (by decide) rfl ?_
  refine kv_iload dd_Md_digestOf_43 rfl ?_
  refine kv_iload dd_Md_digestOf_45 rfl ?_
  refine kv_iadd dd_Md_digestOf_47 ?_
  refine kv_ldc wk_Md_118 dd_Md_digestOf_48 ?_
  refine kv_irem dd_Md_digestOf_50 (by decide) ?_
  refine kv_istore (L' := [(6, .int ((v6 + ((v5 + (I a0 j2)) - (v5 + (I a0 j2)) / 65521 * 65521)) - (v6 + ((v5 + (I a0 j2)) - (v5 + (I a0 j2)) / 65521 * 65521)) / 65521 * 65521)), (5, .int ((v5 + (I a0 j2)) - (v5 + (I a0 j2)) / 65521 * 65521)), (4, .int ((v4 ^^^ (I a0 j2)) * 16777619)), (0, .ref a0), (1, .int v1), (2, .int v2), (3, .int v3), (7, .int v7)]) dd_Md_digestOf_51 (by decide) rfl ?_
  refine kv_iinc (v := v7 + 1) (L' := [(7, .int (v7 + 1)), (6, .int ((v6 + ((v5 + (I a0 j2)) - (v5 + (I a0 j2)) / 65521 * 65521)) - (v6 + ((v5 + (I a0 j2)) - (v5 + (I a0 j2)) / 65521 * 65521)) / 65521 * 65521)), (5, .int ((v5 + (I a0 j2)) - (v5 + (I a0 j2)) / 65521 * 65521)), (4, .int ((v4 ^^^ (I a0 j2)) * 16777619)), (0, .ref a0), (1, .int v1), (2, .int v2), (3, .int v3)]) dd_Md_digestOf_53 rfl rfl (by decide) rfl ?_
  refine kv_goto 13 dd_Md_digestOf_56 (by decide) ?_
  exact kv_loc [4, 5, 6, 7, 3, 2, 1, 0] rfl K
theorem bl_Md_digestOf_59 {d : Nat} {B : kv_B} {Q : kv_Q} {kc ks n : Nat} {S : kv_SM} {I : kv_IM} {a0 : Nat} {v1 : Int32} {v2 : Int32} {v3 : Int32} {v4 : Int32} {v5 : Int32} {v6 : Int32} {v7 : Int32} (Kt : ¬ v3 = 0 → kv_V y_Md_digestOf d B Q kc ks n S I 73 [(0, .ref a0), (1, .int v1), (2, .int v2), (3, .int v3), (4, .int v4), (5, .int v5), (6, .int v6), (7, .int v7)] []) (Kf : v3 = 0 → kv_V y_Md_digestOf d B Q kc ks n S I 63 [(0, .ref a0), (1, .int v1), (2, .int v2), (3, .int v3), (4, .int v4), (5, .int v5), (6, .int v6), (7, .int v7)] []) : kv_V y_Md_digestOf d B Q kc ks n S I 59 [(0, .ref a0), (1, .int v1), (2, .int v2), (3, .int v3), (4, .int v4), (5, .int v5), (6, .int v6), (7, .int v7)] [] := by
  refine kv_iload_n dd_Md_digestOf_59 rfl ?_
  exact kv_if_ne 73 dd_Md_digestOf_60 (by decide) (fun h => kv_loc [0, 1, 2, 3, 4, 5, 6, 7] rfl (Kt h)) (fun h => kv_loc [0, 1, 2, 3, 4, 5, 6, 7] rfl (Kf h))
theorem bl_Md_digestOf_63 {d : Nat} {B : kv_B} {Q : kv_Q} {kc ks n : Nat} {S : kv_SM} {I : kv_IM} {a0 : Nat} {v1 : Int32} {v2 : Int32} {v3 : Int32} {v4 : Int32} {v5 : Int32} {v6 : Int32} {v7 : Int32} (K : kv_V y_Md_digestOf d B Q kc ks n S I 84 [(0, .ref a0), (1, .int v1), (2, .int v2), (3, .int v3), (4, .int v4), (5, .int v5), (6, .int v6), (7, .int v7)] [.long ((Int32.toInt64 v4) &&& 4294967295)]) : kv_V y_Md_digestOf d B Q kc ks n S I 63 [(0, .ref a0), (1, .int v1), (2, .int v2), (3, .int v3), (4, .int v4), (5, .int v5), (6, .int v6), (7, .int v7)] [] := by
  refine kv_iload dd_Md_digestOf_63 rfl ?_
  refine kv_i2l dd_Md_digestOf_65 ?_
  refine kv_ldc2 wk_Md_119 dd_Md_digestOf_66 ?_
  refine kv_land dd_Md_digestOf_69 ?_
  refine kv_goto 84 dd_Md_digestOf_70 (by decide) ?_
  exact kv_loc [0, 1, 2, 3, 4, 5, 6, 7] rfl K
theorem bl_Md_digestOf_73 {d : Nat} {B : kv_B} {Q : kv_Q} {kc ks n : Nat} {S : kv_SM} {I : kv_IM} {a0 : Nat} {v1 : Int32} {v2 : Int32} {v3 : Int32} {v4 : Int32} {v5 : Int32} {v6 : Int32} {v7 : Int32} (K : kv_V y_Md_digestOf d B Q kc ks n S I 84 [(0, .ref a0), (1, .int v1), (2, .int v2), (3, .int v3), (4, .int v4), (5, .int v5), (6, .int v6), (7, .int v7)] [.long ((65536 * (Int32.toInt64 v6)) + (Int32.toInt64 v5))]) : kv_V y_Md_digestOf d B Q kc ks n S I 73 [(0, .ref a0), (1, .int v1), (2, .int v2), (3, .int v3), (4, .int v4), (5, .int v5), (6, .int v6), (7, .int v7)] [] := by
  refine kv_ldc2 wk_Md_121 dd_Md_digestOf_73 ?_
  refine kv_iload dd_Md_digestOf_76 rfl ?_
  refine kv_i2l dd_Md_digestOf_78 ?_
  refine kv_lmul dd_Md_digestOf_79 ?_
  refine kv_iload dd_Md_digestOf_80 rfl ?_
  refine kv_i2l dd_Md_digestOf_82 ?_
  refine kv_ladd dd_Md_digestOf_83 ?_
  exact kv_loc [0, 1, 2, 3, 4, 5, 6, 7] rfl K
theorem bl_Md_digestOf_84 {d : Nat} {B : kv_B} {Q : kv_Q} {kc ks n : Nat} {S : kv_SM} {I : kv_IM} {a0 : Nat} {v1 : Int32} {v2 : Int32} {v3 : Int32} {v4 : Int32} {v5 : Int32} {v6 : Int32} {v7 : Int32} {t0 : Int64} (hQ : Q (some (.long t0)) n S I) : kv_V y_Md_digestOf d B Q kc ks n S I 84 [(0, .ref a0), (1, .int v1), (2, .int v2), (3, .int v3), (4, .int v4), (5, .int v5), (6, .int v6), (7, .int v7)] [.long t0] := by
  exact kv_end (v := some (.long t0)) hQ ⟨dd_Md_digestOf_84, rfl⟩
theorem bl_Md_hash_0 {d : Nat} {B : kv_B} {Q : kv_Q} {kc ks n : Nat} {S : kv_SM} {I : kv_IM} {a0 : Nat} {v1 : Int32} {v2 : Int32} {r1 : Nat → Option Nat} {dc kcc ksc : Nat} {Qy : kv_Q} (hO1 : S a0 = kO 6 r1) (hM : kv_T y_Md_isText dc kcc ksc B [.int v1] n S (kv_up I a0 0 0) Qy) (hdp : dc + 1 ≤ d) (hkk : kcc ≤ kc) (hkl : ksc ≤ ks) (K : ∀ v n' S' I', Qy v n' S' I' → kv_V y_Md_hash d B Q (kc - kcc) (ks - ksc) n' S' I' 9 [(0, .ref a0), (1, .int v1), (2, .int v2)] (v.toList ++ [])) : kv_V y_Md_hash d B Q kc ks n S I 0 [(0, .ref a0), (1, .int v1), (2, .int v2)] [] := by
  refine kv_aload_n dd_Md_hash_0 rfl ?_
  refine kv_iconst (v := 0) dd_Md_hash_1 (by decide) ?_
  refine kv_putI fp_Md_67 (fun h => by cases h) dd_Md_hash_2 hO1 rfl rfl ?_
  refine kv_iload_n dd_Md_hash_5 rfl ?_
  exact kv_callS [.int v1] [] ls_Md_82 hM dd_Md_hash_6 rfl hdp (Nat.le_of_ble_eq_true rfl) hkk hkl (fun v n' S' I' hv => kv_loc [0, 1, 2] rfl (K v n' S' I' hv))
theorem bl_Md_hash_9 {d : Nat} {B : kv_B} {Q : kv_Q} {kc ks n : Nat} {S : kv_SM} {I : kv_IM} {a0 : Nat} {v1 : Int32} {v2 : Int32} {t0 : Int32} (Kt : t0 = 0 → kv_V y_Md_hash d B Q kc ks n S I 28 [(0, .ref a0), (1, .int v1), (2, .int v2)] []) (Kf : ¬ t0 = 0 → kv_V y_Md_hash d B Q kc ks n S I 12 [(0, .ref a0), (1, .int v1), (2, .int v2)] []) : kv_V y_Md_hash d B Q kc ks n S I 9 [(0, .ref a0), (1, .int v1), (2, .int v2)] [.int t0] := by
  exact kv_if_eq 28 dd_Md_hash_9 (by decide) (fun h => kv_loc [0, 1, 2] rfl (Kt h)) (fun h => kv_loc [0, 1, 2] rfl (Kf h))
theorem bl_Md_hash_12 {d : Nat} {B : kv_B} {Q : kv_Q} {kc ks n : Nat} {S : kv_SM} {I : kv_IM} {a0 : Nat} {v1 : Int32} {v2 : Int32} {r1 : Nat → Option Nat} {q2 : Nat} {m3 : Nat} {j4 : Nat} {dc kcc ksc : Nat} {Qy : kv_Q} (hO1 : S a0 = kO 6 r1) (hr2 : r1 2 = some q2) (hA3 : S q2 = kI m3) (hi4 : v1 = nI j4 ∧ j4 < m3 ∧ m3 < 2 ^ 31) (hM : kv_T y_Md_in dc kcc ksc B [.int v2, .int 0, .int ((I q2 j4) - 1)] n S I Qy) (hdp : dc + 1 ≤ d) (hkk : kcc ≤ kc) (hkl : ksc ≤ ks) (K : ∀ v n' S' I', Qy v n' S' I' → kv_V y_Md_hash d B Q (kc - kcc) (ks - ksc) n' S' I' 25 [(0, .ref a0), (1, .int v1), (2, .int v2)] (v.toList ++ [])) : kv_V y_Md_hash d B Q kc ks n S I 12 [(0, .ref a0), (1, .int v1), (2, .int v2)] [] := by
  refine kv_iload_n dd_Md_hash_12 rfl ?_
  refine kv_iconst (v := 0) dd_Md_hash_13 (by decide) ?_
  refine kv_aload_n dd_Md_hash_14 rfl ?_
  refine kv_getR fl_Md_13 dd_Md_hash_15 hO1 hr2 ?_
  refine kv_iload_n dd_Md_hash_18 rfl ?_
  refine kv_iald j4 dd_Md_hash_19 hA3 hi4.1 hi4.2.1 hi4.2.2 ?_
  refine kv_iconst (v := 1) dd_Md_hash_20 (by decide) ?_
  refine kv_isub dd_Md_hash_21 ?_
  exact kv_callS [.int v2, .int 0, .int ((I q2 j4) - 1)] [] ls_Md_72 hM dd_Md_hash_22 rfl hdp (Nat.le_of_ble_eq_true rfl) hkk hkl (fun v n' S' I' hv => kv_loc [0, 1, 2] rfl (K v n' S' I' hv))
theorem bl_Md_hash_25 {d : Nat} {B : kv_B} {Q : kv_Q} {kc ks n : Nat} {S : kv_SM} {I : kv_IM} {a0 : Nat} {v1 : Int32} {v2 : Int32} {t0 : Int32} (Kt : ¬ t0 = 0 → kv_V y_Md_hash d B Q kc ks n S I 32 [(0, .ref a0), (1, .int v1), (2, .int v2)] []) (Kf : t0 = 0 → kv_V y_Md_hash d B Q kc ks n S I 28 [(0, .ref a0), (1, .int v1), (2, .int v2)] []) : kv_V y_Md_hash d B Q kc ks n S I 25 [(0, .ref a0), (1, .int v1), (2, .int v2)] [.int t0] := by
  exact kv_if_ne 32 dd_Md_hash_25 (by decide) (fun h => kv_loc [0, 1, 2] rfl (Kt h)) (fun h => kv_loc [0, 1, 2] rfl (Kf h))
theorem bl_Md_hash_28 {d : Nat} {B : kv_B} {Q : kv_Q} {kc ks n : Nat} {S : kv_SM} {I : kv_IM} {a0 : Nat} {v1 : Int32} {v2 : Int32} (hQ : Q (some (.long ((-1)))) n S I) : kv_V y_Md_hash d B Q kc ks n S I 28 [(0, .ref a0), (1, .int v1), (2, .int v2)] [] := by
  refine kv_ldc2 wk_Md_123 dd_Md_hash_28 ?_
  exact kv_end (v := some (.long ((-1)))) hQ ⟨dd_Md_hash_31, rfl⟩
theorem bl_Md_hash_32 {d : Nat} {B : kv_B} {Q : kv_Q} {kc ks n : Nat} {S : kv_SM} {I : kv_IM} {a0 : Nat} {v1 : Int32} {v2 : Int32} {r1 : Nat → Option Nat} {q2 : Nat} {dc kcc ksc : Nat} {Qy : kv_Q} (hO1 : S a0 = kO 6 r1) (hr2 : r1 10 = some q2) (hM : kv_T y_Md_layCuts dc kcc ksc B [.ref a0, .int v1, .ref q2] n S I Qy) (hdp : dc + 1 ≤ d) (hkk : kcc ≤ kc) (hkl : ksc ≤ ks) (K : ∀ v n' S' I', Qy v n' S' I' → kv_V y_Md_hash d B Q (kc - kcc) (ks - ksc) n' S' I' 41 [(0, .ref a0), (1, .int v1), (2, .int v2)] (v.toList ++ [])) : kv_V y_Md_hash d B Q kc ks n S I 32 [(0, .ref a0), (1, .int v1), (2, .int v2)] [] := by
  refine kv_aload_n dd_Md_hash_32 rfl ?_
  refine kv_iload_n dd_Md_hash_33 rfl ?_
  refine kv_aload_n dd_Md_hash_34 rfl ?_
  refine kv_getR fl_Md_32 dd_Md_hash_35 hO1 hr2 ?_
  exact kv_callV [.int v1, .ref q2] [] ls_Md_106 hO1 hM dd_Md_hash_38 rfl hdp (Nat.le_of_ble_eq_true rfl) hkk hkl (fun v n' S' I' hv => kv_loc [0, 1, 2] rfl (K v n' S' I' hv))
theorem bl_Md_hash_41 {d : Nat} {B : kv_B} {Q : kv_Q} {kc ks n : Nat} {S : kv_SM} {I : kv_IM} {a0 : Nat} {v1 : Int32} {v2 : Int32} {t0 : Int32} (K : kv_V y_Md_hash d B Q kc ks n S I 45 [(0, .ref a0), (1, .int v1), (2, .int v2), (3, .int t0), (4, .int 0)] []) : kv_V y_Md_hash d B Q kc ks n S I 41 [(0, .ref a0), (1, .int v1), (2, .int v2)] [.int t0] := by
  refine kv_istore_n (L' := [(3, .int t0), (0, .ref a0), (1, .int v1), (2, .int v2)]) dd_Md_hash_41 (by decide) rfl ?_
  refine kv_iconst (v := 0) dd_Md_hash_42 (by decide) ?_
  refine kv_istore (L' := [(4, .int 0), (3, .int t0), (0, .ref a0), (1, .int v1), (2, .int v2)]) dd_Md_hash_43 (by decide) rfl ?_
  exact kv_loc [2, 3, 4, 1, 0] rfl K
theorem bl_Md_hash_45 {d : Nat} {B : kv_B} {Q : kv_Q} {kc ks n : Nat} {S : kv_SM} {I : kv_IM} {a0 : Nat} {v1 : Int32} {v2 : Int32} {v3 : Int32} {v4 : Int32} (Kt : (v3 - 1) ≤ v4 → kv_V y_Md_hash d B Q kc ks n S I 72 [(0, .ref a0), (1, .int v1), (2, .int v2), (3, .int v3), (4, .int v4)] []) (Kf : ¬ (v3 - 1) ≤ v4 → kv_V y_Md_hash d B Q kc ks n S I 53 [(0, .ref a0), (1, .int v1), (2, .int v2), (3, .int v3), (4, .int v4)] []) : kv_V y_Md_hash d B Q kc ks n S I 45 [(0, .ref a0), (1, .int v1), (2, .int v2), (3, .int v3), (4, .int v4)] [] := by
  refine kv_iload dd_Md_hash_45 rfl ?_
  refine kv_iload_n dd_Md_hash_47 rfl ?_
  refine kv_iconst (v := 1) dd_Md_hash_48 (by decide) ?_
  refine kv_isub dd_Md_hash_49 ?_
  exact kv_icmp_ge 72 dd_Md_hash_50 (by decide) (fun h => kv_loc [0, 1, 2, 3, 4] rfl (Kt h)) (fun h => kv_loc [0, 1, 2, 3, 4] rfl (Kf h))
theorem bl_Md_hash_53 {d : Nat} {B : kv_B} {Q : kv_Q} {kc ks n : Nat} {S : kv_SM} {I : kv_IM} {a0 : Nat} {v1 : Int32} {v2 : Int32} {v3 : Int32} {v4 : Int32} {r1 : Nat → Option Nat} {q2 : Nat} {m3 : Nat} {j4 : Nat} (hO1 : S a0 = kO 6 r1) (hr2 : r1 10 = some q2) (hA3 : S q2 = kI m3) (hi4 : v4 + 1 = nI j4 ∧ j4 < m3 ∧ m3 < 2 ^ 31) (Kt : v2 < (I q2 j4) → kv_V y_Md_hash d B Q kc ks n S I 72 [(0, .ref a0), (1, .int v1), (2, .int v2), (3, .int v3), (4, .int v4)] []) (Kf : ¬ v2 < (I q2 j4) → kv_V y_Md_hash d B Q kc ks n S I 66 [(0, .ref a0), (1, .int v1), (2, .int v2), (3, .int v3), (4, .int v4)] []) : kv_V y_Md_hash d B Q kc ks n S I 53 [(0, .ref a0), (1, .int v1), (2, .int v2), (3, .int v3), (4, .int v4)] [] := by
  refine kv_aload_n dd_Md_hash_53 rfl ?_
  refine kv_getR fl_Md_32 dd_Md_hash_54 hO1 hr2 ?_
  refine kv_iload dd_Md_hash_57 rfl ?_
  refine kv_iconst (v := 1) dd_Md_hash_59 (by decide) ?_
  refine kv_iadd dd_Md_hash_60 ?_
  refine kv_iald j4 dd_Md_hash_61 hA3 hi4.1 hi4.2.1 hi4.2.2 ?_
  refine kv_iload_n dd_Md_hash_62 rfl ?_
  exact kv_icmp_gt 72 dd_Md_hash_63 (by decide) (fun h => kv_loc [0, 1, 2, 3, 4] rfl (Kt h)) (fun h => kv_loc [0, 1, 2, 3, 4] rfl (Kf h))
theorem bl_Md_hash_66 {d : Nat} {B : kv_B} {Q : kv_Q} {kc ks n : Nat} {S : kv_SM} {I : kv_IM} {a0 : Nat} {v1 : Int32} {v2 : Int32} {v3 : Int32} {v4 : Int32} (K : kv_V y_Md_hash d B Q kc ks n S I 45 [(0, .ref a0), (1, .int v1), (2, .int v2), (3, .int v3), (4, .int (v4 + 1))] []) : kv_V y_Md_hash d B Q kc ks n S I 66 [(0, .ref a0), (1, .int v1), (2, .int v2), (3, .int v3), (4, .int v4)] [] := by
  refine kv_iinc (v := v4 + 1) (L' := [(4, .int (v4 + 1)), (0, .ref a0), (1, .int v1), (2, .int v2), (3, .int v3)]) dd_Md_hash_66 rfl rfl (by decide) rfl ?_
  refine kv_goto 45 dd_Md_hash_69 (by decide) ?_
  exact kv_loc [1, 2, 3, 4, 0] rfl K
theorem bl_Md_hash_72 {d : Nat} {B : kv_B} {Q : kv_Q} {kc ks n : Nat} {S : kv_SM} {I : kv_IM} {a0 : Nat} {v1 : Int32} {v2 : Int32} {v3 : Int32} {v4 : Int32} (K : kv_V y_Md_hash d B Q kc ks n S I 78 [(0, .ref a0), (1, .int v1), (2, .int v2), (3, .int v3), (4, .int v4), (5, .int 0), (6, .int 1)] []) : kv_V y_Md_hash d B Q kc ks n S I 72 [(0, .ref a0), (1, .int v1), (2, .int v2), (3, .int v3), (4, .int v4)] [] := by
  refine kv_iconst (v := 0) dd_Md_hash_72 (by decide) ?_
  refine kv_istore (L' := [(5, .int 0), (0, .ref a0), (1, .int v1), (2, .int v2), (3, .int v3), (4, .int v4)]) dd_Md_hash_73 (by decide) rfl ?_
  refine kv_iconst (v := 1) dd_Md_hash_75 (by decide) ?_
  refine kv_istore (L' := [(6, .int 1), (5, .int 0), (0, .ref a0), (1, .int v1), (2, .int v2), (3, .int v3), (4, .int v4)]) dd_Md_hash_76 (by decide) rfl ?_
  exact kv_loc [2, 3, 4, 5, 6, 1, 0] rfl K
theorem bl_Md_hash_78 {d : Nat} {B : kv_B} {Q : kv_Q} {kc ks n : Nat} {S : kv_SM} {I : kv_IM} {a0 : Nat} {v1 : Int32} {v2 : Int32} {v3 : Int32} {v4 : Int32} {v5 : Int32} {v6 : Int32} {r1 : Nat → Option Nat} {q2 : Nat} {m3 : Nat} {j4 : Nat} (hO1 : S a0 = kO 6 r1) (hr2 : r1 10 = some q2) (hA3 : S q2 = kI m3) (hi4 : v4 = nI j4 ∧ j4 < m3 ∧ m3 < 2 ^ 31) (Kt : v2 < (((I q2 j4) + v6) - 1) → kv_V y_Md_hash d B Q kc ks n S I 118 [(0, .ref a0), (1, .int v1), (2, .int v2), (3, .int v3), (4, .int v4), (5, .int v5), (6, .int v6)] []) (Kf : ¬ v2 < (((I q2 j4) + v6) - 1) → kv_V y_Md_hash d B Q kc ks n S I 94 [(0, .ref a0), (1, .int v1), (2, .int v2), (3, .int v3), (4, .int v4), (5, .int v5), (6, .int v6)] []) : kv_V y_Md_hash d B Q kc ks n S I 78 [(0, .ref a0), (1, .int v1), (2, .int v2), (3, .int v3), (4, .int v4), (5, .int v5), (6, .int v6)] [] := by
  refine kv_aload_n dd_Md_hash_78 rfl ?_
  refine kv_getR fl_Md_32 dd_Md_hash_79 hO1 hr2 ?_
  refine kv_iload dd_Md_hash_82 rfl ?_
  refine kv_iald j4 dd_Md_hash_84 hA3 hi4.1 hi4.2.1 hi4.2.2 ?_
  refine kv_iload dd_Md_hash_85 rfl ?_
  refine kv_iadd dd_Md_hash_87 ?_
  refine kv_iconst (v := 1) dd_Md_hash_88 (by decide) ?_
  refine kv_isub dd_Md_hash_89 ?_
  refine kv_iload_n dd_Md_hash_90 rfl ?_
  exact kv_icmp_gt 118 dd_Md_hash_91 (by decide) (fun h => kv_loc [0, 1, 2, 3, 4, 5, 6] rfl (Kt h)) (fun h => kv_loc [0, 1, 2, 3, 4, 5, 6] rfl (Kf h))
theorem bl_Md_hash_94 {d : Nat} {B : kv_B} {Q : kv_Q} {kc ks n : Nat} {S : kv_SM} {I : kv_IM} {a0 : Nat} {v1 : Int32} {v2 : Int32} {v3 : Int32} {v4 : Int32} {v5 : Int32} {v6 : Int32} {r1 : Nat → Option Nat} {q2 : Nat} {m3 : Nat} {j4 : Nat} {dc kcc ksc : Nat} {Qy : kv_Q} (hO1 : S a0 = kO 6 r1) (hr2 : r1 10 = some q2) (hA3 : S q2 = kI m3) (hi4 : v4 = nI j4 ∧ j4 < m3 ∧ m3 < 2 ^ 31) (hM : kv_T y_Md_next dc kcc ksc B [.ref a0, .int v5, .int v1, .int (I q2 j4), .int v6] n S I Qy) (hdp : dc + 1 ≤ d) (hkk : kcc ≤ kc) (hkl : ksc ≤ ks) (K : ∀ v n' S' I', Qy v n' S' I' → kv_V y_Md_hash d B Q (kc - kcc) (ks - ksc) n' S' I' 110 [(0, .ref a0), (1, .int v1), (2, .int v2), (3, .int v3), (4, .int v4), (5, .int v5), (6, .int v6)] (v.toList ++ [])) : kv_V y_Md_hash d B Q kc ks n S I 94 [(0, .ref a0), (1, .int v1), (2, .int v2), (3, .int v3), (4, .int v4), (5, .int v5), (6, .int v6)] [] := by
  refine kv_aload_n dd_Md_hash_94 rfl ?_
  refine kv_iload dd_Md_hash_95 rfl ?_
  refine kv_iload_n dd_Md_hash_97 rfl ?_
  refine kv_aload_n dd_Md_hash_98 rfl ?_
  refine kv_getR fl_Md_32 dd_Md_hash_99 hO1 hr2 ?_
  refine kv_iload dd_Md_hash_102 rfl ?_
  refine kv_iald j4 dd_Md_hash_104 hA3 hi4.1 hi4.2.1 hi4.2.2 ?_
  refine kv_iload dd_Md_hash_105 rfl ?_
  exact kv_callV [.int v5, .int v1, .int (I q2 j4), .int v6] [] ls_Md_95 hO1 hM dd_Md_hash_107 rfl hdp (Nat.le_of_ble_eq_true rfl) hkk hkl (fun v n' S' I' hv => kv_loc [0, 1, 2, 3, 4, 5, 6] rfl (K v n' S' I' hv))
theorem bl_Md_hash_110 {d : Nat} {B : kv_B} {Q : kv_Q} {kc ks n : Nat} {S : kv_SM} {I : kv_IM} {a0 : Nat} {v1 : Int32} {v2 : Int32} {v3 : Int32} {v4 : Int32} {v5 : Int32} {v6 : Int32} {t0 : Int32} (K : kv_V y_Md_hash d B Q kc ks n S I 78 [(0, .ref a0), (1, .int v1), (2, .int v2), (3, .int v3), (4, .int v4), (5, .int t0), (6, .int (v6 + 1))] []) : kv_V y_Md_hash d B Q kc ks n S I 110 [(0, .ref a0), (1, .int v1), (2, .int v2), (3, .int v3), (4, .int v4), (5, .int v5), (6, .int v6)] [.int t0] := by
  refine kv_istore (L' := [(5, .int t0), (0, .ref a0), (1, .int v1), (2, .int v2), (3, .int v3), (4, .int v4), (6, .int v6)]) dd_Md_hash_110 (by decide) rfl ?_
  refine kv_iinc (v := v6 + 1) (L' := [(6, .int (v6 + 1)), (5, .int t0), (0, .ref a0), (1, .int v1), (2, .int v2), (3, .int v3), (4, .int v4)]) dd_Md_hash_112 rfl rfl (by decide) rfl ?_
  refine kv_goto 78 dd_Md_hash_115 (by decide) ?_
  exact kv_loc [2, 3, 4, 5, 6, 1, 0] rfl K
theorem bl_Md_hash_118 {d : Nat} {B : kv_B} {Q : kv_Q} {kc ks n : Nat} {S : kv_SM} {I : kv_IM} {a0 : Nat} {v1 : Int32} {v2 : Int32} {v3 : Int32} {v4 : Int32} {v5 : Int32} {v6 : Int32} (hQ : Q (some (.long ((Int32.toInt64 v5) &&& 4294967295))) n S I) : kv_V y_Md_hash d B Q kc ks n S I 118 [(0, .ref a0), (1, .int v1), (2, .int v2), (3, .int v3), (4, .int v4), (5, .int v5), (6, .int v6)] [] := by
  refine kv_iload dd_Md_hash_118 rfl ?_
  refine kv_i2l dd_Md_hash_120 ?_
  refine kv_ldc2 wk_Md_119 dd_Md_hash_121 ?_
  refine kv_land dd_Md_hash_124 ?_
  exact kv_end (v := some (.long ((Int32.toInt64 v5) &&& 4294967295))) hQ ⟨dd_Md_hash_125, rfl⟩
theorem bl_Md_alike_0 {d : Nat} {B : kv_B} {Q : kv_Q} {kc ks n : Nat} {S : kv_SM} {I : kv_IM} {a0 : Nat} {v1 : Int32} {v2 : Int32} {v3 : Int32} {r1 : Nat → Option Nat} {dc kcc ksc : Nat} {Qy : kv_Q} (hO1 : S a0 = kO 6 r1) (hM : kv_T y_Md_isText dc kcc ksc B [.int v1] n S (kv_up I a0 0 0) Qy) (hdp : dc + 1 ≤ d) (hkk : kcc ≤ kc) (hkl : ksc ≤ ks) (K : ∀ v n' S' I', Qy v n' S' I' → kv_V y_Md_alike d B Q (kc - kcc) (ks - ksc) n' S' I' 9 [(0, .ref a0), (1, .int v1), (2, .int v2), (3, .int v3)] (v.toList ++ [])) : kv_V y_Md_alike d B Q kc ks n S I 0 [(0, .ref a0), (1, .int v1), (2, .int v2), (3, .int v3)] [] := by
  refine kv_aload_n dd_Md_alike_0 rfl ?_
  refine kv_iconst (v := 0) dd_Md_alike_1 (by decide) ?_
  refine kv_putI fp_Md_67 (fun h => by cases h) dd_Md_alike_2 hO1 rfl rfl ?_
  refine kv_iload_n dd_Md_alike_5 rfl ?_
  exact kv_callS [.int v1] [] ls_Md_82 hM dd_Md_alike_6 rfl hdp (Nat.le_of_ble_eq_true rfl) hkk hkl (fun v n' S' I' hv => kv_loc [0, 1, 2, 3] rfl (K v n' S' I' hv))
theorem bl_Md_alike_9 {d : Nat} {B : kv_B} {Q : kv_Q} {kc ks n : Nat} {S : kv_SM} {I : kv_IM} {a0 : Nat} {v1 : Int32} {v2 : Int32} {v3 : Int32} {t0 : Int32} (Kt : t0 = 0 → kv_V y_Md_alike d B Q kc ks n S I 28 [(0, .ref a0), (1, .int v1), (2, .int v2), (3, .int v3)] []) (Kf : ¬ t0 = 0 → kv_V y_Md_alike d B Q kc ks n S I 12 [(0, .ref a0), (1, .int v1), (2, .int v2), (3, .int v3)] []) : kv_V y_Md_alike d B Q kc ks n S I 9 [(0, .ref a0), (1, .int v1), (2, .int v2), (3, .int v3)] [.int t0] := by
  exact kv_if_eq 28 dd_Md_alike_9 (by decide) (fun h => kv_loc [0, 1, 2, 3] rfl (Kt h)) (fun h => kv_loc [0, 1, 2, 3] rfl (Kf h))
theorem bl_Md_alike_12 {d : Nat} {B : kv_B} {Q : kv_Q} {kc ks n : Nat} {S : kv_SM} {I : kv_IM} {a0 : Nat} {v1 : Int32} {v2 : Int32} {v3 : Int32} {dc kcc ksc : Nat} {Qy : kv_Q} (hM : kv_T y_Md_isText dc kcc ksc B [.int v2] n S I Qy) (hdp : dc + 1 ≤ d) (hkk : kcc ≤ kc) (hkl : ksc ≤ ks) (K : ∀ v n' S' I', Qy v n' S' I' → kv_V y_Md_alike d B Q (kc - kcc) (ks - ksc) n' S' I' 16 [(0, .ref a0), (1, .int v1), (2, .int v2), (3, .int v3)] (v.toList ++ [])) : kv_V y_Md_alike d B Q kc ks n S I 12 [(0, .ref a0), (1, .int v1), (2, .int v2), (3, .int v3)] [] := by
  refine kv_iload_n dd_Md_alike_12 rfl ?_
  exact kv_callS [.int v2] [] ls_Md_82 hM dd_Md_alike_13 rfl hdp (Nat.le_of_ble_eq_true rfl) hkk hkl (fun v n' S' I' hv => kv_loc [0, 1, 2, 3] rfl (K v n' S' I' hv))
theorem bl_Md_alike_16 {d : Nat} {B : kv_B} {Q : kv_Q} {kc ks n : Nat} {S : kv_SM} {I : kv_IM} {a0 : Nat} {v1 : Int32} {v2 : Int32} {v3 : Int32} {t0 : Int32} (Kt : t0 = 0 → kv_V y_Md_alike d B Q kc ks n S I 28 [(0, .ref a0), (1, .int v1), (2, .int v2), (3, .int v3)] []) (Kf : ¬ t0 = 0 → kv_V y_Md_alike d B Q kc ks n S I 19 [(0, .ref a0), (1, .int v1), (2, .int v2), (3, .int v3)] []) : kv_V y_Md_alike d B Q kc ks n S I 16 [(0, .ref a0), (1, .int v1), (2, .int v2), (3, .int v3)] [.int t0] := by
  exact kv_if_eq 28 dd_Md_alike_16 (by decide) (fun h => kv_loc [0, 1, 2, 3] rfl (Kt h)) (fun h => kv_loc [0, 1, 2, 3] rfl (Kf h))
theorem bl_Md_alike_19 {d : Nat} {B : kv_B} {Q : kv_Q} {kc ks n : Nat} {S : kv_SM} {I : kv_IM} {a0 : Nat} {v1 : Int32} {v2 : Int32} {v3 : Int32} {dc kcc ksc : Nat} {Qy : kv_Q} (hM : kv_T y_Md_in dc kcc ksc B [.int v3, .int 0, .int 3] n S I Qy) (hdp : dc + 1 ≤ d) (hkk : kcc ≤ kc) (hkl : ksc ≤ ks) (K : ∀ v n' S' I', Qy v n' S' I' → kv_V y_Md_alike d B Q (kc - kcc) (ks - ksc) n' S' I' 25 [(0, .ref a0), (1, .int v1), (2, .int v2), (3, .int v3)] (v.toList ++ [])) : kv_V y_Md_alike d B Q kc ks n S I 19 [(0, .ref a0), (1, .int v1), (2, .int v2), (3, .int v3)] [] := by
  refine kv_iload_n dd_Md_alike_19 rfl ?_
  refine kv_iconst (v := 0) dd_Md_alike_20 (by decide) ?_
  refine kv_iconst (v := 3) dd_Md_alike_21 (by decide) ?_
  exact kv_callS [.int v3, .int 0, .int 3] [] ls_Md_72 hM dd_Md_alike_22 rfl hdp (Nat.le_of_ble_eq_true rfl) hkk hkl (fun v n' S' I' hv => kv_loc [0, 1, 2, 3] rfl (K v n' S' I' hv))
theorem bl_Md_alike_25 {d : Nat} {B : kv_B} {Q : kv_Q} {kc ks n : Nat} {S : kv_SM} {I : kv_IM} {a0 : Nat} {v1 : Int32} {v2 : Int32} {v3 : Int32} {t0 : Int32} (Kt : ¬ t0 = 0 → kv_V y_Md_alike d B Q kc ks n S I 30 [(0, .ref a0), (1, .int v1), (2, .int v2), (3, .int v3)] []) (Kf : t0 = 0 → kv_V y_Md_alike d B Q kc ks n S I 28 [(0, .ref a0), (1, .int v1), (2, .int v2), (3, .int v3)] []) : kv_V y_Md_alike d B Q kc ks n S I 25 [(0, .ref a0), (1, .int v1), (2, .int v2), (3, .int v3)] [.int t0] := by
  exact kv_if_ne 30 dd_Md_alike_25 (by decide) (fun h => kv_loc [0, 1, 2, 3] rfl (Kt h)) (fun h => kv_loc [0, 1, 2, 3] rfl (Kf h))
theorem bl_Md_alike_28 {d : Nat} {B : kv_B} {Q : kv_Q} {kc ks n : Nat} {S : kv_SM} {I : kv_IM} {a0 : Nat} {v1 : Int32} {v2 : Int32} {v3 : Int32} (hQ : Q (some (.int ((-1)))) n S I) : kv_V y_Md_alike d B Q kc ks n S I 28 [(0, .ref a0), (1, .int v1), (2, .int v2), (3, .int v3)] [] := by
  refine kv_iconst (v := (-1)) dd_Md_alike_28 (by decide) ?_
  exact kv_end (v := some (.int ((-1)))) hQ ⟨dd_Md_alike_29, .int, rfl, rfl⟩
theorem bl_Md_alike_30 {d : Nat} {B : kv_B} {Q : kv_Q} {kc ks n : Nat} {S : kv_SM} {I : kv_IM} {a0 : Nat} {v1 : Int32} {v2 : Int32} {v3 : Int32} {r1 : Nat → Option Nat} {q2 : Nat} {dc kcc ksc : Nat} {Qy : kv_Q} (hO1 : S a0 = kO 6 r1) (hr2 : r1 10 = some q2) (hM : kv_T y_Md_layCuts dc kcc ksc B [.ref a0, .int v1, .ref q2] n S I Qy) (hdp : dc + 1 ≤ d) (hkk : kcc ≤ kc) (hkl : ksc ≤ ks) (K : ∀ v n' S' I', Qy v n' S' I' → kv_V y_Md_alike d B Q (kc - kcc) (ks - ksc) n' S' I' 40 [(0, .ref a0), (1, .int v1), (2, .int v2), (3, .int v3)] (v.toList ++ [.ref a0])) : kv_V y_Md_alike d B Q kc ks n S I 30 [(0, .ref a0), (1, .int v1), (2, .int v2), (3, .int v3)] [] := by
  refine kv_aload_n dd_Md_alike_30 rfl ?_
  refine kv_aload_n dd_Md_alike_31 rfl ?_
  refine kv_iload_n dd_Md_alike_32 rfl ?_
  refine kv_aload_n dd_Md_alike_33 rfl ?_
  refine kv_getR fl_Md_32 dd_Md_alike_34 hO1 hr2 ?_
  exact kv_callV [.int v1, .ref q2] [.ref a0] ls_Md_106 hO1 hM dd_Md_alike_37 rfl hdp (Nat.le_of_ble_eq_true rfl) hkk hkl (fun v n' S' I' hv => kv_loc [0, 1, 2, 3] rfl (K v n' S' I' hv))
theorem bl_Md_alike_40 {d : Nat} {B : kv_B} {Q : kv_Q} {kc ks n : Nat} {S : kv_SM} {I : kv_IM} {a0 : Nat} {v1 : Int32} {v2 : Int32} {v3 : Int32} {t0 : Int32} {t1 : Nat} {r1 : Nat → Option Nat} {r2 : Nat → Option Nat} {q3 : Nat} {dc kcc ksc : Nat} {Qy : kv_Q} (hO1 : S t1 = kO 6 r1) (hO2 : S a0 = kO 6 r2) (hr3 : r2 12 = some q3) (hM : kv_T y_Md_layCuts dc kcc ksc B [.ref a0, .int v2, .ref q3] n S (kv_up I t1 11 t0) Qy) (hdp : dc + 1 ≤ d) (hkk : kcc ≤ kc) (hkl : ksc ≤ ks) (K : ∀ v n' S' I', Qy v n' S' I' → kv_V y_Md_alike d B Q (kc - kcc) (ks - ksc) n' S' I' 53 [(0, .ref a0), (1, .int v1), (2, .int v2), (3, .int v3)] (v.toList ++ [.ref a0])) : kv_V y_Md_alike d B Q kc ks n S I 40 [(0, .ref a0), (1, .int v1), (2, .int v2), (3, .int v3)] [.int t0, .ref t1] := by
  refine kv_putI fp_Md_110 (fun h => by cases h) dd_Md_alike_40 hO1 rfl rfl ?_
  refine kv_aload_n dd_Md_alike_43 rfl ?_
  refine kv_aload_n dd_Md_alike_44 rfl ?_
  refine kv_iload_n dd_Md_alike_45 rfl ?_
  refine kv_aload_n dd_Md_alike_46 rfl ?_
  refine kv_getR fl_Md_35 dd_Md_alike_47 hO2 hr3 ?_
  exact kv_callV [.int v2, .ref q3] [.ref a0] ls_Md_106 hO2 hM dd_Md_alike_50 rfl hdp (Nat.le_of_ble_eq_true rfl) hkk hkl (fun v n' S' I' hv => kv_loc [0, 1, 2, 3] rfl (K v n' S' I' hv))
theorem bl_Md_alike_53 {d : Nat} {B : kv_B} {Q : kv_Q} {kc ks n : Nat} {S : kv_SM} {I : kv_IM} {a0 : Nat} {v1 : Int32} {v2 : Int32} {v3 : Int32} {t0 : Int32} {t1 : Nat} {r1 : Nat → Option Nat} (hO1 : S t1 = kO 6 r1) (Kt : 2 ≤ v3 → kv_V y_Md_alike d B Q kc ks n S (kv_up I t1 13 t0) 162 [(0, .ref a0), (1, .int v1), (2, .int v2), (3, .int v3), (4, .int 0)] []) (Kf : ¬ 2 ≤ v3 → kv_V y_Md_alike d B Q kc ks n S (kv_up I t1 13 t0) 64 [(0, .ref a0), (1, .int v1), (2, .int v2), (3, .int v3), (4, .int 0)] []) : kv_V y_Md_alike d B Q kc ks n S I 53 [(0, .ref a0), (1, .int v1), (2, .int v2), (3, .int v3)] [.int t0, .ref t1] := by
  refine kv_putI fp_Md_133 (fun h => by cases h) dd_Md_alike_53 hO1 rfl rfl ?_
  refine kv_iconst (v := 0) dd_Md_alike_56 (by decide) ?_
  refine kv_istore (L' := [(4, .int 0), (0, .ref a0), (1, .int v1), (2, .int v2), (3, .int v3)]) dd_Md_alike_57 (by decide) rfl ?_
  refine kv_iload_n dd_Md_alike_59 rfl ?_
  refine kv_iconst (v := 2) dd_Md_alike_60 (by decide) ?_
  exact kv_icmp_ge 162 dd_Md_alike_61 (by decide) (fun h => kv_loc [1, 2, 3, 4, 0] rfl (Kt h)) (fun h => kv_loc [1, 2, 3, 4, 0] rfl (Kf h))
theorem bl_Md_alike_64 {d : Nat} {B : kv_B} {Q : kv_Q} {kc ks n : Nat} {S : kv_SM} {I : kv_IM} {a0 : Nat} {v1 : Int32} {v2 : Int32} {v3 : Int32} {v4 : Int32} (K : kv_V y_Md_alike d B Q kc ks n S I 67 [(0, .ref a0), (1, .int v1), (2, .int v2), (3, .int v3), (4, .int v4), (5, .int 0)] []) : kv_V y_Md_alike d B Q kc ks n S I 64 [(0, .ref a0), (1, .int v1), (2, .int v2), (3, .int v3), (4, .int v4)] [] := by
  refine kv_iconst (v := 0) dd_Md_alike_64 (by decide) ?_
  refine kv_istore (L' := [(5, .int 0), (0, .ref a0), (1, .int v1), (2, .int v2), (3, .int v3), (4, .int v4)]) dd_Md_alike_65 (by decide) rfl ?_
  exact kv_loc [1, 2, 3, 4, 5, 0] rfl K
theorem bl_Md_alike_67 {d : Nat} {B : kv_B} {Q : kv_Q} {kc ks n : Nat} {S : kv_SM} {I : kv_IM} {a0 : Nat} {v1 : Int32} {v2 : Int32} {v3 : Int32} {v4 : Int32} {v5 : Int32} {r1 : Nat → Option Nat} (hO1 : S a0 = kO 6 r1) (Kt : (I a0 11) ≤ v5 → kv_V y_Md_alike d B Q kc ks n S I 159 [(0, .ref a0), (1, .int v1), (2, .int v2), (3, .int v3), (4, .int v4), (5, .int v5)] []) (Kf : ¬ (I a0 11) ≤ v5 → kv_V y_Md_alike d B Q kc ks n S I 76 [(0, .ref a0), (1, .int v1), (2, .int v2), (3, .int v3), (4, .int v4), (5, .int v5)] []) : kv_V y_Md_alike d B Q kc ks n S I 67 [(0, .ref a0), (1, .int v1), (2, .int v2), (3, .int v3), (4, .int v4), (5, .int v5)] [] := by
  refine kv_iload dd_Md_alike_67 rfl ?_
  refine kv_aload_n dd_Md_alike_69 rfl ?_
  refine kv_getI fl_Md_110 dd_Md_alike_70 hO1 ?_
  exact kv_icmp_ge 159 dd_Md_alike_73 (by decide) (fun h => kv_loc [0, 1, 2, 3, 4, 5] rfl (Kt h)) (fun h => kv_loc [0, 1, 2, 3, 4, 5] rfl (Kf h))
theorem bl_Md_alike_76 {d : Nat} {B : kv_B} {Q : kv_Q} {kc ks n : Nat} {S : kv_SM} {I : kv_IM} {a0 : Nat} {v1 : Int32} {v2 : Int32} {v3 : Int32} {v4 : Int32} {v5 : Int32} (K : kv_V y_Md_alike d B Q kc ks n S I 82 [(0, .ref a0), (1, .int v1), (2, .int v2), (3, .int v3), (4, .int v4), (5, .int v5), (6, .int 0), (7, .int 0)] []) : kv_V y_Md_alike d B Q kc ks n S I 76 [(0, .ref a0), (1, .int v1), (2, .int v2), (3, .int v3), (4, .int v4), (5, .int v5)] [] := by
  refine kv_iconst (v := 0) dd_Md_alike_76 (by decide) ?_
  refine kv_istore (L' := [(6, .int 0), (0, .ref a0), (1, .int v1), (2, .int v2), (3, .int v3), (4, .int v4), (5, .int v5)]) dd_Md_alike_77 (by decide) rfl ?_
  refine kv_iconst (v := 0) dd_Md_alike_79 (by decide) ?_
  refine kv_istore (L' := [(7, .int 0), (6, .int 0), (0, .ref a0), (1, .int v1), (2, .int v2), (3, .int v3), (4, .int v4), (5, .int v5)]) dd_Md_alike_80 (by decide) rfl ?_
  exact kv_loc [2, 3, 4, 5, 6, 7, 1, 0] rfl K
theorem bl_Md_alike_82 {d : Nat} {B : kv_B} {Q : kv_Q} {kc ks n : Nat} {S : kv_SM} {I : kv_IM} {a0 : Nat} {v1 : Int32} {v2 : Int32} {v3 : Int32} {v4 : Int32} {v5 : Int32} {v6 : Int32} {v7 : Int32} {r1 : Nat → Option Nat} (hO1 : S a0 = kO 6 r1) (Kt : (I a0 13) ≤ v7 → kv_V y_Md_alike d B Q kc ks n S I 114 [(0, .ref a0), (1, .int v1), (2, .int v2), (3, .int v3), (4, .int v4), (5, .int v5), (6, .int v6), (7, .int v7)] []) (Kf : ¬ (I a0 13) ≤ v7 → kv_V y_Md_alike d B Q kc ks n S I 91 [(0, .ref a0), (1, .int v1), (2, .int v2), (3, .int v3), (4, .int v4), (5, .int v5), (6, .int v6), (7, .int v7)] []) : kv_V y_Md_alike d B Q kc ks n S I 82 [(0, .ref a0), (1, .int v1), (2, .int v2), (3, .int v3), (4, .int v4), (5, .int v5), (6, .int v6), (7, .int v7)] [] := by
  refine kv_iload dd_Md_alike_82 rfl ?_
  refine kv_aload_n dd_Md_alike_84 rfl ?_
  refine kv_getI fl_Md_133 dd_Md_alike_85 hO1 ?_
  exact kv_icmp_ge 114 dd_Md_alike_88 (by decide) (fun h => kv_loc [0, 1, 2, 3, 4, 5, 6, 7] rfl (Kt h)) (fun h => kv_loc [0, 1, 2, 3, 4, 5, 6, 7] rfl (Kf h))
theorem bl_Md_alike_91 {d : Nat} {B : kv_B} {Q : kv_Q} {kc ks n : Nat} {S : kv_SM} {I : kv_IM} {a0 : Nat} {v1 : Int32} {v2 : Int32} {v3 : Int32} {v4 : Int32} {v5 : Int32} {v6 : Int32} {v7 : Int32} (Kt : ¬ v6 = 0 → kv_V y_Md_alike d B Q kc ks n S I 114 [(0, .ref a0), (1, .int v1), (2, .int v2), (3, .int v3), (4, .int v4), (5, .int v5), (6, .int v6), (7, .int v7)] []) (Kf : v6 = 0 → kv_V y_Md_alike d B Q kc ks n S I 96 [(0, .ref a0), (1, .int v1), (2, .int v2), (3, .int v3), (4, .int v4), (5, .int v5), (6, .int v6), (7, .int v7)] []) : kv_V y_Md_alike d B Q kc ks n S I 91 [(0, .ref a0), (1, .int v1), (2, .int v2), (3, .int v3), (4, .int v4), (5, .int v5), (6, .int v6), (7, .int v7)] [] := by
  refine kv_iload dd_Md_alike_91 rfl ?_
  exact kv_if_ne 114 dd_Md_alike_93 (by decide) (fun h => kv_loc [0, 1, 2, 3, 4, 5, 6, 7] rfl (Kt h)) (fun h => kv_loc [0, 1, 2, 3, 4, 5, 6, 7] rfl (Kf h))
theorem bl_Md_alike_96 {d : Nat} {B : kv_B} {Q : kv_Q} {kc ks n : Nat} {S : kv_SM} {I : kv_IM} {a0 : Nat} {v1 : Int32} {v2 : Int32} {v3 : Int32} {v4 : Int32} {v5 : Int32} {v6 : Int32} {v7 : Int32} {dc kcc ksc : Nat} {Qy : kv_Q} {r1 : Nat → Option Nat} (hO1 : S a0 = kO 6 r1) (hM : kv_T y_Md_isLike dc kcc ksc B [.ref a0, .int v1, .int v5, .int v2, .int v7] n S I Qy) (hdp : dc + 1 ≤ d) (hkk : kcc ≤ kc) (hkl : ksc ≤ ks) (K : ∀ v n' S' I', Qy v n' S' I' → kv_V y_Md_alike d B Q (kc - kcc) (ks - ksc) n' S' I' 106 [(0, .ref a0), (1, .int v1), (2, .int v2), (3, .int v3), (4, .int v4), (5, .int v5), (6, .int v6), (7, .int v7)] (v.toList ++ [])) : kv_V y_Md_alike d B Q kc ks n S I 96 [(0, .ref a0), (1, .int v1), (2, .int v2), (3, .int v3), (4, .int v4), (5, .int v5), (6, .int v6), (7, .int v7)] [] := by
  refine kv_aload_n dd_Md_alike_96 rfl ?_
  refine kv_iload_n dd_Md_alike_97 rfl ?_
  refine kv_iload dd_Md_alike_98 rfl ?_
  refine kv_iload_n dd_Md_alike_100 rfl ?_
  refine kv_iload dd_Md_alike_101 rfl ?_
  exact kv_callV [.int v1, .int v5, .int v2, .int v7] [] ls_Md_136 hO1 hM dd_Md_alike_103 rfl hdp (Nat.le_of_ble_eq_true rfl) hkk hkl (fun v n' S' I' hv => kv_loc [0, 1, 2, 3, 4, 5, 6, 7] rfl (K v n' S' I' hv))
theorem bl_Md_alike_106 {d : Nat} {B : kv_B} {Q : kv_Q} {kc ks n : Nat} {S : kv_SM} {I : kv_IM} {a0 : Nat} {v1 : Int32} {v2 : Int32} {v3 : Int32} {v4 : Int32} {v5 : Int32} {v6 : Int32} {v7 : Int32} {t0 : Int32} (K : kv_V y_Md_alike d B Q kc ks n S I 82 [(0, .ref a0), (1, .int v1), (2, .int v2), (3, .int v3), (4, .int v4), (5, .int v5), (6, .int t0), (7, .int (v7 + 1))] []) : kv_V y_Md_alike d B Q kc ks n S I 106 [(0, .ref a0), (1, .int v1), (2, .int v2), (3, .int v3), (4, .int v4), (5, .int v5), (6, .int v6), (7, .int v7)] [.int t0] := by
  refine kv_istore (L' := [(6, .int t0), (0, .ref a0), (1, .int v1), (2, .int v2), (3, .int v3), (4, .int v4), (5, .int v5), (7, .int v7)]) dd_Md_alike_106 (by decide) rfl ?_
  refine kv_iinc (v := v7 + 1) (L' := [(7, .int (v7 + 1)), (6, .int t0), (0, .ref a0), (1, .int v1), (2, .int v2), (3, .int v3), (4, .int v4), (5, .int v5)]) dd_Md_alike_108 rfl rfl (by decide) rfl ?_
  refine kv_goto 82 dd_Md_alike_111 (by decide) ?_
  exact kv_loc [2, 3, 4, 5, 6, 7, 1, 0] rfl K
theorem bl_Md_alike_114 {d : Nat} {B : kv_B} {Q : kv_Q} {kc ks n : Nat} {S : kv_SM} {I : kv_IM} {a0 : Nat} {v1 : Int32} {v2 : Int32} {v3 : Int32} {v4 : Int32} {v5 : Int32} {v6 : Int32} {v7 : Int32} (Kt : ¬ v6 = 0 → kv_V y_Md_alike d B Q kc ks n S I 125 [(0, .ref a0), (1, .int v1), (2, .int v2), (3, .int v3), (4, .int v4), (5, .int v5), (6, .int v6), (7, .int v7)] [.int v4]) (Kf : v6 = 0 → kv_V y_Md_alike d B Q kc ks n S I 121 [(0, .ref a0), (1, .int v1), (2, .int v2), (3, .int v3), (4, .int v4), (5, .int v5), (6, .int v6), (7, .int v7)] [.int v4]) : kv_V y_Md_alike d B Q kc ks n S I 114 [(0, .ref a0), (1, .int v1), (2, .int v2), (3, .int v3), (4, .int v4), (5, .int v5), (6, .int v6), (7, .int v7)] [] := by
  refine kv_iload dd_Md_alike_114 rfl ?_
  refine kv_iload dd_Md_alike_116 rfl ?_
  exact kv_if_ne 125 dd_Md_alike_118 (by decide) (fun h => kv_loc [0, 1, 2, 3, 4, 5, 6, 7] rfl (Kt h)) (fun h => kv_loc [0, 1, 2, 3, 4, 5, 6, 7] rfl (Kf h))
theorem bl_Md_alike_121 {d : Nat} {B : kv_B} {Q : kv_Q} {kc ks n : Nat} {S : kv_SM} {I : kv_IM} {a0 : Nat} {v1 : Int32} {v2 : Int32} {v3 : Int32} {v4 : Int32} {v5 : Int32} {v6 : Int32} {v7 : Int32} {t0 : Int32} (K : kv_V y_Md_alike d B Q kc ks n S I 150 [(0, .ref a0), (1, .int v1), (2, .int v2), (3, .int v3), (4, .int v4), (5, .int v5), (6, .int v6), (7, .int v7)] [.int 0, .int t0]) : kv_V y_Md_alike d B Q kc ks n S I 121 [(0, .ref a0), (1, .int v1), (2, .int v2), (3, .int v3), (4, .int v4), (5, .int v5), (6, .int v6), (7, .int v7)] [.int t0] := by
  refine kv_iconst (v := 0) dd_Md_alike_121 (by decide) ?_
  refine kv_goto 150 dd_Md_alike_122 (by decide) ?_
  exact kv_loc [0, 1, 2, 3, 4, 5, 6, 7] rfl K
theorem bl_Md_alike_125 {d : Nat} {B : kv_B} {Q : kv_Q} {kc ks n : Nat} {S : kv_SM} {I : kv_IM} {a0 : Nat} {v1 : Int32} {v2 : Int32} {v3 : Int32} {v4 : Int32} {v5 : Int32} {v6 : Int32} {v7 : Int32} {t0 : Int32} (Kt : ¬ v3 = 0 → kv_V y_Md_alike d B Q kc ks n S I 133 [(0, .ref a0), (1, .int v1), (2, .int v2), (3, .int v3), (4, .int v4), (5, .int v5), (6, .int v6), (7, .int v7)] [.int t0]) (Kf : v3 = 0 → kv_V y_Md_alike d B Q kc ks n S I 129 [(0, .ref a0), (1, .int v1), (2, .int v2), (3, .int v3), (4, .int v4), (5, .int v5), (6, .int v6), (7, .int v7)] [.int t0]) : kv_V y_Md_alike d B Q kc ks n S I 125 [(0, .ref a0), (1, .int v1), (2, .int v2), (3, .int v3), (4, .int v4), (5, .int v5), (6, .int v6), (7, .int v7)] [.int t0] := by
  refine kv_iload_n dd_Md_alike_125 rfl ?_
  exact kv_if_ne 133 dd_Md_alike_126 (by decide) (fun h => kv_loc [0, 1, 2, 3, 4, 5, 6, 7] rfl (Kt h)) (fun h => kv_loc [0, 1, 2, 3, 4, 5, 6, 7] rfl (Kf h))
theorem bl_Md_alike_129 {d : Nat} {B : kv_B} {Q : kv_Q} {kc ks n : Nat} {S : kv_SM} {I : kv_IM} {a0 : Nat} {v1 : Int32} {v2 : Int32} {v3 : Int32} {v4 : Int32} {v5 : Int32} {v6 : Int32} {v7 : Int32} {t0 : Int32} (K : kv_V y_Md_alike d B Q kc ks n S I 150 [(0, .ref a0), (1, .int v1), (2, .int v2), (3, .int v3), (4, .int v4), (5, .int v5), (6, .int v6), (7, .int v7)] [.int 1, .int t0]) : kv_V y_Md_alike d B Q kc ks n S I 129 [(0, .ref a0), (1, .int v1), (2, .int v2), (3, .int v3), (4, .int v4), (5, .int v5), (6, .int v6), (7, .int v7)] [.int t0] := by
  refine kv_iconst (v := 1) dd_Md_alike_129 (by decide) ?_
  refine kv_goto 150 dd_Md_alike_130 (by decide) ?_
  exact kv_loc [0, 1, 2, 3, 4, 5, 6, 7] rfl K
theorem bl_Md_alike_133 {d : Nat} {B : kv_B} {Q : kv_Q} {kc ks n : Nat} {S : kv_SM} {I : kv_IM} {a0 : Nat} {v1 : Int32} {v2 : Int32} {v3 : Int32} {v4 : Int32} {v5 : Int32} {v6 : Int32} {v7 : Int32} {t0 : Int32} {r1 : Nat → Option Nat} {q2 : Nat} {m3 : Nat} {j4 : Nat} {j5 : Nat} (hO1 : S a0 = kO 6 r1) (hr2 : r1 10 = some q2) (hA3 : S q2 = kI m3) (hi4 : v5 + 1 = nI j4 ∧ j4 < m3 ∧ m3 < 2 ^ 31) (hi5 : v5 = nI j5 ∧ j5 < m3 ∧ m3 < 2 ^ 31) (K : kv_V y_Md_alike d B Q kc ks n S I 150 [(0, .ref a0), (1, .int v1), (2, .int v2), (3, .int v3), (4, .int v4), (5, .int v5), (6, .int v6), (7, .int v7)] [.int ((I q2 j4) - (I q2 j5)), .int t0]) : kv_V y_Md_alike d B Q kc ks n S I 133 [(0, .ref a0), (1, .int v1), (2, .int v2), (3, .int v3), (4, .int v4), (5, .int v5), (6, .int v6), (7, .int v7)] [.int t0] := by
  refine kv_aload_n dd_Md_alike_133 rfl ?_
  refine kv_getR fl_Md_32 dd_Md_alike_134 hO1 hr2 ?_
  refine kv_iload dd_Md_alike_137 rfl ?_
  refine kv_iconst (v := 1) dd_Md_alike_139 (by decide) ?_
  refine kv_iadd dd_Md_alike_140 ?_
  refine kv_iald j4 dd_Md_alike_141 hA3 hi4.1 hi4.2.1 hi4.2.2 ?_
  refine kv_aload_n dd_Md_alike_142 rfl ?_
  refine kv_getR fl_Md_32 dd_Md_alike_143 hO1 hr2 ?_
  refine kv_iload dd_Md_alike_146 rfl ?_
  refine kv_iald j5 dd_Md_alike_148 hA3 hi5.1 hi5.2.1 hi5.2.2 ?_
  refine kv_isub dd_Md_alike_149 ?_
  exact kv_loc [0, 1, 2, 3, 4, 5, 6, 7] rfl K
theorem bl_Md_alike_150 {d : Nat} {B : kv_B} {Q : kv_Q} {kc ks n : Nat} {S : kv_SM} {I : kv_IM} {a0 : Nat} {v1 : Int32} {v2 : Int32} {v3 : Int32} {v4 : Int32} {v5 : Int32} {v6 : Int32} {v7 : Int32} {t0 : Int32} {t1 : Int32} (K : kv_V y_Md_alike d B Q kc ks n S I 67 [(0, .ref a0), (1, .int v1), (2, .int v2), (3, .int v3), (4, .int (t1 + t0)), (5, .int (v5 + 1))] []) : kv_V y_Md_alike d B Q kc ks n S I 150 [(0, .ref a0), (1, .int v1), (2, .int v2), (3, .int v3), (4, .int v4), (5, .int v5), (6, .int v6), (7, .int v7)] [.int t0, .int t1] := by
  refine kv_iadd dd_Md_alike_150 ?_
  refine kv_istore (L' := [(4, .int (t1 + t0)), (0, .ref a0), (1, .int v1), (2, .int v2), (3, .int v3), (5, .int v5), (6, .int v6), (7, .int v7)]) dd_Md_alike_151 (by decide) rfl ?_
  refine kv_iinc (v := v5 + 1) (L' := [(5, .int (v5 + 1)), (4, .int (t1 + t0)), (0, .ref a0), (1, .int v1), (2, .int v2), (3, .int v3), (6, .int v6), (7, .int v7)]) dd_Md_alike_153 rfl rfl (by decide) rfl ?_
  refine kv_goto 67 dd_Md_alike_156 (by decide) ?_
  exact kv_loc [2, 3, 4, 5, 1, 0] rfl K
theorem bl_Md_alike_159 {d : Nat} {B : kv_B} {Q : kv_Q} {kc ks n : Nat} {S : kv_SM} {I : kv_IM} {a0 : Nat} {v1 : Int32} {v2 : Int32} {v3 : Int32} {v4 : Int32} {v5 : Int32} (hQ : Q (some (.int v4)) n S I) : kv_V y_Md_alike d B Q kc ks n S I 159 [(0, .ref a0), (1, .int v1), (2, .int v2), (3, .int v3), (4, .int v4), (5, .int v5)] [] := by
  refine kv_iload dd_Md_alike_159 rfl ?_
  exact kv_end (v := some (.int v4)) hQ ⟨dd_Md_alike_161, .int, rfl, rfl⟩
theorem bl_Md_alike_162 {d : Nat} {B : kv_B} {Q : kv_Q} {kc ks n : Nat} {S : kv_SM} {I : kv_IM} {a0 : Nat} {v1 : Int32} {v2 : Int32} {v3 : Int32} {v4 : Int32} {r1 : Nat → Option Nat} (hO1 : S a0 = kO 6 r1) (Kt : (I a0 11) ≤ v4 → kv_V y_Md_alike d B Q kc ks n S I 234 [(0, .ref a0), (1, .int v1), (2, .int v2), (3, .int v3), (4, .int v4)] []) (Kf : ¬ (I a0 11) ≤ v4 → kv_V y_Md_alike d B Q kc ks n S I 171 [(0, .ref a0), (1, .int v1), (2, .int v2), (3, .int v3), (4, .int v4)] []) : kv_V y_Md_alike d B Q kc ks n S I 162 [(0, .ref a0), (1, .int v1), (2, .int v2), (3, .int v3), (4, .int v4)] [] := by
  refine kv_iload dd_Md_alike_162 rfl ?_
  refine kv_aload_n dd_Md_alike_164 rfl ?_
  refine kv_getI fl_Md_110 dd_Md_alike_165 hO1 ?_
  exact kv_icmp_ge 234 dd_Md_alike_168 (by decide) (fun h => kv_loc [0, 1, 2, 3, 4] rfl (Kt h)) (fun h => kv_loc [0, 1, 2, 3, 4] rfl (Kf h))
theorem bl_Md_alike_171 {d : Nat} {B : kv_B} {Q : kv_Q} {kc ks n : Nat} {S : kv_SM} {I : kv_IM} {a0 : Nat} {v1 : Int32} {v2 : Int32} {v3 : Int32} {v4 : Int32} {r1 : Nat → Option Nat} (hO1 : S a0 = kO 6 r1) (Kt : (I a0 13) ≤ v4 → kv_V y_Md_alike d B Q kc ks n S I 234 [(0, .ref a0), (1, .int v1), (2, .int v2), (3, .int v3), (4, .int v4)] []) (Kf : ¬ (I a0 13) ≤ v4 → kv_V y_Md_alike d B Q kc ks n S I 180 [(0, .ref a0), (1, .int v1), (2, .int v2), (3, .int v3), (4, .int v4)] []) : kv_V y_Md_alike d B Q kc ks n S I 171 [(0, .ref a0), (1, .int v1), (2, .int v2), (3, .int v3), (4, .int v4)] [] := by
  refine kv_iload dd_Md_alike_171 rfl ?_
  refine kv_aload_n dd_Md_alike_173 rfl ?_
  refine kv_getI fl_Md_133 dd_Md_alike_174 hO1 ?_
  exact kv_icmp_ge 234 dd_Md_alike_177 (by decide) (fun h => kv_loc [0, 1, 2, 3, 4] rfl (Kt h)) (fun h => kv_loc [0, 1, 2, 3, 4] rfl (Kf h))
theorem bl_Md_alike_180 {d : Nat} {B : kv_B} {Q : kv_Q} {kc ks n : Nat} {S : kv_SM} {I : kv_IM} {a0 : Nat} {v1 : Int32} {v2 : Int32} {v3 : Int32} {v4 : Int32} (Kt : ¬ v3 = 2 → kv_V y_Md_alike d B Q kc ks n S I 201 [(0, .ref a0), (1, .int v1), (2, .int v2), (3, .int v3), (4, .int v4)] []) (Kf : v3 = 2 → kv_V y_Md_alike d B Q kc ks n S I 185 [(0, .ref a0), (1, .int v1), (2, .int v2), (3, .int v3), (4, .int v4)] []) : kv_V y_Md_alike d B Q kc ks n S I 180 [(0, .ref a0), (1, .int v1), (2, .int v2), (3, .int v3), (4, .int v4)] [] := by
  refine kv_iload_n dd_Md_alike_180 rfl ?_
  refine kv_iconst (v := 2) dd_Md_alike_181 (by decide) ?_
  exact kv_icmp_ne 201 dd_Md_alike_182 (by decide) (fun h => kv_loc [0, 1, 2, 3, 4] rfl (Kt h)) (fun h => kv_loc [0, 1, 2, 3, 4] rfl (Kf h))
theorem bl_Md_alike_185 {d : Nat} {B : kv_B} {Q : kv_Q} {kc ks n : Nat} {S : kv_SM} {I : kv_IM} {a0 : Nat} {v1 : Int32} {v2 : Int32} {v3 : Int32} {v4 : Int32} {dc kcc ksc : Nat} {Qy : kv_Q} {r1 : Nat → Option Nat} (hO1 : S a0 = kO 6 r1) (hM : kv_T y_Md_isLike dc kcc ksc B [.ref a0, .int v1, .int v4, .int v2, .int v4] n S I Qy) (hdp : dc + 1 ≤ d) (hkk : kcc ≤ kc) (hkl : ksc ≤ ks) (K : ∀ v n' S' I', Qy v n' S' I' → kv_V y_Md_alike d B Q (kc - kcc) (ks - ksc) n' S' I' 195 [(0, .ref a0), (1, .int v1), (2, .int v2), (3, .int v3), (4, .int v4)] (v.toList ++ [])) : kv_V y_Md_alike d B Q kc ks n S I 185 [(0, .ref a0), (1, .int v1), (2, .int v2), (3, .int v3), (4, .int v4)] [] := by
  refine kv_aload_n dd_Md_alike_185 rfl ?_
  refine kv_iload_n dd_Md_alike_186 rfl ?_
  refine kv_iload dd_Md_alike_187 rfl ?_
  refine kv_iload_n dd_Md_alike_189 rfl ?_
  refine kv_iload dd_Md_alike_190 rfl ?_
  exact kv_callV [.int v1, .int v4, .int v2, .int v4] [] ls_Md_136 hO1 hM dd_Md_alike_192 rfl hdp (Nat.le_of_ble_eq_true rfl) hkk hkl (fun v n' S' I' hv => kv_loc [0, 1, 2, 3, 4] rfl (K v n' S' I' hv))
theorem bl_Md_alike_195 {d : Nat} {B : kv_B} {Q : kv_Q} {kc ks n : Nat} {S : kv_SM} {I : kv_IM} {a0 : Nat} {v1 : Int32} {v2 : Int32} {v3 : Int32} {v4 : Int32} {t0 : Int32} (Kt : t0 = 0 → kv_V y_Md_alike d B Q kc ks n S I 234 [(0, .ref a0), (1, .int v1), (2, .int v2), (3, .int v3), (4, .int v4)] []) (Kf : ¬ t0 = 0 → kv_V y_Md_alike d B Q kc ks n S I 198 [(0, .ref a0), (1, .int v1), (2, .int v2), (3, .int v3), (4, .int v4)] []) : kv_V y_Md_alike d B Q kc ks n S I 195 [(0, .ref a0), (1, .int v1), (2, .int v2), (3, .int v3), (4, .int v4)] [.int t0] := by
  exact kv_if_eq 234 dd_Md_alike_195 (by decide) (fun h => kv_loc [0, 1, 2, 3, 4] rfl (Kt h)) (fun h => kv_loc [0, 1, 2, 3, 4] rfl (Kf h))
theorem bl_Md_alike_198 {d : Nat} {B : kv_B} {Q : kv_Q} {kc ks n : Nat} {S : kv_SM} {I : kv_IM} {a0 : Nat} {v1 : Int32} {v2 : Int32} {v3 : Int32} {v4 : Int32} (K : kv_V y_Md_alike d B Q kc ks n S I 228 [(0, .ref a0), (1, .int v1), (2, .int v2), (3, .int v3), (4, .int v4)] []) : kv_V y_Md_alike d B Q kc ks n S I 198 [(0, .ref a0), (1, .int v1), (2, .int v2), (3, .int v3), (4, .int v4)] [] := by
  refine kv_goto 228 dd_Md_alike_198 (by decide) ?_
  exact kv_loc [0, 1, 2, 3, 4] rfl K
theorem bl_Md_alike_201 {d : Nat} {B : kv_B} {Q : kv_Q} {kc ks n : Nat} {S : kv_SM} {I : kv_IM} {a0 : Nat} {v1 : Int32} {v2 : Int32} {v3 : Int32} {v4 : Int32} {r1 : Nat → Option Nat} {dc kcc ksc : Nat} {Qy : kv_Q} (hO1 : S a0 = kO 6 r1) (hM : kv_T y_Md_isLike dc kcc ksc B [.ref a0, .int v1, .int (((I a0 11) - 1) - v4), .int v2, .int (((I a0 13) - 1) - v4)] n S I Qy) (hdp : dc + 1 ≤ d) (hkk : kcc ≤ kc) (hkl : ksc ≤ ks) (K : ∀ v n' S' I', Qy v n' S' I' → kv_V y_Md_alike d B Q (kc - kcc) (ks - ksc) n' S' I' 225 [(0, .ref a0), (1, .int v1), (2, .int v2), (3, .int v3), (4, .int v4)] (v.toList ++ [])) : kv_V y_Md_alike d B Q kc ks n S I 201 [(0, .ref a0), (1, .int v1), (2, .int v2), (3, .int v3), (4, .int v4)] [] := by
  refine kv_aload_n dd_Md_alike_201 rfl ?_
  refine kv_iload_n dd_Md_alike_202 rfl ?_
  refine kv_aload_n dd_Md_alike_203 rfl ?_
  refine kv_getI fl_Md_110 dd_Md_alike_204 hO1 ?_
  refine kv_iconst (v := 1) dd_Md_alike_207 (by decide) ?_
  refine kv_isub dd_Md_alike_208 ?_
  refine kv_iload dd_Md_alike_209 rfl ?_
  refine kv_isub dd_Md_alike_211 ?_
  refine kv_iload_n dd_Md_alike_212 rfl ?_
  refine kv_aload_n dd_Md_alike_213 rfl ?_
  refine kv_getI fl_Md_133 dd_Md_alike_214 hO1 ?_
  refine kv_iconst (v := 1) dd_Md_alike_217 (by decide) ?_
  refine kv_isub dd_Md_alike_218 ?_
  refine kv_iload dd_Md_alike_219 rfl ?_
  refine kv_isub dd_Md_alike_221 ?_
  exact kv_callV [.int v1, .int (((I a0 11) - 1) - v4), .int v2, .int (((I a0 13) - 1) - v4)] [] ls_Md_136 hO1 hM dd_Md_alike_222 rfl hdp (Nat.le_of_ble_eq_true rfl) hkk hkl (fun v n' S' I' hv => kv_loc [0, 1, 2, 3, 4] rfl (K v n' S' I' hv))
theorem bl_Md_alike_225 {d : Nat} {B : kv_B} {Q : kv_Q} {kc ks n : Nat} {S : kv_SM} {I : kv_IM} {a0 : Nat} {v1 : Int32} {v2 : Int32} {v3 : Int32} {v4 : Int32} {t0 : Int32} (Kt : t0 = 0 → kv_V y_Md_alike d B Q kc ks n S I 234 [(0, .ref a0), (1, .int v1), (2, .int v2), (3, .int v3), (4, .int v4)] []) (Kf : ¬ t0 = 0 → kv_V y_Md_alike d B Q kc ks n S I 228 [(0, .ref a0), (1, .int v1), (2, .int v2), (3, .int v3), (4, .int v4)] []) : kv_V y_Md_alike d B Q kc ks n S I 225 [(0, .ref a0), (1, .int v1), (2, .int v2), (3, .int v3), (4, .int v4)] [.int t0] := by
  exact kv_if_eq 234 dd_Md_alike_225 (by decide) (fun h => kv_loc [0, 1, 2, 3, 4] rfl (Kt h)) (fun h => kv_loc [0, 1, 2, 3, 4] rfl (Kf h))
theorem bl_Md_alike_228 {d : Nat} {B : kv_B} {Q : kv_Q} {kc ks n : Nat} {S : kv_SM} {I : kv_IM} {a0 : Nat} {v1 : Int32} {v2 : Int32} {v3 : Int32} {v4 : Int32} (K : kv_V y_Md_alike d B Q kc ks n S I 162 [(0, .ref a0), (1, .int v1), (2, .int v2), (3, .int v3), (4, .int (v4 + 1))] []) : kv_V y_Md_alike d B Q kc ks n S I 228 [(0, .ref a0), (1, .int v1), (2, .int v2), (3, .int v3), (4, .int v4)] [] := by
  refine kv_iinc (v := v4 + 1) (L' := [(4, .int (v4 + 1)), (0, .ref a0), (1, .int v1), (2, .int v2), (3, .int v3)]) dd_Md_alike_228 rfl rfl (by decide) rfl ?_
  refine kv_goto 162 dd_Md_alike_231 (by decide) ?_
  exact kv_loc [1, 2, 3, 4, 0] rfl K
theorem bl_Md_alike_234 {d : Nat} {B : kv_B} {Q : kv_Q} {kc ks n : Nat} {S : kv_SM} {I : kv_IM} {a0 : Nat} {v1 : Int32} {v2 : Int32} {v3 : Int32} {v4 : Int32} (hQ : Q (some (.int v4)) n S I) : kv_V y_Md_alike d B Q kc ks n S I 234 [(0, .ref a0), (1, .int v1), (2, .int v2), (3, .int v3), (4, .int v4)] [] := by
  refine kv_iload dd_Md_alike_234 rfl ?_
  exact kv_end (v := some (.int v4)) hQ ⟨dd_Md_alike_236, .int, rfl, rfl⟩
theorem bl_Md_isLike_0 {d : Nat} {B : kv_B} {Q : kv_Q} {kc ks n : Nat} {S : kv_SM} {I : kv_IM} {a0 : Nat} {v1 : Int32} {v2 : Int32} {v3 : Int32} {v4 : Int32} {r1 : Nat → Option Nat} {q2 : Nat} {m3 : Nat} {j4 : Nat} {j5 : Nat} {q6 : Nat} {m7 : Nat} {j8 : Nat} {j9 : Nat} (hO1 : S a0 = kO 6 r1) (hr2 : r1 10 = some q2) (hA3 : S q2 = kI m3) (hi4 : v2 + 1 = nI j4 ∧ j4 < m3 ∧ m3 < 2 ^ 31) (hi5 : v2 = nI j5 ∧ j5 < m3 ∧ m3 < 2 ^ 31) (hr6 : r1 12 = some q6) (hA7 : S q6 = kI m7) (hi8 : v4 + 1 = nI j8 ∧ j8 < m7 ∧ m7 < 2 ^ 31) (hi9 : v4 = nI j9 ∧ j9 < m7 ∧ m7 < 2 ^ 31) (Kt : ¬ ((I q2 j4) - (I q2 j5)) = ((I q6 j8) - (I q6 j9)) → kv_V y_Md_isLike d B Q kc ks n S I 84 [(0, .ref a0), (1, .int v1), (2, .int v2), (3, .int v3), (4, .int v4), (5, .int ((I q2 j4) - (I q2 j5)))] []) (Kf : ((I q2 j4) - (I q2 j5)) = ((I q6 j8) - (I q6 j9)) → kv_V y_Md_isLike d B Q kc ks n S I 39 [(0, .ref a0), (1, .int v1), (2, .int v2), (3, .int v3), (4, .int v4), (5, .int ((I q2 j4) - (I q2 j5)))] []) : kv_V y_Md_isLike d B Q kc ks n S I 0 [(0, .ref a0), (1, .int v1), (2, .int v2), (3, .int v3), (4, .int v4)] [] := by
  refine kv_aload_n dd_Md_isLike_0 rfl ?_
  refine kv_getR fl_Md_32 dd_Md_isLike_1 hO1 hr2 ?_
  refine kv_iload_n dd_Md_isLike_4 rfl ?_
  refine kv_iconst (v := 1) dd_Md_isLike_5 (by decide) ?_
  refine kv_iadd dd_Md_isLike_6 ?_
  refine kv_iald j4 dd_Md_isLike_7 hA3 hi4.1 hi4.2.1 hi4.2.2 ?_
  refine kv_aload_n dd_Md_isLike_8 rfl ?_
  refine kv_getR fl_Md_32 dd_Md_isLike_9 hO1 hr2 ?_
  refine kv_iload_n dd_Md_isLike_12 rfl ?_
  refine kv_iald j5 dd_Md_isLike_13 hA3 hi5.1 hi5.2.1 hi5.2.2 ?_
  refine kv_isub dd_Md_isLike_14 ?_
  refine kv_istore (L' := [(5, .int ((I q2 j4) - (I q2 j5))), (0, .ref a0), (1, .int v1), (2, .int v2), (3, .int v3), (4, .int v4)]) dd_Md_isLike_15 (by decide) rfl ?_
  refine kv_iload dd_Md_isLike_17 rfl ?_
  refine kv_aload_n dd_Md_isLike_19 rfl ?_
  refine kv_getR fl_Md_35 dd_Md_isLike_20 hO1 hr6 ?_
  refine kv_iload dd_Md_isLike_23 rfl ?_
  refine kv_iconst (v := 1) dd_Md_isLike_25 (by decide) ?_
  refine kv_iadd dd_Md_isLike_26 ?_
  refine kv_iald j8 dd_Md_isLike_27 hA7 hi8.1 hi8.2.1 hi8.2.2 ?_
  refine kv_aload_n dd_Md_isLike_28 rfl ?_
  refine kv_getR fl_Md_35 dd_Md_isLike_29 hO1 hr6 ?_
  refine kv_iload dd_Md_isLike_32 rfl ?_
  refine kv_iald j9 dd_Md_isLike_34 hA7 hi9.1 hi9.2.1 hi9.2.2 ?_
  refine kv_isub dd_Md_isLike_35 ?_
  exact kv_icmp_ne 84 dd_Md_isLike_36 (by decide) (fun h => kv_loc [1, 2, 3, 4, 5, 0] rfl (Kt h)) (fun h => kv_loc [1, 2, 3, 4, 5, 0] rfl (Kf h))
theorem bl_Md_isLike_39 {d : Nat} {B : kv_B} {Q : kv_Q} {kc ks n : Nat} {S : kv_SM} {I : kv_IM} {a0 : Nat} {v1 : Int32} {v2 : Int32} {v3 : Int32} {v4 : Int32} {v5 : Int32} {r1 : Nat → Option Nat} {q2 : Nat} {q3 : Nat} {m4 : Nat} {j5 : Nat} {q6 : Nat} {m7 : Nat} {j8 : Nat} {dc kcc ksc : Nat} {Qy : kv_Q} (hO1 : S a0 = kO 6 r1) (hr2 : r1 1 = some q2) (hr3 : r1 10 = some q3) (hA4 : S q3 = kI m4) (hi5 : v2 = nI j5 ∧ j5 < m4 ∧ m4 < 2 ^ 31) (hr6 : r1 12 = some q6) (hA7 : S q6 = kI m7) (hi8 : v4 = nI j8 ∧ j8 < m7 ∧ m7 < 2 ^ 31) (hM : kv_T y_Md_isSame dc kcc ksc B [.ref q2, .int ((1500 * v1) + (I q3 j5)), .ref q2, .int ((1500 * v3) + (I q6 j8)), .int v5] n S I Qy) (hdp : dc + 1 ≤ d) (hkk : kcc ≤ kc) (hkl : ksc ≤ ks) (K : ∀ v n' S' I', Qy v n' S' I' → kv_V y_Md_isLike d B Q (kc - kcc) (ks - ksc) n' S' I' 77 [(0, .ref a0), (1, .int v1), (2, .int v2), (3, .int v3), (4, .int v4), (5, .int v5)] (v.toList ++ [])) : kv_V y_Md_isLike d B Q kc ks n S I 39 [(0, .ref a0), (1, .int v1), (2, .int v2), (3, .int v3), (4, .int v4), (5, .int v5)] [] := by
  refine kv_aload_n dd_Md_isLike_39 rfl ?_
  refine kv_getR fl_Md_7 dd_Md_isLike_40 hO1 hr2 ?_
  refine kv_sipush (v := 1500) dd_Md_isLike_43 (by decide) ?_
  refine kv_iload_n dd_Md_isLike_46 rfl ?_
  refine kv_imul dd_Md_isLike_47 ?_
  refine kv_aload_n dd_Md_isLike_48 rfl ?_
  refine kv_getR fl_Md_32 dd_Md_isLike_49 hO1 hr3 ?_
  refine kv_iload_n dd_Md_isLike_52 rfl ?_
  refine kv_iald j5 dd_Md_isLike_53 hA4 hi5.1 hi5.2.1 hi5.2.2 ?_
  refine kv_iadd dd_Md_isLike_54 ?_
  refine kv_aload_n dd_Md_isLike_55 rfl ?_
  refine kv_getR fl_Md_7 dd_Md_isLike_56 hO1 hr2 ?_
  refine kv_sipush (v := 1500) dd_Md_isLike_59 (by decide) ?_
  refine kv_iload_n dd_Md_isLike_62 rfl ?_
  refine kv_imul dd_Md_isLike_63 ?_
  refine kv_aload_n dd_Md_isLike_64 rfl ?_
  refine kv_getR fl_Md_35 dd_Md_isLike_65 hO1 hr6 ?_
  refine kv_iload dd_Md_isLike_68 rfl ?_
  refine kv_iald j8 dd_Md_isLike_70 hA7 hi8.1 hi8.2.1 hi8.2.2 ?_
  refine kv_iadd dd_Md_isLike_71 ?_
  refine kv_iload dd_Md_isLike_72 rfl ?_
  exact kv_callS [.ref q2, .int ((1500 * v1) + (I q3 j5)), .ref q2, .int ((1500 * v3) + (I q6 j8)), .int v5] [] ls_Md_129 hM dd_Md_isLike_74 rfl hdp (Nat.le_of_ble_eq_true rfl) hkk hkl (fun v n' S' I' hv => kv_loc [0, 1, 2, 3, 4, 5] rfl (K v n' S' I' hv))
theorem bl_Md_isLike_77 {d : Nat} {B : kv_B} {Q : kv_Q} {kc ks n : Nat} {S : kv_SM} {I : kv_IM} {a0 : Nat} {v1 : Int32} {v2 : Int32} {v3 : Int32} {v4 : Int32} {v5 : Int32} {t0 : Int32} (Kt : t0 = 0 → kv_V y_Md_isLike d B Q kc ks n S I 84 [(0, .ref a0), (1, .int v1), (2, .int v2), (3, .int v3), (4, .int v4), (5, .int v5)] []) (Kf : ¬ t0 = 0 → kv_V y_Md_isLike d B Q kc ks n S I 80 [(0, .ref a0), (1, .int v1), (2, .int v2), (3, .int v3), (4, .int v4), (5, .int v5)] []) : kv_V y_Md_isLike d B Q kc ks n S I 77 [(0, .ref a0), (1, .int v1), (2, .int v2), (3, .int v3), (4, .int v4), (5, .int v5)] [.int t0] := by
  exact kv_if_eq 84 dd_Md_isLike_77 (by decide) (fun h => kv_loc [0, 1, 2, 3, 4, 5] rfl (Kt h)) (fun h => kv_loc [0, 1, 2, 3, 4, 5] rfl (Kf h))
theorem bl_Md_isLike_80 {d : Nat} {B : kv_B} {Q : kv_Q} {kc ks n : Nat} {S : kv_SM} {I : kv_IM} {a0 : Nat} {v1 : Int32} {v2 : Int32} {v3 : Int32} {v4 : Int32} {v5 : Int32} (K : kv_V y_Md_isLike d B Q kc ks n S I 85 [(0, .ref a0), (1, .int v1), (2, .int v2), (3, .int v3), (4, .int v4), (5, .int v5)] [.int 1]) : kv_V y_Md_isLike d B Q kc ks n S I 80 [(0, .ref a0), (1, .int v1), (2, .int v2), (3, .int v3), (4, .int v4), (5, .int v5)] [] := by
  refine kv_iconst (v := 1) dd_Md_isLike_80 (by decide) ?_
  refine kv_goto 85 dd_Md_isLike_81 (by decide) ?_
  exact kv_loc [0, 1, 2, 3, 4, 5] rfl K
theorem bl_Md_isLike_84 {d : Nat} {B : kv_B} {Q : kv_Q} {kc ks n : Nat} {S : kv_SM} {I : kv_IM} {a0 : Nat} {v1 : Int32} {v2 : Int32} {v3 : Int32} {v4 : Int32} {v5 : Int32} (K : kv_V y_Md_isLike d B Q kc ks n S I 85 [(0, .ref a0), (1, .int v1), (2, .int v2), (3, .int v3), (4, .int v4), (5, .int v5)] [.int 0]) : kv_V y_Md_isLike d B Q kc ks n S I 84 [(0, .ref a0), (1, .int v1), (2, .int v2), (3, .int v3), (4, .int v4), (5, .int v5)] [] := by
  refine kv_iconst (v := 0) dd_Md_isLike_84 (by decide) ?_
  exact kv_loc [0, 1, 2, 3, 4, 5] rfl K
theorem bl_Md_isLike_85 {d : Nat} {B : kv_B} {Q : kv_Q} {kc ks n : Nat} {S : kv_SM} {I : kv_IM} {a0 : Nat} {v1 : Int32} {v2 : Int32} {v3 : Int32} {v4 : Int32} {v5 : Int32} {t0 : Int32} (hb : narrow .boolean (.int t0) = .int t0) (hQ : Q (some (.int t0)) n S I) : kv_V y_Md_isLike d B Q kc ks n S I 85 [(0, .ref a0), (1, .int v1), (2, .int v2), (3, .int v3), (4, .int v4), (5, .int v5)] [.int t0] := by
  exact kv_end (v := some (.int t0)) hQ ⟨dd_Md_isLike_85, .boolean, rfl, hb⟩
theorem bl_Md_isSame_0 {d : Nat} {B : kv_B} {Q : kv_Q} {kc ks n : Nat} {S : kv_SM} {I : kv_IM} {a0 : Nat} {v1 : Int32} {a2 : Nat} {v3 : Int32} {v4 : Int32} (K : kv_V y_Md_isSame d B Q kc ks n S I 3 [(0, .ref a0), (1, .int v1), (2, .ref a2), (3, .int v3), (4, .int v4), (5, .int 0)] []) : kv_V y_Md_isSame d B Q kc ks n S I 0 [(0, .ref a0), (1, .int v1), (2, .ref a2), (3, .int v3), (4, .int v4)] [] := by
  refine kv_iconst (v := 0) dd_Md_isSame_0 (by decide) ?_
  refine kv_istore (L' := [(5, .int 0), (0, .ref a0), (1, .int v1), (2, .ref a2), (3, .int v3), (4, .int v4)]) dd_Md_isSame_1 (by decide) rfl ?_
  exact kv_loc [1, 2, 3, 4, 5, 0] rfl K
theorem bl_Md_isSame_3 {d : Nat} {B : kv_B} {Q : kv_Q} {kc ks n : Nat} {S : kv_SM} {I : kv_IM} {a0 : Nat} {v1 : Int32} {a2 : Nat} {v3 : Int32} {v4 : Int32} {v5 : Int32} (Kt : v4 ≤ v5 → kv_V y_Md_isSame d B Q kc ks n S I 33 [(0, .ref a0), (1, .int v1), (2, .ref a2), (3, .int v3), (4, .int v4), (5, .int v5)] []) (Kf : ¬ v4 ≤ v5 → kv_V y_Md_isSame d B Q kc ks n S I 10 [(0, .ref a0), (1, .int v1), (2, .ref a2), (3, .int v3), (4, .int v4), (5, .int v5)] []) : kv_V y_Md_isSame d B Q kc ks n S I 3 [(0, .ref a0), (1, .int v1), (2, .ref a2), (3, .int v3), (4, .int v4), (5, .int v5)] [] := by
  refine kv_iload dd_Md_isSame_3 rfl ?_
  refine kv_iload dd_Md_isSame_5 rfl ?_
  exact kv_icmp_ge 33 dd_Md_isSame_7 (by decide) (fun h => kv_loc [0, 1, 2, 3, 4, 5] rfl (Kt h)) (fun h => kv_loc [0, 1, 2, 3, 4, 5] rfl (Kf h))
theorem bl_Md_isSame_10 {d : Nat} {B : kv_B} {Q : kv_Q} {kc ks n : Nat} {S : kv_SM} {I : kv_IM} {a0 : Nat} {v1 : Int32} {a2 : Nat} {v3 : Int32} {v4 : Int32} {v5 : Int32} {m1 : Nat} {j2 : Nat} {m3 : Nat} {j4 : Nat} (hA1 : S a0 = kI m1) (hi2 : v1 + v5 = nI j2 ∧ j2 < m1 ∧ m1 < 2 ^ 31) (hA3 : S a2 = kI m3) (hi4 : v3 + v5 = nI j4 ∧ j4 < m3 ∧ m3 < 2 ^ 31) (Kt : (I a0 j2) = (I a2 j4) → kv_V y_Md_isSame d B Q kc ks n S I 27 [(0, .ref a0), (1, .int v1), (2, .ref a2), (3, .int v3), (4, .int v4), (5, .int v5)] []) (Kf : ¬ (I a0 j2) = (I a2 j4) → kv_V y_Md_isSame d B Q kc ks n S I 25 [(0, .ref a0), (1, .int v1), (2, .ref a2), (3, .int v3), (4, .int v4), (5, .int v5)] []) : kv_V y_Md_isSame d B Q kc ks n S I 10 [(0, .ref a0), (1, .int v1), (2, .ref a2), (3, .int v3), (4, .int v4), (5, .int v5)] [] := by
  refine kv_aload_n dd_Md_isSame_10 rfl ?_
  refine kv_iload_n dd_Md_isSame_11 rfl ?_
  refine kv_iload dd_Md_isSame_12 rfl ?_
  refine kv_iadd dd_Md_isSame_14 ?_
  refine kv_iald j2 dd_Md_isSame_15 hA1 hi2.1 hi2.2.1 hi2.2.2 ?_
  refine kv_aload_n dd_Md_isSame_16 rfl ?_
  refine kv_iload_n dd_Md_isSame_17 rfl ?_
  refine kv_iload dd_Md_isSame_18 rfl ?_
  refine kv_iadd dd_Md_isSame_20 ?_
  refine kv_iald j4 dd_Md_isSame_21 hA3 hi4.1 hi4.2.1 hi4.2.2 ?_
  exact kv_icmp_eq 27 dd_Md_isSame_22 (by decide) (fun h => kv_loc [0, 1, 2, 3, 4, 5] rfl (Kt h)) (fun h => kv_loc [0, 1, 2, 3, 4, 5] rfl (Kf h))
theorem bl_Md_isSame_25 {d : Nat} {B : kv_B} {Q : kv_Q} {kc ks n : Nat} {S : kv_SM} {I : kv_IM} {a0 : Nat} {v1 : Int32} {a2 : Nat} {v3 : Int32} {v4 : Int32} {v5 : Int32} (hQ : Q (some (.int 0)) n S I) : kv_V y_Md_isSame d B Q kc ks n S I 25 [(0, .ref a0), (1, .int v1), (2, .ref a2), (3, .int v3), (4, .int v4), (5, .int v5)] [] := by
  refine kv_iconst (v := 0) dd_Md_isSame_25 (by decide) ?_
  exact kv_end (v := some (.int 0)) hQ ⟨dd_Md_isSame_26, .boolean, rfl, rfl⟩
theorem bl_Md_isSame_27 {d : Nat} {B : kv_B} {Q : kv_Q} {kc ks n : Nat} {S : kv_SM} {I : kv_IM} {a0 : Nat} {v1 : Int32} {a2 : Nat} {v3 : Int32} {v4 : Int32} {v5 : Int32} (K : kv_V y_Md_isSame d B Q kc ks n S I 3 [(0, .ref a0), (1, .int v1), (2, .ref a2), (3, .int v3), (4, .int v4), (5, .int (v5 + 1))] []) : kv_V y_Md_isSame d B Q kc ks n S I 27 [(0, .ref a0), (1, .int v1), (2, .ref a2), (3, .int v3), (4, .int v4), (5, .int v5)] [] := by
  refine kv_iinc (v := v5 + 1) (L' := [(5, .int (v5 + 1)), (0, .ref a0), (1, .int v1), (2, .ref a2), (3, .int v3), (4, .int v4)]) dd_Md_isSame_27 rfl rfl (by decide) rfl ?_
  refine kv_goto 3 dd_Md_isSame_30 (by decide) ?_
  exact kv_loc [1, 2, 3, 4, 5, 0] rfl K
theorem bl_Md_isSame_33 {d : Nat} {B : kv_B} {Q : kv_Q} {kc ks n : Nat} {S : kv_SM} {I : kv_IM} {a0 : Nat} {v1 : Int32} {a2 : Nat} {v3 : Int32} {v4 : Int32} {v5 : Int32} (hQ : Q (some (.int 1)) n S I) : kv_V y_Md_isSame d B Q kc ks n S I 33 [(0, .ref a0), (1, .int v1), (2, .ref a2), (3, .int v3), (4, .int v4), (5, .int v5)] [] := by
  refine kv_iconst (v := 1) dd_Md_isSame_33 (by decide) ?_
  exact kv_end (v := some (.int 1)) hQ ⟨dd_Md_isSame_34, .boolean, rfl, rfl⟩
theorem bl_Md_keep_0 {d : Nat} {B : kv_B} {Q : kv_Q} {kc ks n : Nat} {S : kv_SM} {I : kv_IM} {a0 : Nat} {v1 : Int32} {r1 : Nat → Option Nat} {dc kcc ksc : Nat} {Qy : kv_Q} (hO1 : S a0 = kO 6 r1) (hM : kv_T y_Md_isText dc kcc ksc B [.int v1] n S (kv_up I a0 0 0) Qy) (hdp : dc + 1 ≤ d) (hkk : kcc ≤ kc) (hkl : ksc ≤ ks) (K : ∀ v n' S' I', Qy v n' S' I' → kv_V y_Md_keep d B Q (kc - kcc) (ks - ksc) n' S' I' 9 [(0, .ref a0), (1, .int v1)] (v.toList ++ [])) : kv_V y_Md_keep d B Q kc ks n S I 0 [(0, .ref a0), (1, .int v1)] [] := by
  refine kv_aload_n dd_Md_keep_0 rfl ?_
  refine kv_iconst (v := 0) dd_Md_keep_1 (by decide) ?_
  refine kv_putI fp_Md_67 (fun h => by cases h) dd_Md_keep_2 hO1 rfl rfl ?_
  refine kv_iload_n dd_Md_keep_5 rfl ?_
  exact kv_callS [.int v1] [] ls_Md_82 hM dd_Md_keep_6 rfl hdp (Nat.le_of_ble_eq_true rfl) hkk hkl (fun v n' S' I' hv => kv_loc [0, 1] rfl (K v n' S' I' hv))
theorem bl_Md_keep_9 {d : Nat} {B : kv_B} {Q : kv_Q} {kc ks n : Nat} {S : kv_SM} {I : kv_IM} {a0 : Nat} {v1 : Int32} {t0 : Int32} (Kt : ¬ t0 = 0 → kv_V y_Md_keep d B Q kc ks n S I 14 [(0, .ref a0), (1, .int v1)] []) (Kf : t0 = 0 → kv_V y_Md_keep d B Q kc ks n S I 12 [(0, .ref a0), (1, .int v1)] []) : kv_V y_Md_keep d B Q kc ks n S I 9 [(0, .ref a0), (1, .int v1)] [.int t0] := by
  exact kv_if_ne 14 dd_Md_keep_9 (by decide) (fun h => kv_loc [0, 1] rfl (Kt h)) (fun h => kv_loc [0, 1] rfl (Kf h))
theorem bl_Md_keep_12 {d : Nat} {B : kv_B} {Q : kv_Q} {kc ks n : Nat} {S : kv_SM} {I : kv_IM} {a0 : Nat} {v1 : Int32} (hQ : Q (some (.int ((-1)))) n S I) : kv_V y_Md_keep d B Q kc ks n S I 12 [(0, .ref a0), (1, .int v1)] [] := by
  refine kv_iconst (v := (-1)) dd_Md_keep_12 (by decide) ?_
  exact kv_end (v := some (.int ((-1)))) hQ ⟨dd_Md_keep_13, .int, rfl, rfl⟩
theorem bl_Md_keep_14 {d : Nat} {B : kv_B} {Q : kv_Q} {kc ks n : Nat} {S : kv_SM} {I : kv_IM} {a0 : Nat} {v1 : Int32} (K : kv_V y_Md_keep d B Q kc ks n S I 16 [(0, .ref a0), (1, .int v1), (2, .int 0)] []) : kv_V y_Md_keep d B Q kc ks n S I 14 [(0, .ref a0), (1, .int v1)] [] := by
  refine kv_iconst (v := 0) dd_Md_keep_14 (by decide) ?_
  refine kv_istore_n (L' := [(2, .int 0), (0, .ref a0), (1, .int v1)]) dd_Md_keep_15 (by decide) rfl ?_
  exact kv_loc [1, 2, 0] rfl K
theorem bl_Md_keep_16 {d : Nat} {B : kv_B} {Q : kv_Q} {kc ks n : Nat} {S : kv_SM} {I : kv_IM} {a0 : Nat} {v1 : Int32} {v2 : Int32} (Kt : 10 ≤ v2 → kv_V y_Md_keep d B Q kc ks n S I 37 [(0, .ref a0), (1, .int v1), (2, .int v2)] []) (Kf : ¬ 10 ≤ v2 → kv_V y_Md_keep d B Q kc ks n S I 22 [(0, .ref a0), (1, .int v1), (2, .int v2)] []) : kv_V y_Md_keep d B Q kc ks n S I 16 [(0, .ref a0), (1, .int v1), (2, .int v2)] [] := by
  refine kv_iload_n dd_Md_keep_16 rfl ?_
  refine kv_bipush (v := 10) dd_Md_keep_17 (by decide) ?_
  exact kv_icmp_ge 37 dd_Md_keep_19 (by decide) (fun h => kv_loc [0, 1, 2] rfl (Kt h)) (fun h => kv_loc [0, 1, 2] rfl (Kf h))
theorem bl_Md_keep_22 {d : Nat} {B : kv_B} {Q : kv_Q} {kc ks n : Nat} {S : kv_SM} {I : kv_IM} {a0 : Nat} {v1 : Int32} {v2 : Int32} {r1 : Nat → Option Nat} {q2 : Nat} {m3 : Nat} {j4 : Nat} (hO1 : S a0 = kO 6 r1) (hr2 : r1 20 = some q2) (hA3 : S q2 = kZ m3) (hi4 : v2 = nI j4 ∧ j4 < m3 ∧ m3 < 2 ^ 31) (Kt : (I q2 j4) = 0 → kv_V y_Md_keep d B Q kc ks n S I 37 [(0, .ref a0), (1, .int v1), (2, .int v2)] []) (Kf : ¬ (I q2 j4) = 0 → kv_V y_Md_keep d B Q kc ks n S I 31 [(0, .ref a0), (1, .int v1), (2, .int v2)] []) : kv_V y_Md_keep d B Q kc ks n S I 22 [(0, .ref a0), (1, .int v1), (2, .int v2)] [] := by
  refine kv_aload_n dd_Md_keep_22 rfl ?_
  refine kv_getR fl_Md_50 dd_Md_keep_23 hO1 hr2 ?_
  refine kv_iload_n dd_Md_keep_26 rfl ?_
  refine kv_zald j4 dd_Md_keep_27 hA3 hi4.1 hi4.2.1 hi4.2.2 ?_
  exact kv_if_eq 37 dd_Md_keep_28 (by decide) (fun h => kv_loc [0, 1, 2] rfl (Kt h)) (fun h => kv_loc [0, 1, 2] rfl (Kf h))
theorem bl_Md_keep_31 {d : Nat} {B : kv_B} {Q : kv_Q} {kc ks n : Nat} {S : kv_SM} {I : kv_IM} {a0 : Nat} {v1 : Int32} {v2 : Int32} (K : kv_V y_Md_keep d B Q kc ks n S I 16 [(0, .ref a0), (1, .int v1), (2, .int (v2 + 1))] []) : kv_V y_Md_keep d B Q kc ks n S I 31 [(0, .ref a0), (1, .int v1), (2, .int v2)] [] := by
  refine kv_iinc (v := v2 + 1) (L' := [(2, .int (v2 + 1)), (0, .ref a0), (1, .int v1)]) dd_Md_keep_31 rfl rfl (by decide) rfl ?_
  refine kv_goto 16 dd_Md_keep_34 (by decide) ?_
  exact kv_loc [1, 2, 0] rfl K
theorem bl_Md_keep_37 {d : Nat} {B : kv_B} {Q : kv_Q} {kc ks n : Nat} {S : kv_SM} {I : kv_IM} {a0 : Nat} {v1 : Int32} {v2 : Int32} (Kt : ¬ v2 = 10 → kv_V y_Md_keep d B Q kc ks n S I 46 [(0, .ref a0), (1, .int v1), (2, .int v2)] []) (Kf : v2 = 10 → kv_V y_Md_keep d B Q kc ks n S I 43 [(0, .ref a0), (1, .int v1), (2, .int v2)] []) : kv_V y_Md_keep d B Q kc ks n S I 37 [(0, .ref a0), (1, .int v1), (2, .int v2)] [] := by
  refine kv_iload_n dd_Md_keep_37 rfl ?_
  refine kv_bipush (v := 10) dd_Md_keep_38 (by decide) ?_
  exact kv_icmp_ne 46 dd_Md_keep_40 (by decide) (fun h => kv_loc [0, 1, 2] rfl (Kt h)) (fun h => kv_loc [0, 1, 2] rfl (Kf h))
theorem bl_Md_keep_43 {d : Nat} {B : kv_B} {Q : kv_Q} {kc ks n : Nat} {S : kv_SM} {I : kv_IM} {a0 : Nat} {v1 : Int32} {v2 : Int32} (hQ : Q (some (.int ((-2)))) n S I) : kv_V y_Md_keep d B Q kc ks n S I 43 [(0, .ref a0), (1, .int v1), (2, .int v2)] [] := by
  refine kv_bipush (v := (-2)) dd_Md_keep_43 (by decide) ?_
  exact kv_end (v := some (.int ((-2)))) hQ ⟨dd_Md_keep_45, .int, rfl, rfl⟩
theorem bl_Md_keep_46 {d : Nat} {B : kv_B} {Q : kv_Q} {kc ks n : Nat} {S : kv_SM} {I : kv_IM} {a0 : Nat} {v1 : Int32} {v2 : Int32} {r1 : Nat → Option Nat} {q2 : Nat} {dc kcc ksc : Nat} {Qy : kv_Q} (hO1 : S a0 = kO 6 r1) (hr2 : r1 10 = some q2) (hM : kv_T y_Md_layCuts dc kcc ksc B [.ref a0, .int v1, .ref q2] n S I Qy) (hdp : dc + 1 ≤ d) (hkk : kcc ≤ kc) (hkl : ksc ≤ ks) (K : ∀ v n' S' I', Qy v n' S' I' → kv_V y_Md_keep d B Q (kc - kcc) (ks - ksc) n' S' I' 56 [(0, .ref a0), (1, .int v1), (2, .int v2)] (v.toList ++ [.ref a0])) : kv_V y_Md_keep d B Q kc ks n S I 46 [(0, .ref a0), (1, .int v1), (2, .int v2)] [] := by
  refine kv_aload_n dd_Md_keep_46 rfl ?_
  refine kv_aload_n dd_Md_keep_47 rfl ?_
  refine kv_iload_n dd_Md_keep_48 rfl ?_
  refine kv_aload_n dd_Md_keep_49 rfl ?_
  refine kv_getR fl_Md_32 dd_Md_keep_50 hO1 hr2 ?_
  exact kv_callV [.int v1, .ref q2] [.ref a0] ls_Md_106 hO1 hM dd_Md_keep_53 rfl hdp (Nat.le_of_ble_eq_true rfl) hkk hkl (fun v n' S' I' hv => kv_loc [0, 1, 2] rfl (K v n' S' I' hv))
theorem bl_Md_keep_56 {d : Nat} {B : kv_B} {Q : kv_Q} {kc ks n : Nat} {S : kv_SM} {I : kv_IM} {a0 : Nat} {v1 : Int32} {v2 : Int32} {t0 : Int32} {t1 : Nat} {r1 : Nat → Option Nat} {r2 : Nat → Option Nat} (hO1 : S t1 = kO 6 r1) (hO2 : S a0 = kO 6 r2) (K : kv_V y_Md_keep d B Q kc ks n S (kv_up I t1 11 t0) 73 [(0, .ref a0), (1, .int v1), (2, .int v2), (3, .int ((kv_up I t1 11 t0) a0 16)), (4, .int ((kv_up I t1 11 t0) a0 15)), (5, .int 0)] []) : kv_V y_Md_keep d B Q kc ks n S I 56 [(0, .ref a0), (1, .int v1), (2, .int v2)] [.int t0, .ref t1] := by
  refine kv_putI fp_Md_110 (fun h => by cases h) dd_Md_keep_56 hO1 rfl rfl ?_
  refine kv_aload_n dd_Md_keep_59 rfl ?_
  refine kv_getI fl_Md_140 dd_Md_keep_60 hO2 ?_
  refine kv_istore_n (L' := [(3, .int ((kv_up I t1 11 t0) a0 16)), (0, .ref a0), (1, .int v1), (2, .int v2)]) dd_Md_keep_63 (by decide) rfl ?_
  refine kv_aload_n dd_Md_keep_64 rfl ?_
  refine kv_getI fl_Md_143 dd_Md_keep_65 hO2 ?_
  refine kv_istore (L' := [(4, .int ((kv_up I t1 11 t0) a0 15)), (3, .int ((kv_up I t1 11 t0) a0 16)), (0, .ref a0), (1, .int v1), (2, .int v2)]) dd_Md_keep_68 (by decide) rfl ?_
  refine kv_iconst (v := 0) dd_Md_keep_70 (by decide) ?_
  refine kv_istore (L' := [(5, .int 0), (4, .int ((kv_up I t1 11 t0) a0 15)), (3, .int ((kv_up I t1 11 t0) a0 16)), (0, .ref a0), (1, .int v1), (2, .int v2)]) dd_Md_keep_71 (by decide) rfl ?_
  exact kv_loc [3, 4, 5, 2, 1, 0] rfl K
theorem bl_Md_keep_73 {d : Nat} {B : kv_B} {Q : kv_Q} {kc ks n : Nat} {S : kv_SM} {I : kv_IM} {a0 : Nat} {v1 : Int32} {v2 : Int32} {v3 : Int32} {v4 : Int32} {v5 : Int32} {r1 : Nat → Option Nat} (hO1 : S a0 = kO 6 r1) (Kt : (I a0 11) ≤ v5 → kv_V y_Md_keep d B Q kc ks n S I 285 [(0, .ref a0), (1, .int v1), (2, .int v2), (3, .int v3), (4, .int v4), (5, .int v5)] []) (Kf : ¬ (I a0 11) ≤ v5 → kv_V y_Md_keep d B Q kc ks n S I 82 [(0, .ref a0), (1, .int v1), (2, .int v2), (3, .int v3), (4, .int v4), (5, .int v5)] []) : kv_V y_Md_keep d B Q kc ks n S I 73 [(0, .ref a0), (1, .int v1), (2, .int v2), (3, .int v3), (4, .int v4), (5, .int v5)] [] := by
  refine kv_iload dd_Md_keep_73 rfl ?_
  refine kv_aload_n dd_Md_keep_75 rfl ?_
  refine kv_getI fl_Md_110 dd_Md_keep_76 hO1 ?_
  exact kv_icmp_ge 285 dd_Md_keep_79 (by decide) (fun h => kv_loc [0, 1, 2, 3, 4, 5] rfl (Kt h)) (fun h => kv_loc [0, 1, 2, 3, 4, 5] rfl (Kf h))
theorem bl_Md_keep_82 {d : Nat} {B : kv_B} {Q : kv_Q} {kc ks n : Nat} {S : kv_SM} {I : kv_IM} {a0 : Nat} {v1 : Int32} {v2 : Int32} {v3 : Int32} {v4 : Int32} {v5 : Int32} {dc kcc ksc : Nat} {Qy : kv_Q} {r1 : Nat → Option Nat} (hO1 : S a0 = kO 6 r1) (hM : kv_T y_Md_find dc kcc ksc B [.ref a0, .int v1, .int v5] n S I Qy) (hdp : dc + 1 ≤ d) (hkk : kcc ≤ kc) (hkl : ksc ≤ ks) (K : ∀ v n' S' I', Qy v n' S' I' → kv_V y_Md_keep d B Q (kc - kcc) (ks - ksc) n' S' I' 89 [(0, .ref a0), (1, .int v1), (2, .int v2), (3, .int v3), (4, .int v4), (5, .int v5)] (v.toList ++ [])) : kv_V y_Md_keep d B Q kc ks n S I 82 [(0, .ref a0), (1, .int v1), (2, .int v2), (3, .int v3), (4, .int v4), (5, .int v5)] [] := by
  refine kv_aload_n dd_Md_keep_82 rfl ?_
  refine kv_iload_n dd_Md_keep_83 rfl ?_
  refine kv_iload dd_Md_keep_84 rfl ?_
  exact kv_callV [.int v1, .int v5] [] ls_Md_146 hO1 hM dd_Md_keep_86 rfl hdp (Nat.le_of_ble_eq_true rfl) hkk hkl (fun v n' S' I' hv => kv_loc [0, 1, 2, 3, 4, 5] rfl (K v n' S' I' hv))
theorem bl_Md_keep_89 {d : Nat} {B : kv_B} {Q : kv_Q} {kc ks n : Nat} {S : kv_SM} {I : kv_IM} {a0 : Nat} {v1 : Int32} {v2 : Int32} {v3 : Int32} {v4 : Int32} {v5 : Int32} {t0 : Int32} (Kt : 0 ≤ t0 → kv_V y_Md_keep d B Q kc ks n S I 253 [(0, .ref a0), (1, .int v1), (2, .int v2), (3, .int v3), (4, .int v4), (5, .int v5), (6, .int t0)] []) (Kf : ¬ 0 ≤ t0 → kv_V y_Md_keep d B Q kc ks n S I 96 [(0, .ref a0), (1, .int v1), (2, .int v2), (3, .int v3), (4, .int v4), (5, .int v5), (6, .int t0)] []) : kv_V y_Md_keep d B Q kc ks n S I 89 [(0, .ref a0), (1, .int v1), (2, .int v2), (3, .int v3), (4, .int v4), (5, .int v5)] [.int t0] := by
  refine kv_istore (L' := [(6, .int t0), (0, .ref a0), (1, .int v1), (2, .int v2), (3, .int v3), (4, .int v4), (5, .int v5)]) dd_Md_keep_89 (by decide) rfl ?_
  refine kv_iload dd_Md_keep_91 rfl ?_
  exact kv_if_ge 253 dd_Md_keep_93 (by decide) (fun h => kv_loc [1, 2, 3, 4, 5, 6, 0] rfl (Kt h)) (fun h => kv_loc [1, 2, 3, 4, 5, 6, 0] rfl (Kf h))
theorem bl_Md_keep_96 {d : Nat} {B : kv_B} {Q : kv_Q} {kc ks n : Nat} {S : kv_SM} {I : kv_IM} {a0 : Nat} {v1 : Int32} {v2 : Int32} {v3 : Int32} {v4 : Int32} {v5 : Int32} {v6 : Int32} {r1 : Nat → Option Nat} {q2 : Nat} {m3 : Nat} {j4 : Nat} {j5 : Nat} (hO1 : S a0 = kO 6 r1) (hr2 : r1 10 = some q2) (hA3 : S q2 = kI m3) (hi4 : v5 + 1 = nI j4 ∧ j4 < m3 ∧ m3 < 2 ^ 31) (hi5 : v5 = nI j5 ∧ j5 < m3 ∧ m3 < 2 ^ 31) (Kt : (I a0 16) = 300 → kv_V y_Md_keep d B Q kc ks n S I 138 [(0, .ref a0), (1, .int v1), (2, .int v2), (3, .int v3), (4, .int v4), (5, .int v5), (6, .int v6), (7, .int ((I q2 j4) - (I q2 j5)))] []) (Kf : ¬ (I a0 16) = 300 → kv_V y_Md_keep d B Q kc ks n S I 125 [(0, .ref a0), (1, .int v1), (2, .int v2), (3, .int v3), (4, .int v4), (5, .int v5), (6, .int v6), (7, .int ((I q2 j4) - (I q2 j5)))] []) : kv_V y_Md_keep d B Q kc ks n S I 96 [(0, .ref a0), (1, .int v1), (2, .int v2), (3, .int v3), (4, .int v4), (5, .int v5), (6, .int v6)] [] := by
  refine kv_aload_n dd_Md_keep_96 rfl ?_
  refine kv_getR fl_Md_32 dd_Md_keep_97 hO1 hr2 ?_
  refine kv_iload dd_Md_keep_100 rfl ?_
  refine kv_iconst (v := 1) dd_Md_keep_102 (by decide) ?_
  refine kv_iadd dd_Md_keep_103 ?_
  refine kv_iald j4 dd_Md_keep_104 hA3 hi4.1 hi4.2.1 hi4.2.2 ?_
  refine kv_aload_n dd_Md_keep_105 rfl ?_
  refine kv_getR fl_Md_32 dd_Md_keep_106 hO1 hr2 ?_
  refine kv_iload dd_Md_keep_109 rfl ?_
  refine kv_iald j5 dd_Md_keep_111 hA3 hi5.1 hi5.2.1 hi5.2.2 ?_
  refine kv_isub dd_Md_keep_112 ?_
  refine kv_istore (L' := [(7, .int ((I q2 j4) - (I q2 j5))), (0, .ref a0), (1, .int v1), (2, .int v2), (3, .int v3), (4, .int v4), (5, .int v5), (6, .int v6)]) dd_Md_keep_113 (by decide) rfl ?_
  refine kv_aload_n dd_Md_keep_115 rfl ?_
  refine kv_getI fl_Md_140 dd_Md_keep_116 hO1 ?_
  refine kv_sipush (v := 300) dd_Md_keep_119 (by decide) ?_
  exact kv_icmp_eq 138 dd_Md_keep_122 (by decide) (fun h => kv_loc [1, 2, 3, 4, 5, 6, 7, 0] rfl (Kt h)) (fun h => kv_loc [1, 2, 3, 4, 5, 6, 7, 0] rfl (Kf h))
theorem bl_Md_keep_125 {d : Nat} {B : kv_B} {Q : kv_Q} {kc ks n : Nat} {S : kv_SM} {I : kv_IM} {a0 : Nat} {v1 : Int32} {v2 : Int32} {v3 : Int32} {v4 : Int32} {v5 : Int32} {v6 : Int32} {v7 : Int32} {r1 : Nat → Option Nat} (hO1 : S a0 = kO 6 r1) (Kt : ((I a0 15) + v7) ≤ 6000 → kv_V y_Md_keep d B Q kc ks n S I 149 [(0, .ref a0), (1, .int v1), (2, .int v2), (3, .int v3), (4, .int v4), (5, .int v5), (6, .int v6), (7, .int v7)] []) (Kf : ¬ ((I a0 15) + v7) ≤ 6000 → kv_V y_Md_keep d B Q kc ks n S I 138 [(0, .ref a0), (1, .int v1), (2, .int v2), (3, .int v3), (4, .int v4), (5, .int v5), (6, .int v6), (7, .int v7)] []) : kv_V y_Md_keep d B Q kc ks n S I 125 [(0, .ref a0), (1, .int v1), (2, .int v2), (3, .int v3), (4, .int v4), (5, .int v5), (6, .int v6), (7, .int v7)] [] := by
  refine kv_aload_n dd_Md_keep_125 rfl ?_
  refine kv_getI fl_Md_143 dd_Md_keep_126 hO1 ?_
  refine kv_iload dd_Md_keep_129 rfl ?_
  refine kv_iadd dd_Md_keep_131 ?_
  refine kv_sipush (v := 6000) dd_Md_keep_132 (by decide) ?_
  exact kv_icmp_le 149 dd_Md_keep_135 (by decide) (fun h => kv_loc [0, 1, 2, 3, 4, 5, 6, 7] rfl (Kt h)) (fun h => kv_loc [0, 1, 2, 3, 4, 5, 6, 7] rfl (Kf h))
theorem bl_Md_keep_138 {d : Nat} {B : kv_B} {Q : kv_Q} {kc ks n : Nat} {S : kv_SM} {I : kv_IM} {a0 : Nat} {v1 : Int32} {v2 : Int32} {v3 : Int32} {v4 : Int32} {v5 : Int32} {v6 : Int32} {v7 : Int32} {dc kcc ksc : Nat} {Qy : kv_Q} {r1 : Nat → Option Nat} (hO1 : S a0 = kO 6 r1) (hM : kv_T y_Md_giveUp dc kcc ksc B [.ref a0, .int v2, .int v5, .int v3, .int v4] n S I Qy) (hdp : dc + 1 ≤ d) (hkk : kcc ≤ kc) (hkl : ksc ≤ ks) (K : ∀ v n' S' I', Qy v n' S' I' → kv_V y_Md_keep d B Q (kc - kcc) (ks - ksc) n' S' I' 148 [(0, .ref a0), (1, .int v1), (2, .int v2), (3, .int v3), (4, .int v4), (5, .int v5), (6, .int v6), (7, .int v7)] (v.toList ++ [])) : kv_V y_Md_keep d B Q kc ks n S I 138 [(0, .ref a0), (1, .int v1), (2, .int v2), (3, .int v3), (4, .int v4), (5, .int v5), (6, .int v6), (7, .int v7)] [] := by
  refine kv_aload_n dd_Md_keep_138 rfl ?_
  refine kv_iload_n dd_Md_keep_139 rfl ?_
  refine kv_iload dd_Md_keep_140 rfl ?_
  refine kv_iload_n dd_Md_keep_142 rfl ?_
  refine kv_iload dd_Md_keep_143 rfl ?_
  exact kv_callV [.int v2, .int v5, .int v3, .int v4] [] ls_Md_149 hO1 hM dd_Md_keep_145 rfl hdp (Nat.le_of_ble_eq_true rfl) hkk hkl (fun v n' S' I' hv => kv_loc [0, 1, 2, 3, 4, 5, 6, 7] rfl (K v n' S' I' hv))
theorem bl_Md_keep_148 {d : Nat} {B : kv_B} {Q : kv_Q} {kc ks n : Nat} {S : kv_SM} {I : kv_IM} {a0 : Nat} {v1 : Int32} {v2 : Int32} {v3 : Int32} {v4 : Int32} {v5 : Int32} {v6 : Int32} {v7 : Int32} {t0 : Int32} (hQ : Q (some (.int t0)) n S I) : kv_V y_Md_keep d B Q kc ks n S I 148 [(0, .ref a0), (1, .int v1), (2, .int v2), (3, .int v3), (4, .int v4), (5, .int v5), (6, .int v6), (7, .int v7)] [.int t0] := by
  exact kv_end (v := some (.int t0)) hQ ⟨dd_Md_keep_148, .int, rfl, rfl⟩
theorem bl_Md_keep_149 {d : Nat} {B : kv_B} {Q : kv_Q} {kc ks n : Nat} {S : kv_SM} {I : kv_IM} {a0 : Nat} {v1 : Int32} {v2 : Int32} {v3 : Int32} {v4 : Int32} {v5 : Int32} {v6 : Int32} {v7 : Int32} {r1 : Nat → Option Nat} {q2 : Nat} {m3 : Nat} {j4 : Nat} {q5 : Nat} {m6 : Nat} {j7 : Nat} {q8 : Nat} {m9 : Nat} {j10 : Nat} (hO1 : S a0 = kO 6 r1) (hr2 : r1 17 = some q2) (hA3 : S q2 = kI m3) (hi4 : I a0 16 = nI j4 ∧ j4 < m3 ∧ m3 < 2 ^ 31) (hr5 : r1 18 = some q5) (hA6 : S q5 = kI m6) (hi7 : I a0 16 = nI j7 ∧ j7 < m6 ∧ m6 < 2 ^ 31) (hr8 : r1 19 = some q8) (hA9 : S q8 = kI m9) (hi10 : I a0 16 = nI j10 ∧ j10 < m9 ∧ m9 < 2 ^ 31) (K : kv_V y_Md_keep d B Q kc ks n S (kv_up (kv_up (kv_up I q2 j4 (I a0 15)) q5 j7 v7) q8 j10 0) 186 [(0, .ref a0), (1, .int v1), (2, .int v2), (3, .int v3), (4, .int v4), (5, .int v5), (6, .int (I a0 16)), (7, .int v7), (8, .int 0)] []) : kv_V y_Md_keep d B Q kc ks n S I 149 [(0, .ref a0), (1, .int v1), (2, .int v2), (3, .int v3), (4, .int v4), (5, .int v5), (6, .int v6), (7, .int v7)] [] := by
  refine kv_aload_n dd_Md_keep_149 rfl ?_
  refine kv_getI fl_Md_140 dd_Md_keep_150 hO1 ?_
  refine kv_istore (L' := [(6, .int (I a0 16)), (0, .ref a0), (1, .int v1), (2, .int v2), (3, .int v3), (4, .int v4), (5, .int v5), (7, .int v7)]) dd_Md_keep_153 (by decide) rfl ?_
  refine kv_aload_n dd_Md_keep_155 rfl ?_
  refine kv_getR fl_Md_41 dd_Md_keep_156 hO1 hr2 ?_
  refine kv_iload dd_Md_keep_159 rfl ?_
  refine kv_aload_n dd_Md_keep_161 rfl ?_
  refine kv_getI fl_Md_143 dd_Md_keep_162 hO1 ?_
  refine kv_iast j4 dd_Md_keep_165 hA3 hi4.1 hi4.2.1 hi4.2.2 ?_
  refine kv_aload_n dd_Md_keep_166 rfl ?_
  refine kv_getR fl_Md_44 dd_Md_keep_167 hO1 hr5 ?_
  refine kv_iload dd_Md_keep_170 rfl ?_
  refine kv_iload dd_Md_keep_172 rfl ?_
  refine kv_iast j7 dd_Md_keep_174 hA6 hi7.1 hi7.2.1 hi7.2.2 ?_
  refine kv_aload_n dd_Md_keep_175 rfl ?_
  refine kv_getR fl_Md_47 dd_Md_keep_176 hO1 hr8 ?_
  refine kv_iload dd_Md_keep_179 rfl ?_
  refine kv_iconst (v := 0) dd_Md_keep_181 (by decide) ?_
  refine kv_iast j10 dd_Md_keep_182 hA9 hi10.1 hi10.2.1 hi10.2.2 ?_
  refine kv_iconst (v := 0) dd_Md_keep_183 (by decide) ?_
  refine kv_istore (L' := [(8, .int 0), (6, .int (I a0 16)), (0, .ref a0), (1, .int v1), (2, .int v2), (3, .int v3), (4, .int v4), (5, .int v5), (7, .int v7)]) dd_Md_keep_184 (by decide) rfl ?_
  exact kv_loc [2, 3, 4, 5, 6, 7, 1, 8, 0] rfl K
theorem bl_Md_keep_186 {d : Nat} {B : kv_B} {Q : kv_Q} {kc ks n : Nat} {S : kv_SM} {I : kv_IM} {a0 : Nat} {v1 : Int32} {v2 : Int32} {v3 : Int32} {v4 : Int32} {v5 : Int32} {v6 : Int32} {v7 : Int32} {v8 : Int32} (Kt : v7 ≤ v8 → kv_V y_Md_keep d B Q kc ks n S I 232 [(0, .ref a0), (1, .int v1), (2, .int v2), (3, .int v3), (4, .int v4), (5, .int v5), (6, .int v6), (7, .int v7), (8, .int v8)] []) (Kf : ¬ v7 ≤ v8 → kv_V y_Md_keep d B Q kc ks n S I 193 [(0, .ref a0), (1, .int v1), (2, .int v2), (3, .int v3), (4, .int v4), (5, .int v5), (6, .int v6), (7, .int v7), (8, .int v8)] []) : kv_V y_Md_keep d B Q kc ks n S I 186 [(0, .ref a0), (1, .int v1), (2, .int v2), (3, .int v3), (4, .int v4), (5, .int v5), (6, .int v6), (7, .int v7), (8, .int v8)] [] := by
  refine kv_iload dd_Md_keep_186 rfl ?_
  refine kv_iload dd_Md_keep_188 rfl ?_
  exact kv_icmp_ge 232 dd_Md_keep_190 (by decide) (fun h => kv_loc [0, 1, 2, 3, 4, 5, 6, 7, 8] rfl (Kt h)) (fun h => kv_loc [0, 1, 2, 3, 4, 5, 6, 7, 8] rfl (Kf h))
theorem bl_Md_keep_193 {d : Nat} {B : kv_B} {Q : kv_Q} {kc ks n : Nat} {S : kv_SM} {I : kv_IM} {a0 : Nat} {v1 : Int32} {v2 : Int32} {v3 : Int32} {v4 : Int32} {v5 : Int32} {v6 : Int32} {v7 : Int32} {v8 : Int32} {r1 : Nat → Option Nat} {q2 : Nat} {q3 : Nat} {q4 : Nat} {m5 : Nat} {j6 : Nat} {m7 : Nat} {j8 : Nat} {m9 : Nat} {j10 : Nat} (hO1 : S a0 = kO 6 r1) (hr2 : r1 14 = some q2) (hr3 : r1 1 = some q3) (hr4 : r1 10 = some q4) (hA5 : S q4 = kI m5) (hi6 : v5 = nI j6 ∧ j6 < m5 ∧ m5 < 2 ^ 31) (hA7 : S q3 = kI m7) (hi8 : ((1500 * v1) + (I q4 j6)) + v8 = nI j8 ∧ j8 < m7 ∧ m7 < 2 ^ 31) (hA9 : S q2 = kI m9) (hi10 : (I a0 15) + v8 = nI j10 ∧ j10 < m9 ∧ m9 < 2 ^ 31) (K : kv_V y_Md_keep d B Q kc ks n S (kv_up I q2 j10 (I q3 j8)) 186 [(0, .ref a0), (1, .int v1), (2, .int v2), (3, .int v3), (4, .int v4), (5, .int v5), (6, .int v6), (7, .int v7), (8, .int (v8 + 1))] []) : kv_V y_Md_keep d B Q kc ks n S I 193 [(0, .ref a0), (1, .int v1), (2, .int v2), (3, .int v3), (4, .int v4), (5, .int v5), (6, .int v6), (7, .int v7), (8, .int v8)] [] := by
  refine kv_aload_n dd_Md_keep_193 rfl ?_
  refine kv_getR fl_Md_38 dd_Md_keep_194 hO1 hr2 ?_
  refine kv_aload_n dd_Md_keep_197 rfl ?_
  refine kv_getI fl_Md_143 dd_Md_keep_198 hO1 ?_
  refine kv_iload dd_Md_keep_201 rfl ?_
  refine kv_iadd dd_Md_keep_203 ?_
  refine kv_aload_n dd_Md_keep_204 rfl ?_
  refine kv_getR fl_Md_7 dd_Md_keep_205 hO1 hr3 ?_
  refine kv_sipush (v := 1500) dd_Md_keep_208 (by decide) ?_
  refine kv_iload_n dd_Md_keep_211 rfl ?_
  refine kv_imul dd_Md_keep_212 ?_
  refine kv_aload_n dd_Md_keep_213 rfl ?_
  refine kv_getR fl_Md_32 dd_Md_keep_214 hO1 hr4 ?_
  refine kv_iload dd_Md_keep_217 rfl ?_
  refine kv_iald j6 dd_Md_keep_219 hA5 hi6.1 hi6.2.1 hi6.2.2 ?_
  refine kv_iadd dd_Md_keep_220 ?_
  refine kv_iload dd_Md_keep_221 rfl ?_
  refine kv_iadd dd_Md_keep_223 ?_
  refine kv_iald j8 dd_Md_keep_224 hA7 hi8.1 hi8.2.1 hi8.2.2 ?_
  refine kv_iast j10 dd_Md_keep_225 hA9 hi10.1 hi10.2.1 hi10.2.2 ?_
  refine kv_iinc (v := v8 + 1) (L' := [(8, .int (v8 + 1)), (0, .ref a0), (1, .int v1), (2, .int v2), (3, .int v3), (4, .int v4), (5, .int v5), (6, .int v6), (7, .int v7)]) dd_Md_keep_226 rfl rfl (by decide) rfl ?_
  refine kv_goto 186 dd_Md_keep_229 (by decide) ?_
  exact kv_loc [1, 2, 3, 4, 5, 6, 7, 8, 0] rfl K
theorem bl_Md_keep_232 {d : Nat} {B : kv_B} {Q : kv_Q} {kc ks n : Nat} {S : kv_SM} {I : kv_IM} {a0 : Nat} {v1 : Int32} {v2 : Int32} {v3 : Int32} {v4 : Int32} {v5 : Int32} {v6 : Int32} {v7 : Int32} {v8 : Int32} {r1 : Nat → Option Nat} (hO1 : S a0 = kO 6 r1) (K : kv_V y_Md_keep d B Q kc ks n S (kv_up (kv_up I a0 15 ((I a0 15) + v7)) a0 16 (((kv_up I a0 15 ((I a0 15) + v7)) a0 16) + 1)) 253 [(0, .ref a0), (1, .int v1), (2, .int v2), (3, .int v3), (4, .int v4), (5, .int v5), (6, .int v6)] []) : kv_V y_Md_keep d B Q kc ks n S I 232 [(0, .ref a0), (1, .int v1), (2, .int v2), (3, .int v3), (4, .int v4), (5, .int v5), (6, .int v6), (7, .int v7), (8, .int v8)] [] := by
  refine kv_aload_n dd_Md_keep_232 rfl ?_
  refine kv_dup dd_Md_keep_233 rfl ?_
  refine kv_getI fl_Md_143 dd_Md_keep_234 hO1 ?_
  refine kv_iload dd_Md_keep_237 rfl ?_
  refine kv_iadd dd_Md_keep_239 ?_
  refine kv_putI fp_Md_143 (fun h => by cases h) dd_Md_keep_240 hO1 rfl rfl ?_
  refine kv_aload_n dd_Md_keep_243 rfl ?_
  refine kv_dup dd_Md_keep_244 rfl ?_
  refine kv_getI fl_Md_140 dd_Md_keep_245 hO1 ?_
  refine kv_iconst (v := 1) dd_Md_keep_248 (by decide) ?_
  refine kv_iadd dd_Md_keep_249 ?_
  refine kv_putI fp_Md_140 (fun h => by cases h) dd_Md_keep_250 hO1 rfl rfl ?_
  exact kv_loc [0, 1, 2, 3, 4, 5, 6] rfl K
theorem bl_Md_keep_253 {d : Nat} {B : kv_B} {Q : kv_Q} {kc ks n : Nat} {S : kv_SM} {I : kv_IM} {a0 : Nat} {v1 : Int32} {v2 : Int32} {v3 : Int32} {v4 : Int32} {v5 : Int32} {v6 : Int32} {r1 : Nat → Option Nat} {q2 : Nat} {m3 : Nat} {j4 : Nat} {q5 : Nat} {m6 : Nat} {j7 : Nat} (hO1 : S a0 = kO 6 r1) (hr2 : r1 19 = some q2) (hA3 : S q2 = kI m3) (hi4 : v6 = nI j4 ∧ j4 < m3 ∧ m3 < 2 ^ 31) (hr5 : r1 22 = some q5) (hA6 : S q5 = kI m6) (hi7 : (1500 * v2) + v5 = nI j7 ∧ j7 < m6 ∧ m6 < 2 ^ 31) (K : kv_V y_Md_keep d B Q kc ks n S (kv_up (kv_up I q2 j4 ((I q2 j4) + 1)) q5 j7 v6) 73 [(0, .ref a0), (1, .int v1), (2, .int v2), (3, .int v3), (4, .int v4), (5, .int (v5 + 1))] []) : kv_V y_Md_keep d B Q kc ks n S I 253 [(0, .ref a0), (1, .int v1), (2, .int v2), (3, .int v3), (4, .int v4), (5, .int v5), (6, .int v6)] [] := by
  refine kv_aload_n dd_Md_keep_253 rfl ?_
  refine kv_getR fl_Md_47 dd_Md_keep_254 hO1 hr2 ?_
  refine kv_iload dd_Md_keep_257 rfl ?_
  refine kv_dup2 dd_Md_keep_259 rfl rfl ?_
  refine kv_iald j4 dd_Md_keep_260 hA3 hi4.1 hi4.2.1 hi4.2.2 ?_
  refine kv_iconst (v := 1) dd_Md_keep_261 (by decide) ?_
  refine kv_iadd dd_Md_keep_262 ?_
  refine kv_iast j4 dd_Md_keep_263 hA3 hi4.1 hi4.2.1 hi4.2.2 ?_
  refine kv_aload_n dd_Md_keep_264 rfl ?_
  refine kv_getR fl_Md_57 dd_Md_keep_265 hO1 hr5 ?_
  refine kv_sipush (v := 1500) dd_Md_keep_268 (by decide) ?_
  refine kv_iload_n dd_Md_keep_271 rfl ?_
  refine kv_imul dd_Md_keep_272 ?_
  refine kv_iload dd_Md_keep_273 rfl ?_
  refine kv_iadd dd_Md_keep_275 ?_
  refine kv_iload dd_Md_keep_276 rfl ?_
  refine kv_iast j7 dd_Md_keep_278 hA6 hi7.1 hi7.2.1 hi7.2.2 ?_
  refine kv_iinc (v := v5 + 1) (L' := [(5, .int (v5 + 1)), (0, .ref a0), (1, .int v1), (2, .int v2), (3, .int v3), (4, .int v4), (6, .int v6)]) dd_Md_keep_279 rfl rfl (by decide) rfl ?_
  refine kv_goto 73 dd_Md_keep_282 (by decide) ?_
  exact kv_loc [1, 2, 3, 4, 5, 0] rfl K
theorem bl_Md_keep_285 {d : Nat} {B : kv_B} {Q : kv_Q} {kc ks n : Nat} {S : kv_SM} {I : kv_IM} {a0 : Nat} {v1 : Int32} {v2 : Int32} {v3 : Int32} {v4 : Int32} {v5 : Int32} {r1 : Nat → Option Nat} {q2 : Nat} {m3 : Nat} {j4 : Nat} {q5 : Nat} {m6 : Nat} {j7 : Nat} (hO1 : S a0 = kO 6 r1) (hr2 : r1 20 = some q2) (hA3 : S q2 = kZ m3) (hi4 : v2 = nI j4 ∧ j4 < m3 ∧ m3 < 2 ^ 31) (hr5 : r1 21 = some q5) (hA6 : S q5 = kI m6) (hi7 : v2 = nI j7 ∧ j7 < m6 ∧ m6 < 2 ^ 31) (hQ : Q (some (.int v2)) n S (kv_up (kv_up I q2 j4 1) q5 j7 ((kv_up I q2 j4 1) a0 11))) : kv_V y_Md_keep d B Q kc ks n S I 285 [(0, .ref a0), (1, .int v1), (2, .int v2), (3, .int v3), (4, .int v4), (5, .int v5)] [] := by
  refine kv_aload_n dd_Md_keep_285 rfl ?_
  refine kv_getR fl_Md_50 dd_Md_keep_286 hO1 hr2 ?_
  refine kv_iload_n dd_Md_keep_289 rfl ?_
  refine kv_iconst (v := 1) dd_Md_keep_290 (by decide) ?_
  refine kv_zast j4 (by decide) dd_Md_keep_291 hA3 hi4.1 hi4.2.1 hi4.2.2 ?_
  refine kv_aload_n dd_Md_keep_292 rfl ?_
  refine kv_getR fl_Md_54 dd_Md_keep_293 hO1 hr5 ?_
  refine kv_iload_n dd_Md_keep_296 rfl ?_
  refine kv_aload_n dd_Md_keep_297 rfl ?_
  refine kv_getI fl_Md_110 dd_Md_keep_298 hO1 ?_
  refine kv_iast j7 dd_Md_keep_301 hA6 hi7.1 hi7.2.1 hi7.2.2 ?_
  refine kv_iload_n dd_Md_keep_302 rfl ?_
  exact kv_end (v := some (.int v2)) hQ ⟨dd_Md_keep_303, .int, rfl, rfl⟩
theorem bl_Md_find_0 {d : Nat} {B : kv_B} {Q : kv_Q} {kc ks n : Nat} {S : kv_SM} {I : kv_IM} {a0 : Nat} {v1 : Int32} {v2 : Int32} {r1 : Nat → Option Nat} {q2 : Nat} {m3 : Nat} {j4 : Nat} {j5 : Nat} (hO1 : S a0 = kO 6 r1) (hr2 : r1 10 = some q2) (hA3 : S q2 = kI m3) (hi4 : v2 + 1 = nI j4 ∧ j4 < m3 ∧ m3 < 2 ^ 31) (hi5 : v2 = nI j5 ∧ j5 < m3 ∧ m3 < 2 ^ 31) (K : kv_V y_Md_find d B Q kc ks n S I 19 [(0, .ref a0), (1, .int v1), (2, .int v2), (3, .int ((I q2 j4) - (I q2 j5))), (4, .int 0)] []) : kv_V y_Md_find d B Q kc ks n S I 0 [(0, .ref a0), (1, .int v1), (2, .int v2)] [] := by
  refine kv_aload_n dd_Md_find_0 rfl ?_
  refine kv_getR fl_Md_32 dd_Md_find_1 hO1 hr2 ?_
  refine kv_iload_n dd_Md_find_4 rfl ?_
  refine kv_iconst (v := 1) dd_Md_find_5 (by decide) ?_
  refine kv_iadd dd_Md_find_6 ?_
  refine kv_iald j4 dd_Md_find_7 hA3 hi4.1 hi4.2.1 hi4.2.2 ?_
  refine kv_aload_n dd_Md_find_8 rfl ?_
  refine kv_getR fl_Md_32 dd_Md_find_9 hO1 hr2 ?_
  refine kv_iload_n dd_Md_find_12 rfl ?_
  refine kv_iald j5 dd_Md_find_13 hA3 hi5.1 hi5.2.1 hi5.2.2 ?_
  refine kv_isub dd_Md_find_14 ?_
  refine kv_istore_n (L' := [(3, .int ((I q2 j4) - (I q2 j5))), (0, .ref a0), (1, .int v1), (2, .int v2)]) dd_Md_find_15 (by decide) rfl ?_
  refine kv_iconst (v := 0) dd_Md_find_16 (by decide) ?_
  refine kv_istore (L' := [(4, .int 0), (3, .int ((I q2 j4) - (I q2 j5))), (0, .ref a0), (1, .int v1), (2, .int v2)]) dd_Md_find_17 (by decide) rfl ?_
  exact kv_loc [2, 3, 4, 1, 0] rfl K
theorem bl_Md_find_19 {d : Nat} {B : kv_B} {Q : kv_Q} {kc ks n : Nat} {S : kv_SM} {I : kv_IM} {a0 : Nat} {v1 : Int32} {v2 : Int32} {v3 : Int32} {v4 : Int32} {r1 : Nat → Option Nat} (hO1 : S a0 = kO 6 r1) (Kt : (I a0 16) ≤ v4 → kv_V y_Md_find d B Q kc ks n S I 82 [(0, .ref a0), (1, .int v1), (2, .int v2), (3, .int v3), (4, .int v4)] []) (Kf : ¬ (I a0 16) ≤ v4 → kv_V y_Md_find d B Q kc ks n S I 28 [(0, .ref a0), (1, .int v1), (2, .int v2), (3, .int v3), (4, .int v4)] []) : kv_V y_Md_find d B Q kc ks n S I 19 [(0, .ref a0), (1, .int v1), (2, .int v2), (3, .int v3), (4, .int v4)] [] := by
  refine kv_iload dd_Md_find_19 rfl ?_
  refine kv_aload_n dd_Md_find_21 rfl ?_
  refine kv_getI fl_Md_140 dd_Md_find_22 hO1 ?_
  exact kv_icmp_ge 82 dd_Md_find_25 (by decide) (fun h => kv_loc [0, 1, 2, 3, 4] rfl (Kt h)) (fun h => kv_loc [0, 1, 2, 3, 4] rfl (Kf h))
theorem bl_Md_find_28 {d : Nat} {B : kv_B} {Q : kv_Q} {kc ks n : Nat} {S : kv_SM} {I : kv_IM} {a0 : Nat} {v1 : Int32} {v2 : Int32} {v3 : Int32} {v4 : Int32} {r1 : Nat → Option Nat} {q2 : Nat} {m3 : Nat} {j4 : Nat} (hO1 : S a0 = kO 6 r1) (hr2 : r1 18 = some q2) (hA3 : S q2 = kI m3) (hi4 : v4 = nI j4 ∧ j4 < m3 ∧ m3 < 2 ^ 31) (Kt : ¬ (I q2 j4) = v3 → kv_V y_Md_find d B Q kc ks n S I 76 [(0, .ref a0), (1, .int v1), (2, .int v2), (3, .int v3), (4, .int v4)] []) (Kf : (I q2 j4) = v3 → kv_V y_Md_find d B Q kc ks n S I 39 [(0, .ref a0), (1, .int v1), (2, .int v2), (3, .int v3), (4, .int v4)] []) : kv_V y_Md_find d B Q kc ks n S I 28 [(0, .ref a0), (1, .int v1), (2, .int v2), (3, .int v3), (4, .int v4)] [] := by
  refine kv_aload_n dd_Md_find_28 rfl ?_
  refine kv_getR fl_Md_44 dd_Md_find_29 hO1 hr2 ?_
  refine kv_iload dd_Md_find_32 rfl ?_
  refine kv_iald j4 dd_Md_find_34 hA3 hi4.1 hi4.2.1 hi4.2.2 ?_
  refine kv_iload_n dd_Md_find_35 rfl ?_
  exact kv_icmp_ne 76 dd_Md_find_36 (by decide) (fun h => kv_loc [0, 1, 2, 3, 4] rfl (Kt h)) (fun h => kv_loc [0, 1, 2, 3, 4] rfl (Kf h))
theorem bl_Md_find_39 {d : Nat} {B : kv_B} {Q : kv_Q} {kc ks n : Nat} {S : kv_SM} {I : kv_IM} {a0 : Nat} {v1 : Int32} {v2 : Int32} {v3 : Int32} {v4 : Int32} {r1 : Nat → Option Nat} {q2 : Nat} {q3 : Nat} {m4 : Nat} {j5 : Nat} {q6 : Nat} {q7 : Nat} {m8 : Nat} {j9 : Nat} {dc kcc ksc : Nat} {Qy : kv_Q} (hO1 : S a0 = kO 6 r1) (hr2 : r1 14 = some q2) (hr3 : r1 17 = some q3) (hA4 : S q3 = kI m4) (hi5 : v4 = nI j5 ∧ j5 < m4 ∧ m4 < 2 ^ 31) (hr6 : r1 1 = some q6) (hr7 : r1 10 = some q7) (hA8 : S q7 = kI m8) (hi9 : v2 = nI j9 ∧ j9 < m8 ∧ m8 < 2 ^ 31) (hM : kv_T y_Md_isSame dc kcc ksc B [.ref q2, .int (I q3 j5), .ref q6, .int ((1500 * v1) + (I q7 j9)), .int v3] n S I Qy) (hdp : dc + 1 ≤ d) (hkk : kcc ≤ kc) (hkl : ksc ≤ ks) (K : ∀ v n' S' I', Qy v n' S' I' → kv_V y_Md_find d B Q (kc - kcc) (ks - ksc) n' S' I' 70 [(0, .ref a0), (1, .int v1), (2, .int v2), (3, .int v3), (4, .int v4)] (v.toList ++ [])) : kv_V y_Md_find d B Q kc ks n S I 39 [(0, .ref a0), (1, .int v1), (2, .int v2), (3, .int v3), (4, .int v4)] [] := by
  refine kv_aload_n dd_Md_find_39 rfl ?_
  refine kv_getR fl_Md_38 dd_Md_find_40 hO1 hr2 ?_
  refine kv_aload_n dd_Md_find_43 rfl ?_
  refine kv_getR fl_Md_41 dd_Md_find_44 hO1 hr3 ?_
  refine kv_iload dd_Md_find_47 rfl ?_
  refine kv_iald j5 dd_Md_find_49 hA4 hi5.1 hi5.2.1 hi5.2.2 ?_
  refine kv_aload_n dd_Md_find_50 rfl ?_
  refine kv_getR fl_Md_7 dd_Md_find_51 hO1 hr6 ?_
  refine kv_sipush (v := 1500) dd_Md_find_54 (by decide) ?_
  refine kv_iload_n dd_Md_find_57 rfl ?_
  refine kv_imul dd_Md_find_58 ?_
  refine kv_aload_n dd_Md_find_59 rfl ?_
  refine kv_getR fl_Md_32 dd_Md_find_60 hO1 hr7 ?_
  refine kv_iload_n dd_Md_find_63 rfl ?_
  refine kv_iald j9 dd_Md_find_64 hA8 hi9.1 hi9.2.1 hi9.2.2 ?_
  refine kv_iadd dd_Md_find_65 ?_
  refine kv_iload_n dd_Md_find_66 rfl ?_
  exact kv_callS [.ref q2, .int (I q3 j5), .ref q6, .int ((1500 * v1) + (I q7 j9)), .int v3] [] ls_Md_129 hM dd_Md_find_67 rfl hdp (Nat.le_of_ble_eq_true rfl) hkk hkl (fun v n' S' I' hv => kv_loc [0, 1, 2, 3, 4] rfl (K v n' S' I' hv))
theorem bl_Md_find_70 {d : Nat} {B : kv_B} {Q : kv_Q} {kc ks n : Nat} {S : kv_SM} {I : kv_IM} {a0 : Nat} {v1 : Int32} {v2 : Int32} {v3 : Int32} {v4 : Int32} {t0 : Int32} (Kt : t0 = 0 → kv_V y_Md_find d B Q kc ks n S I 76 [(0, .ref a0), (1, .int v1), (2, .int v2), (3, .int v3), (4, .int v4)] []) (Kf : ¬ t0 = 0 → kv_V y_Md_find d B Q kc ks n S I 73 [(0, .ref a0), (1, .int v1), (2, .int v2), (3, .int v3), (4, .int v4)] []) : kv_V y_Md_find d B Q kc ks n S I 70 [(0, .ref a0), (1, .int v1), (2, .int v2), (3, .int v3), (4, .int v4)] [.int t0] := by
  exact kv_if_eq 76 dd_Md_find_70 (by decide) (fun h => kv_loc [0, 1, 2, 3, 4] rfl (Kt h)) (fun h => kv_loc [0, 1, 2, 3, 4] rfl (Kf h))
theorem bl_Md_find_73 {d : Nat} {B : kv_B} {Q : kv_Q} {kc ks n : Nat} {S : kv_SM} {I : kv_IM} {a0 : Nat} {v1 : Int32} {v2 : Int32} {v3 : Int32} {v4 : Int32} (hQ : Q (some (.int v4)) n S I) : kv_V y_Md_find d B Q kc ks n S I 73 [(0, .ref a0), (1, .int v1), (2, .int v2), (3, .int v3), (4, .int v4)] [] := by
  refine kv_iload dd_Md_find_73 rfl ?_
  exact kv_end (v := some (.int v4)) hQ ⟨dd_Md_find_75, .int, rfl, rfl⟩
theorem bl_Md_find_76 {d : Nat} {B : kv_B} {Q : kv_Q} {kc ks n : Nat} {S : kv_SM} {I : kv_IM} {a0 : Nat} {v1 : Int32} {v2 : Int32} {v3 : Int32} {v4 : Int32} (K : kv_V y_Md_find d B Q kc ks n S I 19 [(0, .ref a0), (1, .int v1), (2, .int v2), (3, .int v3), (4, .int (v4 + 1))] []) : kv_V y_Md_find d B Q kc ks n S I 76 [(0, .ref a0), (1, .int v1), (2, .int v2), (3, .int v3), (4, .int v4)] [] := by
  refine kv_iinc (v := v4 + 1) (L' := [(4, .int (v4 + 1)), (0, .ref a0), (1, .int v1), (2, .int v2), (3, .int v3)]) dd_Md_find_76 rfl rfl (by decide) rfl ?_
  refine kv_goto 19 dd_Md_find_79 (by decide) ?_
  exact kv_loc [1, 2, 3, 4, 0] rfl K
theorem bl_Md_find_82 {d : Nat} {B : kv_B} {Q : kv_Q} {kc ks n : Nat} {S : kv_SM} {I : kv_IM} {a0 : Nat} {v1 : Int32} {v2 : Int32} {v3 : Int32} {v4 : Int32} (hQ : Q (some (.int ((-1)))) n S I) : kv_V y_Md_find d B Q kc ks n S I 82 [(0, .ref a0), (1, .int v1), (2, .int v2), (3, .int v3), (4, .int v4)] [] := by
  refine kv_iconst (v := (-1)) dd_Md_find_82 (by decide) ?_
  exact kv_end (v := some (.int ((-1)))) hQ ⟨dd_Md_find_83, .int, rfl, rfl⟩
theorem bl_Md_giveUp_0 {d : Nat} {B : kv_B} {Q : kv_Q} {kc ks n : Nat} {S : kv_SM} {I : kv_IM} {a0 : Nat} {v1 : Int32} {v2 : Int32} {v3 : Int32} {v4 : Int32} (K : kv_V y_Md_giveUp d B Q kc ks n S I 3 [(0, .ref a0), (1, .int v1), (2, .int v2), (3, .int v3), (4, .int v4), (5, .int 0)] []) : kv_V y_Md_giveUp d B Q kc ks n S I 0 [(0, .ref a0), (1, .int v1), (2, .int v2), (3, .int v3), (4, .int v4)] [] := by
  refine kv_iconst (v := 0) dd_Md_giveUp_0 (by decide) ?_
  refine kv_istore (L' := [(5, .int 0), (0, .ref a0), (1, .int v1), (2, .int v2), (3, .int v3), (4, .int v4)]) dd_Md_giveUp_1 (by decide) rfl ?_
  exact kv_loc [1, 2, 3, 4, 5, 0] rfl K
theorem bl_Md_giveUp_3 {d : Nat} {B : kv_B} {Q : kv_Q} {kc ks n : Nat} {S : kv_SM} {I : kv_IM} {a0 : Nat} {v1 : Int32} {v2 : Int32} {v3 : Int32} {v4 : Int32} {v5 : Int32} (Kt : v2 ≤ v5 → kv_V y_Md_giveUp d B Q kc ks n S I 37 [(0, .ref a0), (1, .int v1), (2, .int v2), (3, .int v3), (4, .int v4), (5, .int v5)] []) (Kf : ¬ v2 ≤ v5 → kv_V y_Md_giveUp d B Q kc ks n S I 9 [(0, .ref a0), (1, .int v1), (2, .int v2), (3, .int v3), (4, .int v4), (5, .int v5)] []) : kv_V y_Md_giveUp d B Q kc ks n S I 3 [(0, .ref a0), (1, .int v1), (2, .int v2), (3, .int v3), (4, .int v4), (5, .int v5)] [] := by
  refine kv_iload dd_Md_giveUp_3 rfl ?_
  refine kv_iload_n dd_Md_giveUp_5 rfl ?_
  exact kv_icmp_ge 37 dd_Md_giveUp_6 (by decide) (fun h => kv_loc [0, 1, 2, 3, 4, 5] rfl (Kt h)) (fun h => kv_loc [0, 1, 2, 3, 4, 5] rfl (Kf h))
theorem bl_Md_giveUp_9 {d : Nat} {B : kv_B} {Q : kv_Q} {kc ks n : Nat} {S : kv_SM} {I : kv_IM} {a0 : Nat} {v1 : Int32} {v2 : Int32} {v3 : Int32} {v4 : Int32} {v5 : Int32} {r1 : Nat → Option Nat} {q2 : Nat} {q3 : Nat} {m4 : Nat} {j5 : Nat} {m6 : Nat} {j7 : Nat} (hO1 : S a0 = kO 6 r1) (hr2 : r1 19 = some q2) (hr3 : r1 22 = some q3) (hA4 : S q3 = kI m4) (hi5 : (1500 * v1) + v5 = nI j5 ∧ j5 < m4 ∧ m4 < 2 ^ 31) (hA6 : S q2 = kI m6) (hi7 : I q3 j5 = nI j7 ∧ j7 < m6 ∧ m6 < 2 ^ 31) (K : kv_V y_Md_giveUp d B Q kc ks n S (kv_up I q2 j7 ((I q2 j7) - 1)) 3 [(0, .ref a0), (1, .int v1), (2, .int v2), (3, .int v3), (4, .int v4), (5, .int (v5 + 1))] []) : kv_V y_Md_giveUp d B Q kc ks n S I 9 [(0, .ref a0), (1, .int v1), (2, .int v2), (3, .int v3), (4, .int v4), (5, .int v5)] [] := by
  refine kv_aload_n dd_Md_giveUp_9 rfl ?_
  refine kv_getR fl_Md_47 dd_Md_giveUp_10 hO1 hr2 ?_
  refine kv_aload_n dd_Md_giveUp_13 rfl ?_
  refine kv_getR fl_Md_57 dd_Md_giveUp_14 hO1 hr3 ?_
  refine kv_sipush (v := 1500) dd_Md_giveUp_17 (by decide) ?_
  refine kv_iload_n dd_Md_giveUp_20 rfl ?_
  refine kv_imul dd_Md_giveUp_21 ?_
  refine kv_iload dd_Md_giveUp_22 rfl ?_
  refine kv_iadd dd_Md_giveUp_24 ?_
  refine kv_iald j5 dd_Md_giveUp_25 hA4 hi5.1 hi5.2.1 hi5.2.2 ?_
  refine kv_dup2 dd_Md_giveUp_26 rfl rfl ?_
  refine kv_iald j7 dd_Md_giveUp_27 hA6 hi7.1 hi7.2.1 hi7.2.2 ?_
  refine kv_iconst (v := 1) dd_Md_giveUp_28 (by decide) ?_
  refine kv_isub dd_Md_giveUp_29 ?_
  refine kv_iast j7 dd_Md_giveUp_30 hA6 hi7.1 hi7.2.1 hi7.2.2 ?_
  refine kv_iinc (v := v5 + 1) (L' := [(5, .int (v5 + 1)), (0, .ref a0), (1, .int v1), (2, .int v2), (3, .int v3), (4, .int v4)]) dd_Md_giveUp_31 rfl rfl (by decide) rfl ?_
  refine kv_goto 3 dd_Md_giveUp_34 (by decide) ?_
  exact kv_loc [1, 2, 3, 4, 5, 0] rfl K
theorem bl_Md_giveUp_37 {d : Nat} {B : kv_B} {Q : kv_Q} {kc ks n : Nat} {S : kv_SM} {I : kv_IM} {a0 : Nat} {v1 : Int32} {v2 : Int32} {v3 : Int32} {v4 : Int32} {v5 : Int32} {r1 : Nat → Option Nat} (hO1 : S a0 = kO 6 r1) (hQ : Q (some (.int ((-2)))) n S (kv_up (kv_up I a0 16 v3) a0 15 v4)) : kv_V y_Md_giveUp d B Q kc ks n S I 37 [(0, .ref a0), (1, .int v1), (2, .int v2), (3, .int v3), (4, .int v4), (5, .int v5)] [] := by
  refine kv_aload_n dd_Md_giveUp_37 rfl ?_
  refine kv_iload_n dd_Md_giveUp_38 rfl ?_
  refine kv_putI fp_Md_140 (fun h => by cases h) dd_Md_giveUp_39 hO1 rfl rfl ?_
  refine kv_aload_n dd_Md_giveUp_42 rfl ?_
  refine kv_iload dd_Md_giveUp_43 rfl ?_
  refine kv_putI fp_Md_143 (fun h => by cases h) dd_Md_giveUp_45 hO1 rfl rfl ?_
  refine kv_bipush (v := (-2)) dd_Md_giveUp_48 (by decide) ?_
  exact kv_end (v := some (.int ((-2)))) hQ ⟨dd_Md_giveUp_50, .int, rfl, rfl⟩
theorem bl_Md_drop_0 {d : Nat} {B : kv_B} {Q : kv_Q} {kc ks n : Nat} {S : kv_SM} {I : kv_IM} {a0 : Nat} {v1 : Int32} {r1 : Nat → Option Nat} {dc kcc ksc : Nat} {Qy : kv_Q} (hO1 : S a0 = kO 6 r1) (hM : kv_T y_Md_isSnapshot dc kcc ksc B [.ref a0, .int v1] n S (kv_up I a0 0 0) Qy) (hdp : dc + 1 ≤ d) (hkk : kcc ≤ kc) (hkl : ksc ≤ ks) (K : ∀ v n' S' I', Qy v n' S' I' → kv_V y_Md_drop d B Q (kc - kcc) (ks - ksc) n' S' I' 10 [(0, .ref a0), (1, .int v1)] (v.toList ++ [])) : kv_V y_Md_drop d B Q kc ks n S I 0 [(0, .ref a0), (1, .int v1)] [] := by
  refine kv_aload_n dd_Md_drop_0 rfl ?_
  refine kv_iconst (v := 0) dd_Md_drop_1 (by decide) ?_
  refine kv_putI fp_Md_67 (fun h => by cases h) dd_Md_drop_2 hO1 rfl rfl ?_
  refine kv_aload_n dd_Md_drop_5 rfl ?_
  refine kv_iload_n dd_Md_drop_6 rfl ?_
  exact kv_callV [.int v1] [] ls_Md_152 hO1 hM dd_Md_drop_7 rfl hdp (Nat.le_of_ble_eq_true rfl) hkk hkl (fun v n' S' I' hv => kv_loc [0, 1] rfl (K v n' S' I' hv))
theorem bl_Md_drop_10 {d : Nat} {B : kv_B} {Q : kv_Q} {kc ks n : Nat} {S : kv_SM} {I : kv_IM} {a0 : Nat} {v1 : Int32} {t0 : Int32} (Kt : ¬ t0 = 0 → kv_V y_Md_drop d B Q kc ks n S I 15 [(0, .ref a0), (1, .int v1)] []) (Kf : t0 = 0 → kv_V y_Md_drop d B Q kc ks n S I 13 [(0, .ref a0), (1, .int v1)] []) : kv_V y_Md_drop d B Q kc ks n S I 10 [(0, .ref a0), (1, .int v1)] [.int t0] := by
  exact kv_if_ne 15 dd_Md_drop_10 (by decide) (fun h => kv_loc [0, 1] rfl (Kt h)) (fun h => kv_loc [0, 1] rfl (Kf h))
theorem bl_Md_drop_13 {d : Nat} {B : kv_B} {Q : kv_Q} {kc ks n : Nat} {S : kv_SM} {I : kv_IM} {a0 : Nat} {v1 : Int32} (hQ : Q (some (.int ((-1)))) n S I) : kv_V y_Md_drop d B Q kc ks n S I 13 [(0, .ref a0), (1, .int v1)] [] := by
  refine kv_iconst (v := (-1)) dd_Md_drop_13 (by decide) ?_
  exact kv_end (v := some (.int ((-1)))) hQ ⟨dd_Md_drop_14, .int, rfl, rfl⟩
theorem bl_Md_drop_15 {d : Nat} {B : kv_B} {Q : kv_Q} {kc ks n : Nat} {S : kv_SM} {I : kv_IM} {a0 : Nat} {v1 : Int32} {r1 : Nat → Option Nat} {q2 : Nat} {m3 : Nat} {j4 : Nat} (hO1 : S a0 = kO 6 r1) (hr2 : r1 20 = some q2) (hA3 : S q2 = kZ m3) (hi4 : v1 = nI j4 ∧ j4 < m3 ∧ m3 < 2 ^ 31) (K : kv_V y_Md_drop d B Q kc ks n S (kv_up I q2 j4 0) 24 [(0, .ref a0), (1, .int v1), (2, .int 0)] []) : kv_V y_Md_drop d B Q kc ks n S I 15 [(0, .ref a0), (1, .int v1)] [] := by
  refine kv_aload_n dd_Md_drop_15 rfl ?_
  refine kv_getR fl_Md_50 dd_Md_drop_16 hO1 hr2 ?_
  refine kv_iload_n dd_Md_drop_19 rfl ?_
  refine kv_iconst (v := 0) dd_Md_drop_20 (by decide) ?_
  refine kv_zast j4 (by decide) dd_Md_drop_21 hA3 hi4.1 hi4.2.1 hi4.2.2 ?_
  refine kv_iconst (v := 0) dd_Md_drop_22 (by decide) ?_
  refine kv_istore_n (L' := [(2, .int 0), (0, .ref a0), (1, .int v1)]) dd_Md_drop_23 (by decide) rfl ?_
  exact kv_loc [1, 2, 0] rfl K
theorem bl_Md_drop_24 {d : Nat} {B : kv_B} {Q : kv_Q} {kc ks n : Nat} {S : kv_SM} {I : kv_IM} {a0 : Nat} {v1 : Int32} {v2 : Int32} {r1 : Nat → Option Nat} {q2 : Nat} {m3 : Nat} {j4 : Nat} (hO1 : S a0 = kO 6 r1) (hr2 : r1 21 = some q2) (hA3 : S q2 = kI m3) (hi4 : v1 = nI j4 ∧ j4 < m3 ∧ m3 < 2 ^ 31) (Kt : (I q2 j4) ≤ v2 → kv_V y_Md_drop d B Q kc ks n S I 61 [(0, .ref a0), (1, .int v1), (2, .int v2)] []) (Kf : ¬ (I q2 j4) ≤ v2 → kv_V y_Md_drop d B Q kc ks n S I 34 [(0, .ref a0), (1, .int v1), (2, .int v2)] []) : kv_V y_Md_drop d B Q kc ks n S I 24 [(0, .ref a0), (1, .int v1), (2, .int v2)] [] := by
  refine kv_iload_n dd_Md_drop_24 rfl ?_
  refine kv_aload_n dd_Md_drop_25 rfl ?_
  refine kv_getR fl_Md_54 dd_Md_drop_26 hO1 hr2 ?_
  refine kv_iload_n dd_Md_drop_29 rfl ?_
  refine kv_iald j4 dd_Md_drop_30 hA3 hi4.1 hi4.2.1 hi4.2.2 ?_
  exact kv_icmp_ge 61 dd_Md_drop_31 (by decide) (fun h => kv_loc [0, 1, 2] rfl (Kt h)) (fun h => kv_loc [0, 1, 2] rfl (Kf h))
theorem bl_Md_drop_34 {d : Nat} {B : kv_B} {Q : kv_Q} {kc ks n : Nat} {S : kv_SM} {I : kv_IM} {a0 : Nat} {v1 : Int32} {v2 : Int32} {r1 : Nat → Option Nat} {q2 : Nat} {q3 : Nat} {m4 : Nat} {j5 : Nat} {m6 : Nat} {j7 : Nat} (hO1 : S a0 = kO 6 r1) (hr2 : r1 19 = some q2) (hr3 : r1 22 = some q3) (hA4 : S q3 = kI m4) (hi5 : (1500 * v1) + v2 = nI j5 ∧ j5 < m4 ∧ m4 < 2 ^ 31) (hA6 : S q2 = kI m6) (hi7 : I q3 j5 = nI j7 ∧ j7 < m6 ∧ m6 < 2 ^ 31) (K : kv_V y_Md_drop d B Q kc ks n S (kv_up I q2 j7 ((I q2 j7) - 1)) 24 [(0, .ref a0), (1, .int v1), (2, .int (v2 + 1))] []) : kv_V y_Md_drop d B Q kc ks n S I 34 [(0, .ref a0), (1, .int v1), (2, .int v2)] [] := by
  refine kv_aload_n dd_Md_drop_34 rfl ?_
  refine kv_getR fl_Md_47 dd_Md_drop_35 hO1 hr2 ?_
  refine kv_aload_n dd_Md_drop_38 rfl ?_
  refine kv_getR fl_Md_57 dd_Md_drop_39 hO1 hr3 ?_
  refine kv_sipush (v := 1500) dd_Md_drop_42 (by decide) ?_
  refine kv_iload_n dd_Md_drop_45 rfl ?_
  refine kv_imul dd_Md_drop_46 ?_
  refine kv_iload_n dd_Md_drop_47 rfl ?_
  refine kv_iadd dd_Md_drop_48 ?_
  refine kv_iald j5 dd_Md_drop_49 hA4 hi5.1 hi5.2.1 hi5.2.2 ?_
  refine kv_dup2 dd_Md_drop_50 rfl rfl ?_
  refine kv_iald j7 dd_Md_drop_51 hA6 hi7.1 hi7.2.1 hi7.2.2 ?_
  refine kv_iconst (v := 1) dd_Md_drop_52 (by decide) ?_
  refine kv_isub dd_Md_drop_53 ?_
  refine kv_iast j7 dd_Md_drop_54 hA6 hi7.1 hi7.2.1 hi7.2.2 ?_
  refine kv_iinc (v := v2 + 1) (L' := [(2, .int (v2 + 1)), (0, .ref a0), (1, .int v1)]) dd_Md_drop_55 rfl rfl (by decide) rfl ?_
  refine kv_goto 24 dd_Md_drop_58 (by decide) ?_
  exact kv_loc [1, 2, 0] rfl K
theorem bl_Md_drop_61 {d : Nat} {B : kv_B} {Q : kv_Q} {kc ks n : Nat} {S : kv_SM} {I : kv_IM} {a0 : Nat} {v1 : Int32} {v2 : Int32} {r1 : Nat → Option Nat} (hO1 : S a0 = kO 6 r1) (K : kv_V y_Md_drop d B Q kc ks n S I 73 [(0, .ref a0), (1, .int v1), (2, .int (I a0 15)), (3, .int ((I a0 16) - 1))] []) : kv_V y_Md_drop d B Q kc ks n S I 61 [(0, .ref a0), (1, .int v1), (2, .int v2)] [] := by
  refine kv_aload_n dd_Md_drop_61 rfl ?_
  refine kv_getI fl_Md_143 dd_Md_drop_62 hO1 ?_
  refine kv_istore_n (L' := [(2, .int (I a0 15)), (0, .ref a0), (1, .int v1)]) dd_Md_drop_65 (by decide) rfl ?_
  refine kv_aload_n dd_Md_drop_66 rfl ?_
  refine kv_getI fl_Md_140 dd_Md_drop_67 hO1 ?_
  refine kv_iconst (v := 1) dd_Md_drop_70 (by decide) ?_
  refine kv_isub dd_Md_drop_71 ?_
  refine kv_istore_n (L' := [(3, .int ((I a0 16) - 1)), (2, .int (I a0 15)), (0, .ref a0), (1, .int v1)]) dd_Md_drop_72 (by decide) rfl ?_
  exact kv_loc [2, 3, 1, 0] rfl K
theorem bl_Md_drop_73 {d : Nat} {B : kv_B} {Q : kv_Q} {kc ks n : Nat} {S : kv_SM} {I : kv_IM} {a0 : Nat} {v1 : Int32} {v2 : Int32} {v3 : Int32} (Kt : v3 < 0 → kv_V y_Md_drop d B Q kc ks n S I 97 [(0, .ref a0), (1, .int v1), (2, .int v2), (3, .int v3)] []) (Kf : ¬ v3 < 0 → kv_V y_Md_drop d B Q kc ks n S I 77 [(0, .ref a0), (1, .int v1), (2, .int v2), (3, .int v3)] []) : kv_V y_Md_drop d B Q kc ks n S I 73 [(0, .ref a0), (1, .int v1), (2, .int v2), (3, .int v3)] [] := by
  refine kv_iload_n dd_Md_drop_73 rfl ?_
  exact kv_if_lt 97 dd_Md_drop_74 (by decide) (fun h => kv_loc [0, 1, 2, 3] rfl (Kt h)) (fun h => kv_loc [0, 1, 2, 3] rfl (Kf h))
theorem bl_Md_drop_77 {d : Nat} {B : kv_B} {Q : kv_Q} {kc ks n : Nat} {S : kv_SM} {I : kv_IM} {a0 : Nat} {v1 : Int32} {v2 : Int32} {v3 : Int32} {r1 : Nat → Option Nat} {q2 : Nat} {m3 : Nat} {j4 : Nat} (hO1 : S a0 = kO 6 r1) (hr2 : r1 19 = some q2) (hA3 : S q2 = kI m3) (hi4 : v3 = nI j4 ∧ j4 < m3 ∧ m3 < 2 ^ 31) (Kt : ¬ (I q2 j4) = 0 → kv_V y_Md_drop d B Q kc ks n S I 91 [(0, .ref a0), (1, .int v1), (2, .int v2), (3, .int v3)] []) (Kf : (I q2 j4) = 0 → kv_V y_Md_drop d B Q kc ks n S I 86 [(0, .ref a0), (1, .int v1), (2, .int v2), (3, .int v3)] []) : kv_V y_Md_drop d B Q kc ks n S I 77 [(0, .ref a0), (1, .int v1), (2, .int v2), (3, .int v3)] [] := by
  refine kv_aload_n dd_Md_drop_77 rfl ?_
  refine kv_getR fl_Md_47 dd_Md_drop_78 hO1 hr2 ?_
  refine kv_iload_n dd_Md_drop_81 rfl ?_
  refine kv_iald j4 dd_Md_drop_82 hA3 hi4.1 hi4.2.1 hi4.2.2 ?_
  exact kv_if_ne 91 dd_Md_drop_83 (by decide) (fun h => kv_loc [0, 1, 2, 3] rfl (Kt h)) (fun h => kv_loc [0, 1, 2, 3] rfl (Kf h))
theorem bl_Md_drop_86 {d : Nat} {B : kv_B} {Q : kv_Q} {kc ks n : Nat} {S : kv_SM} {I : kv_IM} {a0 : Nat} {v1 : Int32} {v2 : Int32} {v3 : Int32} {dc kcc ksc : Nat} {Qy : kv_Q} {r1 : Nat → Option Nat} (hO1 : S a0 = kO 6 r1) (hM : kv_T y_Md_takeOut dc kcc ksc B [.ref a0, .int v3] n S I Qy) (hdp : dc + 1 ≤ d) (hkk : kcc ≤ kc) (hkl : ksc ≤ ks) (K : ∀ v n' S' I', Qy v n' S' I' → kv_V y_Md_drop d B Q (kc - kcc) (ks - ksc) n' S' I' 91 [(0, .ref a0), (1, .int v1), (2, .int v2), (3, .int v3)] (v.toList ++ [])) : kv_V y_Md_drop d B Q kc ks n S I 86 [(0, .ref a0), (1, .int v1), (2, .int v2), (3, .int v3)] [] := by
  refine kv_aload_n dd_Md_drop_86 rfl ?_
  refine kv_iload_n dd_Md_drop_87 rfl ?_
  exact kv_callV [.int v3] [] ls_Md_155 hO1 hM dd_Md_drop_88 rfl hdp (Nat.le_of_ble_eq_true rfl) hkk hkl (fun v n' S' I' hv => kv_loc [0, 1, 2, 3] rfl (K v n' S' I' hv))
theorem bl_Md_drop_91 {d : Nat} {B : kv_B} {Q : kv_Q} {kc ks n : Nat} {S : kv_SM} {I : kv_IM} {a0 : Nat} {v1 : Int32} {v2 : Int32} {v3 : Int32} (K : kv_V y_Md_drop d B Q kc ks n S I 73 [(0, .ref a0), (1, .int v1), (2, .int v2), (3, .int (v3 + (-1)))] []) : kv_V y_Md_drop d B Q kc ks n S I 91 [(0, .ref a0), (1, .int v1), (2, .int v2), (3, .int v3)] [] := by
  refine kv_iinc (v := v3 + (-1)) (L' := [(3, .int (v3 + (-1))), (0, .ref a0), (1, .int v1), (2, .int v2)]) dd_Md_drop_91 rfl rfl (by decide) rfl ?_
  refine kv_goto 73 dd_Md_drop_94 (by decide) ?_
  exact kv_loc [1, 2, 3, 0] rfl K
theorem bl_Md_drop_97 {d : Nat} {B : kv_B} {Q : kv_Q} {kc ks n : Nat} {S : kv_SM} {I : kv_IM} {a0 : Nat} {v1 : Int32} {v2 : Int32} {v3 : Int32} {r1 : Nat → Option Nat} (hO1 : S a0 = kO 6 r1) (hQ : Q (some (.int (v2 - (I a0 15)))) n S I) : kv_V y_Md_drop d B Q kc ks n S I 97 [(0, .ref a0), (1, .int v1), (2, .int v2), (3, .int v3)] [] := by
  refine kv_iload_n dd_Md_drop_97 rfl ?_
  refine kv_aload_n dd_Md_drop_98 rfl ?_
  refine kv_getI fl_Md_143 dd_Md_drop_99 hO1 ?_
  refine kv_isub dd_Md_drop_102 ?_
  exact kv_end (v := some (.int (v2 - (I a0 15)))) hQ ⟨dd_Md_drop_103, .int, rfl, rfl⟩
theorem bl_Md_isSnapshot_0 {d : Nat} {B : kv_B} {Q : kv_Q} {kc ks n : Nat} {S : kv_SM} {I : kv_IM} {a0 : Nat} {v1 : Int32} {dc kcc ksc : Nat} {Qy : kv_Q} (hM : kv_T y_Md_in dc kcc ksc B [.int v1, .int 0, .int 9] n S I Qy) (hdp : dc + 1 ≤ d) (hkk : kcc ≤ kc) (hkl : ksc ≤ ks) (K : ∀ v n' S' I', Qy v n' S' I' → kv_V y_Md_isSnapshot d B Q (kc - kcc) (ks - ksc) n' S' I' 7 [(0, .ref a0), (1, .int v1)] (v.toList ++ [])) : kv_V y_Md_isSnapshot d B Q kc ks n S I 0 [(0, .ref a0), (1, .int v1)] [] := by
  refine kv_iload_n dd_Md_isSnapshot_0 rfl ?_
  refine kv_iconst (v := 0) dd_Md_isSnapshot_1 (by decide) ?_
  refine kv_bipush (v := 9) dd_Md_isSnapshot_2 (by decide) ?_
  exact kv_callS [.int v1, .int 0, .int 9] [] ls_Md_72 hM dd_Md_isSnapshot_4 rfl hdp (Nat.le_of_ble_eq_true rfl) hkk hkl (fun v n' S' I' hv => kv_loc [0, 1] rfl (K v n' S' I' hv))
theorem bl_Md_isSnapshot_7 {d : Nat} {B : kv_B} {Q : kv_Q} {kc ks n : Nat} {S : kv_SM} {I : kv_IM} {a0 : Nat} {v1 : Int32} {t0 : Int32} (Kt : t0 = 0 → kv_V y_Md_isSnapshot d B Q kc ks n S I 23 [(0, .ref a0), (1, .int v1)] []) (Kf : ¬ t0 = 0 → kv_V y_Md_isSnapshot d B Q kc ks n S I 10 [(0, .ref a0), (1, .int v1)] []) : kv_V y_Md_isSnapshot d B Q kc ks n S I 7 [(0, .ref a0), (1, .int v1)] [.int t0] := by
  exact kv_if_eq 23 dd_Md_isSnapshot_7 (by decide) (fun h => kv_loc [0, 1] rfl (Kt h)) (fun h => kv_loc [0, 1] rfl (Kf h))
theorem bl_Md_isSnapshot_10 {d : Nat} {B : kv_B} {Q : kv_Q} {kc ks n : Nat} {S : kv_SM} {I : kv_IM} {a0 : Nat} {v1 : Int32} {r1 : Nat → Option Nat} {q2 : Nat} {m3 : Nat} {j4 : Nat} (hO1 : S a0 = kO 6 r1) (hr2 : r1 20 = some q2) (hA3 : S q2 = kZ m3) (hi4 : v1 = nI j4 ∧ j4 < m3 ∧ m3 < 2 ^ 31) (Kt : (I q2 j4) = 0 → kv_V y_Md_isSnapshot d B Q kc ks n S I 23 [(0, .ref a0), (1, .int v1)] []) (Kf : ¬ (I q2 j4) = 0 → kv_V y_Md_isSnapshot d B Q kc ks n S I 19 [(0, .ref a0), (1, .int v1)] []) : kv_V y_Md_isSnapshot d B Q kc ks n S I 10 [(0, .ref a0), (1, .int v1)] [] := by
  refine kv_aload_n dd_Md_isSnapshot_10 rfl ?_
  refine kv_getR fl_Md_50 dd_Md_isSnapshot_11 hO1 hr2 ?_
  refine kv_iload_n dd_Md_isSnapshot_14 rfl ?_
  refine kv_zald j4 dd_Md_isSnapshot_15 hA3 hi4.1 hi4.2.1 hi4.2.2 ?_
  exact kv_if_eq 23 dd_Md_isSnapshot_16 (by decide) (fun h => kv_loc [0, 1] rfl (Kt h)) (fun h => kv_loc [0, 1] rfl (Kf h))
theorem bl_Md_isSnapshot_19 {d : Nat} {B : kv_B} {Q : kv_Q} {kc ks n : Nat} {S : kv_SM} {I : kv_IM} {a0 : Nat} {v1 : Int32} (K : kv_V y_Md_isSnapshot d B Q kc ks n S I 24 [(0, .ref a0), (1, .int v1)] [.int 1]) : kv_V y_Md_isSnapshot d B Q kc ks n S I 19 [(0, .ref a0), (1, .int v1)] [] := by
  refine kv_iconst (v := 1) dd_Md_isSnapshot_19 (by decide) ?_
  refine kv_goto 24 dd_Md_isSnapshot_20 (by decide) ?_
  exact kv_loc [0, 1] rfl K
theorem bl_Md_isSnapshot_23 {d : Nat} {B : kv_B} {Q : kv_Q} {kc ks n : Nat} {S : kv_SM} {I : kv_IM} {a0 : Nat} {v1 : Int32} (K : kv_V y_Md_isSnapshot d B Q kc ks n S I 24 [(0, .ref a0), (1, .int v1)] [.int 0]) : kv_V y_Md_isSnapshot d B Q kc ks n S I 23 [(0, .ref a0), (1, .int v1)] [] := by
  refine kv_iconst (v := 0) dd_Md_isSnapshot_23 (by decide) ?_
  exact kv_loc [0, 1] rfl K
theorem bl_Md_isSnapshot_24 {d : Nat} {B : kv_B} {Q : kv_Q} {kc ks n : Nat} {S : kv_SM} {I : kv_IM} {a0 : Nat} {v1 : Int32} {t0 : Int32} (hb : narrow .boolean (.int t0) = .int t0) (hQ : Q (some (.int t0)) n S I) : kv_V y_Md_isSnapshot d B Q kc ks n S I 24 [(0, .ref a0), (1, .int v1)] [.int t0] := by
  exact kv_end (v := some (.int t0)) hQ ⟨dd_Md_isSnapshot_24, .boolean, rfl, hb⟩
theorem bl_Md_takeOut_0 {d : Nat} {B : kv_B} {Q : kv_Q} {kc ks n : Nat} {S : kv_SM} {I : kv_IM} {a0 : Nat} {v1 : Int32} {r1 : Nat → Option Nat} {q2 : Nat} {m3 : Nat} {j4 : Nat} {q5 : Nat} {m6 : Nat} {j7 : Nat} (hO1 : S a0 = kO 6 r1) (hr2 : r1 18 = some q2) (hA3 : S q2 = kI m3) (hi4 : v1 = nI j4 ∧ j4 < m3 ∧ m3 < 2 ^ 31) (hr5 : r1 17 = some q5) (hA6 : S q5 = kI m6) (hi7 : v1 = nI j7 ∧ j7 < m6 ∧ m6 < 2 ^ 31) (K : kv_V y_Md_takeOut d B Q kc ks n S I 14 [(0, .ref a0), (1, .int v1), (2, .int (I q2 j4)), (3, .int (I q5 j7))] []) : kv_V y_Md_takeOut d B Q kc ks n S I 0 [(0, .ref a0), (1, .int v1)] [] := by
  refine kv_aload_n dd_Md_takeOut_0 rfl ?_
  refine kv_getR fl_Md_44 dd_Md_takeOut_1 hO1 hr2 ?_
  refine kv_iload_n dd_Md_takeOut_4 rfl ?_
  refine kv_iald j4 dd_Md_takeOut_5 hA3 hi4.1 hi4.2.1 hi4.2.2 ?_
  refine kv_istore_n (L' := [(2, .int (I q2 j4)), (0, .ref a0), (1, .int v1)]) dd_Md_takeOut_6 (by decide) rfl ?_
  refine kv_aload_n dd_Md_takeOut_7 rfl ?_
  refine kv_getR fl_Md_41 dd_Md_takeOut_8 hO1 hr5 ?_
  refine kv_iload_n dd_Md_takeOut_11 rfl ?_
  refine kv_iald j7 dd_Md_takeOut_12 hA6 hi7.1 hi7.2.1 hi7.2.2 ?_
  refine kv_istore_n (L' := [(3, .int (I q5 j7)), (2, .int (I q2 j4)), (0, .ref a0), (1, .int v1)]) dd_Md_takeOut_13 (by decide) rfl ?_
  exact kv_loc [2, 3, 1, 0] rfl K
theorem bl_Md_takeOut_14 {d : Nat} {B : kv_B} {Q : kv_Q} {kc ks n : Nat} {S : kv_SM} {I : kv_IM} {a0 : Nat} {v1 : Int32} {v2 : Int32} {v3 : Int32} {r1 : Nat → Option Nat} (hO1 : S a0 = kO 6 r1) (Kt : (I a0 15) ≤ (v3 + v2) → kv_V y_Md_takeOut d B Q kc ks n S I 44 [(0, .ref a0), (1, .int v1), (2, .int v2), (3, .int v3)] []) (Kf : ¬ (I a0 15) ≤ (v3 + v2) → kv_V y_Md_takeOut d B Q kc ks n S I 24 [(0, .ref a0), (1, .int v1), (2, .int v2), (3, .int v3)] []) : kv_V y_Md_takeOut d B Q kc ks n S I 14 [(0, .ref a0), (1, .int v1), (2, .int v2), (3, .int v3)] [] := by
  refine kv_iload_n dd_Md_takeOut_14 rfl ?_
  refine kv_iload_n dd_Md_takeOut_15 rfl ?_
  refine kv_iadd dd_Md_takeOut_16 ?_
  refine kv_aload_n dd_Md_takeOut_17 rfl ?_
  refine kv_getI fl_Md_143 dd_Md_takeOut_18 hO1 ?_
  exact kv_icmp_ge 44 dd_Md_takeOut_21 (by decide) (fun h => kv_loc [0, 1, 2, 3] rfl (Kt h)) (fun h => kv_loc [0, 1, 2, 3] rfl (Kf h))
theorem bl_Md_takeOut_24 {d : Nat} {B : kv_B} {Q : kv_Q} {kc ks n : Nat} {S : kv_SM} {I : kv_IM} {a0 : Nat} {v1 : Int32} {v2 : Int32} {v3 : Int32} {r1 : Nat → Option Nat} {q2 : Nat} {m3 : Nat} {j4 : Nat} {j5 : Nat} (hO1 : S a0 = kO 6 r1) (hr2 : r1 14 = some q2) (hA3 : S q2 = kI m3) (hi4 : v3 + v2 = nI j4 ∧ j4 < m3 ∧ m3 < 2 ^ 31) (hi5 : v3 = nI j5 ∧ j5 < m3 ∧ m3 < 2 ^ 31) (K : kv_V y_Md_takeOut d B Q kc ks n S (kv_up I q2 j5 (I q2 j4)) 14 [(0, .ref a0), (1, .int v1), (2, .int v2), (3, .int (v3 + 1))] []) : kv_V y_Md_takeOut d B Q kc ks n S I 24 [(0, .ref a0), (1, .int v1), (2, .int v2), (3, .int v3)] [] := by
  refine kv_aload_n dd_Md_takeOut_24 rfl ?_
  refine kv_getR fl_Md_38 dd_Md_takeOut_25 hO1 hr2 ?_
  refine kv_iload_n dd_Md_takeOut_28 rfl ?_
  refine kv_aload_n dd_Md_takeOut_29 rfl ?_
  refine kv_getR fl_Md_38 dd_Md_takeOut_30 hO1 hr2 ?_
  refine kv_iload_n dd_Md_takeOut_33 rfl ?_
  refine kv_iload_n dd_Md_takeOut_34 rfl ?_
  refine kv_iadd dd_Md_takeOut_35 ?_
  refine kv_iald j4 dd_Md_takeOut_36 hA3 hi4.1 hi4.2.1 hi4.2.2 ?_
  refine kv_iast j5 dd_Md_takeOut_37 hA3 hi5.1 hi5.2.1 hi5.2.2 ?_
  refine kv_iinc (v := v3 + 1) (L' := [(3, .int (v3 + 1)), (0, .ref a0), (1, .int v1), (2, .int v2)]) dd_Md_takeOut_38 rfl rfl (by decide) rfl ?_
  refine kv_goto 14 dd_Md_takeOut_41 (by decide) ?_
  exact kv_loc [1, 2, 3, 0] rfl K
theorem bl_Md_takeOut_44 {d : Nat} {B : kv_B} {Q : kv_Q} {kc ks n : Nat} {S : kv_SM} {I : kv_IM} {a0 : Nat} {v1 : Int32} {v2 : Int32} {v3 : Int32} {r1 : Nat → Option Nat} (hO1 : S a0 = kO 6 r1) (K : kv_V y_Md_takeOut d B Q kc ks n S (kv_up (kv_up I a0 15 ((I a0 15) - v2)) a0 16 (((kv_up I a0 15 ((I a0 15) - v2)) a0 16) - 1)) 66 [(0, .ref a0), (1, .int v1), (2, .int v2), (3, .int v1)] []) : kv_V y_Md_takeOut d B Q kc ks n S I 44 [(0, .ref a0), (1, .int v1), (2, .int v2), (3, .int v3)] [] := by
  refine kv_aload_n dd_Md_takeOut_44 rfl ?_
  refine kv_dup dd_Md_takeOut_45 rfl ?_
  refine kv_getI fl_Md_143 dd_Md_takeOut_46 hO1 ?_
  refine kv_iload_n dd_Md_takeOut_49 rfl ?_
  refine kv_isub dd_Md_takeOut_50 ?_
  refine kv_putI fp_Md_143 (fun h => by cases h) dd_Md_takeOut_51 hO1 rfl rfl ?_
  refine kv_aload_n dd_Md_takeOut_54 rfl ?_
  refine kv_dup dd_Md_takeOut_55 rfl ?_
  refine kv_getI fl_Md_140 dd_Md_takeOut_56 hO1 ?_
  refine kv_iconst (v := 1) dd_Md_takeOut_59 (by decide) ?_
  refine kv_isub dd_Md_takeOut_60 ?_
  refine kv_putI fp_Md_140 (fun h => by cases h) dd_Md_takeOut_61 hO1 rfl rfl ?_
  refine kv_iload_n dd_Md_takeOut_64 rfl ?_
  refine kv_istore_n (L' := [(3, .int v1), (0, .ref a0), (1, .int v1), (2, .int v2)]) dd_Md_takeOut_65 (by decide) rfl ?_
  exact kv_loc [1, 2, 3, 0] rfl K
theorem bl_Md_takeOut_66 {d : Nat} {B : kv_B} {Q : kv_Q} {kc ks n : Nat} {S : kv_SM} {I : kv_IM} {a0 : Nat} {v1 : Int32} {v2 : Int32} {v3 : Int32} {r1 : Nat → Option Nat} (hO1 : S a0 = kO 6 r1) (Kt : (I a0 16) ≤ v3 → kv_V y_Md_takeOut d B Q kc ks n S I 124 [(0, .ref a0), (1, .int v1), (2, .int v2), (3, .int v3)] []) (Kf : ¬ (I a0 16) ≤ v3 → kv_V y_Md_takeOut d B Q kc ks n S I 74 [(0, .ref a0), (1, .int v1), (2, .int v2), (3, .int v3)] []) : kv_V y_Md_takeOut d B Q kc ks n S I 66 [(0, .ref a0), (1, .int v1), (2, .int v2), (3, .int v3)] [] := by
  refine kv_iload_n dd_Md_takeOut_66 rfl ?_
  refine kv_aload_n dd_Md_takeOut_67 rfl ?_
  refine kv_getI fl_Md_140 dd_Md_takeOut_68 hO1 ?_
  exact kv_icmp_ge 124 dd_Md_takeOut_71 (by decide) (fun h => kv_loc [0, 1, 2, 3] rfl (Kt h)) (fun h => kv_loc [0, 1, 2, 3] rfl (Kf h))
theorem bl_Md_takeOut_74 {d : Nat} {B : kv_B} {Q : kv_Q} {kc ks n : Nat} {S : kv_SM} {I : kv_IM} {a0 : Nat} {v1 : Int32} {v2 : Int32} {v3 : Int32} {r1 : Nat → Option Nat} {q2 : Nat} {m3 : Nat} {j4 : Nat} {j5 : Nat} {q6 : Nat} {m7 : Nat} {j8 : Nat} {j9 : Nat} {q10 : Nat} {m11 : Nat} {j12 : Nat} {j13 : Nat} (hO1 : S a0 = kO 6 r1) (hr2 : r1 17 = some q2) (hA3 : S q2 = kI m3) (hi4 : v3 + 1 = nI j4 ∧ j4 < m3 ∧ m3 < 2 ^ 31) (hi5 : v3 = nI j5 ∧ j5 < m3 ∧ m3 < 2 ^ 31) (hr6 : r1 18 = some q6) (hA7 : S q6 = kI m7) (hi8 : v3 + 1 = nI j8 ∧ j8 < m7 ∧ m7 < 2 ^ 31) (hi9 : v3 = nI j9 ∧ j9 < m7 ∧ m7 < 2 ^ 31) (hr10 : r1 19 = some q10) (hA11 : S q10 = kI m11) (hi12 : v3 + 1 = nI j12 ∧ j12 < m11 ∧ m11 < 2 ^ 31) (hi13 : v3 = nI j13 ∧ j13 < m11 ∧ m11 < 2 ^ 31) (K : kv_V y_Md_takeOut d B Q kc ks n S (kv_up (kv_up (kv_up I q2 j5 ((I q2 j4) - v2)) q6 j9 ((kv_up I q2 j5 ((I q2 j4) - v2)) q6 j8)) q10 j13 ((kv_up (kv_up I q2 j5 ((I q2 j4) - v2)) q6 j9 ((kv_up I q2 j5 ((I q2 j4) - v2)) q6 j8)) q10 j12)) 66 [(0, .ref a0), (1, .int v1), (2, .int v2), (3, .int (v3 + 1))] []) : kv_V y_Md_takeOut d B Q kc ks n S I 74 [(0, .ref a0), (1, .int v1), (2, .int v2), (3, .int v3)] [] := by
  refine kv_aload_n dd_Md_takeOut_74 rfl ?_
  refine kv_getR fl_Md_41 dd_Md_takeOut_75 hO1 hr2 ?_
  refine kv_iload_n dd_Md_takeOut_78 rfl ?_
  refine kv_aload_n dd_Md_takeOut_79 rfl ?_
  refine kv_getR fl_Md_41 dd_Md_takeOut_80 hO1 hr2 ?_
  refine kv_iload_n dd_Md_takeOut_83 rfl ?_
  refine kv_iconst (v := 1) dd_Md_takeOut_84 (by decide) ?_
  refine kv_iadd dd_Md_takeOut_85 ?_
  refine kv_iald j4 dd_Md_takeOut_86 hA3 hi4.1 hi4.2.1 hi4.2.2 ?_
  refine kv_iload_n dd_Md_takeOut_87 rfl ?_
  refine kv_isub dd_Md_takeOut_88 ?_
  refine kv_iast j5 dd_Md_takeOut_89 hA3 hi5.1 hi5.2.1 hi5.2.2 ?_
  refine kv_aload_n dd_Md_takeOut_90 rfl ?_
  refine kv_getR fl_Md_44 dd_Md_takeOut_91 hO1 hr6 ?_
  refine kv_iload_n dd_Md_takeOut_94 rfl ?_
  refine kv_aload_n dd_Md_takeOut_95 rfl ?_
  refine kv_getR fl_Md_44 dd_Md_takeOut_96 hO1 hr6 ?_
  refine kv_iload_n dd_Md_takeOut_99 rfl ?_
  refine kv_iconst (v := 1) dd_Md_takeOut_100 (by decide) ?_
  refine kv_iadd dd_Md_takeOut_101 ?_
  refine kv_iald j8 dd_Md_takeOut_102 hA7 hi8.1 hi8.2.1 hi8.2.2 ?_
  refine kv_iast j9 dd_Md_takeOut_103 hA7 hi9.1 hi9.2.1 hi9.2.2 ?_
  refine kv_aload_n dd_Md_takeOut_104 rfl ?_
  refine kv_getR fl_Md_47 dd_Md_takeOut_105 hO1 hr10 ?_
  refine kv_iload_n dd_Md_takeOut_108 rfl ?_
  refine kv_aload_n dd_Md_takeOut_109 rfl ?_
  refine kv_getR fl_Md_47 dd_Md_takeOut_110 hO1 hr10 ?_
  refine kv_iload_n dd_Md_takeOut_113 rfl ?_
  refine kv_iconst (v := 1) dd_Md_takeOut_114 (by decide) ?_
  refine kv_iadd dd_Md_takeOut_115 ?_
  refine kv_iald j12 dd_Md_takeOut_116 hA11 hi12.1 hi12.2.1 hi12.2.2 ?_
  refine kv_iast j13 dd_Md_takeOut_117 hA11 hi13.1 hi13.2.1 hi13.2.2 ?_
  refine kv_iinc (v := v3 + 1) (L' := [(3, .int (v3 + 1)), (0, .ref a0), (1, .int v1), (2, .int v2)]) dd_Md_takeOut_118 rfl rfl (by decide) rfl ?_
  refine kv_goto 66 dd_Md_takeOut_121 (by decide) ?_
  exact kv_loc [1, 2, 3, 0] rfl K
theorem bl_Md_takeOut_124 {d : Nat} {B : kv_B} {Q : kv_Q} {kc ks n : Nat} {S : kv_SM} {I : kv_IM} {a0 : Nat} {v1 : Int32} {v2 : Int32} {v3 : Int32} (K : kv_V y_Md_takeOut d B Q kc ks n S I 126 [(0, .ref a0), (1, .int v1), (2, .int v2), (3, .int 0)] []) : kv_V y_Md_takeOut d B Q kc ks n S I 124 [(0, .ref a0), (1, .int v1), (2, .int v2), (3, .int v3)] [] := by
  refine kv_iconst (v := 0) dd_Md_takeOut_124 (by decide) ?_
  refine kv_istore_n (L' := [(3, .int 0), (0, .ref a0), (1, .int v1), (2, .int v2)]) dd_Md_takeOut_125 (by decide) rfl ?_
  exact kv_loc [1, 2, 3, 0] rfl K
theorem bl_Md_takeOut_126 {d : Nat} {B : kv_B} {Q : kv_Q} {kc ks n : Nat} {S : kv_SM} {I : kv_IM} {a0 : Nat} {v1 : Int32} {v2 : Int32} {v3 : Int32} (Kt : 10 ≤ v3 → kv_V y_Md_takeOut d B Q kc ks n S I 205 [(0, .ref a0), (1, .int v1), (2, .int v2), (3, .int v3)] []) (Kf : ¬ 10 ≤ v3 → kv_V y_Md_takeOut d B Q kc ks n S I 132 [(0, .ref a0), (1, .int v1), (2, .int v2), (3, .int v3)] []) : kv_V y_Md_takeOut d B Q kc ks n S I 126 [(0, .ref a0), (1, .int v1), (2, .int v2), (3, .int v3)] [] := by
  refine kv_iload_n dd_Md_takeOut_126 rfl ?_
  refine kv_bipush (v := 10) dd_Md_takeOut_127 (by decide) ?_
  exact kv_icmp_ge 205 dd_Md_takeOut_129 (by decide) (fun h => kv_loc [0, 1, 2, 3] rfl (Kt h)) (fun h => kv_loc [0, 1, 2, 3] rfl (Kf h))
theorem bl_Md_takeOut_132 {d : Nat} {B : kv_B} {Q : kv_Q} {kc ks n : Nat} {S : kv_SM} {I : kv_IM} {a0 : Nat} {v1 : Int32} {v2 : Int32} {v3 : Int32} (K : kv_V y_Md_takeOut d B Q kc ks n S I 135 [(0, .ref a0), (1, .int v1), (2, .int v2), (3, .int v3), (4, .int 0)] []) : kv_V y_Md_takeOut d B Q kc ks n S I 132 [(0, .ref a0), (1, .int v1), (2, .int v2), (3, .int v3)] [] := by
  refine kv_iconst (v := 0) dd_Md_takeOut_132 (by decide) ?_
  refine kv_istore (L' := [(4, .int 0), (0, .ref a0), (1, .int v1), (2, .int v2), (3, .int v3)]) dd_Md_takeOut_133 (by decide) rfl ?_
  exact kv_loc [1, 2, 3, 4, 0] rfl K
theorem bl_Md_takeOut_135 {d : Nat} {B : kv_B} {Q : kv_Q} {kc ks n : Nat} {S : kv_SM} {I : kv_IM} {a0 : Nat} {v1 : Int32} {v2 : Int32} {v3 : Int32} {v4 : Int32} {r1 : Nat → Option Nat} {q2 : Nat} {m3 : Nat} {j4 : Nat} (hO1 : S a0 = kO 6 r1) (hr2 : r1 21 = some q2) (hA3 : S q2 = kI m3) (hi4 : v3 = nI j4 ∧ j4 < m3 ∧ m3 < 2 ^ 31) (Kt : (I q2 j4) ≤ v4 → kv_V y_Md_takeOut d B Q kc ks n S I 199 [(0, .ref a0), (1, .int v1), (2, .int v2), (3, .int v3), (4, .int v4)] []) (Kf : ¬ (I q2 j4) ≤ v4 → kv_V y_Md_takeOut d B Q kc ks n S I 146 [(0, .ref a0), (1, .int v1), (2, .int v2), (3, .int v3), (4, .int v4)] []) : kv_V y_Md_takeOut d B Q kc ks n S I 135 [(0, .ref a0), (1, .int v1), (2, .int v2), (3, .int v3), (4, .int v4)] [] := by
  refine kv_iload dd_Md_takeOut_135 rfl ?_
  refine kv_aload_n dd_Md_takeOut_137 rfl ?_
  refine kv_getR fl_Md_54 dd_Md_takeOut_138 hO1 hr2 ?_
  refine kv_iload_n dd_Md_takeOut_141 rfl ?_
  refine kv_iald j4 dd_Md_takeOut_142 hA3 hi4.1 hi4.2.1 hi4.2.2 ?_
  exact kv_icmp_ge 199 dd_Md_takeOut_143 (by decide) (fun h => kv_loc [0, 1, 2, 3, 4] rfl (Kt h)) (fun h => kv_loc [0, 1, 2, 3, 4] rfl (Kf h))
theorem bl_Md_takeOut_146 {d : Nat} {B : kv_B} {Q : kv_Q} {kc ks n : Nat} {S : kv_SM} {I : kv_IM} {a0 : Nat} {v1 : Int32} {v2 : Int32} {v3 : Int32} {v4 : Int32} {r1 : Nat → Option Nat} {q2 : Nat} {m3 : Nat} {j4 : Nat} (hO1 : S a0 = kO 6 r1) (hr2 : r1 20 = some q2) (hA3 : S q2 = kZ m3) (hi4 : v3 = nI j4 ∧ j4 < m3 ∧ m3 < 2 ^ 31) (Kt : (I q2 j4) = 0 → kv_V y_Md_takeOut d B Q kc ks n S I 199 [(0, .ref a0), (1, .int v1), (2, .int v2), (3, .int v3), (4, .int v4)] []) (Kf : ¬ (I q2 j4) = 0 → kv_V y_Md_takeOut d B Q kc ks n S I 155 [(0, .ref a0), (1, .int v1), (2, .int v2), (3, .int v3), (4, .int v4)] []) : kv_V y_Md_takeOut d B Q kc ks n S I 146 [(0, .ref a0), (1, .int v1), (2, .int v2), (3, .int v3), (4, .int v4)] [] := by
  refine kv_aload_n dd_Md_takeOut_146 rfl ?_
  refine kv_getR fl_Md_50 dd_Md_takeOut_147 hO1 hr2 ?_
  refine kv_iload_n dd_Md_takeOut_150 rfl ?_
  refine kv_zald j4 dd_Md_takeOut_151 hA3 hi4.1 hi4.2.1 hi4.2.2 ?_
  exact kv_if_eq 199 dd_Md_takeOut_152 (by decide) (fun h => kv_loc [0, 1, 2, 3, 4] rfl (Kt h)) (fun h => kv_loc [0, 1, 2, 3, 4] rfl (Kf h))
theorem bl_Md_takeOut_155 {d : Nat} {B : kv_B} {Q : kv_Q} {kc ks n : Nat} {S : kv_SM} {I : kv_IM} {a0 : Nat} {v1 : Int32} {v2 : Int32} {v3 : Int32} {v4 : Int32} {r1 : Nat → Option Nat} {q2 : Nat} {m3 : Nat} {j4 : Nat} (hO1 : S a0 = kO 6 r1) (hr2 : r1 22 = some q2) (hA3 : S q2 = kI m3) (hi4 : (1500 * v3) + v4 = nI j4 ∧ j4 < m3 ∧ m3 < 2 ^ 31) (Kt : (I q2 j4) ≤ v1 → kv_V y_Md_takeOut d B Q kc ks n S I 190 [(0, .ref a0), (1, .int v1), (2, .int v2), (3, .int v3), (4, .int v4)] [.int (I q2 j4), .int ((1500 * v3) + v4), .ref q2]) (Kf : ¬ (I q2 j4) ≤ v1 → kv_V y_Md_takeOut d B Q kc ks n S I 186 [(0, .ref a0), (1, .int v1), (2, .int v2), (3, .int v3), (4, .int v4)] [.int (I q2 j4), .int ((1500 * v3) + v4), .ref q2]) : kv_V y_Md_takeOut d B Q kc ks n S I 155 [(0, .ref a0), (1, .int v1), (2, .int v2), (3, .int v3), (4, .int v4)] [] := by
  refine kv_aload_n dd_Md_takeOut_155 rfl ?_
  refine kv_getR fl_Md_57 dd_Md_takeOut_156 hO1 hr2 ?_
  refine kv_sipush (v := 1500) dd_Md_takeOut_159 (by decide) ?_
  refine kv_iload_n dd_Md_takeOut_162 rfl ?_
  refine kv_imul dd_Md_takeOut_163 ?_
  refine kv_iload dd_Md_takeOut_164 rfl ?_
  refine kv_iadd dd_Md_takeOut_166 ?_
  refine kv_dup2 dd_Md_takeOut_167 rfl rfl ?_
  refine kv_iald j4 dd_Md_takeOut_168 hA3 hi4.1 hi4.2.1 hi4.2.2 ?_
  refine kv_aload_n dd_Md_takeOut_169 rfl ?_
  refine kv_getR fl_Md_57 dd_Md_takeOut_170 hO1 hr2 ?_
  refine kv_sipush (v := 1500) dd_Md_takeOut_173 (by decide) ?_
  refine kv_iload_n dd_Md_takeOut_176 rfl ?_
  refine kv_imul dd_Md_takeOut_177 ?_
  refine kv_iload dd_Md_takeOut_178 rfl ?_
  refine kv_iadd dd_Md_takeOut_180 ?_
  refine kv_iald j4 dd_Md_takeOut_181 hA3 hi4.1 hi4.2.1 hi4.2.2 ?_
  refine kv_iload_n dd_Md_takeOut_182 rfl ?_
  exact kv_icmp_le 190 dd_Md_takeOut_183 (by decide) (fun h => kv_loc [0, 1, 2, 3, 4] rfl (Kt h)) (fun h => kv_loc [0, 1, 2, 3, 4] rfl (Kf h))
theorem bl_Md_takeOut_186 {d : Nat} {B : kv_B} {Q : kv_Q} {kc ks n : Nat} {S : kv_SM} {I : kv_IM} {a0 : Nat} {v1 : Int32} {v2 : Int32} {v3 : Int32} {v4 : Int32} {t0 : Int32} {t1 : Int32} {t2 : Nat} (K : kv_V y_Md_takeOut d B Q kc ks n S I 191 [(0, .ref a0), (1, .int v1), (2, .int v2), (3, .int v3), (4, .int v4)] [.int 1, .int t0, .int t1, .ref t2]) : kv_V y_Md_takeOut d B Q kc ks n S I 186 [(0, .ref a0), (1, .int v1), (2, .int v2), (3, .int v3), (4, .int v4)] [.int t0, .int t1, .ref t2] := by
  refine kv_iconst (v := 1) dd_Md_takeOut_186 (by decide) ?_
  refine kv_goto 191 dd_Md_takeOut_187 (by decide) ?_
  exact kv_loc [0, 1, 2, 3, 4] rfl K
theorem bl_Md_takeOut_190 {d : Nat} {B : kv_B} {Q : kv_Q} {kc ks n : Nat} {S : kv_SM} {I : kv_IM} {a0 : Nat} {v1 : Int32} {v2 : Int32} {v3 : Int32} {v4 : Int32} {t0 : Int32} {t1 : Int32} {t2 : Nat} (K : kv_V y_Md_takeOut d B Q kc ks n S I 191 [(0, .ref a0), (1, .int v1), (2, .int v2), (3, .int v3), (4, .int v4)] [.int 0, .int t0, .int t1, .ref t2]) : kv_V y_Md_takeOut d B Q kc ks n S I 190 [(0, .ref a0), (1, .int v1), (2, .int v2), (3, .int v3), (4, .int v4)] [.int t0, .int t1, .ref t2] := by
  refine kv_iconst (v := 0) dd_Md_takeOut_190 (by decide) ?_
  exact kv_loc [0, 1, 2, 3, 4] rfl K
theorem bl_Md_takeOut_191 {d : Nat} {B : kv_B} {Q : kv_Q} {kc ks n : Nat} {S : kv_SM} {I : kv_IM} {a0 : Nat} {v1 : Int32} {v2 : Int32} {v3 : Int32} {v4 : Int32} {t0 : Int32} {t1 : Int32} {t2 : Int32} {t3 : Nat} {m1 : Nat} {j2 : Nat} (hA1 : S t3 = kI m1) (hi2 : t2 = nI j2 ∧ j2 < m1 ∧ m1 < 2 ^ 31) (K : kv_V y_Md_takeOut d B Q kc ks n S (kv_up I t3 j2 (t1 - t0)) 135 [(0, .ref a0), (1, .int v1), (2, .int v2), (3, .int v3), (4, .int (v4 + 1))] []) : kv_V y_Md_takeOut d B Q kc ks n S I 191 [(0, .ref a0), (1, .int v1), (2, .int v2), (3, .int v3), (4, .int v4)] [.int t0, .int t1, .int t2, .ref t3] := by
  refine kv_isub dd_Md_takeOut_191 ?_
  refine kv_iast j2 dd_Md_takeOut_192 hA1 hi2.1 hi2.2.1 hi2.2.2 ?_
  refine kv_iinc (v := v4 + 1) (L' := [(4, .int (v4 + 1)), (0, .ref a0), (1, .int v1), (2, .int v2), (3, .int v3)]) dd_Md_takeOut_193 rfl rfl (by decide) rfl ?_
  refine kv_goto 135 dd_Md_takeOut_196 (by decide) ?_
  exact kv_loc [1, 2, 3, 4, 0] rfl K
theorem bl_Md_takeOut_199 {d : Nat} {B : kv_B} {Q : kv_Q} {kc ks n : Nat} {S : kv_SM} {I : kv_IM} {a0 : Nat} {v1 : Int32} {v2 : Int32} {v3 : Int32} {v4 : Int32} (K : kv_V y_Md_takeOut d B Q kc ks n S I 126 [(0, .ref a0), (1, .int v1), (2, .int v2), (3, .int (v3 + 1))] []) : kv_V y_Md_takeOut d B Q kc ks n S I 199 [(0, .ref a0), (1, .int v1), (2, .int v2), (3, .int v3), (4, .int v4)] [] := by
  refine kv_iinc (v := v3 + 1) (L' := [(3, .int (v3 + 1)), (0, .ref a0), (1, .int v1), (2, .int v2), (4, .int v4)]) dd_Md_takeOut_199 rfl rfl (by decide) rfl ?_
  refine kv_goto 126 dd_Md_takeOut_202 (by decide) ?_
  exact kv_loc [1, 2, 3, 0] rfl K
theorem bl_Md_takeOut_205 {d : Nat} {B : kv_B} {Q : kv_Q} {kc ks n : Nat} {S : kv_SM} {I : kv_IM} {a0 : Nat} {v1 : Int32} {v2 : Int32} {v3 : Int32} (hQ : Q (none) n S I) : kv_V y_Md_takeOut d B Q kc ks n S I 205 [(0, .ref a0), (1, .int v1), (2, .int v2), (3, .int v3)] [] := by
  exact kv_end (v := none) hQ ⟨dd_Md_takeOut_205, rfl⟩
theorem bl_Md_restore_0 {d : Nat} {B : kv_B} {Q : kv_Q} {kc ks n : Nat} {S : kv_SM} {I : kv_IM} {a0 : Nat} {v1 : Int32} {v2 : Int32} {r1 : Nat → Option Nat} {dc kcc ksc : Nat} {Qy : kv_Q} (hO1 : S a0 = kO 6 r1) (hM : kv_T y_Md_isSnapshot dc kcc ksc B [.ref a0, .int v1] n S (kv_up I a0 0 0) Qy) (hdp : dc + 1 ≤ d) (hkk : kcc ≤ kc) (hkl : ksc ≤ ks) (K : ∀ v n' S' I', Qy v n' S' I' → kv_V y_Md_restore d B Q (kc - kcc) (ks - ksc) n' S' I' 10 [(0, .ref a0), (1, .int v1), (2, .int v2)] (v.toList ++ [])) : kv_V y_Md_restore d B Q kc ks n S I 0 [(0, .ref a0), (1, .int v1), (2, .int v2)] [] := by
  refine kv_aload_n dd_Md_restore_0 rfl ?_
  refine kv_iconst (v := 0) dd_Md_restore_1 (by decide) ?_
  refine kv_putI fp_Md_67 (fun h => by cases h) dd_Md_restore_2 hO1 rfl rfl ?_
  refine kv_aload_n dd_Md_restore_5 rfl ?_
  refine kv_iload_n dd_Md_restore_6 rfl ?_
  exact kv_callV [.int v1] [] ls_Md_152 hO1 hM dd_Md_restore_7 rfl hdp (Nat.le_of_ble_eq_true rfl) hkk hkl (fun v n' S' I' hv => kv_loc [0, 1, 2] rfl (K v n' S' I' hv))
theorem bl_Md_restore_10 {d : Nat} {B : kv_B} {Q : kv_Q} {kc ks n : Nat} {S : kv_SM} {I : kv_IM} {a0 : Nat} {v1 : Int32} {v2 : Int32} {t0 : Int32} (Kt : t0 = 0 → kv_V y_Md_restore d B Q kc ks n S I 20 [(0, .ref a0), (1, .int v1), (2, .int v2)] []) (Kf : ¬ t0 = 0 → kv_V y_Md_restore d B Q kc ks n S I 13 [(0, .ref a0), (1, .int v1), (2, .int v2)] []) : kv_V y_Md_restore d B Q kc ks n S I 10 [(0, .ref a0), (1, .int v1), (2, .int v2)] [.int t0] := by
  exact kv_if_eq 20 dd_Md_restore_10 (by decide) (fun h => kv_loc [0, 1, 2] rfl (Kt h)) (fun h => kv_loc [0, 1, 2] rfl (Kf h))
theorem bl_Md_restore_13 {d : Nat} {B : kv_B} {Q : kv_Q} {kc ks n : Nat} {S : kv_SM} {I : kv_IM} {a0 : Nat} {v1 : Int32} {v2 : Int32} {dc kcc ksc : Nat} {Qy : kv_Q} (hM : kv_T y_Md_isText dc kcc ksc B [.int v2] n S I Qy) (hdp : dc + 1 ≤ d) (hkk : kcc ≤ kc) (hkl : ksc ≤ ks) (K : ∀ v n' S' I', Qy v n' S' I' → kv_V y_Md_restore d B Q (kc - kcc) (ks - ksc) n' S' I' 17 [(0, .ref a0), (1, .int v1), (2, .int v2)] (v.toList ++ [])) : kv_V y_Md_restore d B Q kc ks n S I 13 [(0, .ref a0), (1, .int v1), (2, .int v2)] [] := by
  refine kv_iload_n dd_Md_restore_13 rfl ?_
  exact kv_callS [.int v2] [] ls_Md_82 hM dd_Md_restore_14 rfl hdp (Nat.le_of_ble_eq_true rfl) hkk hkl (fun v n' S' I' hv => kv_loc [0, 1, 2] rfl (K v n' S' I' hv))
theorem bl_Md_restore_17 {d : Nat} {B : kv_B} {Q : kv_Q} {kc ks n : Nat} {S : kv_SM} {I : kv_IM} {a0 : Nat} {v1 : Int32} {v2 : Int32} {t0 : Int32} (Kt : ¬ t0 = 0 → kv_V y_Md_restore d B Q kc ks n S I 22 [(0, .ref a0), (1, .int v1), (2, .int v2)] []) (Kf : t0 = 0 → kv_V y_Md_restore d B Q kc ks n S I 20 [(0, .ref a0), (1, .int v1), (2, .int v2)] []) : kv_V y_Md_restore d B Q kc ks n S I 17 [(0, .ref a0), (1, .int v1), (2, .int v2)] [.int t0] := by
  exact kv_if_ne 22 dd_Md_restore_17 (by decide) (fun h => kv_loc [0, 1, 2] rfl (Kt h)) (fun h => kv_loc [0, 1, 2] rfl (Kf h))
theorem bl_Md_restore_20 {d : Nat} {B : kv_B} {Q : kv_Q} {kc ks n : Nat} {S : kv_SM} {I : kv_IM} {a0 : Nat} {v1 : Int32} {v2 : Int32} (hQ : Q (some (.int ((-1)))) n S I) : kv_V y_Md_restore d B Q kc ks n S I 20 [(0, .ref a0), (1, .int v1), (2, .int v2)] [] := by
  refine kv_iconst (v := (-1)) dd_Md_restore_20 (by decide) ?_
  exact kv_end (v := some (.int ((-1)))) hQ ⟨dd_Md_restore_21, .int, rfl, rfl⟩
theorem bl_Md_restore_22 {d : Nat} {B : kv_B} {Q : kv_Q} {kc ks n : Nat} {S : kv_SM} {I : kv_IM} {a0 : Nat} {v1 : Int32} {v2 : Int32} {r1 : Nat → Option Nat} {q2 : Nat} {m3 : Nat} {j4 : Nat} (hO1 : S a0 = kO 6 r1) (hr2 : r1 2 = some q2) (hA3 : S q2 = kI m3) (hi4 : v2 = nI j4 ∧ j4 < m3 ∧ m3 < 2 ^ 31) (K : kv_V y_Md_restore d B Q kc ks n S (kv_up I q2 j4 0) 31 [(0, .ref a0), (1, .int v1), (2, .int v2), (3, .int 0)] []) : kv_V y_Md_restore d B Q kc ks n S I 22 [(0, .ref a0), (1, .int v1), (2, .int v2)] [] := by
  refine kv_aload_n dd_Md_restore_22 rfl ?_
  refine kv_getR fl_Md_13 dd_Md_restore_23 hO1 hr2 ?_
  refine kv_iload_n dd_Md_restore_26 rfl ?_
  refine kv_iconst (v := 0) dd_Md_restore_27 (by decide) ?_
  refine kv_iast j4 dd_Md_restore_28 hA3 hi4.1 hi4.2.1 hi4.2.2 ?_
  refine kv_iconst (v := 0) dd_Md_restore_29 (by decide) ?_
  refine kv_istore_n (L' := [(3, .int 0), (0, .ref a0), (1, .int v1), (2, .int v2)]) dd_Md_restore_30 (by decide) rfl ?_
  exact kv_loc [1, 2, 3, 0] rfl K
theorem bl_Md_restore_31 {d : Nat} {B : kv_B} {Q : kv_Q} {kc ks n : Nat} {S : kv_SM} {I : kv_IM} {a0 : Nat} {v1 : Int32} {v2 : Int32} {v3 : Int32} {r1 : Nat → Option Nat} {q2 : Nat} {m3 : Nat} {j4 : Nat} (hO1 : S a0 = kO 6 r1) (hr2 : r1 21 = some q2) (hA3 : S q2 = kI m3) (hi4 : v1 = nI j4 ∧ j4 < m3 ∧ m3 < 2 ^ 31) (Kt : (I q2 j4) ≤ v3 → kv_V y_Md_restore d B Q kc ks n S I 124 [(0, .ref a0), (1, .int v1), (2, .int v2), (3, .int v3)] []) (Kf : ¬ (I q2 j4) ≤ v3 → kv_V y_Md_restore d B Q kc ks n S I 41 [(0, .ref a0), (1, .int v1), (2, .int v2), (3, .int v3)] []) : kv_V y_Md_restore d B Q kc ks n S I 31 [(0, .ref a0), (1, .int v1), (2, .int v2), (3, .int v3)] [] := by
  refine kv_iload_n dd_Md_restore_31 rfl ?_
  refine kv_aload_n dd_Md_restore_32 rfl ?_
  refine kv_getR fl_Md_54 dd_Md_restore_33 hO1 hr2 ?_
  refine kv_iload_n dd_Md_restore_36 rfl ?_
  refine kv_iald j4 dd_Md_restore_37 hA3 hi4.1 hi4.2.1 hi4.2.2 ?_
  exact kv_icmp_ge 124 dd_Md_restore_38 (by decide) (fun h => kv_loc [0, 1, 2, 3] rfl (Kt h)) (fun h => kv_loc [0, 1, 2, 3] rfl (Kf h))
theorem bl_Md_restore_41 {d : Nat} {B : kv_B} {Q : kv_Q} {kc ks n : Nat} {S : kv_SM} {I : kv_IM} {a0 : Nat} {v1 : Int32} {v2 : Int32} {v3 : Int32} {r1 : Nat → Option Nat} {q2 : Nat} {m3 : Nat} {j4 : Nat} (hO1 : S a0 = kO 6 r1) (hr2 : r1 22 = some q2) (hA3 : S q2 = kI m3) (hi4 : (1500 * v1) + v3 = nI j4 ∧ j4 < m3 ∧ m3 < 2 ^ 31) (K : kv_V y_Md_restore d B Q kc ks n S I 58 [(0, .ref a0), (1, .int v1), (2, .int v2), (3, .int v3), (4, .int (I q2 j4)), (5, .int 0)] []) : kv_V y_Md_restore d B Q kc ks n S I 41 [(0, .ref a0), (1, .int v1), (2, .int v2), (3, .int v3)] [] := by
  refine kv_aload_n dd_Md_restore_41 rfl ?_
  refine kv_getR fl_Md_57 dd_Md_restore_42 hO1 hr2 ?_
  refine kv_sipush (v := 1500) dd_Md_restore_45 (by decide) ?_
  refine kv_iload_n dd_Md_restore_48 rfl ?_
  refine kv_imul dd_Md_restore_49 ?_
  refine kv_iload_n dd_Md_restore_50 rfl ?_
  refine kv_iadd dd_Md_restore_51 ?_
  refine kv_iald j4 dd_Md_restore_52 hA3 hi4.1 hi4.2.1 hi4.2.2 ?_
  refine kv_istore (L' := [(4, .int (I q2 j4)), (0, .ref a0), (1, .int v1), (2, .int v2), (3, .int v3)]) dd_Md_restore_53 (by decide) rfl ?_
  refine kv_iconst (v := 0) dd_Md_restore_55 (by decide) ?_
  refine kv_istore (L' := [(5, .int 0), (4, .int (I q2 j4)), (0, .ref a0), (1, .int v1), (2, .int v2), (3, .int v3)]) dd_Md_restore_56 (by decide) rfl ?_
  exact kv_loc [2, 3, 4, 5, 1, 0] rfl K
theorem bl_Md_restore_58 {d : Nat} {B : kv_B} {Q : kv_Q} {kc ks n : Nat} {S : kv_SM} {I : kv_IM} {a0 : Nat} {v1 : Int32} {v2 : Int32} {v3 : Int32} {v4 : Int32} {v5 : Int32} {r1 : Nat → Option Nat} {q2 : Nat} {m3 : Nat} {j4 : Nat} (hO1 : S a0 = kO 6 r1) (hr2 : r1 18 = some q2) (hA3 : S q2 = kI m3) (hi4 : v4 = nI j4 ∧ j4 < m3 ∧ m3 < 2 ^ 31) (Kt : (I q2 j4) ≤ v5 → kv_V y_Md_restore d B Q kc ks n S I 118 [(0, .ref a0), (1, .int v1), (2, .int v2), (3, .int v3), (4, .int v4), (5, .int v5)] []) (Kf : ¬ (I q2 j4) ≤ v5 → kv_V y_Md_restore d B Q kc ks n S I 70 [(0, .ref a0), (1, .int v1), (2, .int v2), (3, .int v3), (4, .int v4), (5, .int v5)] []) : kv_V y_Md_restore d B Q kc ks n S I 58 [(0, .ref a0), (1, .int v1), (2, .int v2), (3, .int v3), (4, .int v4), (5, .int v5)] [] := by
  refine kv_iload dd_Md_restore_58 rfl ?_
  refine kv_aload_n dd_Md_restore_60 rfl ?_
  refine kv_getR fl_Md_44 dd_Md_restore_61 hO1 hr2 ?_
  refine kv_iload dd_Md_restore_64 rfl ?_
  refine kv_iald j4 dd_Md_restore_66 hA3 hi4.1 hi4.2.1 hi4.2.2 ?_
  exact kv_icmp_ge 118 dd_Md_restore_67 (by decide) (fun h => kv_loc [0, 1, 2, 3, 4, 5] rfl (Kt h)) (fun h => kv_loc [0, 1, 2, 3, 4, 5] rfl (Kf h))
theorem bl_Md_restore_70 {d : Nat} {B : kv_B} {Q : kv_Q} {kc ks n : Nat} {S : kv_SM} {I : kv_IM} {a0 : Nat} {v1 : Int32} {v2 : Int32} {v3 : Int32} {v4 : Int32} {v5 : Int32} {r1 : Nat → Option Nat} {q2 : Nat} {q3 : Nat} {m4 : Nat} {j5 : Nat} {q6 : Nat} {q7 : Nat} {m8 : Nat} {j9 : Nat} {m10 : Nat} {j11 : Nat} {m12 : Nat} {j13 : Nat} (hO1 : S a0 = kO 6 r1) (hr2 : r1 1 = some q2) (hr3 : r1 2 = some q3) (hA4 : S q3 = kI m4) (hi5 : v2 = nI j5 ∧ j5 < m4 ∧ m4 < 2 ^ 31) (hr6 : r1 14 = some q6) (hr7 : r1 17 = some q7) (hA8 : S q7 = kI m8) (hi9 : v4 = nI j9 ∧ j9 < m8 ∧ m8 < 2 ^ 31) (hA10 : S q6 = kI m10) (hi11 : (I q7 j9) + v5 = nI j11 ∧ j11 < m10 ∧ m10 < 2 ^ 31) (hA12 : S q2 = kI m12) (hi13 : (1500 * v2) + (I q3 j5) = nI j13 ∧ j13 < m12 ∧ m12 < 2 ^ 31) (K : kv_V y_Md_restore d B Q kc ks n S (kv_up (kv_up I q2 j13 (I q6 j11)) q3 j5 (((kv_up I q2 j13 (I q6 j11)) q3 j5) + 1)) 58 [(0, .ref a0), (1, .int v1), (2, .int v2), (3, .int v3), (4, .int v4), (5, .int (v5 + 1))] []) : kv_V y_Md_restore d B Q kc ks n S I 70 [(0, .ref a0), (1, .int v1), (2, .int v2), (3, .int v3), (4, .int v4), (5, .int v5)] [] := by
  refine kv_aload_n dd_Md_restore_70 rfl ?_
  refine kv_getR fl_Md_7 dd_Md_restore_71 hO1 hr2 ?_
  refine kv_sipush (v := 1500) dd_Md_restore_74 (by decide) ?_
  refine kv_iload_n dd_Md_restore_77 rfl ?_
  refine kv_imul dd_Md_restore_78 ?_
  refine kv_aload_n dd_Md_restore_79 rfl ?_
  refine kv_getR fl_Md_13 dd_Md_restore_80 hO1 hr3 ?_
  refine kv_iload_n dd_Md_restore_83 rfl ?_
  refine kv_iald j5 dd_Md_restore_84 hA4 hi5.1 hi5.2.1 hi5.2.2 ?_
  refine kv_iadd dd_Md_restore_85 ?_
  refine kv_aload_n dd_Md_restore_86 rfl ?_
  refine kv_getR fl_Md_38 dd_Md_restore_87 hO1 hr6 ?_
  refine kv_aload_n dd_Md_restore_90 rfl ?_
  refine kv_getR fl_Md_41 dd_Md_restore_91 hO1 hr7 ?_
  refine kv_iload dd_Md_restore_94 rfl ?_
  refine kv_iald j9 dd_Md_restore_96 hA8 hi9.1 hi9.2.1 hi9.2.2 ?_
  refine kv_iload dd_Md_restore_97 rfl ?_
  refine kv_iadd dd_Md_restore_99 ?_
  refine kv_iald j11 dd_Md_restore_100 hA10 hi11.1 hi11.2.1 hi11.2.2 ?_
  refine kv_iast j13 dd_Md_restore_101 hA12 hi13.1 hi13.2.1 hi13.2.2 ?_
  refine kv_aload_n dd_Md_restore_102 rfl ?_
  refine kv_getR fl_Md_13 dd_Md_restore_103 hO1 hr3 ?_
  refine kv_iload_n dd_Md_restore_106 rfl ?_
  refine kv_dup2 dd_Md_restore_107 rfl rfl ?_
  refine kv_iald j5 dd_Md_restore_108 hA4 hi5.1 hi5.2.1 hi5.2.2 ?_
  refine kv_iconst (v := 1) dd_Md_restore_109 (by decide) ?_
  refine kv_iadd dd_Md_restore_110 ?_
  refine kv_iast j5 dd_Md_restore_111 hA4 hi5.1 hi5.2.1 hi5.2.2 ?_
  refine kv_iinc (v := v5 + 1) (L' := [(5, .int (v5 + 1)), (0, .ref a0), (1, .int v1), (2, .int v2), (3, .int v3), (4, .int v4)]) dd_Md_restore_112 rfl rfl (by decide) rfl ?_
  refine kv_goto 58 dd_Md_restore_115 (by decide) ?_
  exact kv_loc [1, 2, 3, 4, 5, 0] rfl K
theorem bl_Md_restore_118 {d : Nat} {B : kv_B} {Q : kv_Q} {kc ks n : Nat} {S : kv_SM} {I : kv_IM} {a0 : Nat} {v1 : Int32} {v2 : Int32} {v3 : Int32} {v4 : Int32} {v5 : Int32} (K : kv_V y_Md_restore d B Q kc ks n S I 31 [(0, .ref a0), (1, .int v1), (2, .int v2), (3, .int (v3 + 1))] []) : kv_V y_Md_restore d B Q kc ks n S I 118 [(0, .ref a0), (1, .int v1), (2, .int v2), (3, .int v3), (4, .int v4), (5, .int v5)] [] := by
  refine kv_iinc (v := v3 + 1) (L' := [(3, .int (v3 + 1)), (0, .ref a0), (1, .int v1), (2, .int v2), (4, .int v4), (5, .int v5)]) dd_Md_restore_118 rfl rfl (by decide) rfl ?_
  refine kv_goto 31 dd_Md_restore_121 (by decide) ?_
  exact kv_loc [1, 2, 3, 0] rfl K
theorem bl_Md_restore_124 {d : Nat} {B : kv_B} {Q : kv_Q} {kc ks n : Nat} {S : kv_SM} {I : kv_IM} {a0 : Nat} {v1 : Int32} {v2 : Int32} {v3 : Int32} {r1 : Nat → Option Nat} {q2 : Nat} {m3 : Nat} {j4 : Nat} (hO1 : S a0 = kO 6 r1) (hr2 : r1 2 = some q2) (hA3 : S q2 = kI m3) (hi4 : v2 = nI j4 ∧ j4 < m3 ∧ m3 < 2 ^ 31) (hQ : Q (some (.int (I q2 j4))) n S I) : kv_V y_Md_restore d B Q kc ks n S I 124 [(0, .ref a0), (1, .int v1), (2, .int v2), (3, .int v3)] [] := by
  refine kv_aload_n dd_Md_restore_124 rfl ?_
  refine kv_getR fl_Md_13 dd_Md_restore_125 hO1 hr2 ?_
  refine kv_iload_n dd_Md_restore_128 rfl ?_
  refine kv_iald j4 dd_Md_restore_129 hA3 hi4.1 hi4.2.1 hi4.2.2 ?_
  exact kv_end (v := some (.int (I q2 j4))) hQ ⟨dd_Md_restore_130, .int, rfl, rfl⟩
theorem bl_Md_told_0 {d : Nat} {B : kv_B} {Q : kv_Q} {kc ks n : Nat} {S : kv_SM} {I : kv_IM} {a0 : Nat} {v1 : Int32} {v2 : Int32} {r1 : Nat → Option Nat} {dc kcc ksc : Nat} {Qy : kv_Q} (hO1 : S a0 = kO 6 r1) (hM : kv_T y_Md_isSnapshot dc kcc ksc B [.ref a0, .int v1] n S (kv_up I a0 0 0) Qy) (hdp : dc + 1 ≤ d) (hkk : kcc ≤ kc) (hkl : ksc ≤ ks) (K : ∀ v n' S' I', Qy v n' S' I' → kv_V y_Md_told d B Q (kc - kcc) (ks - ksc) n' S' I' 10 [(0, .ref a0), (1, .int v1), (2, .int v2)] (v.toList ++ [])) : kv_V y_Md_told d B Q kc ks n S I 0 [(0, .ref a0), (1, .int v1), (2, .int v2)] [] := by
  refine kv_aload_n dd_Md_told_0 rfl ?_
  refine kv_iconst (v := 0) dd_Md_told_1 (by decide) ?_
  refine kv_putI fp_Md_67 (fun h => by cases h) dd_Md_told_2 hO1 rfl rfl ?_
  refine kv_aload_n dd_Md_told_5 rfl ?_
  refine kv_iload_n dd_Md_told_6 rfl ?_
  exact kv_callV [.int v1] [] ls_Md_152 hO1 hM dd_Md_told_7 rfl hdp (Nat.le_of_ble_eq_true rfl) hkk hkl (fun v n' S' I' hv => kv_loc [0, 1, 2] rfl (K v n' S' I' hv))
theorem bl_Md_told_10 {d : Nat} {B : kv_B} {Q : kv_Q} {kc ks n : Nat} {S : kv_SM} {I : kv_IM} {a0 : Nat} {v1 : Int32} {v2 : Int32} {t0 : Int32} (Kt : t0 = 0 → kv_V y_Md_told d B Q kc ks n S I 22 [(0, .ref a0), (1, .int v1), (2, .int v2)] []) (Kf : ¬ t0 = 0 → kv_V y_Md_told d B Q kc ks n S I 13 [(0, .ref a0), (1, .int v1), (2, .int v2)] []) : kv_V y_Md_told d B Q kc ks n S I 10 [(0, .ref a0), (1, .int v1), (2, .int v2)] [.int t0] := by
  exact kv_if_eq 22 dd_Md_told_10 (by decide) (fun h => kv_loc [0, 1, 2] rfl (Kt h)) (fun h => kv_loc [0, 1, 2] rfl (Kf h))
theorem bl_Md_told_13 {d : Nat} {B : kv_B} {Q : kv_Q} {kc ks n : Nat} {S : kv_SM} {I : kv_IM} {a0 : Nat} {v1 : Int32} {v2 : Int32} {dc kcc ksc : Nat} {Qy : kv_Q} (hM : kv_T y_Md_in dc kcc ksc B [.int v2, .int 0, .int 1] n S I Qy) (hdp : dc + 1 ≤ d) (hkk : kcc ≤ kc) (hkl : ksc ≤ ks) (K : ∀ v n' S' I', Qy v n' S' I' → kv_V y_Md_told d B Q (kc - kcc) (ks - ksc) n' S' I' 19 [(0, .ref a0), (1, .int v1), (2, .int v2)] (v.toList ++ [])) : kv_V y_Md_told d B Q kc ks n S I 13 [(0, .ref a0), (1, .int v1), (2, .int v2)] [] := by
  refine kv_iload_n dd_Md_told_13 rfl ?_
  refine kv_iconst (v := 0) dd_Md_told_14 (by decide) ?_
  refine kv_iconst (v := 1) dd_Md_told_15 (by decide) ?_
  exact kv_callS [.int v2, .int 0, .int 1] [] ls_Md_72 hM dd_Md_told_16 rfl hdp (Nat.le_of_ble_eq_true rfl) hkk hkl (fun v n' S' I' hv => kv_loc [0, 1, 2] rfl (K v n' S' I' hv))
theorem bl_Md_told_19 {d : Nat} {B : kv_B} {Q : kv_Q} {kc ks n : Nat} {S : kv_SM} {I : kv_IM} {a0 : Nat} {v1 : Int32} {v2 : Int32} {t0 : Int32} (Kt : ¬ t0 = 0 → kv_V y_Md_told d B Q kc ks n S I 24 [(0, .ref a0), (1, .int v1), (2, .int v2)] []) (Kf : t0 = 0 → kv_V y_Md_told d B Q kc ks n S I 22 [(0, .ref a0), (1, .int v1), (2, .int v2)] []) : kv_V y_Md_told d B Q kc ks n S I 19 [(0, .ref a0), (1, .int v1), (2, .int v2)] [.int t0] := by
  exact kv_if_ne 24 dd_Md_told_19 (by decide) (fun h => kv_loc [0, 1, 2] rfl (Kt h)) (fun h => kv_loc [0, 1, 2] rfl (Kf h))
theorem bl_Md_told_22 {d : Nat} {B : kv_B} {Q : kv_Q} {kc ks n : Nat} {S : kv_SM} {I : kv_IM} {a0 : Nat} {v1 : Int32} {v2 : Int32} (hQ : Q (some (.int ((-1)))) n S I) : kv_V y_Md_told d B Q kc ks n S I 22 [(0, .ref a0), (1, .int v1), (2, .int v2)] [] := by
  refine kv_iconst (v := (-1)) dd_Md_told_22 (by decide) ?_
  exact kv_end (v := some (.int ((-1)))) hQ ⟨dd_Md_told_23, .int, rfl, rfl⟩
theorem bl_Md_told_24 {d : Nat} {B : kv_B} {Q : kv_Q} {kc ks n : Nat} {S : kv_SM} {I : kv_IM} {a0 : Nat} {v1 : Int32} {v2 : Int32} (Kt : ¬ v2 = 0 → kv_V y_Md_told d B Q kc ks n S I 37 [(0, .ref a0), (1, .int v1), (2, .int v2)] []) (Kf : v2 = 0 → kv_V y_Md_told d B Q kc ks n S I 28 [(0, .ref a0), (1, .int v1), (2, .int v2)] []) : kv_V y_Md_told d B Q kc ks n S I 24 [(0, .ref a0), (1, .int v1), (2, .int v2)] [] := by
  refine kv_iload_n dd_Md_told_24 rfl ?_
  exact kv_if_ne 37 dd_Md_told_25 (by decide) (fun h => kv_loc [0, 1, 2] rfl (Kt h)) (fun h => kv_loc [0, 1, 2] rfl (Kf h))
theorem bl_Md_told_28 {d : Nat} {B : kv_B} {Q : kv_Q} {kc ks n : Nat} {S : kv_SM} {I : kv_IM} {a0 : Nat} {v1 : Int32} {v2 : Int32} {r1 : Nat → Option Nat} {q2 : Nat} {m3 : Nat} {j4 : Nat} (hO1 : S a0 = kO 6 r1) (hr2 : r1 21 = some q2) (hA3 : S q2 = kI m3) (hi4 : v1 = nI j4 ∧ j4 < m3 ∧ m3 < 2 ^ 31) (K : kv_V y_Md_told d B Q kc ks n S I 42 [(0, .ref a0), (1, .int v1), (2, .int v2)] [.int (I q2 j4)]) : kv_V y_Md_told d B Q kc ks n S I 28 [(0, .ref a0), (1, .int v1), (2, .int v2)] [] := by
  refine kv_aload_n dd_Md_told_28 rfl ?_
  refine kv_getR fl_Md_54 dd_Md_told_29 hO1 hr2 ?_
  refine kv_iload_n dd_Md_told_32 rfl ?_
  refine kv_iald j4 dd_Md_told_33 hA3 hi4.1 hi4.2.1 hi4.2.2 ?_
  refine kv_goto 42 dd_Md_told_34 (by decide) ?_
  exact kv_loc [0, 1, 2] rfl K
theorem bl_Md_told_37 {d : Nat} {B : kv_B} {Q : kv_Q} {kc ks n : Nat} {S : kv_SM} {I : kv_IM} {a0 : Nat} {v1 : Int32} {v2 : Int32} {dc kcc ksc : Nat} {Qy : kv_Q} {r1 : Nat → Option Nat} (hO1 : S a0 = kO 6 r1) (hM : kv_T y_Md_bytesOf dc kcc ksc B [.ref a0, .int v1] n S I Qy) (hdp : dc + 1 ≤ d) (hkk : kcc ≤ kc) (hkl : ksc ≤ ks) (K : ∀ v n' S' I', Qy v n' S' I' → kv_V y_Md_told d B Q (kc - kcc) (ks - ksc) n' S' I' 42 [(0, .ref a0), (1, .int v1), (2, .int v2)] (v.toList ++ [])) : kv_V y_Md_told d B Q kc ks n S I 37 [(0, .ref a0), (1, .int v1), (2, .int v2)] [] := by
  refine kv_aload_n dd_Md_told_37 rfl ?_
  refine kv_iload_n dd_Md_told_38 rfl ?_
  exact kv_callV [.int v1] [] ls_Md_158 hO1 hM dd_Md_told_39 rfl hdp (Nat.le_of_ble_eq_true rfl) hkk hkl (fun v n' S' I' hv => kv_loc [0, 1, 2] rfl (K v n' S' I' hv))
theorem bl_Md_told_42 {d : Nat} {B : kv_B} {Q : kv_Q} {kc ks n : Nat} {S : kv_SM} {I : kv_IM} {a0 : Nat} {v1 : Int32} {v2 : Int32} {t0 : Int32} (hQ : Q (some (.int t0)) n S I) : kv_V y_Md_told d B Q kc ks n S I 42 [(0, .ref a0), (1, .int v1), (2, .int v2)] [.int t0] := by
  exact kv_end (v := some (.int t0)) hQ ⟨dd_Md_told_42, .int, rfl, rfl⟩
theorem bl_Md_bytesOf_0 {d : Nat} {B : kv_B} {Q : kv_Q} {kc ks n : Nat} {S : kv_SM} {I : kv_IM} {a0 : Nat} {v1 : Int32} (K : kv_V y_Md_bytesOf d B Q kc ks n S I 4 [(0, .ref a0), (1, .int v1), (2, .int 0), (3, .int 0)] []) : kv_V y_Md_bytesOf d B Q kc ks n S I 0 [(0, .ref a0), (1, .int v1)] [] := by
  refine kv_iconst (v := 0) dd_Md_bytesOf_0 (by decide) ?_
  refine kv_istore_n (L' := [(2, .int 0), (0, .ref a0), (1, .int v1)]) dd_Md_bytesOf_1 (by decide) rfl ?_
  refine kv_iconst (v := 0) dd_Md_bytesOf_2 (by decide) ?_
  refine kv_istore_n (L' := [(3, .int 0), (2, .int 0), (0, .ref a0), (1, .int v1)]) dd_Md_bytesOf_3 (by decide) rfl ?_
  exact kv_loc [2, 3, 1, 0] rfl K
theorem bl_Md_bytesOf_4 {d : Nat} {B : kv_B} {Q : kv_Q} {kc ks n : Nat} {S : kv_SM} {I : kv_IM} {a0 : Nat} {v1 : Int32} {v2 : Int32} {v3 : Int32} {r1 : Nat → Option Nat} {q2 : Nat} {m3 : Nat} {j4 : Nat} (hO1 : S a0 = kO 6 r1) (hr2 : r1 21 = some q2) (hA3 : S q2 = kI m3) (hi4 : v1 = nI j4 ∧ j4 < m3 ∧ m3 < 2 ^ 31) (Kt : (I q2 j4) ≤ v3 → kv_V y_Md_bytesOf d B Q kc ks n S I 40 [(0, .ref a0), (1, .int v1), (2, .int v2), (3, .int v3)] []) (Kf : ¬ (I q2 j4) ≤ v3 → kv_V y_Md_bytesOf d B Q kc ks n S I 14 [(0, .ref a0), (1, .int v1), (2, .int v2), (3, .int v3)] []) : kv_V y_Md_bytesOf d B Q kc ks n S I 4 [(0, .ref a0), (1, .int v1), (2, .int v2), (3, .int v3)] [] := by
  refine kv_iload_n dd_Md_bytesOf_4 rfl ?_
  refine kv_aload_n dd_Md_bytesOf_5 rfl ?_
  refine kv_getR fl_Md_54 dd_Md_bytesOf_6 hO1 hr2 ?_
  refine kv_iload_n dd_Md_bytesOf_9 rfl ?_
  refine kv_iald j4 dd_Md_bytesOf_10 hA3 hi4.1 hi4.2.1 hi4.2.2 ?_
  exact kv_icmp_ge 40 dd_Md_bytesOf_11 (by decide) (fun h => kv_loc [0, 1, 2, 3] rfl (Kt h)) (fun h => kv_loc [0, 1, 2, 3] rfl (Kf h))
theorem bl_Md_bytesOf_14 {d : Nat} {B : kv_B} {Q : kv_Q} {kc ks n : Nat} {S : kv_SM} {I : kv_IM} {a0 : Nat} {v1 : Int32} {v2 : Int32} {v3 : Int32} {r1 : Nat → Option Nat} {q2 : Nat} {q3 : Nat} {m4 : Nat} {j5 : Nat} {m6 : Nat} {j7 : Nat} (hO1 : S a0 = kO 6 r1) (hr2 : r1 18 = some q2) (hr3 : r1 22 = some q3) (hA4 : S q3 = kI m4) (hi5 : (1500 * v1) + v3 = nI j5 ∧ j5 < m4 ∧ m4 < 2 ^ 31) (hA6 : S q2 = kI m6) (hi7 : I q3 j5 = nI j7 ∧ j7 < m6 ∧ m6 < 2 ^ 31) (K : kv_V y_Md_bytesOf d B Q kc ks n S I 4 [(0, .ref a0), (1, .int v1), (2, .int (v2 + (I q2 j7))), (3, .int (v3 + 1))] []) : kv_V y_Md_bytesOf d B Q kc ks n S I 14 [(0, .ref a0), (1, .int v1), (2, .int v2), (3, .int v3)] [] := by
  refine kv_iload_n dd_Md_bytesOf_14 rfl ?_
  refine kv_aload_n dd_Md_bytesOf_15 rfl ?_
  refine kv_getR fl_Md_44 dd_Md_bytesOf_16 hO1 hr2 ?_
  refine kv_aload_n dd_Md_bytesOf_19 rfl ?_
  refine kv_getR fl_Md_57 dd_Md_bytesOf_20 hO1 hr3 ?_
  refine kv_sipush (v := 1500) dd_Md_bytesOf_23 (by decide) ?_
  refine kv_iload_n dd_Md_bytesOf_26 rfl ?_
  refine kv_imul dd_Md_bytesOf_27 ?_
  refine kv_iload_n dd_Md_bytesOf_28 rfl ?_
  refine kv_iadd dd_Md_bytesOf_29 ?_
  refine kv_iald j5 dd_Md_bytesOf_30 hA4 hi5.1 hi5.2.1 hi5.2.2 ?_
  refine kv_iald j7 dd_Md_bytesOf_31 hA6 hi7.1 hi7.2.1 hi7.2.2 ?_
  refine kv_iadd dd_Md_bytesOf_32 ?_
  refine kv_istore_n (L' := [(2, .int (v2 + (I q2 j7))), (0, .ref a0), (1, .int v1), (3, .int v3)]) dd_Md_bytesOf_33 (by decide) rfl ?_
  refine kv_iinc (v := v3 + 1) (L' := [(3, .int (v3 + 1)), (2, .int (v2 + (I q2 j7))), (0, .ref a0), (1, .int v1)]) dd_Md_bytesOf_34 rfl rfl (by decide) rfl ?_
  refine kv_goto 4 dd_Md_bytesOf_37 (by decide) ?_
  exact kv_loc [2, 3, 1, 0] rfl K
theorem bl_Md_bytesOf_40 {d : Nat} {B : kv_B} {Q : kv_Q} {kc ks n : Nat} {S : kv_SM} {I : kv_IM} {a0 : Nat} {v1 : Int32} {v2 : Int32} {v3 : Int32} (hQ : Q (some (.int v2)) n S I) : kv_V y_Md_bytesOf d B Q kc ks n S I 40 [(0, .ref a0), (1, .int v1), (2, .int v2), (3, .int v3)] [] := by
  refine kv_iload_n dd_Md_bytesOf_40 rfl ?_
  exact kv_end (v := some (.int v2)) hQ ⟨dd_Md_bytesOf_41, .int, rfl, rfl⟩
theorem bl_Md_uses_0 {d : Nat} {B : kv_B} {Q : kv_Q} {kc ks n : Nat} {S : kv_SM} {I : kv_IM} {a0 : Nat} {v1 : Int32} {v2 : Int32} {r1 : Nat → Option Nat} {dc kcc ksc : Nat} {Qy : kv_Q} (hO1 : S a0 = kO 6 r1) (hM : kv_T y_Md_isBlock dc kcc ksc B [.ref a0, .int v1, .int v2] n S (kv_up I a0 0 0) Qy) (hdp : dc + 1 ≤ d) (hkk : kcc ≤ kc) (hkl : ksc ≤ ks) (K : ∀ v n' S' I', Qy v n' S' I' → kv_V y_Md_uses d B Q (kc - kcc) (ks - ksc) n' S' I' 11 [(0, .ref a0), (1, .int v1), (2, .int v2)] (v.toList ++ [])) : kv_V y_Md_uses d B Q kc ks n S I 0 [(0, .ref a0), (1, .int v1), (2, .int v2)] [] := by
  refine kv_aload_n dd_Md_uses_0 rfl ?_
  refine kv_iconst (v := 0) dd_Md_uses_1 (by decide) ?_
  refine kv_putI fp_Md_67 (fun h => by cases h) dd_Md_uses_2 hO1 rfl rfl ?_
  refine kv_aload_n dd_Md_uses_5 rfl ?_
  refine kv_iload_n dd_Md_uses_6 rfl ?_
  refine kv_iload_n dd_Md_uses_7 rfl ?_
  exact kv_callV [.int v1, .int v2] [] ls_Md_113 hO1 hM dd_Md_uses_8 rfl hdp (Nat.le_of_ble_eq_true rfl) hkk hkl (fun v n' S' I' hv => kv_loc [0, 1, 2] rfl (K v n' S' I' hv))
theorem bl_Md_uses_11 {d : Nat} {B : kv_B} {Q : kv_Q} {kc ks n : Nat} {S : kv_SM} {I : kv_IM} {a0 : Nat} {v1 : Int32} {v2 : Int32} {t0 : Int32} (Kt : ¬ t0 = 0 → kv_V y_Md_uses d B Q kc ks n S I 16 [(0, .ref a0), (1, .int v1), (2, .int v2)] []) (Kf : t0 = 0 → kv_V y_Md_uses d B Q kc ks n S I 14 [(0, .ref a0), (1, .int v1), (2, .int v2)] []) : kv_V y_Md_uses d B Q kc ks n S I 11 [(0, .ref a0), (1, .int v1), (2, .int v2)] [.int t0] := by
  exact kv_if_ne 16 dd_Md_uses_11 (by decide) (fun h => kv_loc [0, 1, 2] rfl (Kt h)) (fun h => kv_loc [0, 1, 2] rfl (Kf h))
theorem bl_Md_uses_14 {d : Nat} {B : kv_B} {Q : kv_Q} {kc ks n : Nat} {S : kv_SM} {I : kv_IM} {a0 : Nat} {v1 : Int32} {v2 : Int32} (hQ : Q (some (.int ((-1)))) n S I) : kv_V y_Md_uses d B Q kc ks n S I 14 [(0, .ref a0), (1, .int v1), (2, .int v2)] [] := by
  refine kv_iconst (v := (-1)) dd_Md_uses_14 (by decide) ?_
  exact kv_end (v := some (.int ((-1)))) hQ ⟨dd_Md_uses_15, .int, rfl, rfl⟩
theorem bl_Md_uses_16 {d : Nat} {B : kv_B} {Q : kv_Q} {kc ks n : Nat} {S : kv_SM} {I : kv_IM} {a0 : Nat} {v1 : Int32} {v2 : Int32} {dc kcc ksc : Nat} {Qy : kv_Q} {r1 : Nat → Option Nat} (hO1 : S a0 = kO 6 r1) (hM : kv_T y_Md_find dc kcc ksc B [.ref a0, .int v1, .int v2] n S I Qy) (hdp : dc + 1 ≤ d) (hkk : kcc ≤ kc) (hkl : ksc ≤ ks) (K : ∀ v n' S' I', Qy v n' S' I' → kv_V y_Md_uses d B Q (kc - kcc) (ks - ksc) n' S' I' 22 [(0, .ref a0), (1, .int v1), (2, .int v2)] (v.toList ++ [])) : kv_V y_Md_uses d B Q kc ks n S I 16 [(0, .ref a0), (1, .int v1), (2, .int v2)] [] := by
  refine kv_aload_n dd_Md_uses_16 rfl ?_
  refine kv_iload_n dd_Md_uses_17 rfl ?_
  refine kv_iload_n dd_Md_uses_18 rfl ?_
  exact kv_callV [.int v1, .int v2] [] ls_Md_146 hO1 hM dd_Md_uses_19 rfl hdp (Nat.le_of_ble_eq_true rfl) hkk hkl (fun v n' S' I' hv => kv_loc [0, 1, 2] rfl (K v n' S' I' hv))
theorem bl_Md_uses_22 {d : Nat} {B : kv_B} {Q : kv_Q} {kc ks n : Nat} {S : kv_SM} {I : kv_IM} {a0 : Nat} {v1 : Int32} {v2 : Int32} {t0 : Int32} (Kt : 0 ≤ t0 → kv_V y_Md_uses d B Q kc ks n S I 31 [(0, .ref a0), (1, .int v1), (2, .int v2), (3, .int t0)] []) (Kf : ¬ 0 ≤ t0 → kv_V y_Md_uses d B Q kc ks n S I 27 [(0, .ref a0), (1, .int v1), (2, .int v2), (3, .int t0)] []) : kv_V y_Md_uses d B Q kc ks n S I 22 [(0, .ref a0), (1, .int v1), (2, .int v2)] [.int t0] := by
  refine kv_istore_n (L' := [(3, .int t0), (0, .ref a0), (1, .int v1), (2, .int v2)]) dd_Md_uses_22 (by decide) rfl ?_
  refine kv_iload_n dd_Md_uses_23 rfl ?_
  exact kv_if_ge 31 dd_Md_uses_24 (by decide) (fun h => kv_loc [1, 2, 3, 0] rfl (Kt h)) (fun h => kv_loc [1, 2, 3, 0] rfl (Kf h))
theorem bl_Md_uses_27 {d : Nat} {B : kv_B} {Q : kv_Q} {kc ks n : Nat} {S : kv_SM} {I : kv_IM} {a0 : Nat} {v1 : Int32} {v2 : Int32} {v3 : Int32} (K : kv_V y_Md_uses d B Q kc ks n S I 37 [(0, .ref a0), (1, .int v1), (2, .int v2), (3, .int v3)] [.int 0]) : kv_V y_Md_uses d B Q kc ks n S I 27 [(0, .ref a0), (1, .int v1), (2, .int v2), (3, .int v3)] [] := by
  refine kv_iconst (v := 0) dd_Md_uses_27 (by decide) ?_
  refine kv_goto 37 dd_Md_uses_28 (by decide) ?_
  exact kv_loc [0, 1, 2, 3] rfl K
theorem bl_Md_uses_31 {d : Nat} {B : kv_B} {Q : kv_Q} {kc ks n : Nat} {S : kv_SM} {I : kv_IM} {a0 : Nat} {v1 : Int32} {v2 : Int32} {v3 : Int32} {r1 : Nat → Option Nat} {q2 : Nat} {m3 : Nat} {j4 : Nat} (hO1 : S a0 = kO 6 r1) (hr2 : r1 19 = some q2) (hA3 : S q2 = kI m3) (hi4 : v3 = nI j4 ∧ j4 < m3 ∧ m3 < 2 ^ 31) (K : kv_V y_Md_uses d B Q kc ks n S I 37 [(0, .ref a0), (1, .int v1), (2, .int v2), (3, .int v3)] [.int (I q2 j4)]) : kv_V y_Md_uses d B Q kc ks n S I 31 [(0, .ref a0), (1, .int v1), (2, .int v2), (3, .int v3)] [] := by
  refine kv_aload_n dd_Md_uses_31 rfl ?_
  refine kv_getR fl_Md_47 dd_Md_uses_32 hO1 hr2 ?_
  refine kv_iload_n dd_Md_uses_35 rfl ?_
  refine kv_iald j4 dd_Md_uses_36 hA3 hi4.1 hi4.2.1 hi4.2.2 ?_
  exact kv_loc [0, 1, 2, 3] rfl K
theorem bl_Md_uses_37 {d : Nat} {B : kv_B} {Q : kv_Q} {kc ks n : Nat} {S : kv_SM} {I : kv_IM} {a0 : Nat} {v1 : Int32} {v2 : Int32} {v3 : Int32} {t0 : Int32} (hQ : Q (some (.int t0)) n S I) : kv_V y_Md_uses d B Q kc ks n S I 37 [(0, .ref a0), (1, .int v1), (2, .int v2), (3, .int v3)] [.int t0] := by
  exact kv_end (v := some (.int t0)) hQ ⟨dd_Md_uses_37, .int, rfl, rfl⟩
theorem bl_Md_kept_0 {d : Nat} {B : kv_B} {Q : kv_Q} {kc ks n : Nat} {S : kv_SM} {I : kv_IM} {a0 : Nat} {v1 : Int32} {r1 : Nat → Option Nat} (hO1 : S a0 = kO 6 r1) (K0 : v1 = nI 0 → kv_V y_Md_kept d B Q kc ks n S (kv_up I a0 0 0) 48 [(0, .ref a0), (1, .int v1), (2, .int 0)] []) (K1 : v1 = nI 1 → kv_V y_Md_kept d B Q kc ks n S (kv_up I a0 0 0) 81 [(0, .ref a0), (1, .int v1), (2, .int 0)] []) (K2 : v1 = nI 2 → kv_V y_Md_kept d B Q kc ks n S (kv_up I a0 0 0) 86 [(0, .ref a0), (1, .int v1), (2, .int 0)] []) (K3 : v1 = nI 3 → kv_V y_Md_kept d B Q kc ks n S (kv_up I a0 0 0) 91 [(0, .ref a0), (1, .int v1), (2, .int 0)] []) (K4 : v1 = nI 4 → kv_V y_Md_kept d B Q kc ks n S (kv_up I a0 0 0) 118 [(0, .ref a0), (1, .int v1), (2, .int 0)] []) (K5 : v1 = nI 5 → kv_V y_Md_kept d B Q kc ks n S (kv_up I a0 0 0) 124 [(0, .ref a0), (1, .int v1), (2, .int 0)] []) (Kd : (∀ k : Nat, k < 6 → ¬ v1 = nI k) → kv_V y_Md_kept d B Q kc ks n S (kv_up I a0 0 0) 130 [(0, .ref a0), (1, .int v1), (2, .int 0)] []) : kv_V y_Md_kept d B Q kc ks n S I 0 [(0, .ref a0), (1, .int v1)] [] := by
  refine kv_aload_n dd_Md_kept_0 rfl ?_
  refine kv_iconst (v := 0) dd_Md_kept_1 (by decide) ?_
  refine kv_putI fp_Md_67 (fun h => by cases h) dd_Md_kept_2 hO1 rfl rfl ?_
  refine kv_iconst (v := 0) dd_Md_kept_5 (by decide) ?_
  refine kv_istore_n (L' := [(2, .int 0), (0, .ref a0), (1, .int v1)]) dd_Md_kept_6 (by decide) rfl ?_
  refine kv_iload_n dd_Md_kept_7 rfl ?_
  refine kv_table 6 130 dd_Md_kept_8 rfl (by decide) (fun k hk hx => ?_) (by decide) (fun h => kv_loc [1, 2, 0] rfl (Kd h))
  match k, hk with
  | 0, _ => exact ⟨_, 48, rfl, by decide, kv_loc [1, 2, 0] rfl (K0 hx)⟩
  | 1, _ => exact ⟨_, 81, rfl, by decide, kv_loc [1, 2, 0] rfl (K1 hx)⟩
  | 2, _ => exact ⟨_, 86, rfl, by decide, kv_loc [1, 2, 0] rfl (K2 hx)⟩
  | 3, _ => exact ⟨_, 91, rfl, by decide, kv_loc [1, 2, 0] rfl (K3 hx)⟩
  | 4, _ => exact ⟨_, 118, rfl, by decide, kv_loc [1, 2, 0] rfl (K4 hx)⟩
  | 5, _ => exact ⟨_, 124, rfl, by decide, kv_loc [1, 2, 0] rfl (K5 hx)⟩
  | k + 6, h => exact absurd h (by omega)
theorem bl_Md_kept_48 {d : Nat} {B : kv_B} {Q : kv_Q} {kc ks n : Nat} {S : kv_SM} {I : kv_IM} {a0 : Nat} {v1 : Int32} {v2 : Int32} (K : kv_V y_Md_kept d B Q kc ks n S I 50 [(0, .ref a0), (1, .int v1), (2, .int v2), (3, .int 0)] []) : kv_V y_Md_kept d B Q kc ks n S I 48 [(0, .ref a0), (1, .int v1), (2, .int v2)] [] := by
  refine kv_iconst (v := 0) dd_Md_kept_48 (by decide) ?_
  refine kv_istore_n (L' := [(3, .int 0), (0, .ref a0), (1, .int v1), (2, .int v2)]) dd_Md_kept_49 (by decide) rfl ?_
  exact kv_loc [1, 2, 3, 0] rfl K
theorem bl_Md_kept_50 {d : Nat} {B : kv_B} {Q : kv_Q} {kc ks n : Nat} {S : kv_SM} {I : kv_IM} {a0 : Nat} {v1 : Int32} {v2 : Int32} {v3 : Int32} (Kt : 10 ≤ v3 → kv_V y_Md_kept d B Q kc ks n S I 79 [(0, .ref a0), (1, .int v1), (2, .int v2), (3, .int v3)] []) (Kf : ¬ 10 ≤ v3 → kv_V y_Md_kept d B Q kc ks n S I 56 [(0, .ref a0), (1, .int v1), (2, .int v2), (3, .int v3)] []) : kv_V y_Md_kept d B Q kc ks n S I 50 [(0, .ref a0), (1, .int v1), (2, .int v2), (3, .int v3)] [] := by
  refine kv_iload_n dd_Md_kept_50 rfl ?_
  refine kv_bipush (v := 10) dd_Md_kept_51 (by decide) ?_
  exact kv_icmp_ge 79 dd_Md_kept_53 (by decide) (fun h => kv_loc [0, 1, 2, 3] rfl (Kt h)) (fun h => kv_loc [0, 1, 2, 3] rfl (Kf h))
theorem bl_Md_kept_56 {d : Nat} {B : kv_B} {Q : kv_Q} {kc ks n : Nat} {S : kv_SM} {I : kv_IM} {a0 : Nat} {v1 : Int32} {v2 : Int32} {v3 : Int32} {r1 : Nat → Option Nat} {q2 : Nat} {m3 : Nat} {j4 : Nat} (hO1 : S a0 = kO 6 r1) (hr2 : r1 20 = some q2) (hA3 : S q2 = kZ m3) (hi4 : v3 = nI j4 ∧ j4 < m3 ∧ m3 < 2 ^ 31) (Kt : (I q2 j4) = 0 → kv_V y_Md_kept d B Q kc ks n S I 70 [(0, .ref a0), (1, .int v1), (2, .int v2), (3, .int v3)] [.int v2]) (Kf : ¬ (I q2 j4) = 0 → kv_V y_Md_kept d B Q kc ks n S I 66 [(0, .ref a0), (1, .int v1), (2, .int v2), (3, .int v3)] [.int v2]) : kv_V y_Md_kept d B Q kc ks n S I 56 [(0, .ref a0), (1, .int v1), (2, .int v2), (3, .int v3)] [] := by
  refine kv_iload_n dd_Md_kept_56 rfl ?_
  refine kv_aload_n dd_Md_kept_57 rfl ?_
  refine kv_getR fl_Md_50 dd_Md_kept_58 hO1 hr2 ?_
  refine kv_iload_n dd_Md_kept_61 rfl ?_
  refine kv_zald j4 dd_Md_kept_62 hA3 hi4.1 hi4.2.1 hi4.2.2 ?_
  exact kv_if_eq 70 dd_Md_kept_63 (by decide) (fun h => kv_loc [0, 1, 2, 3] rfl (Kt h)) (fun h => kv_loc [0, 1, 2, 3] rfl (Kf h))
theorem bl_Md_kept_66 {d : Nat} {B : kv_B} {Q : kv_Q} {kc ks n : Nat} {S : kv_SM} {I : kv_IM} {a0 : Nat} {v1 : Int32} {v2 : Int32} {v3 : Int32} {t0 : Int32} (K : kv_V y_Md_kept d B Q kc ks n S I 71 [(0, .ref a0), (1, .int v1), (2, .int v2), (3, .int v3)] [.int 1, .int t0]) : kv_V y_Md_kept d B Q kc ks n S I 66 [(0, .ref a0), (1, .int v1), (2, .int v2), (3, .int v3)] [.int t0] := by
  refine kv_iconst (v := 1) dd_Md_kept_66 (by decide) ?_
  refine kv_goto 71 dd_Md_kept_67 (by decide) ?_
  exact kv_loc [0, 1, 2, 3] rfl K
theorem bl_Md_kept_70 {d : Nat} {B : kv_B} {Q : kv_Q} {kc ks n : Nat} {S : kv_SM} {I : kv_IM} {a0 : Nat} {v1 : Int32} {v2 : Int32} {v3 : Int32} {t0 : Int32} (K : kv_V y_Md_kept d B Q kc ks n S I 71 [(0, .ref a0), (1, .int v1), (2, .int v2), (3, .int v3)] [.int 0, .int t0]) : kv_V y_Md_kept d B Q kc ks n S I 70 [(0, .ref a0), (1, .int v1), (2, .int v2), (3, .int v3)] [.int t0] := by
  refine kv_iconst (v := 0) dd_Md_kept_70 (by decide) ?_
  exact kv_loc [0, 1, 2, 3] rfl K
theorem bl_Md_kept_71 {d : Nat} {B : kv_B} {Q : kv_Q} {kc ks n : Nat} {S : kv_SM} {I : kv_IM} {a0 : Nat} {v1 : Int32} {v2 : Int32} {v3 : Int32} {t0 : Int32} {t1 : Int32} (K : kv_V y_Md_kept d B Q kc ks n S I 50 [(0, .ref a0), (1, .int v1), (2, .int (t1 + t0)), (3, .int (v3 + 1))] []) : kv_V y_Md_kept d B Q kc ks n S I 71 [(0, .ref a0), (1, .int v1), (2, .int v2), (3, .int v3)] [.int t0, .int t1] := by
  refine kv_iadd dd_Md_kept_71 ?_
  refine kv_istore_n (L' := [(2, .int (t1 + t0)), (0, .ref a0), (1, .int v1), (3, .int v3)]) dd_Md_kept_72 (by decide) rfl ?_
  refine kv_iinc (v := v3 + 1) (L' := [(3, .int (v3 + 1)), (2, .int (t1 + t0)), (0, .ref a0), (1, .int v1)]) dd_Md_kept_73 rfl rfl (by decide) rfl ?_
  refine kv_goto 50 dd_Md_kept_76 (by decide) ?_
  exact kv_loc [2, 3, 1, 0] rfl K
theorem bl_Md_kept_79 {d : Nat} {B : kv_B} {Q : kv_Q} {kc ks n : Nat} {S : kv_SM} {I : kv_IM} {a0 : Nat} {v1 : Int32} {v2 : Int32} {v3 : Int32} (hQ : Q (some (.int v2)) n S I) : kv_V y_Md_kept d B Q kc ks n S I 79 [(0, .ref a0), (1, .int v1), (2, .int v2), (3, .int v3)] [] := by
  refine kv_iload_n dd_Md_kept_79 rfl ?_
  exact kv_end (v := some (.int v2)) hQ ⟨dd_Md_kept_80, .int, rfl, rfl⟩
theorem bl_Md_kept_81 {d : Nat} {B : kv_B} {Q : kv_Q} {kc ks n : Nat} {S : kv_SM} {I : kv_IM} {a0 : Nat} {v1 : Int32} {v2 : Int32} {r1 : Nat → Option Nat} (hO1 : S a0 = kO 6 r1) (hQ : Q (some (.int (I a0 16))) n S I) : kv_V y_Md_kept d B Q kc ks n S I 81 [(0, .ref a0), (1, .int v1), (2, .int v2)] [] := by
  refine kv_aload_n dd_Md_kept_81 rfl ?_
  refine kv_getI fl_Md_140 dd_Md_kept_82 hO1 ?_
  exact kv_end (v := some (.int (I a0 16))) hQ ⟨dd_Md_kept_85, .int, rfl, rfl⟩
theorem bl_Md_kept_86 {d : Nat} {B : kv_B} {Q : kv_Q} {kc ks n : Nat} {S : kv_SM} {I : kv_IM} {a0 : Nat} {v1 : Int32} {v2 : Int32} {r1 : Nat → Option Nat} (hO1 : S a0 = kO 6 r1) (hQ : Q (some (.int (I a0 15))) n S I) : kv_V y_Md_kept d B Q kc ks n S I 86 [(0, .ref a0), (1, .int v1), (2, .int v2)] [] := by
  refine kv_aload_n dd_Md_kept_86 rfl ?_
  refine kv_getI fl_Md_143 dd_Md_kept_87 hO1 ?_
  exact kv_end (v := some (.int (I a0 15))) hQ ⟨dd_Md_kept_90, .int, rfl, rfl⟩
theorem bl_Md_kept_91 {d : Nat} {B : kv_B} {Q : kv_Q} {kc ks n : Nat} {S : kv_SM} {I : kv_IM} {a0 : Nat} {v1 : Int32} {v2 : Int32} (K : kv_V y_Md_kept d B Q kc ks n S I 93 [(0, .ref a0), (1, .int v1), (2, .int v2), (3, .int 0)] []) : kv_V y_Md_kept d B Q kc ks n S I 91 [(0, .ref a0), (1, .int v1), (2, .int v2)] [] := by
  refine kv_iconst (v := 0) dd_Md_kept_91 (by decide) ?_
  refine kv_istore_n (L' := [(3, .int 0), (0, .ref a0), (1, .int v1), (2, .int v2)]) dd_Md_kept_92 (by decide) rfl ?_
  exact kv_loc [1, 2, 3, 0] rfl K
theorem bl_Md_kept_93 {d : Nat} {B : kv_B} {Q : kv_Q} {kc ks n : Nat} {S : kv_SM} {I : kv_IM} {a0 : Nat} {v1 : Int32} {v2 : Int32} {v3 : Int32} {r1 : Nat → Option Nat} (hO1 : S a0 = kO 6 r1) (Kt : (I a0 16) ≤ v3 → kv_V y_Md_kept d B Q kc ks n S I 116 [(0, .ref a0), (1, .int v1), (2, .int v2), (3, .int v3)] []) (Kf : ¬ (I a0 16) ≤ v3 → kv_V y_Md_kept d B Q kc ks n S I 101 [(0, .ref a0), (1, .int v1), (2, .int v2), (3, .int v3)] []) : kv_V y_Md_kept d B Q kc ks n S I 93 [(0, .ref a0), (1, .int v1), (2, .int v2), (3, .int v3)] [] := by
  refine kv_iload_n dd_Md_kept_93 rfl ?_
  refine kv_aload_n dd_Md_kept_94 rfl ?_
  refine kv_getI fl_Md_140 dd_Md_kept_95 hO1 ?_
  exact kv_icmp_ge 116 dd_Md_kept_98 (by decide) (fun h => kv_loc [0, 1, 2, 3] rfl (Kt h)) (fun h => kv_loc [0, 1, 2, 3] rfl (Kf h))
theorem bl_Md_kept_101 {d : Nat} {B : kv_B} {Q : kv_Q} {kc ks n : Nat} {S : kv_SM} {I : kv_IM} {a0 : Nat} {v1 : Int32} {v2 : Int32} {v3 : Int32} {r1 : Nat → Option Nat} {q2 : Nat} {m3 : Nat} {j4 : Nat} (hO1 : S a0 = kO 6 r1) (hr2 : r1 19 = some q2) (hA3 : S q2 = kI m3) (hi4 : v3 = nI j4 ∧ j4 < m3 ∧ m3 < 2 ^ 31) (K : kv_V y_Md_kept d B Q kc ks n S I 93 [(0, .ref a0), (1, .int v1), (2, .int (v2 + (I q2 j4))), (3, .int (v3 + 1))] []) : kv_V y_Md_kept d B Q kc ks n S I 101 [(0, .ref a0), (1, .int v1), (2, .int v2), (3, .int v3)] [] := by
  refine kv_iload_n dd_Md_kept_101 rfl ?_
  refine kv_aload_n dd_Md_kept_102 rfl ?_
  refine kv_getR fl_Md_47 dd_Md_kept_103 hO1 hr2 ?_
  refine kv_iload_n dd_Md_kept_106 rfl ?_
  refine kv_iald j4 dd_Md_kept_107 hA3 hi4.1 hi4.2.1 hi4.2.2 ?_
  refine kv_iadd dd_Md_kept_108 ?_
  refine kv_istore_n (L' := [(2, .int (v2 + (I q2 j4))), (0, .ref a0), (1, .int v1), (3, .int v3)]) dd_Md_kept_109 (by decide) rfl ?_
  refine kv_iinc (v := v3 + 1) (L' := [(3, .int (v3 + 1)), (2, .int (v2 + (I q2 j4))), (0, .ref a0), (1, .int v1)]) dd_Md_kept_110 rfl rfl (by decide) rfl ?_
  refine kv_goto 93 dd_Md_kept_113 (by decide) ?_
  exact kv_loc [2, 3, 1, 0] rfl K
theorem bl_Md_kept_116 {d : Nat} {B : kv_B} {Q : kv_Q} {kc ks n : Nat} {S : kv_SM} {I : kv_IM} {a0 : Nat} {v1 : Int32} {v2 : Int32} {v3 : Int32} (hQ : Q (some (.int v2)) n S I) : kv_V y_Md_kept d B Q kc ks n S I 116 [(0, .ref a0), (1, .int v1), (2, .int v2), (3, .int v3)] [] := by
  refine kv_iload_n dd_Md_kept_116 rfl ?_
  exact kv_end (v := some (.int v2)) hQ ⟨dd_Md_kept_117, .int, rfl, rfl⟩
theorem bl_Md_kept_118 {d : Nat} {B : kv_B} {Q : kv_Q} {kc ks n : Nat} {S : kv_SM} {I : kv_IM} {a0 : Nat} {v1 : Int32} {v2 : Int32} {dc kcc ksc : Nat} {Qy : kv_Q} {r1 : Nat → Option Nat} (hO1 : S a0 = kO 6 r1) (hM : kv_T y_Md_keysTold dc kcc ksc B [.ref a0, .int 1] n S I Qy) (hdp : dc + 1 ≤ d) (hkk : kcc ≤ kc) (hkl : ksc ≤ ks) (K : ∀ v n' S' I', Qy v n' S' I' → kv_V y_Md_kept d B Q (kc - kcc) (ks - ksc) n' S' I' 123 [(0, .ref a0), (1, .int v1), (2, .int v2)] (v.toList ++ [])) : kv_V y_Md_kept d B Q kc ks n S I 118 [(0, .ref a0), (1, .int v1), (2, .int v2)] [] := by
  refine kv_aload_n dd_Md_kept_118 rfl ?_
  refine kv_iconst (v := 1) dd_Md_kept_119 (by decide) ?_
  exact kv_callV [.int 1] [] ls_Md_168 hO1 hM dd_Md_kept_120 rfl hdp (Nat.le_of_ble_eq_true rfl) hkk hkl (fun v n' S' I' hv => kv_loc [0, 1, 2] rfl (K v n' S' I' hv))
theorem bl_Md_kept_123 {d : Nat} {B : kv_B} {Q : kv_Q} {kc ks n : Nat} {S : kv_SM} {I : kv_IM} {a0 : Nat} {v1 : Int32} {v2 : Int32} {t0 : Int32} (hQ : Q (some (.int t0)) n S I) : kv_V y_Md_kept d B Q kc ks n S I 123 [(0, .ref a0), (1, .int v1), (2, .int v2)] [.int t0] := by
  exact kv_end (v := some (.int t0)) hQ ⟨dd_Md_kept_123, .int, rfl, rfl⟩
theorem bl_Md_kept_124 {d : Nat} {B : kv_B} {Q : kv_Q} {kc ks n : Nat} {S : kv_SM} {I : kv_IM} {a0 : Nat} {v1 : Int32} {v2 : Int32} {dc kcc ksc : Nat} {Qy : kv_Q} {r1 : Nat → Option Nat} (hO1 : S a0 = kO 6 r1) (hM : kv_T y_Md_keysTold dc kcc ksc B [.ref a0, .int 0] n S I Qy) (hdp : dc + 1 ≤ d) (hkk : kcc ≤ kc) (hkl : ksc ≤ ks) (K : ∀ v n' S' I', Qy v n' S' I' → kv_V y_Md_kept d B Q (kc - kcc) (ks - ksc) n' S' I' 129 [(0, .ref a0), (1, .int v1), (2, .int v2)] (v.toList ++ [])) : kv_V y_Md_kept d B Q kc ks n S I 124 [(0, .ref a0), (1, .int v1), (2, .int v2)] [] := by
  refine kv_aload_n dd_Md_kept_124 rfl ?_
  refine kv_iconst (v := 0) dd_Md_kept_125 (by decide) ?_
  exact kv_callV [.int 0] [] ls_Md_168 hO1 hM dd_Md_kept_126 rfl hdp (Nat.le_of_ble_eq_true rfl) hkk hkl (fun v n' S' I' hv => kv_loc [0, 1, 2] rfl (K v n' S' I' hv))
theorem bl_Md_kept_129 {d : Nat} {B : kv_B} {Q : kv_Q} {kc ks n : Nat} {S : kv_SM} {I : kv_IM} {a0 : Nat} {v1 : Int32} {v2 : Int32} {t0 : Int32} (hQ : Q (some (.int t0)) n S I) : kv_V y_Md_kept d B Q kc ks n S I 129 [(0, .ref a0), (1, .int v1), (2, .int v2)] [.int t0] := by
  exact kv_end (v := some (.int t0)) hQ ⟨dd_Md_kept_129, .int, rfl, rfl⟩
theorem bl_Md_kept_130 {d : Nat} {B : kv_B} {Q : kv_Q} {kc ks n : Nat} {S : kv_SM} {I : kv_IM} {a0 : Nat} {v1 : Int32} {v2 : Int32} (hQ : Q (some (.int ((-1)))) n S I) : kv_V y_Md_kept d B Q kc ks n S I 130 [(0, .ref a0), (1, .int v1), (2, .int v2)] [] := by
  refine kv_iconst (v := (-1)) dd_Md_kept_130 (by decide) ?_
  exact kv_end (v := some (.int ((-1)))) hQ ⟨dd_Md_kept_131, .int, rfl, rfl⟩
theorem bl_Md_keysTold_0 {d : Nat} {B : kv_B} {Q : kv_Q} {kc ks n : Nat} {S : kv_SM} {I : kv_IM} {a0 : Nat} {v1 : Int32} (K : kv_V y_Md_keysTold d B Q kc ks n S I 2 [(0, .ref a0), (1, .int v1), (2, .int 0)] []) : kv_V y_Md_keysTold d B Q kc ks n S I 0 [(0, .ref a0), (1, .int v1)] [] := by
  refine kv_iconst (v := 0) dd_Md_keysTold_0 (by decide) ?_
  refine kv_istore_n (L' := [(2, .int 0), (0, .ref a0), (1, .int v1)]) dd_Md_keysTold_1 (by decide) rfl ?_
  exact kv_loc [1, 2, 0] rfl K
theorem bl_Md_keysTold_2 {d : Nat} {B : kv_B} {Q : kv_Q} {kc ks n : Nat} {S : kv_SM} {I : kv_IM} {a0 : Nat} {v1 : Int32} {v2 : Int32} (Kt : 256 ≤ v2 → kv_V y_Md_keysTold d B Q kc ks n S I 22 [(0, .ref a0), (1, .int v1), (2, .int v2)] []) (Kf : ¬ 256 ≤ v2 → kv_V y_Md_keysTold d B Q kc ks n S I 9 [(0, .ref a0), (1, .int v1), (2, .int v2)] []) : kv_V y_Md_keysTold d B Q kc ks n S I 2 [(0, .ref a0), (1, .int v1), (2, .int v2)] [] := by
  refine kv_iload_n dd_Md_keysTold_2 rfl ?_
  refine kv_sipush (v := 256) dd_Md_keysTold_3 (by decide) ?_
  exact kv_icmp_ge 22 dd_Md_keysTold_6 (by decide) (fun h => kv_loc [0, 1, 2] rfl (Kt h)) (fun h => kv_loc [0, 1, 2] rfl (Kf h))
theorem bl_Md_keysTold_9 {d : Nat} {B : kv_B} {Q : kv_Q} {kc ks n : Nat} {S : kv_SM} {I : kv_IM} {a0 : Nat} {v1 : Int32} {v2 : Int32} {r1 : Nat → Option Nat} {q2 : Nat} {m3 : Nat} {j4 : Nat} (hO1 : S a0 = kO 6 r1) (hr2 : r1 23 = some q2) (hA3 : S q2 = kI m3) (hi4 : v2 = nI j4 ∧ j4 < m3 ∧ m3 < 2 ^ 31) (K : kv_V y_Md_keysTold d B Q kc ks n S (kv_up I q2 j4 0) 2 [(0, .ref a0), (1, .int v1), (2, .int (v2 + 1))] []) : kv_V y_Md_keysTold d B Q kc ks n S I 9 [(0, .ref a0), (1, .int v1), (2, .int v2)] [] := by
  refine kv_aload_n dd_Md_keysTold_9 rfl ?_
  refine kv_getR fl_Md_60 dd_Md_keysTold_10 hO1 hr2 ?_
  refine kv_iload_n dd_Md_keysTold_13 rfl ?_
  refine kv_iconst (v := 0) dd_Md_keysTold_14 (by decide) ?_
  refine kv_iast j4 dd_Md_keysTold_15 hA3 hi4.1 hi4.2.1 hi4.2.2 ?_
  refine kv_iinc (v := v2 + 1) (L' := [(2, .int (v2 + 1)), (0, .ref a0), (1, .int v1)]) dd_Md_keysTold_16 rfl rfl (by decide) rfl ?_
  refine kv_goto 2 dd_Md_keysTold_19 (by decide) ?_
  exact kv_loc [1, 2, 0] rfl K
theorem bl_Md_keysTold_22 {d : Nat} {B : kv_B} {Q : kv_Q} {kc ks n : Nat} {S : kv_SM} {I : kv_IM} {a0 : Nat} {v1 : Int32} {v2 : Int32} (K : kv_V y_Md_keysTold d B Q kc ks n S I 29 [(0, .ref a0), (1, .int v1), (2, .int 0), (3, .int 0), (4, .int 0)] []) : kv_V y_Md_keysTold d B Q kc ks n S I 22 [(0, .ref a0), (1, .int v1), (2, .int v2)] [] := by
  refine kv_iconst (v := 0) dd_Md_keysTold_22 (by decide) ?_
  refine kv_istore_n (L' := [(2, .int 0), (0, .ref a0), (1, .int v1)]) dd_Md_keysTold_23 (by decide) rfl ?_
  refine kv_iconst (v := 0) dd_Md_keysTold_24 (by decide) ?_
  refine kv_istore_n (L' := [(3, .int 0), (2, .int 0), (0, .ref a0), (1, .int v1)]) dd_Md_keysTold_25 (by decide) rfl ?_
  refine kv_iconst (v := 0) dd_Md_keysTold_26 (by decide) ?_
  refine kv_istore (L' := [(4, .int 0), (3, .int 0), (2, .int 0), (0, .ref a0), (1, .int v1)]) dd_Md_keysTold_27 (by decide) rfl ?_
  exact kv_loc [3, 4, 2, 1, 0] rfl K
theorem bl_Md_keysTold_29 {d : Nat} {B : kv_B} {Q : kv_Q} {kc ks n : Nat} {S : kv_SM} {I : kv_IM} {a0 : Nat} {v1 : Int32} {v2 : Int32} {v3 : Int32} {v4 : Int32} {r1 : Nat → Option Nat} (hO1 : S a0 = kO 6 r1) (Kt : (I a0 16) ≤ v4 → kv_V y_Md_keysTold d B Q kc ks n S I 97 [(0, .ref a0), (1, .int v1), (2, .int v2), (3, .int v3), (4, .int v4)] []) (Kf : ¬ (I a0 16) ≤ v4 → kv_V y_Md_keysTold d B Q kc ks n S I 38 [(0, .ref a0), (1, .int v1), (2, .int v2), (3, .int v3), (4, .int v4)] []) : kv_V y_Md_keysTold d B Q kc ks n S I 29 [(0, .ref a0), (1, .int v1), (2, .int v2), (3, .int v3), (4, .int v4)] [] := by
  refine kv_iload dd_Md_keysTold_29 rfl ?_
  refine kv_aload_n dd_Md_keysTold_31 rfl ?_
  refine kv_getI fl_Md_140 dd_Md_keysTold_32 hO1 ?_
  exact kv_icmp_ge 97 dd_Md_keysTold_35 (by decide) (fun h => kv_loc [0, 1, 2, 3, 4] rfl (Kt h)) (fun h => kv_loc [0, 1, 2, 3, 4] rfl (Kf h))
theorem bl_Md_keysTold_38 {d : Nat} {B : kv_B} {Q : kv_Q} {kc ks n : Nat} {S : kv_SM} {I : kv_IM} {a0 : Nat} {v1 : Int32} {v2 : Int32} {v3 : Int32} {v4 : Int32} {dc kcc ksc : Nat} {Qy : kv_Q} {r1 : Nat → Option Nat} (hO1 : S a0 = kO 6 r1) (hM : kv_T y_Md_keyOf dc kcc ksc B [.ref a0, .int v4] n S I Qy) (hdp : dc + 1 ≤ d) (hkk : kcc ≤ kc) (hkl : ksc ≤ ks) (K : ∀ v n' S' I', Qy v n' S' I' → kv_V y_Md_keysTold d B Q (kc - kcc) (ks - ksc) n' S' I' 44 [(0, .ref a0), (1, .int v1), (2, .int v2), (3, .int v3), (4, .int v4)] (v.toList ++ [])) : kv_V y_Md_keysTold d B Q kc ks n S I 38 [(0, .ref a0), (1, .int v1), (2, .int v2), (3, .int v3), (4, .int v4)] [] := by
  refine kv_aload_n dd_Md_keysTold_38 rfl ?_
  refine kv_iload dd_Md_keysTold_39 rfl ?_
  exact kv_callV [.int v4] [] ls_Md_164 hO1 hM dd_Md_keysTold_41 rfl hdp (Nat.le_of_ble_eq_true rfl) hkk hkl (fun v n' S' I' hv => kv_loc [0, 1, 2, 3, 4] rfl (K v n' S' I' hv))
theorem bl_Md_keysTold_44 {d : Nat} {B : kv_B} {Q : kv_Q} {kc ks n : Nat} {S : kv_SM} {I : kv_IM} {a0 : Nat} {v1 : Int32} {v2 : Int32} {v3 : Int32} {v4 : Int32} {t0 : Int64} {r1 : Nat → Option Nat} {q2 : Nat} {m3 : Nat} {j4 : Nat} (hO1 : S a0 = kO 6 r1) (hr2 : r1 23 = some q2) (hA3 : S q2 = kI m3) (hi4 : Int64.toInt32 t0 = nI j4 ∧ j4 < m3 ∧ m3 < 2 ^ 31) (Kt : ((kv_up I q2 j4 ((I q2 j4) + 1)) q2 j4) ≤ v3 → kv_V y_Md_keysTold d B Q kc ks n S (kv_up I q2 j4 ((I q2 j4) + 1)) 89 [(0, .ref a0), (1, .int v1), (2, .int (v2 + (I q2 j4))), (3, .int v3), (4, .int v4), (5, .int (Int64.toInt32 t0))] []) (Kf : ¬ ((kv_up I q2 j4 ((I q2 j4) + 1)) q2 j4) ≤ v3 → kv_V y_Md_keysTold d B Q kc ks n S (kv_up I q2 j4 ((I q2 j4) + 1)) 79 [(0, .ref a0), (1, .int v1), (2, .int (v2 + (I q2 j4))), (3, .int v3), (4, .int v4), (5, .int (Int64.toInt32 t0))] []) : kv_V y_Md_keysTold d B Q kc ks n S I 44 [(0, .ref a0), (1, .int v1), (2, .int v2), (3, .int v3), (4, .int v4)] [.long t0] := by
  refine kv_l2i dd_Md_keysTold_44 ?_
  refine kv_istore (L' := [(5, .int (Int64.toInt32 t0)), (0, .ref a0), (1, .int v1), (2, .int v2), (3, .int v3), (4, .int v4)]) dd_Md_keysTold_45 (by decide) rfl ?_
  refine kv_iload_n dd_Md_keysTold_47 rfl ?_
  refine kv_aload_n dd_Md_keysTold_48 rfl ?_
  refine kv_getR fl_Md_60 dd_Md_keysTold_49 hO1 hr2 ?_
  refine kv_iload dd_Md_keysTold_52 rfl ?_
  refine kv_iald j4 dd_Md_keysTold_54 hA3 hi4.1 hi4.2.1 hi4.2.2 ?_
  refine kv_iadd dd_Md_keysTold_55 ?_
  refine kv_istore_n (L' := [(2, .int (v2 + (I q2 j4))), (5, .int (Int64.toInt32 t0)), (0, .ref a0), (1, .int v1), (3, .int v3), (4, .int v4)]) dd_Md_keysTold_56 (by decide) rfl ?_
  refine kv_aload_n dd_Md_keysTold_57 rfl ?_
  refine kv_getR fl_Md_60 dd_Md_keysTold_58 hO1 hr2 ?_
  refine kv_iload dd_Md_keysTold_61 rfl ?_
  refine kv_dup2 dd_Md_keysTold_63 rfl rfl ?_
  refine kv_iald j4 dd_Md_keysTold_64 hA3 hi4.1 hi4.2.1 hi4.2.2 ?_
  refine kv_iconst (v := 1) dd_Md_keysTold_65 (by decide) ?_
  refine kv_iadd dd_Md_keysTold_66 ?_
  refine kv_iast j4 dd_Md_keysTold_67 hA3 hi4.1 hi4.2.1 hi4.2.2 ?_
  refine kv_aload_n dd_Md_keysTold_68 rfl ?_
  refine kv_getR fl_Md_60 dd_Md_keysTold_69 hO1 hr2 ?_
  refine kv_iload dd_Md_keysTold_72 rfl ?_
  refine kv_iald j4 dd_Md_keysTold_74 hA3 hi4.1 hi4.2.1 hi4.2.2 ?_
  refine kv_iload_n dd_Md_keysTold_75 rfl ?_
  exact kv_icmp_le 89 dd_Md_keysTold_76 (by decide) (fun h => kv_loc [2, 3, 0, 4, 5, 1] rfl (Kt h)) (fun h => kv_loc [2, 3, 0, 4, 5, 1] rfl (Kf h))
theorem bl_Md_keysTold_79 {d : Nat} {B : kv_B} {Q : kv_Q} {kc ks n : Nat} {S : kv_SM} {I : kv_IM} {a0 : Nat} {v1 : Int32} {v2 : Int32} {v3 : Int32} {v4 : Int32} {v5 : Int32} {r1 : Nat → Option Nat} {q2 : Nat} {m3 : Nat} {j4 : Nat} (hO1 : S a0 = kO 6 r1) (hr2 : r1 23 = some q2) (hA3 : S q2 = kI m3) (hi4 : v5 = nI j4 ∧ j4 < m3 ∧ m3 < 2 ^ 31) (K : kv_V y_Md_keysTold d B Q kc ks n S I 90 [(0, .ref a0), (1, .int v1), (2, .int v2), (3, .int v3), (4, .int v4), (5, .int v5)] [.int (I q2 j4)]) : kv_V y_Md_keysTold d B Q kc ks n S I 79 [(0, .ref a0), (1, .int v1), (2, .int v2), (3, .int v3), (4, .int v4), (5, .int v5)] [] := by
  refine kv_aload_n dd_Md_keysTold_79 rfl ?_
  refine kv_getR fl_Md_60 dd_Md_keysTold_80 hO1 hr2 ?_
  refine kv_iload dd_Md_keysTold_83 rfl ?_
  refine kv_iald j4 dd_Md_keysTold_85 hA3 hi4.1 hi4.2.1 hi4.2.2 ?_
  refine kv_goto 90 dd_Md_keysTold_86 (by decide) ?_
  exact kv_loc [0, 1, 2, 3, 4, 5] rfl K
theorem bl_Md_keysTold_89 {d : Nat} {B : kv_B} {Q : kv_Q} {kc ks n : Nat} {S : kv_SM} {I : kv_IM} {a0 : Nat} {v1 : Int32} {v2 : Int32} {v3 : Int32} {v4 : Int32} {v5 : Int32} (K : kv_V y_Md_keysTold d B Q kc ks n S I 90 [(0, .ref a0), (1, .int v1), (2, .int v2), (3, .int v3), (4, .int v4), (5, .int v5)] [.int v3]) : kv_V y_Md_keysTold d B Q kc ks n S I 89 [(0, .ref a0), (1, .int v1), (2, .int v2), (3, .int v3), (4, .int v4), (5, .int v5)] [] := by
  refine kv_iload_n dd_Md_keysTold_89 rfl ?_
  exact kv_loc [0, 1, 2, 3, 4, 5] rfl K
theorem bl_Md_keysTold_90 {d : Nat} {B : kv_B} {Q : kv_Q} {kc ks n : Nat} {S : kv_SM} {I : kv_IM} {a0 : Nat} {v1 : Int32} {v2 : Int32} {v3 : Int32} {v4 : Int32} {v5 : Int32} {t0 : Int32} (K : kv_V y_Md_keysTold d B Q kc ks n S I 29 [(0, .ref a0), (1, .int v1), (2, .int v2), (3, .int t0), (4, .int (v4 + 1))] []) : kv_V y_Md_keysTold d B Q kc ks n S I 90 [(0, .ref a0), (1, .int v1), (2, .int v2), (3, .int v3), (4, .int v4), (5, .int v5)] [.int t0] := by
  refine kv_istore_n (L' := [(3, .int t0), (0, .ref a0), (1, .int v1), (2, .int v2), (4, .int v4), (5, .int v5)]) dd_Md_keysTold_90 (by decide) rfl ?_
  refine kv_iinc (v := v4 + 1) (L' := [(4, .int (v4 + 1)), (3, .int t0), (0, .ref a0), (1, .int v1), (2, .int v2), (5, .int v5)]) dd_Md_keysTold_91 rfl rfl (by decide) rfl ?_
  refine kv_goto 29 dd_Md_keysTold_94 (by decide) ?_
  exact kv_loc [2, 3, 4, 1, 0] rfl K
theorem bl_Md_keysTold_97 {d : Nat} {B : kv_B} {Q : kv_Q} {kc ks n : Nat} {S : kv_SM} {I : kv_IM} {a0 : Nat} {v1 : Int32} {v2 : Int32} {v3 : Int32} {v4 : Int32} (Kt : v1 = 0 → kv_V y_Md_keysTold d B Q kc ks n S I 105 [(0, .ref a0), (1, .int v1), (2, .int v2), (3, .int v3), (4, .int v4)] []) (Kf : ¬ v1 = 0 → kv_V y_Md_keysTold d B Q kc ks n S I 101 [(0, .ref a0), (1, .int v1), (2, .int v2), (3, .int v3), (4, .int v4)] []) : kv_V y_Md_keysTold d B Q kc ks n S I 97 [(0, .ref a0), (1, .int v1), (2, .int v2), (3, .int v3), (4, .int v4)] [] := by
  refine kv_iload_n dd_Md_keysTold_97 rfl ?_
  exact kv_if_eq 105 dd_Md_keysTold_98 (by decide) (fun h => kv_loc [0, 1, 2, 3, 4] rfl (Kt h)) (fun h => kv_loc [0, 1, 2, 3, 4] rfl (Kf h))
theorem bl_Md_keysTold_101 {d : Nat} {B : kv_B} {Q : kv_Q} {kc ks n : Nat} {S : kv_SM} {I : kv_IM} {a0 : Nat} {v1 : Int32} {v2 : Int32} {v3 : Int32} {v4 : Int32} (K : kv_V y_Md_keysTold d B Q kc ks n S I 106 [(0, .ref a0), (1, .int v1), (2, .int v2), (3, .int v3), (4, .int v4)] [.int v2]) : kv_V y_Md_keysTold d B Q kc ks n S I 101 [(0, .ref a0), (1, .int v1), (2, .int v2), (3, .int v3), (4, .int v4)] [] := by
  refine kv_iload_n dd_Md_keysTold_101 rfl ?_
  refine kv_goto 106 dd_Md_keysTold_102 (by decide) ?_
  exact kv_loc [0, 1, 2, 3, 4] rfl K
theorem bl_Md_keysTold_105 {d : Nat} {B : kv_B} {Q : kv_Q} {kc ks n : Nat} {S : kv_SM} {I : kv_IM} {a0 : Nat} {v1 : Int32} {v2 : Int32} {v3 : Int32} {v4 : Int32} (K : kv_V y_Md_keysTold d B Q kc ks n S I 106 [(0, .ref a0), (1, .int v1), (2, .int v2), (3, .int v3), (4, .int v4)] [.int v3]) : kv_V y_Md_keysTold d B Q kc ks n S I 105 [(0, .ref a0), (1, .int v1), (2, .int v2), (3, .int v3), (4, .int v4)] [] := by
  refine kv_iload_n dd_Md_keysTold_105 rfl ?_
  exact kv_loc [0, 1, 2, 3, 4] rfl K
theorem bl_Md_keysTold_106 {d : Nat} {B : kv_B} {Q : kv_Q} {kc ks n : Nat} {S : kv_SM} {I : kv_IM} {a0 : Nat} {v1 : Int32} {v2 : Int32} {v3 : Int32} {v4 : Int32} {t0 : Int32} (hQ : Q (some (.int t0)) n S I) : kv_V y_Md_keysTold d B Q kc ks n S I 106 [(0, .ref a0), (1, .int v1), (2, .int v2), (3, .int v3), (4, .int v4)] [.int t0] := by
  exact kv_end (v := some (.int t0)) hQ ⟨dd_Md_keysTold_106, .int, rfl, rfl⟩
theorem bl_Md_keyOf_0 {d : Nat} {B : kv_B} {Q : kv_Q} {kc ks n : Nat} {S : kv_SM} {I : kv_IM} {a0 : Nat} {v1 : Int32} {r1 : Nat → Option Nat} {q2 : Nat} {q3 : Nat} {m4 : Nat} {j5 : Nat} {q6 : Nat} {m7 : Nat} {j8 : Nat} {dc kcc ksc : Nat} {Qy : kv_Q} (hO1 : S a0 = kO 6 r1) (hr2 : r1 14 = some q2) (hr3 : r1 17 = some q3) (hA4 : S q3 = kI m4) (hi5 : v1 = nI j5 ∧ j5 < m4 ∧ m4 < 2 ^ 31) (hr6 : r1 18 = some q6) (hA7 : S q6 = kI m7) (hi8 : v1 = nI j8 ∧ j8 < m7 ∧ m7 < 2 ^ 31) (hM : kv_T y_Md_digestOf dc kcc ksc B [.ref q2, .int (I q3 j5), .int ((I q3 j5) + (I q6 j8)), .int 0] n S I Qy) (hdp : dc + 1 ≤ d) (hkk : kcc ≤ kc) (hkl : ksc ≤ ks) (K : ∀ v n' S' I', Qy v n' S' I' → kv_V y_Md_keyOf d B Q (kc - kcc) (ks - ksc) n' S' I' 27 [(0, .ref a0), (1, .int v1)] (v.toList ++ [])) : kv_V y_Md_keyOf d B Q kc ks n S I 0 [(0, .ref a0), (1, .int v1)] [] := by
  refine kv_aload_n dd_Md_keyOf_0 rfl ?_
  refine kv_getR fl_Md_38 dd_Md_keyOf_1 hO1 hr2 ?_
  refine kv_aload_n dd_Md_keyOf_4 rfl ?_
  refine kv_getR fl_Md_41 dd_Md_keyOf_5 hO1 hr3 ?_
  refine kv_iload_n dd_Md_keyOf_8 rfl ?_
  refine kv_iald j5 dd_Md_keyOf_9 hA4 hi5.1 hi5.2.1 hi5.2.2 ?_
  refine kv_aload_n dd_Md_keyOf_10 rfl ?_
  refine kv_getR fl_Md_41 dd_Md_keyOf_11 hO1 hr3 ?_
  refine kv_iload_n dd_Md_keyOf_14 rfl ?_
  refine kv_iald j5 dd_Md_keyOf_15 hA4 hi5.1 hi5.2.1 hi5.2.2 ?_
  refine kv_aload_n dd_Md_keyOf_16 rfl ?_
  refine kv_getR fl_Md_44 dd_Md_keyOf_17 hO1 hr6 ?_
  refine kv_iload_n dd_Md_keyOf_20 rfl ?_
  refine kv_iald j8 dd_Md_keyOf_21 hA7 hi8.1 hi8.2.1 hi8.2.2 ?_
  refine kv_iadd dd_Md_keyOf_22 ?_
  refine kv_iconst (v := 0) dd_Md_keyOf_23 (by decide) ?_
  exact kv_callS [.ref q2, .int (I q3 j5), .int ((I q3 j5) + (I q6 j8)), .int 0] [] ls_Md_125 hM dd_Md_keyOf_24 rfl hdp (Nat.le_of_ble_eq_true rfl) hkk hkl (fun v n' S' I' hv => kv_loc [0, 1] rfl (K v n' S' I' hv))
theorem bl_Md_keyOf_27 {d : Nat} {B : kv_B} {Q : kv_Q} {kc ks n : Nat} {S : kv_SM} {I : kv_IM} {a0 : Nat} {v1 : Int32} {t0 : Int64} (hQ : Q (some (.long (t0 &&& 255))) n S I) : kv_V y_Md_keyOf d B Q kc ks n S I 27 [(0, .ref a0), (1, .int v1)] [.long t0] := by
  refine kv_ldc2 wk_Md_162 dd_Md_keyOf_27 ?_
  refine kv_land dd_Md_keyOf_30 ?_
  exact kv_end (v := some (.long (t0 &&& 255))) hQ ⟨dd_Md_keyOf_31, rfl⟩
