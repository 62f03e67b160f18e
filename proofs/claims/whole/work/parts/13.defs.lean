/-! X5_init -/
def f_X5_init (N : Nat) (l0 : Nat) (h : PH) : Option (Unit × PH) :=
  bd (hz h) fun a1 =>
  bd (nwh h 11 1000) fun h2 =>
  ck (hK h2 l0 = 5) <|
  bd (sR h2 l0 0 (some a1)) fun h4 =>
  some ((), h4)
/-! J7_fill_53178 -/
def f_J7_fill_53178_5_b (N : Nat) (K_5 : Nat → Int32 → Int32 → Int32 → PH → Option (Unit × PH)) (l0 : Nat) (l1 : Int32) (l2 : Int32) (l3 : Int32) (h : PH) : Option (Unit × PH) :=
  if l3 ≤ l2 then
    some ((), h)
  else
    ck (hK h l0 = 12) <|
    ck (inb l2 (hN h l0)) <|
    bd (sI h l0 (ix l2) l1) fun h4 =>
    bd (l2 + (1 : Int32)) fun v5 =>
    K_5 l0 l1 v5 l3 h4
def f_J7_fill_53178_5 (N : Nat) : Nat → Nat → Int32 → Int32 → Int32 → PH → Option (Unit × PH)
  | 0 => fun _ _ _ _ _ => none
  | n + 1 => fun l0 l1 l2 l3 h => f_J7_fill_53178_5_b N (f_J7_fill_53178_5 N n) l0 l1 l2 l3 h
def f_J7_fill_53178 (N : Nat) (l0 : Nat) (l1 : Int32) (h : PH) : Option (Unit × PH) :=
  ck (hK h l0 = 12) <|
  bd ((nI (hN h l0))) fun v2 =>
  f_J7_fill_53178_5 N N l0 l1 (0 : Int32) v2 h
/-! X4_init -/
def f_X4_init (N : Nat) (l0 : Nat) (h : PH) : Option (Unit × PH) :=
  bd (hz h) fun a1 =>
  bd (nwh h 12 20) fun h2 =>
  ck (hK h2 l0 = 4) <|
  bd (sR h2 l0 1 (some a1)) fun h4 =>
  bd (hz h4) fun a5 =>
  bd (nwh h4 12 4) fun h6 =>
  ck (hK h6 l0 = 4) <|
  bd (sR h6 l0 2 (some a5)) fun h8 =>
  bd (hz h8) fun a9 =>
  bd (nwh h8 12 4) fun h10 =>
  ck (hK h10 l0 = 4) <|
  bd (sR h10 l0 3 (some a9)) fun h12 =>
  bd (hz h12) fun a13 =>
  bd (nwh h12 12 3) fun h14 =>
  ck (hK h14 l0 = 4) <|
  bd (sR h14 l0 4 (some a13)) fun h16 =>
  ck (hK h16 l0 = 4) <|
  rq (hR h16 l0 2) fun a18 =>
  cl (f_J7_fill_53178 N a18 (-1 : Int32) h16) fun r19 h20 =>
  some ((), h20)
/-! X0_init -/
def f_X0_init (N : Nat) (l0 : Nat) (h : PH) : Option (Unit × PH) :=
  bd (hz h) fun a1 =>
  bd (nwh h 12 200) fun h2 =>
  ck (hK h2 l0 = 0) <|
  bd (sR h2 l0 0 (some a1)) fun h4 =>
  some ((), h4)
/-! X2_init -/
def f_X2_init (N : Nat) (l0 : Nat) (h : PH) : Option (Unit × PH) :=
  bd (hz h) fun a1 =>
  bd (nwh h 4 0) fun h2 =>
  cl (f_X4_init N a1 h2) fun r3 h4 =>
  ck (hK h4 l0 = 2) <|
  bd (sR h4 l0 0 (some a1)) fun h6 =>
  bd (hz h6) fun a7 =>
  bd (nwh h6 0 0) fun h8 =>
  cl (f_X0_init N a7 h8) fun r9 h10 =>
  ck (hK h10 l0 = 2) <|
  bd (sR h10 l0 1 (some a7)) fun h12 =>
  bd (hz h12) fun a13 =>
  bd (nwh h12 12 8) fun h14 =>
  ck (hK h14 l0 = 2) <|
  bd (sR h14 l0 2 (some a13)) fun h16 =>
  bd (hz h16) fun a17 =>
  bd (nwh h16 12 8) fun h18 =>
  ck (hK h18 l0 = 2) <|
  bd (sR h18 l0 3 (some a17)) fun h20 =>
  bd (hz h20) fun a21 =>
  bd (nwh h20 12 8) fun h22 =>
  ck (hK h22 l0 = 2) <|
  bd (sR h22 l0 4 (some a21)) fun h24 =>
  some ((), h24)
/-! X8_init -/
def f_X8_init (N : Nat) (l0 : Nat) (h : PH) : Option (Unit × PH) :=
  bd (hz h) fun a1 =>
  bd (nwh h 12 4) fun h2 =>
  ck (hK h2 l0 = 8) <|
  bd (sR h2 l0 0 (some a1)) fun h4 =>
  bd (hz h4) fun a5 =>
  bd (nwh h4 12 4) fun h6 =>
  ck (hK h6 l0 = 8) <|
  bd (sR h6 l0 1 (some a5)) fun h8 =>
  bd (hz h8) fun a9 =>
  bd (nwh h8 12 4) fun h10 =>
  ck (hK h10 l0 = 8) <|
  bd (sR h10 l0 2 (some a9)) fun h12 =>
  bd (hz h12) fun a13 =>
  bd (nwh h12 12 4) fun h14 =>
  ck (hK h14 l0 = 8) <|
  bd (sR h14 l0 3 (some a13)) fun h16 =>
  bd (hz h16) fun a17 =>
  bd (nwh h16 12 1000) fun h18 =>
  ck (hK h18 l0 = 8) <|
  bd (sR h18 l0 4 (some a17)) fun h20 =>
  bd (hz h20) fun a21 =>
  bd (nwh h20 12 1000) fun h22 =>
  ck (hK h22 l0 = 8) <|
  bd (sR h22 l0 5 (some a21)) fun h24 =>
  bd (hz h24) fun a25 =>
  bd (nwh h24 12 7) fun h26 =>
  ck (hK h26 l0 = 8) <|
  bd (sR h26 l0 6 (some a25)) fun h28 =>
  some ((), h28)
/-! X3_init -/
def f_X3_init (N : Nat) (l0 : Nat) (h : PH) : Option (Unit × PH) :=
  bd (hz h) fun a1 =>
  bd (nwh h 12 4) fun h2 =>
  ck (hK h2 l0 = 3) <|
  bd (sR h2 l0 0 (some a1)) fun h4 =>
  bd (hz h4) fun a5 =>
  bd (nwh h4 12 4) fun h6 =>
  ck (hK h6 l0 = 3) <|
  bd (sR h6 l0 1 (some a5)) fun h8 =>
  bd (hz h8) fun a9 =>
  bd (nwh h8 12 4) fun h10 =>
  ck (hK h10 l0 = 3) <|
  bd (sR h10 l0 2 (some a9)) fun h12 =>
  bd (hz h12) fun a13 =>
  bd (nwh h12 12 4) fun h14 =>
  ck (hK h14 l0 = 3) <|
  bd (sR h14 l0 3 (some a13)) fun h16 =>
  bd (hz h16) fun a17 =>
  bd (nwh h16 12 44) fun h18 =>
  ck (hK h18 l0 = 3) <|
  bd (sR h18 l0 4 (some a17)) fun h20 =>
  bd (hz h20) fun a21 =>
  bd (nwh h20 12 44) fun h22 =>
  ck (hK h22 l0 = 3) <|
  bd (sR h22 l0 5 (some a21)) fun h24 =>
  bd (hz h24) fun a25 =>
  bd (nwh h24 12 24) fun h26 =>
  ck (hK h26 l0 = 3) <|
  bd (sR h26 l0 6 (some a25)) fun h28 =>
  bd (hz h28) fun a29 =>
  bd (nwh h28 12 24) fun h30 =>
  ck (hK h30 l0 = 3) <|
  bd (sR h30 l0 7 (some a29)) fun h32 =>
  bd (hz h32) fun a33 =>
  bd (nwh h32 12 1331) fun h34 =>
  ck (hK h34 l0 = 3) <|
  bd (sR h34 l0 8 (some a33)) fun h36 =>
  some ((), h36)
/-! X1_init -/
def f_X1_init (N : Nat) (l0 : Nat) (l1 : Int32) (h : PH) : Option (Unit × PH) :=
  bd (hz h) fun a1 =>
  bd (nwh h 12 1000) fun h2 =>
  ck (hK h2 l0 = 1) <|
  bd (sR h2 l0 1 (some a1)) fun h4 =>
  bd (hz h4) fun a5 =>
  bd (nwh h4 12 32) fun h6 =>
  ck (hK h6 l0 = 1) <|
  bd (sR h6 l0 2 (some a5)) fun h8 =>
  ck (hK h8 l0 = 1) <|
  ck (l1 = 0 ∨ l1 = 1) <|
  bd (sI h8 l0 0 l1) fun h11 =>
  some ((), h11)
/-! X6_init -/
def f_X6_init (N : Nat) (l0 : Nat) (h : PH) : Option (Unit × PH) :=
  bd (hz h) fun a1 =>
  bd (nwh h 12 5) fun h2 =>
  ck (hK h2 l0 = 6) <|
  bd (sR h2 l0 0 (some a1)) fun h4 =>
  bd (hz h4) fun a5 =>
  bd (nwh h4 14 30) fun h6 =>
  ck (hK h6 l0 = 6) <|
  bd (sR h6 l0 1 (some a5)) fun h8 =>
  bd (hz h8) fun a9 =>
  bd (nwh h8 12 5) fun h10 =>
  ck (hK h10 l0 = 6) <|
  bd (sR h10 l0 2 (some a9)) fun h12 =>
  bd (hz h12) fun a13 =>
  bd (nwh h12 12 5) fun h14 =>
  ck (hK h14 l0 = 6) <|
  bd (sR h14 l0 3 (some a13)) fun h16 =>
  bd (hz h16) fun a17 =>
  bd (nwh h16 12 5) fun h18 =>
  ck (hK h18 l0 = 6) <|
  bd (sR h18 l0 4 (some a17)) fun h20 =>
  bd (hz h20) fun a21 =>
  bd (nwh h20 12 4) fun h22 =>
  ck (hK h22 l0 = 6) <|
  bd (sR h22 l0 5 (some a21)) fun h24 =>
  bd (hz h24) fun a25 =>
  bd (nwh h24 12 20) fun h26 =>
  ck (hK h26 l0 = 6) <|
  bd (sR h26 l0 6 (some a25)) fun h28 =>
  bd (hz h28) fun a29 =>
  bd (nwh h28 12 24) fun h30 =>
  ck (hK h30 l0 = 6) <|
  bd (sR h30 l0 8 (some a29)) fun h32 =>
  bd (hz h32) fun a33 =>
  bd (nwh h32 12 4) fun h34 =>
  ck (hK h34 l0 = 6) <|
  bd (sR h34 l0 9 (some a33)) fun h36 =>
  bd (hz h36) fun a37 =>
  bd (nwh h36 12 12) fun h38 =>
  ck (hK h38 l0 = 6) <|
  bd (sR h38 l0 10 (some a37)) fun h40 =>
  bd (hz h40) fun a41 =>
  bd (nwh h40 1 0) fun h42 =>
  cl (f_X1_init N a41 (1 : Int32) h42) fun r43 h44 =>
  ck (hK h44 l0 = 6) <|
  bd (sR h44 l0 12 (some a41)) fun h46 =>
  bd (hz h46) fun a47 =>
  bd (nwh h46 1 0) fun h48 =>
  cl (f_X1_init N a47 (0 : Int32) h48) fun r49 h50 =>
  ck (hK h50 l0 = 6) <|
  bd (sR h50 l0 13 (some a47)) fun h52 =>
  bd (hz h52) fun a53 =>
  bd (nwh h52 12 1000) fun h54 =>
  ck (hK h54 l0 = 6) <|
  bd (sR h54 l0 14 (some a53)) fun h56 =>
  some ((), h56)
/-! X10_init -/
def f_X10_init (N : Nat) (l0 : Nat) (h : PH) : Option (Unit × PH) :=
  bd (hz h) fun a1 =>
  bd (nwh h 5 0) fun h2 =>
  cl (f_X5_init N a1 h2) fun r3 h4 =>
  ck (hK h4 l0 = 9) <|
  bd (sR h4 l0 0 (some a1)) fun h6 =>
  bd (hz h6) fun a7 =>
  bd (nwh h6 2 0) fun h8 =>
  cl (f_X2_init N a7 h8) fun r9 h10 =>
  ck (hK h10 l0 = 9) <|
  bd (sR h10 l0 1 (some a7)) fun h12 =>
  bd (hz h12) fun a13 =>
  bd (nwh h12 15 4) fun h14 =>
  ck (hK h14 l0 = 9) <|
  bd (sR h14 l0 2 (some a13)) fun h16 =>
  bd (hz h16) fun a17 =>
  bd (nwh h16 16 16) fun h18 =>
  ck (hK h18 l0 = 9) <|
  bd (sR h18 l0 3 (some a17)) fun h20 =>
  bd (hz h20) fun a21 =>
  bd (nwh h20 4 0) fun h22 =>
  cl (f_X4_init N a21 h22) fun r23 h24 =>
  ck (hK h24 l0 = 9) <|
  bd (sR h24 l0 4 (some a21)) fun h26 =>
  bd (hz h26) fun a27 =>
  bd (nwh h26 0 0) fun h28 =>
  cl (f_X0_init N a27 h28) fun r29 h30 =>
  ck (hK h30 l0 = 9) <|
  bd (sR h30 l0 5 (some a27)) fun h32 =>
  bd (hz h32) fun a33 =>
  bd (nwh h32 8 0) fun h34 =>
  cl (f_X8_init N a33 h34) fun r35 h36 =>
  ck (hK h36 l0 = 9) <|
  bd (sR h36 l0 6 (some a33)) fun h38 =>
  bd (hz h38) fun a39 =>
  bd (nwh h38 3 0) fun h40 =>
  cl (f_X3_init N a39 h40) fun r41 h42 =>
  ck (hK h42 l0 = 9) <|
  bd (sR h42 l0 7 (some a39)) fun h44 =>
  bd (hz h44) fun a45 =>
  bd (nwh h44 12 3) fun h46 =>
  ck (hK h46 l0 = 9) <|
  bd (sR h46 l0 8 (some a45)) fun h48 =>
  bd (hz h48) fun a49 =>
  bd (nwh h48 12 9) fun h50 =>
  ck (hK h50 l0 = 9) <|
  bd (sR h50 l0 9 (some a49)) fun h52 =>
  bd (hz h52) fun a53 =>
  bd (nwh h52 6 0) fun h54 =>
  cl (f_X6_init N a53 h54) fun r55 h56 =>
  ck (hK h56 l0 = 9) <|
  bd (sR h56 l0 10 (some a53)) fun h58 =>
  bd (hz h58) fun a59 =>
  bd (nwh h58 6 0) fun h60 =>
  cl (f_X6_init N a59 h60) fun r61 h62 =>
  ck (hK h62 l0 = 9) <|
  bd (sR h62 l0 11 (some a59)) fun h64 =>
  ck (hK h64 l0 = 9) <|
  rq (hR h64 l0 2) fun a66 =>
  bd (hz h64) fun a67 =>
  bd (nwh h64 2 0) fun h68 =>
  cl (f_X2_init N a67 h68) fun r69 h70 =>
  ck (hK h70 a66 = 15) <|
  ck (hK h70 a67 = 2) <|
  ck (0 < hN h70 a66) <|
  bd (sR h70 a66 0 (some a67)) fun h74 =>
  ck (hK h74 l0 = 9) <|
  rq (hR h74 l0 2) fun a76 =>
  bd (hz h74) fun a77 =>
  bd (nwh h74 2 0) fun h78 =>
  cl (f_X2_init N a77 h78) fun r79 h80 =>
  ck (hK h80 a76 = 15) <|
  ck (hK h80 a77 = 2) <|
  ck (1 < hN h80 a76) <|
  bd (sR h80 a76 1 (some a77)) fun h84 =>
  ck (hK h84 l0 = 9) <|
  rq (hR h84 l0 2) fun a86 =>
  bd (hz h84) fun a87 =>
  bd (nwh h84 2 0) fun h88 =>
  cl (f_X2_init N a87 h88) fun r89 h90 =>
  ck (hK h90 a86 = 15) <|
  ck (hK h90 a87 = 2) <|
  ck (2 < hN h90 a86) <|
  bd (sR h90 a86 2 (some a87)) fun h94 =>
  ck (hK h94 l0 = 9) <|
  rq (hR h94 l0 2) fun a96 =>
  bd (hz h94) fun a97 =>
  bd (nwh h94 2 0) fun h98 =>
  cl (f_X2_init N a97 h98) fun r99 h100 =>
  ck (hK h100 a96 = 15) <|
  ck (hK h100 a97 = 2) <|
  ck (3 < hN h100 a96) <|
  bd (sR h100 a96 3 (some a97)) fun h104 =>
  ck (hK h104 l0 = 9) <|
  rq (hR h104 l0 3) fun a106 =>
  bd (hz h104) fun a107 =>
  bd (nwh h104 4 0) fun h108 =>
  cl (f_X4_init N a107 h108) fun r109 h110 =>
  ck (hK h110 a106 = 16) <|
  ck (hK h110 a107 = 4) <|
  ck (0 < hN h110 a106) <|
  bd (sR h110 a106 0 (some a107)) fun h114 =>
  ck (hK h114 l0 = 9) <|
  rq (hR h114 l0 3) fun a116 =>
  bd (hz h114) fun a117 =>
  bd (nwh h114 4 0) fun h118 =>
  cl (f_X4_init N a117 h118) fun r119 h120 =>
  ck (hK h120 a116 = 16) <|
  ck (hK h120 a117 = 4) <|
  ck (1 < hN h120 a116) <|
  bd (sR h120 a116 1 (some a117)) fun h124 =>
  ck (hK h124 l0 = 9) <|
  rq (hR h124 l0 3) fun a126 =>
  bd (hz h124) fun a127 =>
  bd (nwh h124 4 0) fun h128 =>
  cl (f_X4_init N a127 h128) fun r129 h130 =>
  ck (hK h130 a126 = 16) <|
  ck (hK h130 a127 = 4) <|
  ck (2 < hN h130 a126) <|
  bd (sR h130 a126 2 (some a127)) fun h134 =>
  ck (hK h134 l0 = 9) <|
  rq (hR h134 l0 3) fun a136 =>
  bd (hz h134) fun a137 =>
  bd (nwh h134 4 0) fun h138 =>
  cl (f_X4_init N a137 h138) fun r139 h140 =>
  ck (hK h140 a136 = 16) <|
  ck (hK h140 a137 = 4) <|
  ck (3 < hN h140 a136) <|
  bd (sR h140 a136 3 (some a137)) fun h144 =>
  ck (hK h144 l0 = 9) <|
  rq (hR h144 l0 3) fun a146 =>
  bd (hz h144) fun a147 =>
  bd (nwh h144 4 0) fun h148 =>
  cl (f_X4_init N a147 h148) fun r149 h150 =>
  ck (hK h150 a146 = 16) <|
  ck (hK h150 a147 = 4) <|
  ck (4 < hN h150 a146) <|
  bd (sR h150 a146 4 (some a147)) fun h154 =>
  ck (hK h154 l0 = 9) <|
  rq (hR h154 l0 3) fun a156 =>
  bd (hz h154) fun a157 =>
  bd (nwh h154 4 0) fun h158 =>
  cl (f_X4_init N a157 h158) fun r159 h160 =>
  ck (hK h160 a156 = 16) <|
  ck (hK h160 a157 = 4) <|
  ck (5 < hN h160 a156) <|
  bd (sR h160 a156 5 (some a157)) fun h164 =>
  ck (hK h164 l0 = 9) <|
  rq (hR h164 l0 3) fun a166 =>
  bd (hz h164) fun a167 =>
  bd (nwh h164 4 0) fun h168 =>
  cl (f_X4_init N a167 h168) fun r169 h170 =>
  ck (hK h170 a166 = 16) <|
  ck (hK h170 a167 = 4) <|
  ck (6 < hN h170 a166) <|
  bd (sR h170 a166 6 (some a167)) fun h174 =>
  ck (hK h174 l0 = 9) <|
  rq (hR h174 l0 3) fun a176 =>
  bd (hz h174) fun a177 =>
  bd (nwh h174 4 0) fun h178 =>
  cl (f_X4_init N a177 h178) fun r179 h180 =>
  ck (hK h180 a176 = 16) <|
  ck (hK h180 a177 = 4) <|
  ck (7 < hN h180 a176) <|
  bd (sR h180 a176 7 (some a177)) fun h184 =>
  ck (hK h184 l0 = 9) <|
  rq (hR h184 l0 3) fun a186 =>
  bd (hz h184) fun a187 =>
  bd (nwh h184 4 0) fun h188 =>
  cl (f_X4_init N a187 h188) fun r189 h190 =>
  ck (hK h190 a186 = 16) <|
  ck (hK h190 a187 = 4) <|
  ck (8 < hN h190 a186) <|
  bd (sR h190 a186 8 (some a187)) fun h194 =>
  ck (hK h194 l0 = 9) <|
  rq (hR h194 l0 3) fun a196 =>
  bd (hz h194) fun a197 =>
  bd (nwh h194 4 0) fun h198 =>
  cl (f_X4_init N a197 h198) fun r199 h200 =>
  ck (hK h200 a196 = 16) <|
  ck (hK h200 a197 = 4) <|
  ck (9 < hN h200 a196) <|
  bd (sR h200 a196 9 (some a197)) fun h204 =>
  ck (hK h204 l0 = 9) <|
  rq (hR h204 l0 3) fun a206 =>
  bd (hz h204) fun a207 =>
  bd (nwh h204 4 0) fun h208 =>
  cl (f_X4_init N a207 h208) fun r209 h210 =>
  ck (hK h210 a206 = 16) <|
  ck (hK h210 a207 = 4) <|
  ck (10 < hN h210 a206) <|
  bd (sR h210 a206 10 (some a207)) fun h214 =>
  ck (hK h214 l0 = 9) <|
  rq (hR h214 l0 3) fun a216 =>
  bd (hz h214) fun a217 =>
  bd (nwh h214 4 0) fun h218 =>
  cl (f_X4_init N a217 h218) fun r219 h220 =>
  ck (hK h220 a216 = 16) <|
  ck (hK h220 a217 = 4) <|
  ck (11 < hN h220 a216) <|
  bd (sR h220 a216 11 (some a217)) fun h224 =>
  ck (hK h224 l0 = 9) <|
  rq (hR h224 l0 3) fun a226 =>
  bd (hz h224) fun a227 =>
  bd (nwh h224 4 0) fun h228 =>
  cl (f_X4_init N a227 h228) fun r229 h230 =>
  ck (hK h230 a226 = 16) <|
  ck (hK h230 a227 = 4) <|
  ck (12 < hN h230 a226) <|
  bd (sR h230 a226 12 (some a227)) fun h234 =>
  ck (hK h234 l0 = 9) <|
  rq (hR h234 l0 3) fun a236 =>
  bd (hz h234) fun a237 =>
  bd (nwh h234 4 0) fun h238 =>
  cl (f_X4_init N a237 h238) fun r239 h240 =>
  ck (hK h240 a236 = 16) <|
  ck (hK h240 a237 = 4) <|
  ck (13 < hN h240 a236) <|
  bd (sR h240 a236 13 (some a237)) fun h244 =>
  ck (hK h244 l0 = 9) <|
  rq (hR h244 l0 3) fun a246 =>
  bd (hz h244) fun a247 =>
  bd (nwh h244 4 0) fun h248 =>
  cl (f_X4_init N a247 h248) fun r249 h250 =>
  ck (hK h250 a246 = 16) <|
  ck (hK h250 a247 = 4) <|
  ck (14 < hN h250 a246) <|
  bd (sR h250 a246 14 (some a247)) fun h254 =>
  ck (hK h254 l0 = 9) <|
  rq (hR h254 l0 3) fun a256 =>
  bd (hz h254) fun a257 =>
  bd (nwh h254 4 0) fun h258 =>
  cl (f_X4_init N a257 h258) fun r259 h260 =>
  ck (hK h260 a256 = 16) <|
  ck (hK h260 a257 = 4) <|
  ck (15 < hN h260 a256) <|
  bd (sR h260 a256 15 (some a257)) fun h264 =>
  some ((), h264)
/-! X11_fresh -/
def f_X11_fresh_57_b (N : Nat) (K_45 : Nat → Int32 → PH → Option (Unit × PH)) (K_57 : Nat → Int32 → Int32 → PH → Option (Unit × PH)) (l0 : Nat) (l1 : Int32) (l2 : Int32) (h : PH) : Option (Unit × PH) :=
  if (5 : Int32) ≤ l2 then
    bd (l1 + (1 : Int32)) fun v2 =>
    K_45 l0 v2 h
  else
    ck (hK h l0 = 10) <|
    rq (hR h l0 49) fun a4 =>
    rq (hR h l0 16) fun a5 =>
    ck (hK h a5 = 12) <|
    ck (inb (((5 : Int32) * l1) + l2) (hN h a5)) <|
    ck (hK h a4 = 12) <|
    ck (inb (((9 : Int32) + ((5 : Int32) * l1)) + l2) (hN h a4)) <|
    bd (sI h a4 (ix (((9 : Int32) + ((5 : Int32) * l1)) + l2)) (if (0 : Int32) < (hI h a5 (ix (((5 : Int32) * l1) + l2))) then (hI h a5 (ix (((5 : Int32) * l1) + l2))) else (0 : Int32))) fun h10 =>
    bd (l2 + (1 : Int32)) fun v11 =>
    K_57 l0 l1 v11 h10
def f_X11_fresh_57 (N : Nat) (K_45 : Nat → Int32 → PH → Option (Unit × PH)) : Nat → Nat → Int32 → Int32 → PH → Option (Unit × PH)
  | 0 => fun _ _ _ _ => none
  | n + 1 => fun l0 l1 l2 h => f_X11_fresh_57_b N K_45 (f_X11_fresh_57 N K_45 n) l0 l1 l2 h
def f_X11_fresh_45_b (N : Nat) (K_45 : Nat → Int32 → PH → Option (Unit × PH)) (l0 : Nat) (l1 : Int32) (h : PH) : Option (Unit × PH) :=
  ck (hK h l0 = 10) <|
  rq (hR h l0 10) fun a2 =>
  ck (hK h a2 = 12) <|
  ck (2 < hN h a2) <|
  if (hI h a2 2) ≤ l1 then
    some ((), h)
  else
    f_X11_fresh_57 N K_45 N l0 l1 (0 : Int32) h
def f_X11_fresh_45 (N : Nat) : Nat → Nat → Int32 → PH → Option (Unit × PH)
  | 0 => fun _ _ _ => none
  | n + 1 => fun l0 l1 h => f_X11_fresh_45_b N (f_X11_fresh_45 N n) l0 l1 h
def f_X11_fresh_23_b (N : Nat) (K_23 : Nat → Int32 → PH → Option (Unit × PH)) (l0 : Nat) (l1 : Int32) (h : PH) : Option (Unit × PH) :=
  if (4 : Int32) ≤ l1 then
    f_X11_fresh_45 N N l0 (0 : Int32) h
  else
    ck (hK h l0 = 10) <|
    rq (hR h l0 49) fun a3 =>
    ck (hK h a3 = 12) <|
    ck (inb ((1 : Int32) + l1) (hN h a3)) <|
    bd (sI h a3 (ix ((1 : Int32) + l1)) (-1 : Int32)) fun h6 =>
    bd (l1 + (1 : Int32)) fun v7 =>
    K_23 l0 v7 h6
def f_X11_fresh_23 (N : Nat) : Nat → Nat → Int32 → PH → Option (Unit × PH)
  | 0 => fun _ _ _ => none
  | n + 1 => fun l0 l1 h => f_X11_fresh_23_b N (f_X11_fresh_23 N n) l0 l1 h
def f_X11_fresh_2_b (N : Nat) (K_2 : Nat → Int32 → PH → Option (Unit × PH)) (l0 : Nat) (l1 : Int32) (h : PH) : Option (Unit × PH) :=
  if (32 : Int32) ≤ l1 then
    f_X11_fresh_23 N N l0 (0 : Int32) h
  else
    ck (hK h l0 = 10) <|
    rq (hR h l0 49) fun a3 =>
    ck (hK h a3 = 12) <|
    ck (inb l1 (hN h a3)) <|
    bd (sI h a3 (ix l1) (0 : Int32)) fun h6 =>
    bd (l1 + (1 : Int32)) fun v7 =>
    K_2 l0 v7 h6
def f_X11_fresh_2 (N : Nat) : Nat → Nat → Int32 → PH → Option (Unit × PH)
  | 0 => fun _ _ _ => none
  | n + 1 => fun l0 l1 h => f_X11_fresh_2_b N (f_X11_fresh_2 N n) l0 l1 h
def f_X11_fresh (N : Nat) (l0 : Nat) (h : PH) : Option (Unit × PH) :=
  f_X11_fresh_2 N N l0 (0 : Int32) h
/-! X11_init -/
def f_X11_init (N : Nat) (l0 : Nat) (h : PH) : Option (Unit × PH) :=
  bd (hz h) fun a1 =>
  bd (nwh h 12 1000) fun h2 =>
  ck (hK h2 l0 = 10) <|
  bd (sR h2 l0 2 (some a1)) fun h4 =>
  bd (hz h4) fun a5 =>
  bd (nwh h4 12 12) fun h6 =>
  ck (hK h6 l0 = 10) <|
  bd (sR h6 l0 10 (some a5)) fun h8 =>
  bd (hz h8) fun a9 =>
  bd (nwh h8 14 44) fun h10 =>
  ck (hK h10 l0 = 10) <|
  bd (sR h10 l0 11 (some a9)) fun h12 =>
  bd (hz h12) fun a13 =>
  bd (nwh h12 12 10) fun h14 =>
  ck (hK h14 l0 = 10) <|
  bd (sR h14 l0 12 (some a13)) fun h16 =>
  bd (hz h16) fun a17 =>
  bd (nwh h16 12 10) fun h18 =>
  ck (hK h18 l0 = 10) <|
  bd (sR h18 l0 13 (some a17)) fun h20 =>
  bd (hz h20) fun a21 =>
  bd (nwh h20 12 10) fun h22 =>
  ck (hK h22 l0 = 10) <|
  bd (sR h22 l0 14 (some a21)) fun h24 =>
  bd (hz h24) fun a25 =>
  bd (nwh h24 12 8) fun h26 =>
  ck (hK h26 l0 = 10) <|
  bd (sR h26 l0 15 (some a25)) fun h28 =>
  bd (hz h28) fun a29 =>
  bd (nwh h28 12 40) fun h30 =>
  ck (hK h30 l0 = 10) <|
  bd (sR h30 l0 16 (some a29)) fun h32 =>
  bd (hz h32) fun a33 =>
  bd (nwh h32 12 48) fun h34 =>
  ck (hK h34 l0 = 10) <|
  bd (sR h34 l0 17 (some a33)) fun h36 =>
  bd (hz h36) fun a37 =>
  bd (nwh h36 12 8) fun h38 =>
  ck (hK h38 l0 = 10) <|
  bd (sR h38 l0 18 (some a37)) fun h40 =>
  bd (hz h40) fun a41 =>
  bd (nwh h40 12 24) fun h42 =>
  ck (hK h42 l0 = 10) <|
  bd (sR h42 l0 19 (some a41)) fun h44 =>
  bd (hz h44) fun a45 =>
  bd (nwh h44 12 4) fun h46 =>
  ck (hK h46 l0 = 10) <|
  bd (sR h46 l0 20 (some a45)) fun h48 =>
  bd (hz h48) fun a49 =>
  bd (nwh h48 12 4) fun h50 =>
  ck (hK h50 l0 = 10) <|
  bd (sR h50 l0 21 (some a49)) fun h52 =>
  bd (hz h52) fun a53 =>
  bd (nwh h52 12 2000) fun h54 =>
  ck (hK h54 l0 = 10) <|
  bd (sR h54 l0 22 (some a53)) fun h56 =>
  bd (hz h56) fun a57 =>
  bd (nwh h56 12 7) fun h58 =>
  ck (hK h58 l0 = 10) <|
  bd (sR h58 l0 25 (some a57)) fun h60 =>
  bd (hz h60) fun a61 =>
  bd (nwh h60 13 7) fun h62 =>
  ck (hK h62 l0 = 10) <|
  bd (sR h62 l0 26 (some a61)) fun h64 =>
  bd (hz h64) fun a65 =>
  bd (nwh h64 12 7) fun h66 =>
  ck (hK h66 l0 = 10) <|
  bd (sR h66 l0 27 (some a65)) fun h68 =>
  bd (hz h68) fun a69 =>
  bd (nwh h68 12 7) fun h70 =>
  ck (hK h70 l0 = 10) <|
  bd (sR h70 l0 28 (some a69)) fun h72 =>
  bd (hz h72) fun a73 =>
  bd (nwh h72 12 7) fun h74 =>
  ck (hK h74 l0 = 10) <|
  bd (sR h74 l0 29 (some a73)) fun h76 =>
  bd (hz h76) fun a77 =>
  bd (nwh h76 12 7) fun h78 =>
  ck (hK h78 l0 = 10) <|
  bd (sR h78 l0 30 (some a77)) fun h80 =>
  bd (hz h80) fun a81 =>
  bd (nwh h80 12 7) fun h82 =>
  ck (hK h82 l0 = 10) <|
  bd (sR h82 l0 31 (some a81)) fun h84 =>
  bd (hz h84) fun a85 =>
  bd (nwh h84 12 7) fun h86 =>
  ck (hK h86 l0 = 10) <|
  bd (sR h86 l0 32 (some a85)) fun h88 =>
  bd (hz h88) fun a89 =>
  bd (nwh h88 12 7) fun h90 =>
  ck (hK h90 l0 = 10) <|
  bd (sR h90 l0 33 (some a89)) fun h92 =>
  bd (hz h92) fun a93 =>
  bd (nwh h92 12 7) fun h94 =>
  ck (hK h94 l0 = 10) <|
  bd (sR h94 l0 34 (some a93)) fun h96 =>
  bd (hz h96) fun a97 =>
  bd (nwh h96 12 7) fun h98 =>
  ck (hK h98 l0 = 10) <|
  bd (sR h98 l0 35 (some a97)) fun h100 =>
  bd (hz h100) fun a101 =>
  bd (nwh h100 12 20) fun h102 =>
  ck (hK h102 l0 = 10) <|
  bd (sR h102 l0 36 (some a101)) fun h104 =>
  bd (hz h104) fun a105 =>
  bd (nwh h104 12 6) fun h106 =>
  ck (hK h106 l0 = 10) <|
  bd (sR h106 l0 39 (some a105)) fun h108 =>
  bd (hz h108) fun a109 =>
  bd (nwh h108 12 240) fun h110 =>
  ck (hK h110 l0 = 10) <|
  bd (sR h110 l0 40 (some a109)) fun h112 =>
  bd (hz h112) fun a113 =>
  bd (nwh h112 12 240) fun h114 =>
  ck (hK h114 l0 = 10) <|
  bd (sR h114 l0 41 (some a113)) fun h116 =>
  bd (hz h116) fun a117 =>
  bd (nwh h116 12 240) fun h118 =>
  ck (hK h118 l0 = 10) <|
  bd (sR h118 l0 42 (some a117)) fun h120 =>
  bd (hz h120) fun a121 =>
  bd (nwh h120 12 240) fun h122 =>
  ck (hK h122 l0 = 10) <|
  bd (sR h122 l0 43 (some a121)) fun h124 =>
  bd (hz h124) fun a125 =>
  bd (nwh h124 12 240) fun h126 =>
  ck (hK h126 l0 = 10) <|
  bd (sR h126 l0 44 (some a125)) fun h128 =>
  bd (hz h128) fun a129 =>
  bd (nwh h128 12 5) fun h130 =>
  ck (hK h130 l0 = 10) <|
  bd (sR h130 l0 45 (some a129)) fun h132 =>
  bd (hz h132) fun a133 =>
  bd (nwh h132 12 40) fun h134 =>
  ck (hK h134 l0 = 10) <|
  bd (sR h134 l0 46 (some a133)) fun h136 =>
  bd (hz h136) fun a137 =>
  bd (nwh h136 12 40) fun h138 =>
  ck (hK h138 l0 = 10) <|
  bd (sR h138 l0 47 (some a137)) fun h140 =>
  bd (hz h140) fun a141 =>
  bd (nwh h140 12 40) fun h142 =>
  ck (hK h142 l0 = 10) <|
  bd (sR h142 l0 48 (some a141)) fun h144 =>
  bd (hz h144) fun a145 =>
  bd (nwh h144 12 32) fun h146 =>
  ck (hK h146 l0 = 10) <|
  bd (sR h146 l0 49 (some a145)) fun h148 =>
  bd (hz h148) fun a149 =>
  bd (nwh h148 12 32) fun h150 =>
  ck (hK h150 l0 = 10) <|
  bd (sR h150 l0 50 (some a149)) fun h152 =>
  bd (hz h152) fun a153 =>
  bd (nwh h152 12 128) fun h154 =>
  ck (hK h154 l0 = 10) <|
  bd (sR h154 l0 51 (some a153)) fun h156 =>
  bd (hz h156) fun a157 =>
  bd (nwh h156 12 512) fun h158 =>
  ck (hK h158 l0 = 10) <|
  bd (sR h158 l0 52 (some a157)) fun h160 =>
  bd (hz h160) fun a161 =>
  bd (nwh h160 13 4) fun h162 =>
  ck (hK h162 l0 = 10) <|
  bd (sR h162 l0 53 (some a161)) fun h164 =>
  bd (hz h164) fun a165 =>
  bd (nwh h164 12 4) fun h166 =>
  ck (hK h166 l0 = 10) <|
  bd (sR h166 l0 57 (some a165)) fun h168 =>
  bd (hz h168) fun a169 =>
  bd (nwh h168 12 4) fun h170 =>
  ck (hK h170 l0 = 10) <|
  bd (sR h170 l0 58 (some a169)) fun h172 =>
  bd (hz h172) fun a173 =>
  bd (nwh h172 12 4) fun h174 =>
  ck (hK h174 l0 = 10) <|
  bd (sR h174 l0 59 (some a173)) fun h176 =>
  bd (hz h176) fun a177 =>
  bd (nwh h176 12 32) fun h178 =>
  ck (hK h178 l0 = 10) <|
  bd (sR h178 l0 60 (some a177)) fun h180 =>
  bd (hz h180) fun a181 =>
  bd (nwh h180 12 4) fun h182 =>
  ck (hK h182 l0 = 10) <|
  bd (sR h182 l0 63 (some a181)) fun h184 =>
  bd (hz h184) fun a185 =>
  bd (nwh h184 12 1001) fun h186 =>
  ck (hK h186 l0 = 10) <|
  bd (sR h186 l0 64 (some a185)) fun h188 =>
  ck (hK h188 l0 = 10) <|
  cl (f_X11_fresh N l0 h188) fun r189 h190 =>
  some ((), h190)
/-! X5_add -/
def f_X5_add_70 (N : Nat) (K_3 : Nat → Int64 → Int32 → PH → Option (Unit × PH)) (l0 : Nat) (l1 : Int64) (l3 : Int32) (h : PH) : Option (Unit × PH) :=
  bd (l3 + (-8 : Int32)) fun v1 =>
  K_3 l0 l1 v1 h
def f_X5_add_38 (N : Nat) (K_3 : Nat → Int64 → Int32 → PH → Option (Unit × PH)) (l0 : Nat) (l1 : Int64) (l3 : Int32) (l4 : Int32) (h : PH) : Option (Unit × PH) :=
  ck (hK h l0 = 5) <|
  if (1000 : Int32) ≤ (hI h l0 1) then
    f_X5_add_70 N K_3 l0 l1 l3 h
  else
    rq (hR h l0 0) fun a3 =>
    ck (hK h a3 = 11) <|
    ck (inb (hI h l0 1) (hN h a3)) <|
    bd (sI h a3 (ix (hI h l0 1)) (g_nc ((l4.toUInt32 % 65536).toInt32))) fun h6 =>
    ck (hK h6 l0 = 5) <|
    bd (sI h6 l0 1 ((hI h6 l0 1) + (1 : Int32))) fun h8 =>
    f_X5_add_70 N K_3 l0 l1 l3 h8
def f_X5_add_3_b (N : Nat) (K_3 : Nat → Int64 → Int32 → PH → Option (Unit × PH)) (l0 : Nat) (l1 : Int64) (l3 : Int32) (h : PH) : Option (Unit × PH) :=
  if l3 < 0 then
    some ((), h)
  else
    bd ((((g_lushr l1 l3).toInt32) &&& (255 : Int32))) fun v2 =>
    if v2 = (10 : Int32) then
      f_X5_add_38 N K_3 l0 l1 l3 v2 h
    else
      if v2 < (32 : Int32) then
        f_X5_add_70 N K_3 l0 l1 l3 h
      else
        if (126 : Int32) < v2 then
          f_X5_add_70 N K_3 l0 l1 l3 h
        else
          f_X5_add_38 N K_3 l0 l1 l3 v2 h
def f_X5_add_3 (N : Nat) : Nat → Nat → Int64 → Int32 → PH → Option (Unit × PH)
  | 0 => fun _ _ _ _ => none
  | n + 1 => fun l0 l1 l3 h => f_X5_add_3_b N (f_X5_add_3 N n) l0 l1 l3 h
def f_X5_add (N : Nat) (l0 : Nat) (l1 : Int64) (h : PH) : Option (Unit × PH) :=
  f_X5_add_3 N N l0 l1 (56 : Int32) h
/-! X10_feed -/
def f_X10_feed (N : Nat) (l0 : Nat) (l1 : Int64) (l3 : Int64) (l5 : Int64) (h : PH) : Option (Int32 × PH) :=
  ck (hK h l0 = 9) <|
  rq (hR h l0 0) fun a2 =>
  ck (hK h a2 = 5) <|
  cl (f_X5_add N a2 l1 h) fun r3 h4 =>
  ck (hK h4 l0 = 9) <|
  rq (hR h4 l0 0) fun a7 =>
  ck (hK h4 a7 = 5) <|
  cl (f_X5_add N a7 l3 h4) fun r8 h9 =>
  ck (hK h9 l0 = 9) <|
  rq (hR h9 l0 0) fun a12 =>
  ck (hK h9 a12 = 5) <|
  cl (f_X5_add N a12 l5 h9) fun r13 h14 =>
  ck (hK h14 l0 = 9) <|
  rq (hR h14 l0 0) fun a17 =>
  ck (hK h14 a17 = 5) <|
  some ((hI h14 a17 1), h14)
/-! X7_init -/
def f_X7_init (N : Nat) (l0 : Nat) (l1 : Nat) (l2 : Nat) (h : PH) : Option (Unit × PH) :=
  ck (hK h l0 = 7) <|
  bd (sR h l0 0 (some l1)) fun h2 =>
  ck (hK h2 l0 = 7) <|
  bd (sR h2 l0 1 (some l2)) fun h4 =>
  some ((), h4)
/-! X1_clear -/
def f_X1_clear (N : Nat) (l0 : Nat) (h : PH) : Option (Unit × PH) :=
  ck (hK h l0 = 1) <|
  bd (sI h l0 3 (0 : Int32)) fun h2 =>
  some ((), h2)
/-! X6_clear -/
def f_X6_clear (N : Nat) (l0 : Nat) (h : PH) : Option (Unit × PH) :=
  ck (hK h l0 = 6) <|
  rq (hR h l0 0) fun a2 =>
  cl (f_J7_fill_53178 N a2 (0 : Int32) h) fun r3 h4 =>
  ck (hK h4 l0 = 6) <|
  rq (hR h4 l0 6) fun a6 =>
  cl (f_J7_fill_53178 N a6 (0 : Int32) h4) fun r7 h8 =>
  ck (hK h8 l0 = 6) <|
  bd (sI h8 l0 7 (0 : Int32)) fun h10 =>
  ck (hK h10 l0 = 6) <|
  rq (hR h10 l0 14) fun a12 =>
  cl (f_J7_fill_53178 N a12 (-1 : Int32) h10) fun r13 h14 =>
  ck (hK h14 l0 = 6) <|
  bd (sI h14 l0 11 (0 : Int32)) fun h16 =>
  ck (hK h16 l0 = 6) <|
  rq (hR h16 l0 12) fun a18 =>
  ck (hK h16 a18 = 1) <|
  cl (f_X1_clear N a18 h16) fun r19 h20 =>
  ck (hK h20 l0 = 6) <|
  rq (hR h20 l0 13) fun a23 =>
  ck (hK h20 a23 = 1) <|
  cl (f_X1_clear N a23 h20) fun r24 h25 =>
  some ((), h25)
/-! X5_isLetter -/
def f_X5_isLetter (N : Nat) (l0 : Int32) (h : PH) : Option (Int32 × PH) :=
  if l0 < (97 : Int32) then
    some ((0 : Int32), h)
  else
    if (122 : Int32) < l0 then
      some ((0 : Int32), h)
    else
      some ((1 : Int32), h)
/-! X9_withCode -/
def f_X9_withCode_2_b (N : Nat) (K_2 : Int64 → Int32 → PH → Option (Option Nat × PH)) (l0 : Int64) (l2 : Int32) (h : PH) : Option (Option Nat × PH) :=
  if (27 : Int32) ≤ l2 then
    some (none, h)
  else
    ck (inb l2 27) <|
    rq (wix h (hW h (ix l2))) fun i3 =>
    if (lg_cmp (wcode i3) l0) = 0 then
      some (some (hW h (ix l2)), h)
    else
      bd (l2 + (1 : Int32)) fun v5 =>
      K_2 l0 v5 h
def f_X9_withCode_2 (N : Nat) : Nat → Int64 → Int32 → PH → Option (Option Nat × PH)
  | 0 => fun _ _ _ => none
  | n + 1 => fun l0 l2 h => f_X9_withCode_2_b N (f_X9_withCode_2 N n) l0 l2 h
def f_X9_withCode (N : Nat) (l0 : Int64) (h : PH) : Option (Option Nat × PH) :=
  f_X9_withCode_2 N N l0 (0 : Int32) h
/-! X5_takeWord -/
def f_X5_takeWord_72 (N : Nat) (l0 : Nat) (h : PH) : Option (Unit × PH) :=
  ck (hK h l0 = 5) <|
  if ((hI h l0 2) - (hI h l0 4)) ≤ (8 : Int32) then
    bd (sI h l0 3 (2 : Int32)) fun h3 =>
    ck (hK h3 l0 = 5) <|
    cl (f_X9_withCode N (hJ h3 l0 6) h3) fun r5 h6 =>
    ck (hK h6 l0 = 5) <|
    bd (sR h6 l0 7 r5) fun h8 =>
    some ((), h8)
  else
    bd (sI h l0 3 (0 : Int32)) fun h9 =>
    some ((), h9)
def f_X5_takeWord_5_b (N : Nat) (K_5 : Nat → PH → Option (Unit × PH)) (l0 : Nat) (h : PH) : Option (Unit × PH) :=
  ck (hK h l0 = 5) <|
  if (hI h l0 1) ≤ (hI h l0 2) then
    f_X5_takeWord_72 N l0 h
  else
    rq (hR h l0 0) fun a3 =>
    ck (hK h a3 = 11) <|
    ck (inb (hI h l0 2) (hN h a3)) <|
    cl (f_X5_isLetter N (hI h a3 (ix (hI h l0 2))) h) fun r6 h7 =>
    if r6 = 0 then
      f_X5_takeWord_72 N l0 h7
    else
      ck (hK h7 l0 = 5) <|
      rq (hR h7 l0 0) fun a10 =>
      ck (hK h7 a10 = 11) <|
      ck (inb (hI h7 l0 2) (hN h7 a10)) <|
      bd (sJ h7 l0 6 (((hJ h7 l0 6) * (32 : Int64)) + ((((hI h7 a10 (ix (hI h7 l0 2))) - (97 : Int32)) + (1 : Int32)).toInt64))) fun h13 =>
      ck (hK h13 l0 = 5) <|
      bd (sI h13 l0 2 ((hI h13 l0 2) + (1 : Int32))) fun h15 =>
      K_5 l0 h15
def f_X5_takeWord_5 (N : Nat) : Nat → Nat → PH → Option (Unit × PH)
  | 0 => fun _ _ => none
  | n + 1 => fun l0 h => f_X5_takeWord_5_b N (f_X5_takeWord_5 N n) l0 h
def f_X5_takeWord (N : Nat) (l0 : Nat) (h : PH) : Option (Unit × PH) :=
  ck (hK h l0 = 5) <|
  bd (sJ h l0 6 (0 : Int64)) fun h2 =>
  f_X5_takeWord_5 N N l0 h2
/-! X5_isDigit -/
def f_X5_isDigit (N : Nat) (l0 : Int32) (h : PH) : Option (Int32 × PH) :=
  if l0 < (48 : Int32) then
    some ((0 : Int32), h)
  else
    if (57 : Int32) < l0 then
      some ((0 : Int32), h)
    else
      some ((1 : Int32), h)
/-! X5_takeNumber -/
def f_X5_takeNumber_87 (N : Nat) (s0 : Int32) (s1 : Nat) (h : PH) : Option (Unit × PH) :=
  ck (hK h s1 = 5) <|
  bd (sI h s1 3 s0) fun h2 =>
  some ((), h2)
def f_X5_takeNumber_68 (N : Nat) (l0 : Nat) (h : PH) : Option (Unit × PH) :=
  ck (hK h l0 = 5) <|
  if ((hI h l0 2) - (hI h l0 4)) ≤ (4 : Int32) then
    f_X5_takeNumber_87 N (3 : Int32) l0 h
  else
    f_X5_takeNumber_87 N (0 : Int32) l0 h
def f_X5_takeNumber_5_b (N : Nat) (K_5 : Nat → PH → Option (Unit × PH)) (l0 : Nat) (h : PH) : Option (Unit × PH) :=
  ck (hK h l0 = 5) <|
  if (hI h l0 1) ≤ (hI h l0 2) then
    f_X5_takeNumber_68 N l0 h
  else
    rq (hR h l0 0) fun a3 =>
    ck (hK h a3 = 11) <|
    ck (inb (hI h l0 2) (hN h a3)) <|
    cl (f_X5_isDigit N (hI h a3 (ix (hI h l0 2))) h) fun r6 h7 =>
    if r6 = 0 then
      f_X5_takeNumber_68 N l0 h7
    else
      ck (hK h7 l0 = 5) <|
      rq (hR h7 l0 0) fun a10 =>
      ck (hK h7 a10 = 11) <|
      ck (inb (hI h7 l0 2) (hN h7 a10)) <|
      bd (sI h7 l0 5 (((hI h7 l0 5) * (10 : Int32)) + ((hI h7 a10 (ix (hI h7 l0 2))) - (48 : Int32)))) fun h13 =>
      ck (hK h13 l0 = 5) <|
      bd (sI h13 l0 2 ((hI h13 l0 2) + (1 : Int32))) fun h15 =>
      K_5 l0 h15
def f_X5_takeNumber_5 (N : Nat) : Nat → Nat → PH → Option (Unit × PH)
  | 0 => fun _ _ => none
  | n + 1 => fun l0 h => f_X5_takeNumber_5_b N (f_X5_takeNumber_5 N n) l0 h
def f_X5_takeNumber (N : Nat) (l0 : Nat) (h : PH) : Option (Unit × PH) :=
  ck (hK h l0 = 5) <|
  bd (sI h l0 5 (0 : Int32)) fun h2 =>
  f_X5_takeNumber_5 N N l0 h2
/-! J0_isLatin1_aae02 -/
def f_J0_isLatin1_aae02 (N : Nat) (l0 : Nat) (h : PH) : Option (Int32 × PH) :=
  if (1 : Int32) = 0 then
    some ((0 : Int32), h)
  else
    ck (l0 = hW h 29) <|
    if (0 : Int32) = 0 then
      some ((1 : Int32), h)
    else
      some ((0 : Int32), h)
/-! J0_coder_7d493 -/
def f_J0_coder_7d493 (N : Nat) (l0 : Nat) (h : PH) : Option (Int32 × PH) :=
  if (1 : Int32) = 0 then
    some ((1 : Int32), h)
  else
    ck (l0 = hW h 29) <|
    some ((0 : Int32), h)
/-! J0_length_8abf5 -/
def f_J0_length_8abf5 (N : Nat) (l0 : Nat) (h : PH) : Option (Int32 × PH) :=
  ck (l0 = hW h 29) <|
  ck ((hW h 30) = hW h 30) <|
  cl (f_J0_coder_7d493 N l0 h) fun r3 h4 =>
  some (((8 : Int32) >>> (r3 &&& 31)), h4)
/-! J1_canEncode_9a6ad -/
def f_J1_canEncode_9a6ad (N : Nat) (l0 : Int32) (h : PH) : Option (Int32 × PH) :=
  if l0 < 0 then
    some ((0 : Int32), h)
  else
    if (255 : Int32) < l0 then
      some ((0 : Int32), h)
    else
      some ((1 : Int32), h)
/-! J1_indexOfChar_4cfef -/
def f_J1_indexOfChar_4cfef_7_b (N : Nat) (K_7 : Nat → Int32 → Int32 → Int32 → PH → Option (Int32 × PH)) (l0 : Nat) (l3 : Int32) (l4 : Int32) (l5 : Int32) (h : PH) : Option (Int32 × PH) :=
  if l3 ≤ l5 then
    some ((-1 : Int32), h)
  else
    ck (l0 = hW h 30) <|
    ck (inb l5 8) <|
    if (gsingles (ix l5)) = l4 then
      some (l5, h)
    else
      bd (l5 + (1 : Int32)) fun v5 =>
      K_7 l0 l3 l4 v5 h
def f_J1_indexOfChar_4cfef_7 (N : Nat) : Nat → Nat → Int32 → Int32 → Int32 → PH → Option (Int32 × PH)
  | 0 => fun _ _ _ _ _ => none
  | n + 1 => fun l0 l3 l4 l5 h => f_J1_indexOfChar_4cfef_7_b N (f_J1_indexOfChar_4cfef_7 N n) l0 l3 l4 l5 h
def f_J1_indexOfChar_4cfef (N : Nat) (l0 : Nat) (l1 : Int32) (l2 : Int32) (l3 : Int32) (h : PH) : Option (Int32 × PH) :=
  bd (l1.toInt8.toInt32) fun v1 =>
  f_J1_indexOfChar_4cfef_7 N N l0 l3 v1 l2 h
/-! J1_indexOf_4cfef -/
def f_J1_indexOf_4cfef (N : Nat) (l0 : Nat) (l1 : Int32) (l2 : Int32) (l3 : Int32) (h : PH) : Option (Int32 × PH) :=
  cl (f_J1_canEncode_9a6ad N l1 h) fun r1 h2 =>
  if r1 = 0 then
    some ((-1 : Int32), h2)
  else
    bd ((if l2 < (0 : Int32) then (0 : Int32) else l2)) fun v4 =>
    ck (l0 = hW h2 30) <|
    bd ((if (8 : Int32) < l3 then (8 : Int32) else l3)) fun v6 =>
    if v4 < v6 then
      cl (f_J1_indexOfChar_4cfef N l0 l1 v4 v6 h2) fun r8 h9 =>
      some (r8, h9)
    else
      some ((-1 : Int32), h2)
/-! J0_indexOf_7cf53 -/
def f_J0_indexOf_7cf53 (N : Nat) (l0 : Nat) (l1 : Int32) (l2 : Int32) (h : PH) : Option (Int32 × PH) :=
  ck (l0 = hW h 29) <|
  cl (f_J0_isLatin1_aae02 N l0 h) fun r1 h2 =>
  if r1 = 0 then
    ck (l0 = hW h2 29) <|
    cl (f_J0_length_8abf5 N l0 h2) fun r6 h7 =>
    none
  else
    ck (l0 = hW h2 29) <|
    cl (f_J0_length_8abf5 N l0 h2) fun r9 h10 =>
    cl (f_J1_indexOf_4cfef N (hW h2 30) l1 l2 r9 h10) fun r11 h12 =>
    some (r11, h12)
/-! J0_indexOf_0f7a4 -/
def f_J0_indexOf_0f7a4 (N : Nat) (l0 : Nat) (l1 : Int32) (h : PH) : Option (Int32 × PH) :=
  ck (l0 = hW h 29) <|
  cl (f_J0_indexOf_7cf53 N l0 l1 (0 : Int32) h) fun r1 h2 =>
  some (r1, h2)
/-! X5_step -/
def f_X5_step_47 (N : Nat) (K_8 : Nat → PH → Option (Unit × PH)) (l0 : Nat) (h : PH) : Option (Unit × PH) :=
  ck (hK h l0 = 5) <|
  bd (sI h l0 2 ((hI h l0 2) + (1 : Int32))) fun h2 =>
  K_8 l0 h2
def f_X5_step_167 (N : Nat) (s0 : Int32) (s1 : Nat) (l0 : Nat) (h : PH) : Option (Unit × PH) :=
  ck (hK h s1 = 5) <|
  bd (sI h s1 3 s0) fun h2 =>
  ck (hK h2 l0 = 5) <|
  bd (sI h2 l0 2 ((hI h2 l0 2) + (1 : Int32))) fun h4 =>
  some ((), h4)
def f_X5_step_60 (N : Nat) (l0 : Nat) (h : PH) : Option (Unit × PH) :=
  ck (hK h l0 = 5) <|
  bd (sI h l0 4 (hI h l0 2)) fun h2 =>
  ck (hK h2 l0 = 5) <|
  bd (sR h2 l0 7 none) fun h4 =>
  ck (hK h4 l0 = 5) <|
  if (hI h4 l0 2) < (hI h4 l0 1) then
    rq (hR h4 l0 0) fun a7 =>
    ck (hK h4 a7 = 11) <|
    ck (inb (hI h4 l0 2) (hN h4 a7)) <|
    cl (f_X5_isLetter N (hI h4 a7 (ix (hI h4 l0 2))) h4) fun r10 h11 =>
    if r10 = 0 then
      ck (hK h11 l0 = 5) <|
      rq (hR h11 l0 0) fun a14 =>
      ck (hK h11 a14 = 11) <|
      ck (inb (hI h11 l0 2) (hN h11 a14)) <|
      cl (f_X5_isDigit N (hI h11 a14 (ix (hI h11 l0 2))) h11) fun r17 h18 =>
      if r17 = 0 then
        ck (hK h18 l0 = 5) <|
        rq (hR h18 l0 0) fun a21 =>
        ck (hK h18 a21 = 11) <|
        ck (inb (hI h18 l0 2) (hN h18 a21)) <|
        ck ((hW h18 29) = hW h18 29) <|
        cl (f_J0_indexOf_0f7a4 N (hW h18 29) (hI h18 a21 (ix (hI h18 l0 2))) h18) fun r24 h25 =>
        if r24 < 0 then
          f_X5_step_167 N (0 : Int32) l0 l0 h25
        else
          ck (hK h25 l0 = 5) <|
          rq (hR h25 l0 0) fun a29 =>
          ck (hK h25 a29 = 11) <|
          ck (inb (hI h25 l0 2) (hN h25 a29)) <|
          f_X5_step_167 N (hI h25 a29 (ix (hI h25 l0 2))) l0 l0 h25
      else
        ck (hK h18 l0 = 5) <|
        cl (f_X5_takeNumber N l0 h18) fun r32 h33 =>
        some ((), h33)
    else
      ck (hK h11 l0 = 5) <|
      cl (f_X5_takeWord N l0 h11) fun r35 h36 =>
      some ((), h36)
  else
    bd (sI h4 l0 3 (1 : Int32)) fun h38 =>
    some ((), h38)
def f_X5_step_8_b (N : Nat) (K_8 : Nat → PH → Option (Unit × PH)) (l0 : Nat) (h : PH) : Option (Unit × PH) :=
  ck (hK h l0 = 5) <|
  if (hI h l0 1) ≤ (hI h l0 2) then
    f_X5_step_60 N l0 h
  else
    rq (hR h l0 0) fun a3 =>
    ck (hK h a3 = 11) <|
    ck (inb (hI h l0 2) (hN h a3)) <|
    if (hI h a3 (ix (hI h l0 2))) = (32 : Int32) then
      f_X5_step_47 N K_8 l0 h
    else
      rq (hR h l0 0) fun a7 =>
      ck (hK h a7 = 11) <|
      ck (inb (hI h l0 2) (hN h a7)) <|
      if (hI h a7 (ix (hI h l0 2))) = (10 : Int32) then
        f_X5_step_47 N K_8 l0 h
      else
        f_X5_step_60 N l0 h
def f_X5_step_8 (N : Nat) : Nat → Nat → PH → Option (Unit × PH)
  | 0 => fun _ _ => none
  | n + 1 => fun l0 h => f_X5_step_8_b N (f_X5_step_8 N n) l0 h
def f_X5_step (N : Nat) (l0 : Nat) (h : PH) : Option (Unit × PH) :=
  ck (hK h l0 = 5) <|
  if (hI h l0 8) = 0 then
    f_X5_step_8 N N l0 h
  else
    some ((), h)
/-! X5_open -/
def f_X5_open (N : Nat) (l0 : Nat) (h : PH) : Option (Unit × PH) :=
  ck (hK h l0 = 5) <|
  bd (sI h l0 2 (0 : Int32)) fun h2 =>
  ck (hK h2 l0 = 5) <|
  bd (sI h2 l0 8 (0 : Int32)) fun h4 =>
  ck (hK h4 l0 = 5) <|
  cl (f_X5_step N l0 h4) fun r5 h6 =>
  some ((), h6)
/-! X5_isOver -/
def f_X5_isOver (N : Nat) (l0 : Nat) (h : PH) : Option (Int32 × PH) :=
  ck (hK h l0 = 5) <|
  if (hI h l0 8) = 0 then
    if (hI h l0 3) = (1 : Int32) then
      some ((1 : Int32), h)
    else
      some ((0 : Int32), h)
  else
    some ((1 : Int32), h)
/-! X5_isAt -/
def f_X5_isAt (N : Nat) (l0 : Nat) (l1 : Nat) (h : PH) : Option (Int32 × PH) :=
  ck (hK h l0 = 5) <|
  if (hI h l0 8) = 0 then
    if (hI h l0 3) = (2 : Int32) then
      if (hR h l0 7) = some l1 then
        some ((1 : Int32), h)
      else
        some ((0 : Int32), h)
    else
      some ((0 : Int32), h)
  else
    some ((0 : Int32), h)
/-! X5_fail -/
def f_X5_fail (N : Nat) (l0 : Nat) (l1 : Int32) (h : PH) : Option (Unit × PH) :=
  ck (hK h l0 = 5) <|
  if (hI h l0 8) = 0 then
    bd (sI h l0 8 (l1 + ((16 : Int32) * (hI h l0 4)))) fun h3 =>
    some ((), h3)
  else
    some ((), h)
/-! X7_oneMore -/
def f_X7_oneMore_23 (N : Nat) (l0 : Nat) (l3 : Int32) (h : PH) : Option (Int32 × PH) :=
  ck (hK h l0 = 7) <|
  rq (hR h l0 0) fun a2 =>
  ck (hK h a2 = 5) <|
  cl (f_X5_step N a2 h) fun r3 h4 =>
  some (l3, h4)
def f_X7_oneMore (N : Nat) (l0 : Nat) (l1 : Int32) (l2 : Int32) (h : PH) : Option (Int32 × PH) :=
  ck (hK h l0 = 7) <|
  rq (hR h l0 1) fun a2 =>
  ck (hK h a2 = 6) <|
  rq (hR h a2 0) fun a4 =>
  ck (hK h a4 = 12) <|
  ck (inb l1 (hN h a4)) <|
  bd ((hI h a4 (ix l1))) fun v7 =>
  if v7 < l2 then
    f_X7_oneMore_23 N l0 v7 h
  else
    rq (hR h l0 0) fun a9 =>
    ck (hK h a9 = 5) <|
    cl (f_X5_fail N a9 (5 : Int32) h) fun r10 h11 =>
    f_X7_oneMore_23 N l0 v7 h11
/-! X5_isAtName -/
def f_X5_isAtName (N : Nat) (l0 : Nat) (h : PH) : Option (Int32 × PH) :=
  ck (hK h l0 = 5) <|
  if (hI h l0 8) = 0 then
    if (hI h l0 3) = (2 : Int32) then
      if (hR h l0 7) = none then
        some ((1 : Int32), h)
      else
        rq (hR h l0 7) fun a5 =>
        rq (wix h a5) fun i6 =>
        if (wkept i6) = 0 then
          some ((1 : Int32), h)
        else
          some ((0 : Int32), h)
    else
      some ((0 : Int32), h)
  else
    some ((0 : Int32), h)
/-! X6_find -/
def f_X6_find_3_b (N : Nat) (K_3 : Nat → Int32 → Int64 → Int32 → PH → Option (Int32 × PH)) (l0 : Nat) (l1 : Int32) (l2 : Int64) (l4 : Int32) (h : PH) : Option (Int32 × PH) :=
  ck (hK h l0 = 6) <|
  rq (hR h l0 0) fun a2 =>
  ck (hK h a2 = 12) <|
  ck (inb l1 (hN h a2)) <|
  if (hI h a2 (ix l1)) ≤ l4 then
    some ((-1 : Int32), h)
  else
    rq (hR h l0 1) fun a6 =>
    ck (hK h a6 = 14) <|
    ck (inb ((l1 * (6 : Int32)) + l4) (hN h a6)) <|
    if (lg_cmp (hJ h a6 (ix ((l1 * (6 : Int32)) + l4))) l2) = 0 then
      some (l4, h)
    else
      bd (l4 + (1 : Int32)) fun v10 =>
      K_3 l0 l1 l2 v10 h
def f_X6_find_3 (N : Nat) : Nat → Nat → Int32 → Int64 → Int32 → PH → Option (Int32 × PH)
  | 0 => fun _ _ _ _ _ => none
  | n + 1 => fun l0 l1 l2 l4 h => f_X6_find_3_b N (f_X6_find_3 N n) l0 l1 l2 l4 h
def f_X6_find (N : Nat) (l0 : Nat) (l1 : Int32) (l2 : Int64) (h : PH) : Option (Int32 × PH) :=
  f_X6_find_3 N N l0 l1 l2 (0 : Int32) h
/-! X6_knows -/
def f_X6_knows_2_b (N : Nat) (K_2 : Nat → Int64 → Int32 → PH → Option (Int32 × PH)) (l0 : Nat) (l1 : Int64) (l3 : Int32) (h : PH) : Option (Int32 × PH) :=
  if (5 : Int32) ≤ l3 then
    some ((0 : Int32), h)
  else
    ck (hK h l0 = 6) <|
    cl (f_X6_find N l0 l3 l1 h) fun r2 h3 =>
    if r2 = (-1 : Int32) then
      bd (l3 + (1 : Int32)) fun v6 =>
      K_2 l0 l1 v6 h3
    else
      some ((1 : Int32), h3)
def f_X6_knows_2 (N : Nat) : Nat → Nat → Int64 → Int32 → PH → Option (Int32 × PH)
  | 0 => fun _ _ _ _ => none
  | n + 1 => fun l0 l1 l3 h => f_X6_knows_2_b N (f_X6_knows_2 N n) l0 l1 l3 h
def f_X6_knows (N : Nat) (l0 : Nat) (l1 : Int64) (h : PH) : Option (Int32 × PH) :=
  f_X6_knows_2 N N l0 l1 (0 : Int32) h
/-! X7_newName -/
def f_X7_newName_46 (N : Nat) (l0 : Nat) (h : PH) : Option (Int64 × PH) :=
  ck (hK h l0 = 7) <|
  rq (hR h l0 0) fun a2 =>
  ck (hK h a2 = 5) <|
  bd ((hJ h a2 6)) fun v4 =>
  rq (hR h l0 0) fun a5 =>
  ck (hK h a5 = 5) <|
  cl (f_X5_step N a5 h) fun r6 h7 =>
  some (v4, h7)
def f_X7_newName (N : Nat) (l0 : Nat) (h : PH) : Option (Int64 × PH) :=
  ck (hK h l0 = 7) <|
  rq (hR h l0 0) fun a2 =>
  ck (hK h a2 = 5) <|
  cl (f_X5_isAtName N a2 h) fun r3 h4 =>
  if r3 = 0 then
    ck (hK h4 l0 = 7) <|
    rq (hR h4 l0 0) fun a21 =>
    ck (hK h4 a21 = 5) <|
    cl (f_X5_fail N a21 (1 : Int32) h4) fun r22 h23 =>
    f_X7_newName_46 N l0 h23
  else
    ck (hK h4 l0 = 7) <|
    rq (hR h4 l0 1) fun a8 =>
    rq (hR h4 l0 0) fun a9 =>
    ck (hK h4 a9 = 5) <|
    ck (hK h4 a8 = 6) <|
    cl (f_X6_knows N a8 (hJ h4 a9 6) h4) fun r11 h12 =>
    if r11 = 0 then
      f_X7_newName_46 N l0 h12
    else
      ck (hK h12 l0 = 7) <|
      rq (hR h12 l0 0) fun a16 =>
      ck (hK h12 a16 = 5) <|
      cl (f_X5_fail N a16 (3 : Int32) h12) fun r17 h18 =>
      f_X7_newName_46 N l0 h18
/-! X5_expect -/
def f_X5_expect_13 (N : Nat) (l0 : Nat) (h : PH) : Option (Unit × PH) :=
  ck (hK h l0 = 5) <|
  cl (f_X5_step N l0 h) fun r1 h2 =>
  some ((), h2)
def f_X5_expect (N : Nat) (l0 : Nat) (l1 : Nat) (h : PH) : Option (Unit × PH) :=
  ck (hK h l0 = 5) <|
  cl (f_X5_isAt N l0 l1 h) fun r1 h2 =>
  if r1 = 0 then
    ck (hK h2 l0 = 5) <|
    cl (f_X5_fail N l0 (1 : Int32) h2) fun r5 h6 =>
    f_X5_expect_13 N l0 h6
  else
    f_X5_expect_13 N l0 h2
/-! X5_isAtNumber -/
def f_X5_isAtNumber (N : Nat) (l0 : Nat) (h : PH) : Option (Int32 × PH) :=
  ck (hK h l0 = 5) <|
  if (hI h l0 8) = 0 then
    if (hI h l0 3) = (3 : Int32) then
      some ((1 : Int32), h)
    else
      some ((0 : Int32), h)
  else
    some ((0 : Int32), h)
/-! X5_expectNumber -/
def f_X5_expectNumber_36 (N : Nat) (l0 : Nat) (h : PH) : Option (Int32 × PH) :=
  ck (hK h l0 = 5) <|
  bd ((hI h l0 5)) fun v2 =>
  cl (f_X5_step N l0 h) fun r3 h4 =>
  some (v2, h4)
def f_X5_expectNumber_31 (N : Nat) (l0 : Nat) (h : PH) : Option (Int32 × PH) :=
  ck (hK h l0 = 5) <|
  cl (f_X5_fail N l0 (4 : Int32) h) fun r1 h2 =>
  f_X5_expectNumber_36 N l0 h2
def f_X5_expectNumber (N : Nat) (l0 : Nat) (l1 : Int32) (l2 : Int32) (h : PH) : Option (Int32 × PH) :=
  ck (hK h l0 = 5) <|
  cl (f_X5_isAtNumber N l0 h) fun r1 h2 =>
  if r1 = 0 then
    ck (hK h2 l0 = 5) <|
    cl (f_X5_fail N l0 (1 : Int32) h2) fun r8 h9 =>
    f_X5_expectNumber_36 N l0 h9
  else
    ck (hK h2 l0 = 5) <|
    if (hI h2 l0 5) < l1 then
      f_X5_expectNumber_31 N l0 h2
    else
      if (hI h2 l0 5) ≤ l2 then
        f_X5_expectNumber_36 N l0 h2
      else
        f_X5_expectNumber_31 N l0 h2
/-! X5_isAtSign -/
def f_X5_isAtSign (N : Nat) (l0 : Nat) (l1 : Int32) (h : PH) : Option (Int32 × PH) :=
  ck (hK h l0 = 5) <|
  if (hI h l0 8) = 0 then
    if (hI h l0 3) = l1 then
      some ((1 : Int32), h)
    else
      some ((0 : Int32), h)
  else
    some ((0 : Int32), h)
/-! X5_expectSign -/
def f_X5_expectSign_13 (N : Nat) (l0 : Nat) (h : PH) : Option (Unit × PH) :=
  ck (hK h l0 = 5) <|
  cl (f_X5_step N l0 h) fun r1 h2 =>
  some ((), h2)
def f_X5_expectSign (N : Nat) (l0 : Nat) (l1 : Int32) (h : PH) : Option (Unit × PH) :=
  ck (hK h l0 = 5) <|
  cl (f_X5_isAtSign N l0 l1 h) fun r1 h2 =>
  if r1 = 0 then
    ck (hK h2 l0 = 5) <|
    cl (f_X5_fail N l0 (1 : Int32) h2) fun r5 h6 =>
    f_X5_expectSign_13 N l0 h6
  else
    f_X5_expectSign_13 N l0 h2
/-! X5_isSound -/
def f_X5_isSound (N : Nat) (l0 : Nat) (h : PH) : Option (Int32 × PH) :=
  ck (hK h l0 = 5) <|
  if (hI h l0 8) = 0 then
    some ((1 : Int32), h)
  else
    some ((0 : Int32), h)
/-! X6_enter -/
def f_X6_enter (N : Nat) (l0 : Nat) (l1 : Int32) (l2 : Int64) (h : PH) : Option (Unit × PH) :=
  ck (hK h l0 = 6) <|
  rq (hR h l0 0) fun a2 =>
  ck (hK h a2 = 12) <|
  ck (inb l1 (hN h a2)) <|
  if (6 : Int32) ≤ (hI h a2 (ix l1)) then
    some ((), h)
  else
    rq (hR h l0 1) fun a6 =>
    rq (hR h l0 0) fun a7 =>
    ck (hK h a7 = 12) <|
    ck (inb l1 (hN h a7)) <|
    ck (hK h a6 = 14) <|
    ck (inb ((l1 * (6 : Int32)) + (hI h a7 (ix l1))) (hN h a6)) <|
    bd (sJ h a6 (ix ((l1 * (6 : Int32)) + (hI h a7 (ix l1)))) l2) fun h12 =>
    ck (hK h12 l0 = 6) <|
    rq (hR h12 l0 0) fun a14 =>
    ck (hK h12 a14 = 12) <|
    ck (inb l1 (hN h12 a14)) <|
    bd (sI h12 a14 (ix l1) ((hI h12 a14 (ix l1)) + (1 : Int32))) fun h17 =>
    some ((), h17)
/-! X7_readFuel -/
def f_X7_readFuel (N : Nat) (l0 : Nat) (h : PH) : Option (Unit × PH) :=
  ck (hK h l0 = 7) <|
  cl (f_X7_oneMore N l0 (0 : Int32) (5 : Int32) h) fun r1 h2 =>
  ck (hK h2 l0 = 7) <|
  cl (f_X7_newName N l0 h2) fun r4 h5 =>
  ck (hK h5 l0 = 7) <|
  rq (hR h5 l0 0) fun a8 =>
  ck (hK h5 a8 = 5) <|
  cl (f_X5_expect N a8 (hW h5 1) h5) fun r9 h10 =>
  ck (hK h10 l0 = 7) <|
  rq (hR h10 l0 0) fun a13 =>
  ck (hK h10 a13 = 5) <|
  cl (f_X5_expectNumber N a13 (0 : Int32) (99 : Int32) h10) fun r14 h15 =>
  ck (hK h15 l0 = 7) <|
  rq (hR h15 l0 0) fun a18 =>
  ck (hK h15 a18 = 5) <|
  cl (f_X5_expect N a18 (hW h15 2) h15) fun r19 h20 =>
  ck (hK h20 l0 = 7) <|
  rq (hR h20 l0 0) fun a23 =>
  ck (hK h20 a23 = 5) <|
  cl (f_X5_expectNumber N a23 (0 : Int32) (99 : Int32) h20) fun r24 h25 =>
  ck (hK h25 l0 = 7) <|
  rq (hR h25 l0 0) fun a28 =>
  ck (hK h25 a28 = 5) <|
  cl (f_X5_expect N a28 (hW h25 3) h25) fun r29 h30 =>
  ck (hK h30 l0 = 7) <|
  rq (hR h30 l0 0) fun a33 =>
  ck (hK h30 a33 = 5) <|
  cl (f_X5_expectNumber N a33 (1 : Int32) (9 : Int32) h30) fun r34 h35 =>
  ck (hK h35 l0 = 7) <|
  rq (hR h35 l0 0) fun a38 =>
  ck (hK h35 a38 = 5) <|
  cl (f_X5_expectSign N a38 (59 : Int32) h35) fun r39 h40 =>
  ck (hK h40 l0 = 7) <|
  rq (hR h40 l0 0) fun a43 =>
  ck (hK h40 a43 = 5) <|
  cl (f_X5_isSound N a43 h40) fun r44 h45 =>
  if r44 = 0 then
    some ((), h45)
  else
    if (5 : Int32) ≤ r1 then
      some ((), h45)
    else
      ck (hK h45 l0 = 7) <|
      rq (hR h45 l0 1) fun a50 =>
      ck (hK h45 a50 = 6) <|
      rq (hR h45 a50 2) fun a52 =>
      ck (hK h45 a52 = 12) <|
      ck (inb r1 (hN h45 a52)) <|
      bd (sI h45 a52 (ix r1) r14) fun h55 =>
      ck (hK h55 l0 = 7) <|
      rq (hR h55 l0 1) fun a57 =>
      ck (hK h55 a57 = 6) <|
      rq (hR h55 a57 3) fun a59 =>
      ck (hK h55 a59 = 12) <|
      ck (inb r1 (hN h55 a59)) <|
      bd (sI h55 a59 (ix r1) r24) fun h62 =>
      ck (hK h62 l0 = 7) <|
      rq (hR h62 l0 1) fun a64 =>
      ck (hK h62 a64 = 6) <|
      rq (hR h62 a64 4) fun a66 =>
      ck (hK h62 a66 = 12) <|
      ck (inb r1 (hN h62 a66)) <|
      bd (sI h62 a66 (ix r1) r34) fun h69 =>
      ck (hK h69 l0 = 7) <|
      rq (hR h69 l0 1) fun a71 =>
      ck (hK h69 a71 = 6) <|
      cl (f_X6_enter N a71 (0 : Int32) r4 h69) fun r72 h73 =>
      some ((), h73)
/-! X7_readFlue -/
def f_X7_readFlue (N : Nat) (l0 : Nat) (h : PH) : Option (Unit × PH) :=
  ck (hK h l0 = 7) <|
  cl (f_X7_oneMore N l0 (1 : Int32) (3 : Int32) h) fun r1 h2 =>
  ck (hK h2 l0 = 7) <|
  cl (f_X7_newName N l0 h2) fun r4 h5 =>
  ck (hK h5 l0 = 7) <|
  rq (hR h5 l0 0) fun a8 =>
  ck (hK h5 a8 = 5) <|
  cl (f_X5_expectSign N a8 (59 : Int32) h5) fun r9 h10 =>
  ck (hK h10 l0 = 7) <|
  rq (hR h10 l0 0) fun a13 =>
  ck (hK h10 a13 = 5) <|
  cl (f_X5_isSound N a13 h10) fun r14 h15 =>
  if r14 = 0 then
    some ((), h15)
  else
    ck (hK h15 l0 = 7) <|
    rq (hR h15 l0 1) fun a19 =>
    ck (hK h15 a19 = 6) <|
    cl (f_X6_enter N a19 (1 : Int32) r4 h15) fun r20 h21 =>
    some ((), h21)
/-! X5_toldHere -/
def f_X5_toldHere (N : Nat) (l0 : Nat) (l1 : Nat) (l2 : Int32) (h : PH) : Option (Int32 × PH) :=
  ck (hK h l0 = 5) <|
  cl (f_X5_isAtName N l0 h) fun r1 h2 =>
  if r1 = 0 then
    ck (hK h2 l0 = 5) <|
    cl (f_X5_fail N l0 (1 : Int32) h2) fun r13 h14 =>
    some ((-1 : Int32), h14)
  else
    ck (hK h2 l0 = 5) <|
    ck (hK h2 l1 = 6) <|
    cl (f_X6_find N l1 l2 (hJ h2 l0 6) h2) fun r6 h7 =>
    if r6 = (-1 : Int32) then
      ck (hK h7 l0 = 5) <|
      cl (f_X5_fail N l0 (2 : Int32) h7) fun r10 h11 =>
      some (r6, h11)
    else
      some (r6, h7)
/-! X7_readHouse -/
def f_X7_readHouse (N : Nat) (l0 : Nat) (h : PH) : Option (Unit × PH) :=
  ck (hK h l0 = 7) <|
  cl (f_X7_oneMore N l0 (2 : Int32) (4 : Int32) h) fun r1 h2 =>
  ck (hK h2 l0 = 7) <|
  cl (f_X7_newName N l0 h2) fun r4 h5 =>
  ck (hK h5 l0 = 7) <|
  rq (hR h5 l0 0) fun a8 =>
  ck (hK h5 a8 = 5) <|
  cl (f_X5_expect N a8 (hW h5 6) h5) fun r9 h10 =>
  ck (hK h10 l0 = 7) <|
  rq (hR h10 l0 0) fun a13 =>
  rq (hR h10 l0 1) fun a14 =>
  ck (hK h10 a13 = 5) <|
  cl (f_X5_toldHere N a13 a14 (1 : Int32) h10) fun r15 h16 =>
  ck (hK h16 l0 = 7) <|
  rq (hR h16 l0 0) fun a19 =>
  ck (hK h16 a19 = 5) <|
  cl (f_X5_step N a19 h16) fun r20 h21 =>
  ck (hK h21 l0 = 7) <|
  rq (hR h21 l0 0) fun a24 =>
  ck (hK h21 a24 = 5) <|
  cl (f_X5_expectSign N a24 (59 : Int32) h21) fun r25 h26 =>
  ck (hK h26 l0 = 7) <|
  rq (hR h26 l0 0) fun a29 =>
  ck (hK h26 a29 = 5) <|
  cl (f_X5_isSound N a29 h26) fun r30 h31 =>
  if r30 = 0 then
    some ((), h31)
  else
    if (4 : Int32) ≤ r1 then
      some ((), h31)
    else
      ck (hK h31 l0 = 7) <|
      rq (hR h31 l0 1) fun a36 =>
      ck (hK h31 a36 = 6) <|
      rq (hR h31 a36 5) fun a38 =>
      ck (hK h31 a38 = 12) <|
      ck (inb r1 (hN h31 a38)) <|
      bd (sI h31 a38 (ix r1) r15) fun h41 =>
      ck (hK h41 l0 = 7) <|
      rq (hR h41 l0 1) fun a43 =>
      ck (hK h41 a43 = 6) <|
      cl (f_X6_enter N a43 (2 : Int32) r4 h41) fun r44 h45 =>
      some ((), h45)
/-! X7_readStock -/
def f_X7_readStock_106 (N : Nat) (l0 : Nat) (l3 : Int32) (l4 : Int32) (h : PH) : Option (Unit × PH) :=
  ck (hK h l0 = 7) <|
  rq (hR h l0 0) fun a2 =>
  ck (hK h a2 = 5) <|
  cl (f_X5_step N a2 h) fun r3 h4 =>
  ck (hK h4 l0 = 7) <|
  rq (hR h4 l0 0) fun a7 =>
  ck (hK h4 a7 = 5) <|
  cl (f_X5_expectNumber N a7 (0 : Int32) (99 : Int32) h4) fun r8 h9 =>
  ck (hK h9 l0 = 7) <|
  rq (hR h9 l0 0) fun a12 =>
  ck (hK h9 a12 = 5) <|
  cl (f_X5_expectSign N a12 (59 : Int32) h9) fun r13 h14 =>
  if l4 = 0 then
    some ((), h14)
  else
    ck (hK h14 l0 = 7) <|
    rq (hR h14 l0 0) fun a18 =>
    ck (hK h14 a18 = 5) <|
    cl (f_X5_isSound N a18 h14) fun r19 h20 =>
    if r19 = 0 then
      some ((), h20)
    else
      ck (hK h20 l0 = 7) <|
      rq (hR h20 l0 1) fun a24 =>
      ck (hK h20 a24 = 6) <|
      bd (sI h20 a24 7 ((hI h20 a24 7) ||| ((1 : Int32) <<< (l3 &&& 31)))) fun h26 =>
      ck (hK h26 l0 = 7) <|
      rq (hR h26 l0 1) fun a28 =>
      ck (hK h26 a28 = 6) <|
      rq (hR h26 a28 6) fun a30 =>
      ck (hK h26 a30 = 12) <|
      ck (inb l3 (hN h26 a30)) <|
      bd (sI h26 a30 (ix l3) r8) fun h33 =>
      some ((), h33)
def f_X7_readStock_77 (N : Nat) (s0 : Int32) (l0 : Nat) (l3 : Int32) (h : PH) : Option (Unit × PH) :=
  if s0 = 0 then
    f_X7_readStock_106 N l0 l3 s0 h
  else
    ck (hK h l0 = 7) <|
    rq (hR h l0 1) fun a3 =>
    ck (hK h a3 = 6) <|
    if (((hI h a3 7) >>> (l3 &&& 31)) &&& (1 : Int32)) = 0 then
      f_X7_readStock_106 N l0 l3 s0 h
    else
      rq (hR h l0 0) fun a6 =>
      ck (hK h a6 = 5) <|
      cl (f_X5_fail N a6 (3 : Int32) h) fun r7 h8 =>
      f_X7_readStock_106 N l0 l3 s0 h8
def f_X7_readStock_76 (N : Nat) (l0 : Nat) (l3 : Int32) (h : PH) : Option (Unit × PH) :=
  f_X7_readStock_77 N (0 : Int32) l0 l3 h
def f_X7_readStock (N : Nat) (l0 : Nat) (h : PH) : Option (Unit × PH) :=
  ck (hK h l0 = 7) <|
  rq (hR h l0 0) fun a2 =>
  ck (hK h a2 = 5) <|
  cl (f_X5_step N a2 h) fun r3 h4 =>
  ck (hK h4 l0 = 7) <|
  rq (hR h4 l0 0) fun a7 =>
  rq (hR h4 l0 1) fun a8 =>
  ck (hK h4 a7 = 5) <|
  cl (f_X5_toldHere N a7 a8 (2 : Int32) h4) fun r9 h10 =>
  ck (hK h10 l0 = 7) <|
  rq (hR h10 l0 0) fun a13 =>
  ck (hK h10 a13 = 5) <|
  cl (f_X5_step N a13 h10) fun r14 h15 =>
  ck (hK h15 l0 = 7) <|
  rq (hR h15 l0 0) fun a18 =>
  rq (hR h15 l0 1) fun a19 =>
  ck (hK h15 a18 = 5) <|
  cl (f_X5_toldHere N a18 a19 (0 : Int32) h15) fun r20 h21 =>
  bd (((r9 * (5 : Int32)) + r20)) fun v23 =>
  ck (hK h21 l0 = 7) <|
  rq (hR h21 l0 0) fun a25 =>
  ck (hK h21 a25 = 5) <|
  cl (f_X5_isSound N a25 h21) fun r26 h27 =>
  if r26 = 0 then
    f_X7_readStock_76 N l0 v23 h27
  else
    if v23 < 0 then
      f_X7_readStock_76 N l0 v23 h27
    else
      ck (hK h27 l0 = 7) <|
      rq (hR h27 l0 1) fun a32 =>
      ck (hK h27 a32 = 6) <|
      rq (hR h27 a32 6) fun a34 =>
      ck (hK h27 a34 = 12) <|
      if (nI (hN h27 a34)) ≤ v23 then
        f_X7_readStock_76 N l0 v23 h27
      else
        f_X7_readStock_77 N (1 : Int32) l0 v23 h27
/-! X7_readRange -/
def f_X7_readRange (N : Nat) (l0 : Nat) (l1 : Int32) (l2 : Int32) (h : PH) : Option (Unit × PH) :=
  ck (hK h l0 = 7) <|
  rq (hR h l0 0) fun a2 =>
  ck (hK h a2 = 5) <|
  cl (f_X5_expectNumber N a2 (0 : Int32) (999 : Int32) h) fun r3 h4 =>
  ck (hK h4 l0 = 7) <|
  rq (hR h4 l0 0) fun a7 =>
  ck (hK h4 a7 = 5) <|
  cl (f_X5_expect N a7 (hW h4 9) h4) fun r8 h9 =>
  ck (hK h9 l0 = 7) <|
  rq (hR h9 l0 0) fun a12 =>
  ck (hK h9 a12 = 5) <|
  cl (f_X5_expectNumber N a12 r3 (999 : Int32) h9) fun r13 h14 =>
  ck (hK h14 l0 = 7) <|
  rq (hR h14 l0 0) fun a17 =>
  ck (hK h14 a17 = 5) <|
  cl (f_X5_isSound N a17 h14) fun r18 h19 =>
  if r18 = 0 then
    some ((), h19)
  else
    if (6 : Int32) ≤ l1 then
      some ((), h19)
    else
      ck (hK h19 l0 = 7) <|
      rq (hR h19 l0 1) fun a24 =>
      ck (hK h19 a24 = 6) <|
      rq (hR h19 a24 8) fun a26 =>
      ck (hK h19 a26 = 12) <|
      ck (inb ((l1 * (4 : Int32)) + (l2 * (2 : Int32))) (hN h19 a26)) <|
      bd (sI h19 a26 (ix ((l1 * (4 : Int32)) + (l2 * (2 : Int32)))) r3) fun h29 =>
      ck (hK h29 l0 = 7) <|
      rq (hR h29 l0 1) fun a31 =>
      ck (hK h29 a31 = 6) <|
      rq (hR h29 a31 8) fun a33 =>
      ck (hK h29 a33 = 12) <|
      ck (inb (((l1 * (4 : Int32)) + (l2 * (2 : Int32))) + (1 : Int32)) (hN h29 a33)) <|
      bd (sI h29 a33 (ix (((l1 * (4 : Int32)) + (l2 * (2 : Int32))) + (1 : Int32))) r13) fun h36 =>
      some ((), h36)
/-! X7_readSign -/
def f_X7_readSign (N : Nat) (l0 : Nat) (h : PH) : Option (Unit × PH) :=
  ck (hK h l0 = 7) <|
  cl (f_X7_oneMore N l0 (3 : Int32) (6 : Int32) h) fun r1 h2 =>
  ck (hK h2 l0 = 7) <|
  cl (f_X7_newName N l0 h2) fun r4 h5 =>
  ck (hK h5 l0 = 7) <|
  rq (hR h5 l0 0) fun a8 =>
  ck (hK h5 a8 = 5) <|
  cl (f_X5_expect N a8 (hW h5 1) h5) fun r9 h10 =>
  ck (hK h10 l0 = 7) <|
  cl (f_X7_readRange N l0 r1 (0 : Int32) h10) fun r12 h13 =>
  ck (hK h13 l0 = 7) <|
  rq (hR h13 l0 0) fun a16 =>
  ck (hK h13 a16 = 5) <|
  cl (f_X5_expect N a16 (hW h13 2) h13) fun r17 h18 =>
  ck (hK h18 l0 = 7) <|
  cl (f_X7_readRange N l0 r1 (1 : Int32) h18) fun r20 h21 =>
  ck (hK h21 l0 = 7) <|
  rq (hR h21 l0 0) fun a24 =>
  ck (hK h21 a24 = 5) <|
  cl (f_X5_expectSign N a24 (59 : Int32) h21) fun r25 h26 =>
  ck (hK h26 l0 = 7) <|
  rq (hR h26 l0 0) fun a29 =>
  ck (hK h26 a29 = 5) <|
  cl (f_X5_isSound N a29 h26) fun r30 h31 =>
  if r30 = 0 then
    some ((), h31)
  else
    ck (hK h31 l0 = 7) <|
    rq (hR h31 l0 1) fun a35 =>
    ck (hK h31 a35 = 6) <|
    cl (f_X6_enter N a35 (3 : Int32) r4 h31) fun r36 h37 =>
    some ((), h37)
/-! X7_readWatcher -/
def f_X7_readWatcher_84 (N : Nat) (l0 : Nat) (l1 : Int32) (l2 : Int64) (l4 : Int32) (h : PH) : Option (Unit × PH) :=
  ck (hK h l0 = 7) <|
  rq (hR h l0 0) fun a2 =>
  ck (hK h a2 = 5) <|
  cl (f_X5_step N a2 h) fun r3 h4 =>
  ck (hK h4 l0 = 7) <|
  rq (hR h4 l0 0) fun a7 =>
  ck (hK h4 a7 = 5) <|
  cl (f_X5_expectSign N a7 (59 : Int32) h4) fun r8 h9 =>
  ck (hK h9 l0 = 7) <|
  rq (hR h9 l0 0) fun a12 =>
  ck (hK h9 a12 = 5) <|
  cl (f_X5_isSound N a12 h9) fun r13 h14 =>
  if r13 = 0 then
    some ((), h14)
  else
    if (4 : Int32) ≤ l1 then
      some ((), h14)
    else
      ck (hK h14 l0 = 7) <|
      rq (hR h14 l0 1) fun a19 =>
      ck (hK h14 a19 = 6) <|
      rq (hR h14 a19 9) fun a21 =>
      ck (hK h14 a21 = 12) <|
      ck (inb l1 (hN h14 a21)) <|
      bd (sI h14 a21 (ix l1) l4) fun h24 =>
      ck (hK h24 l0 = 7) <|
      rq (hR h24 l0 1) fun a26 =>
      ck (hK h24 a26 = 6) <|
      cl (f_X6_enter N a26 (4 : Int32) l2 h24) fun r27 h28 =>
      some ((), h28)
def f_X7_readWatcher (N : Nat) (l0 : Nat) (h : PH) : Option (Unit × PH) :=
  ck (hK h l0 = 7) <|
  cl (f_X7_oneMore N l0 (4 : Int32) (4 : Int32) h) fun r1 h2 =>
  ck (hK h2 l0 = 7) <|
  cl (f_X7_newName N l0 h2) fun r4 h5 =>
  ck (hK h5 l0 = 7) <|
  rq (hR h5 l0 0) fun a8 =>
  ck (hK h5 a8 = 5) <|
  cl (f_X5_expect N a8 (hW h5 11) h5) fun r9 h10 =>
  ck (hK h10 l0 = 7) <|
  rq (hR h10 l0 0) fun a13 =>
  ck (hK h10 a13 = 5) <|
  cl (f_X5_isAt N a13 (hW h10 1) h10) fun r14 h15 =>
  if r14 = 0 then
    ck (hK h15 l0 = 7) <|
    rq (hR h15 l0 0) fun a19 =>
    ck (hK h15 a19 = 5) <|
    cl (f_X5_isAt N a19 (hW h15 2) h15) fun r20 h21 =>
    if r20 = 0 then
      ck (hK h21 l0 = 7) <|
      rq (hR h21 l0 0) fun a25 =>
      ck (hK h21 a25 = 5) <|
      cl (f_X5_isAt N a25 (hW h21 12) h21) fun r26 h27 =>
      if r26 = 0 then
        ck (hK h27 l0 = 7) <|
        rq (hR h27 l0 0) fun a31 =>
        ck (hK h27 a31 = 5) <|
        cl (f_X5_fail N a31 (1 : Int32) h27) fun r32 h33 =>
        f_X7_readWatcher_84 N l0 r1 r4 (2 : Int32) h33
      else
        f_X7_readWatcher_84 N l0 r1 r4 (2 : Int32) h27
    else
      f_X7_readWatcher_84 N l0 r1 r4 (1 : Int32) h21
  else
    f_X7_readWatcher_84 N l0 r1 r4 (0 : Int32) h15
/-! X7_readWind -/
def f_X7_readWind_52 (N : Nat) (l0 : Nat) (l1 : Int32) (h : PH) : Option (Unit × PH) :=
  ck (hK h l0 = 7) <|
  rq (hR h l0 0) fun a2 =>
  ck (hK h a2 = 5) <|
  cl (f_X5_expectNumber N a2 (0 : Int32) (9 : Int32) h) fun r3 h4 =>
  ck (hK h4 l0 = 7) <|
  rq (hR h4 l0 0) fun a7 =>
  ck (hK h4 a7 = 5) <|
  cl (f_X5_isSound N a7 h4) fun r8 h9 =>
  if r8 = 0 then
    some ((), h9)
  else
    if l1 = 0 then
      ck (hK h9 l0 = 7) <|
      rq (hR h9 l0 1) fun a14 =>
      ck (hK h9 a14 = 6) <|
      rq (hR h9 a14 10) fun a16 =>
      rq (hR h9 l0 1) fun a17 =>
      ck (hK h9 a17 = 6) <|
      ck (hK h9 a16 = 12) <|
      ck (inb (hI h9 a17 11) (hN h9 a16)) <|
      bd (sI h9 a16 (ix (hI h9 a17 11)) r3) fun h21 =>
      ck (hK h21 l0 = 7) <|
      rq (hR h21 l0 1) fun a23 =>
      ck (hK h21 a23 = 6) <|
      bd (sI h21 a23 11 ((hI h21 a23 11) + (1 : Int32))) fun h25 =>
      some ((), h25)
    else
      some ((), h9)
def f_X7_readWind_17 (N : Nat) (s0 : Int32) (l0 : Nat) (h : PH) : Option (Unit × PH) :=
  if s0 = 0 then
    f_X7_readWind_52 N l0 s0 h
  else
    ck (hK h l0 = 7) <|
    rq (hR h l0 0) fun a3 =>
    ck (hK h a3 = 5) <|
    cl (f_X5_isAtNumber N a3 h) fun r4 h5 =>
    if r4 = 0 then
      f_X7_readWind_52 N l0 s0 h5
    else
      ck (hK h5 l0 = 7) <|
      rq (hR h5 l0 0) fun a9 =>
      ck (hK h5 a9 = 5) <|
      if (9 : Int32) < (hI h5 a9 5) then
        f_X7_readWind_52 N l0 s0 h5
      else
        rq (hR h5 l0 0) fun a12 =>
        ck (hK h5 a12 = 5) <|
        cl (f_X5_fail N a12 (5 : Int32) h5) fun r13 h14 =>
        f_X7_readWind_52 N l0 s0 h14
def f_X7_readWind (N : Nat) (l0 : Nat) (h : PH) : Option (Unit × PH) :=
  ck (hK h l0 = 7) <|
  rq (hR h l0 1) fun a2 =>
  ck (hK h a2 = 6) <|
  if (hI h a2 11) < (12 : Int32) then
    f_X7_readWind_17 N (0 : Int32) l0 h
  else
    f_X7_readWind_17 N (1 : Int32) l0 h
/-! X7_readWinds -/
def f_X7_readWinds_57 (N : Nat) (l0 : Nat) (h : PH) : Option (Unit × PH) :=
  ck (hK h l0 = 7) <|
  rq (hR h l0 0) fun a2 =>
  ck (hK h a2 = 5) <|
  cl (f_X5_expectSign N a2 (59 : Int32) h) fun r3 h4 =>
  some ((), h4)
def f_X7_readWinds_31_b (N : Nat) (K_31 : Nat → Int32 → PH → Option (Unit × PH)) (l0 : Nat) (l1 : Int32) (h : PH) : Option (Unit × PH) :=
  if (12 : Int32) ≤ l1 then
    f_X7_readWinds_57 N l0 h
  else
    ck (hK h l0 = 7) <|
    rq (hR h l0 0) fun a3 =>
    ck (hK h a3 = 5) <|
    cl (f_X5_isAtNumber N a3 h) fun r4 h5 =>
    if r4 = 0 then
      f_X7_readWinds_57 N l0 h5
    else
      ck (hK h5 l0 = 7) <|
      cl (f_X7_readWind N l0 h5) fun r8 h9 =>
      bd (l1 + (1 : Int32)) fun v11 =>
      K_31 l0 v11 h9
def f_X7_readWinds_31 (N : Nat) : Nat → Nat → Int32 → PH → Option (Unit × PH)
  | 0 => fun _ _ _ => none
  | n + 1 => fun l0 l1 h => f_X7_readWinds_31_b N (f_X7_readWinds_31 N n) l0 l1 h
def f_X7_readWinds_18 (N : Nat) (l0 : Nat) (h : PH) : Option (Unit × PH) :=
  ck (hK h l0 = 7) <|
  rq (hR h l0 0) fun a2 =>
  ck (hK h a2 = 5) <|
  cl (f_X5_step N a2 h) fun r3 h4 =>
  ck (hK h4 l0 = 7) <|
  cl (f_X7_readWind N l0 h4) fun r6 h7 =>
  f_X7_readWinds_31 N N l0 (0 : Int32) h7
def f_X7_readWinds (N : Nat) (l0 : Nat) (h : PH) : Option (Unit × PH) :=
  ck (hK h l0 = 7) <|
  rq (hR h l0 1) fun a2 =>
  ck (hK h a2 = 6) <|
  if (hI h a2 11) ≤ 0 then
    f_X7_readWinds_18 N l0 h
  else
    rq (hR h l0 0) fun a5 =>
    ck (hK h a5 = 5) <|
    cl (f_X5_fail N a5 (3 : Int32) h) fun r6 h7 =>
    f_X7_readWinds_18 N l0 h7
/-! X1_isTold -/
def f_X1_isTold (N : Nat) (l0 : Nat) (h : PH) : Option (Int32 × PH) :=
  ck (hK h l0 = 1) <|
  if (hI h l0 3) ≤ 0 then
    some ((0 : Int32), h)
  else
    some ((1 : Int32), h)
/-! X1_factAt -/
def f_X1_factAt_58 (N : Nat) (l0 : Nat) (l1 : Nat) (h : PH) : Option (Int32 × PH) :=
  ck (hK h l0 = 1) <|
  if (hI h l0 0) = 0 then
    some ((0 : Int32), h)
  else
    ck (hK h l1 = 5) <|
    cl (f_X5_isAt N l1 (hW h 26) h) fun r3 h4 =>
    if r3 = 0 then
      some ((0 : Int32), h4)
    else
      some ((-5 : Int32), h4)
def f_X1_factAt (N : Nat) (l0 : Nat) (l1 : Nat) (h : PH) : Option (Int32 × PH) :=
  ck (hK h l1 = 5) <|
  cl (f_X5_isAt N l1 (hW h 22) h) fun r1 h2 =>
  if r1 = 0 then
    ck (hK h2 l1 = 5) <|
    cl (f_X5_isAt N l1 (hW h2 23) h2) fun r5 h6 =>
    if r5 = 0 then
      ck (hK h6 l1 = 5) <|
      cl (f_X5_isAt N l1 (hW h6 24) h6) fun r9 h10 =>
      if r9 = 0 then
        ck (hK h10 l0 = 1) <|
        if (hI h10 l0 0) = 0 then
          f_X1_factAt_58 N l0 l1 h10
        else
          ck (hK h10 l1 = 5) <|
          cl (f_X5_isAt N l1 (hW h10 25) h10) fun r15 h16 =>
          if r15 = 0 then
            f_X1_factAt_58 N l0 l1 h16
          else
            some ((-4 : Int32), h16)
      else
        some ((-3 : Int32), h10)
    else
      some ((-2 : Int32), h6)
  else
    some ((-1 : Int32), h2)
/-! X1_put -/
def f_X1_put (N : Nat) (l0 : Nat) (l1 : Int32) (h : PH) : Option (Unit × PH) :=
  ck (hK h l0 = 1) <|
  rq (hR h l0 1) fun a2 =>
  ck (hK h a2 = 12) <|
  if (nI (hN h a2)) ≤ (hI h l0 3) then
    some ((), h)
  else
    rq (hR h l0 1) fun a5 =>
    ck (hK h a5 = 12) <|
    ck (inb (hI h l0 3) (hN h a5)) <|
    bd (sI h a5 (ix (hI h l0 3)) l1) fun h8 =>
    ck (hK h8 l0 = 1) <|
    bd (sI h8 l0 3 ((hI h8 l0 3) + (1 : Int32))) fun h10 =>
    some ((), h10)
/-! X1_readTests X1_readTest X1_readSum X1_readProduct X1_readPart -/
def f_X1_readTests_46 (R_X1_readTest : Nat → Nat → Int32 → PH → Option (Unit × PH)) (N : Nat) (K_8 : Nat → Nat → Int32 → Int32 → PH → Option (Unit × PH)) (s0 : Int32) (l0 : Nat) (l1 : Nat) (l2 : Int32) (l3 : Int32) (h : PH) : Option (Unit × PH) :=
  if s0 = 0 then
    some ((), h)
  else
    ck (hK h l1 = 5) <|
    cl (f_X5_step N l1 h) fun r2 h3 =>
    ck (hK h3 l0 = 1) <|
    cl (R_X1_readTest l0 l1 l2 h3) fun r5 h6 =>
    ck (hK h6 l0 = 1) <|
    cl (f_X1_put N l0 s0 h6) fun r8 h9 =>
    bd (l3 + (1 : Int32)) fun v11 =>
    K_8 l0 l1 l2 v11 h9
def f_X1_readTests_8_b (R_X1_readTest : Nat → Nat → Int32 → PH → Option (Unit × PH)) (N : Nat) (K_8 : Nat → Nat → Int32 → Int32 → PH → Option (Unit × PH)) (l0 : Nat) (l1 : Nat) (l2 : Int32) (l3 : Int32) (h : PH) : Option (Unit × PH) :=
  if (1000 : Int32) ≤ l3 then
    some ((), h)
  else
    ck (hK h l1 = 5) <|
    cl (f_X5_isAt N l1 (hW h 20) h) fun r2 h3 =>
    if r2 = 0 then
      ck (hK h3 l1 = 5) <|
      cl (f_X5_isAt N l1 (hW h3 21) h3) fun r6 h7 =>
      if r6 = 0 then
        f_X1_readTests_46 R_X1_readTest N K_8 (0 : Int32) l0 l1 l2 l3 h7
      else
        f_X1_readTests_46 R_X1_readTest N K_8 (-8 : Int32) l0 l1 l2 l3 h7
    else
      f_X1_readTests_46 R_X1_readTest N K_8 (-7 : Int32) l0 l1 l2 l3 h3
def f_X1_readTests_8 (R_X1_readTest : Nat → Nat → Int32 → PH → Option (Unit × PH)) (N : Nat) : Nat → Nat → Nat → Int32 → Int32 → PH → Option (Unit × PH)
  | 0 => fun _ _ _ _ _ => none
  | n + 1 => fun l0 l1 l2 l3 h => f_X1_readTests_8_b R_X1_readTest N (f_X1_readTests_8 R_X1_readTest N n) l0 l1 l2 l3 h
def f_X1_readTests_b (R_X1_readTest : Nat → Nat → Int32 → PH → Option (Unit × PH)) (N : Nat) (l0 : Nat) (l1 : Nat) (l2 : Int32) (h : PH) : Option (Unit × PH) :=
  ck (hK h l0 = 1) <|
  cl (R_X1_readTest l0 l1 l2 h) fun r1 h2 =>
  f_X1_readTests_8 R_X1_readTest N N l0 l1 l2 (0 : Int32) h2
def f_X1_readTest_35 (R_X1_readSum : Nat → Nat → Int32 → PH → Option (Unit × PH)) (N : Nat) (s0 : Int32) (l0 : Nat) (l1 : Nat) (l2 : Int32) (h : PH) : Option (Unit × PH) :=
  if s0 = 0 then
    some ((), h)
  else
    ck (hK h l1 = 5) <|
    cl (f_X5_step N l1 h) fun r2 h3 =>
    ck (hK h3 l0 = 1) <|
    cl (R_X1_readSum l0 l1 l2 h3) fun r5 h6 =>
    ck (hK h6 l0 = 1) <|
    cl (f_X1_put N l0 s0 h6) fun r8 h9 =>
    some ((), h9)
def f_X1_readTest_b (R_X1_readSum : Nat → Nat → Int32 → PH → Option (Unit × PH)) (N : Nat) (l0 : Nat) (l1 : Nat) (l2 : Int32) (h : PH) : Option (Unit × PH) :=
  ck (hK h l0 = 1) <|
  cl (R_X1_readSum l0 l1 l2 h) fun r1 h2 =>
  ck (hK h2 l1 = 5) <|
  cl (f_X5_isAtSign N l1 (60 : Int32) h2) fun r4 h5 =>
  if r4 = 0 then
    ck (hK h5 l1 = 5) <|
    cl (f_X5_isAtSign N l1 (61 : Int32) h5) fun r8 h9 =>
    if r8 = 0 then
      f_X1_readTest_35 R_X1_readSum N (0 : Int32) l0 l1 l2 h9
    else
      f_X1_readTest_35 R_X1_readSum N (-10 : Int32) l0 l1 l2 h9
  else
    f_X1_readTest_35 R_X1_readSum N (-9 : Int32) l0 l1 l2 h5
def f_X1_readSum_44 (R_X1_readProduct : Nat → Nat → Int32 → PH → Option (Unit × PH)) (N : Nat) (K_8 : Nat → Nat → Int32 → Int32 → PH → Option (Unit × PH)) (s0 : Int32) (l0 : Nat) (l1 : Nat) (l2 : Int32) (l3 : Int32) (h : PH) : Option (Unit × PH) :=
  if s0 = 0 then
    some ((), h)
  else
    ck (hK h l1 = 5) <|
    cl (f_X5_step N l1 h) fun r2 h3 =>
    ck (hK h3 l0 = 1) <|
    cl (R_X1_readProduct l0 l1 l2 h3) fun r5 h6 =>
    ck (hK h6 l0 = 1) <|
    cl (f_X1_put N l0 s0 h6) fun r8 h9 =>
    bd (l3 + (1 : Int32)) fun v11 =>
    K_8 l0 l1 l2 v11 h9
def f_X1_readSum_8_b (R_X1_readProduct : Nat → Nat → Int32 → PH → Option (Unit × PH)) (N : Nat) (K_8 : Nat → Nat → Int32 → Int32 → PH → Option (Unit × PH)) (l0 : Nat) (l1 : Nat) (l2 : Int32) (l3 : Int32) (h : PH) : Option (Unit × PH) :=
  if (1000 : Int32) ≤ l3 then
    some ((), h)
  else
    ck (hK h l1 = 5) <|
    cl (f_X5_isAtSign N l1 (43 : Int32) h) fun r2 h3 =>
    if r2 = 0 then
      ck (hK h3 l1 = 5) <|
      cl (f_X5_isAtSign N l1 (45 : Int32) h3) fun r6 h7 =>
      if r6 = 0 then
        f_X1_readSum_44 R_X1_readProduct N K_8 (0 : Int32) l0 l1 l2 l3 h7
      else
        f_X1_readSum_44 R_X1_readProduct N K_8 (-12 : Int32) l0 l1 l2 l3 h7
    else
      f_X1_readSum_44 R_X1_readProduct N K_8 (-11 : Int32) l0 l1 l2 l3 h3
def f_X1_readSum_8 (R_X1_readProduct : Nat → Nat → Int32 → PH → Option (Unit × PH)) (N : Nat) : Nat → Nat → Nat → Int32 → Int32 → PH → Option (Unit × PH)
  | 0 => fun _ _ _ _ _ => none
  | n + 1 => fun l0 l1 l2 l3 h => f_X1_readSum_8_b R_X1_readProduct N (f_X1_readSum_8 R_X1_readProduct N n) l0 l1 l2 l3 h
def f_X1_readSum_b (R_X1_readProduct : Nat → Nat → Int32 → PH → Option (Unit × PH)) (N : Nat) (l0 : Nat) (l1 : Nat) (l2 : Int32) (h : PH) : Option (Unit × PH) :=
  ck (hK h l0 = 1) <|
  cl (R_X1_readProduct l0 l1 l2 h) fun r1 h2 =>
  f_X1_readSum_8 R_X1_readProduct N N l0 l1 l2 (0 : Int32) h2
def f_X1_readProduct_8_b (R_X1_readPart : Nat → Nat → Int32 → PH → Option (Unit × PH)) (N : Nat) (K_8 : Nat → Nat → Int32 → Int32 → PH → Option (Unit × PH)) (l0 : Nat) (l1 : Nat) (l2 : Int32) (l3 : Int32) (h : PH) : Option (Unit × PH) :=
  if (1000 : Int32) ≤ l3 then
    some ((), h)
  else
    ck (hK h l1 = 5) <|
    cl (f_X5_isAtSign N l1 (42 : Int32) h) fun r2 h3 =>
    if r2 = 0 then
      some ((), h3)
    else
      ck (hK h3 l1 = 5) <|
      cl (f_X5_step N l1 h3) fun r6 h7 =>
      ck (hK h7 l0 = 1) <|
      cl (R_X1_readPart l0 l1 l2 h7) fun r9 h10 =>
      ck (hK h10 l0 = 1) <|
      cl (f_X1_put N l0 (-13 : Int32) h10) fun r12 h13 =>
      bd (l3 + (1 : Int32)) fun v15 =>
      K_8 l0 l1 l2 v15 h13
def f_X1_readProduct_8 (R_X1_readPart : Nat → Nat → Int32 → PH → Option (Unit × PH)) (N : Nat) : Nat → Nat → Nat → Int32 → Int32 → PH → Option (Unit × PH)
  | 0 => fun _ _ _ _ _ => none
  | n + 1 => fun l0 l1 l2 l3 h => f_X1_readProduct_8_b R_X1_readPart N (f_X1_readProduct_8 R_X1_readPart N n) l0 l1 l2 l3 h
def f_X1_readProduct_b (R_X1_readPart : Nat → Nat → Int32 → PH → Option (Unit × PH)) (N : Nat) (l0 : Nat) (l1 : Nat) (l2 : Int32) (h : PH) : Option (Unit × PH) :=
  ck (hK h l0 = 1) <|
  cl (R_X1_readPart l0 l1 l2 h) fun r1 h2 =>
  f_X1_readProduct_8 R_X1_readPart N N l0 l1 l2 (0 : Int32) h2
def f_X1_readPart_122 (R_X1_readPart : Nat → Nat → Int32 → PH → Option (Unit × PH)) (R_X1_readTests : Nat → Nat → Int32 → PH → Option (Unit × PH)) (N : Nat) (l1 : Nat) (h : PH) : Option (Unit × PH) :=
  ck (hK h l1 = 5) <|
  cl (f_X5_step N l1 h) fun r1 h2 =>
  some ((), h2)
def f_X1_readPart_142 (R_X1_readPart : Nat → Nat → Int32 → PH → Option (Unit × PH)) (R_X1_readTests : Nat → Nat → Int32 → PH → Option (Unit × PH)) (N : Nat) (s0 : Int32) (s1 : Nat) (l1 : Nat) (h : PH) : Option (Unit × PH) :=
  ck (hK h s1 = 1) <|
  cl (f_X1_put N s1 s0 h) fun r1 h2 =>
  ck (hK h2 l1 = 5) <|
  cl (f_X5_step N l1 h2) fun r4 h5 =>
  some ((), h5)
def f_X1_readPart_52 (R_X1_readPart : Nat → Nat → Int32 → PH → Option (Unit × PH)) (R_X1_readTests : Nat → Nat → Int32 → PH → Option (Unit × PH)) (N : Nat) (l0 : Nat) (l1 : Nat) (l2 : Int32) (l3 : Int32) (l4 : Int32) (l5 : Int32) (h : PH) : Option (Unit × PH) :=
  if l2 < (5 : Int32) then
    if l4 = 0 then
      if l5 = 0 then
        if l3 = 0 then
          ck (hK h l1 = 5) <|
          f_X1_readPart_142 R_X1_readPart R_X1_readTests N (hI h l1 5) l0 l1 h
        else
          f_X1_readPart_142 R_X1_readPart R_X1_readTests N l3 l0 l1 h
      else
        ck (hK h l1 = 5) <|
        cl (f_X5_step N l1 h) fun r6 h7 =>
        ck (hK h7 l0 = 1) <|
        cl (R_X1_readTests l0 l1 (l2 + (1 : Int32)) h7) fun r9 h10 =>
        ck (hK h10 l1 = 5) <|
        cl (f_X5_isAtSign N l1 (41 : Int32) h10) fun r12 h13 =>
        if r12 = 0 then
          ck (hK h13 l1 = 5) <|
          cl (f_X5_fail N l1 (1 : Int32) h13) fun r16 h17 =>
          f_X1_readPart_122 R_X1_readPart R_X1_readTests N l1 h17
        else
          f_X1_readPart_122 R_X1_readPart R_X1_readTests N l1 h13
    else
      ck (hK h l1 = 5) <|
      cl (f_X5_step N l1 h) fun r19 h20 =>
      ck (hK h20 l0 = 1) <|
      cl (R_X1_readPart l0 l1 (l2 + (1 : Int32)) h20) fun r22 h23 =>
      ck (hK h23 l0 = 1) <|
      cl (f_X1_put N l0 (-6 : Int32) h23) fun r25 h26 =>
      some ((), h26)
  else
    ck (hK h l1 = 5) <|
    cl (f_X5_fail N l1 (5 : Int32) h) fun r28 h29 =>
    some ((), h29)
def f_X1_readPart_b (R_X1_readPart : Nat → Nat → Int32 → PH → Option (Unit × PH)) (R_X1_readTests : Nat → Nat → Int32 → PH → Option (Unit × PH)) (N : Nat) (l0 : Nat) (l1 : Nat) (l2 : Int32) (h : PH) : Option (Unit × PH) :=
  ck (hK h l0 = 1) <|
  cl (f_X1_factAt N l0 l1 h) fun r1 h2 =>
  ck (hK h2 l1 = 5) <|
  cl (f_X5_isAt N l1 (hW h2 19) h2) fun r4 h5 =>
  ck (hK h5 l1 = 5) <|
  cl (f_X5_isAtSign N l1 (40 : Int32) h5) fun r7 h8 =>
  if r4 = 0 then
    if r7 = 0 then
      ck (hK h8 l1 = 5) <|
      cl (f_X5_isAtNumber N l1 h8) fun r12 h13 =>
      if r12 = 0 then
        if r1 = 0 then
          ck (hK h13 l1 = 5) <|
          cl (f_X5_fail N l1 (1 : Int32) h13) fun r17 h18 =>
          some ((), h18)
        else
          f_X1_readPart_52 R_X1_readPart R_X1_readTests N l0 l1 l2 r1 r4 r7 h13
      else
        f_X1_readPart_52 R_X1_readPart R_X1_readTests N l0 l1 l2 r1 r4 r7 h13
    else
      f_X1_readPart_52 R_X1_readPart R_X1_readTests N l0 l1 l2 r1 r4 r7 h8
  else
    f_X1_readPart_52 R_X1_readPart R_X1_readTests N l0 l1 l2 r1 r4 r7 h8
def f_grp (N : Nat) : Nat → (Nat → Nat → Int32 → PH → Option (Unit × PH)) × (Nat → Nat → Int32 → PH → Option (Unit × PH)) × (Nat → Nat → Int32 → PH → Option (Unit × PH)) × (Nat → Nat → Int32 → PH → Option (Unit × PH)) × (Nat → Nat → Int32 → PH → Option (Unit × PH))
  | 0 => (fun _ _ _ _ => none, fun _ _ _ _ => none, fun _ _ _ _ => none, fun _ _ _ _ => none, fun _ _ _ _ => none)
  | d + 1 => (fun z0 z1 z2 h => f_X1_readTests_b (f_grp N d).2.1 N z0 z1 z2 h,
      fun z0 z1 z2 h => f_X1_readTest_b (f_grp N d).2.2.1 N z0 z1 z2 h,
      fun z0 z1 z2 h => f_X1_readSum_b (f_grp N d).2.2.2.1 N z0 z1 z2 h,
      fun z0 z1 z2 h => f_X1_readProduct_b (f_grp N d).2.2.2.2 N z0 z1 z2 h,
      fun z0 z1 z2 h => f_X1_readPart_b (f_grp N d).2.2.2.2 (f_grp N d).1 N z0 z1 z2 h)
def f_X1_readTests (d N : Nat) (z0 : Nat) (z1 : Nat) (z2 : Int32) (h : PH) : Option (Unit × PH) := (f_grp N d).1 z0 z1 z2 h
def f_X1_readTest (d N : Nat) (z0 : Nat) (z1 : Nat) (z2 : Int32) (h : PH) : Option (Unit × PH) := (f_grp N d).2.1 z0 z1 z2 h
def f_X1_readSum (d N : Nat) (z0 : Nat) (z1 : Nat) (z2 : Int32) (h : PH) : Option (Unit × PH) := (f_grp N d).2.2.1 z0 z1 z2 h
def f_X1_readProduct (d N : Nat) (z0 : Nat) (z1 : Nat) (z2 : Int32) (h : PH) : Option (Unit × PH) := (f_grp N d).2.2.2.1 z0 z1 z2 h
def f_X1_readPart (d N : Nat) (z0 : Nat) (z1 : Nat) (z2 : Int32) (h : PH) : Option (Unit × PH) := (f_grp N d).2.2.2.2 z0 z1 z2 h
/-! X1_readFrom -/
def f_X1_readFrom (N : Nat) (l0 : Nat) (l1 : Nat) (h : PH) : Option (Unit × PH) :=
  ck (hK h l0 = 1) <|
  cl (f_X1_readTests 40 N l0 l1 (0 : Int32) h) fun r1 h2 =>
  some ((), h2)
/-! X7_readLaw -/
def f_X7_readLaw_40 (N : Nat) (l0 : Nat) (h : PH) : Option (Unit × PH) :=
  ck (hK h l0 = 7) <|
  rq (hR h l0 0) fun a2 =>
  ck (hK h a2 = 5) <|
  cl (f_X5_expectSign N a2 (59 : Int32) h) fun r3 h4 =>
  some ((), h4)
def f_X7_readLaw_15 (N : Nat) (l0 : Nat) (l1 : Nat) (h : PH) : Option (Unit × PH) :=
  ck (hK h l0 = 7) <|
  rq (hR h l0 0) fun a2 =>
  ck (hK h a2 = 5) <|
  cl (f_X5_step N a2 h) fun r3 h4 =>
  ck (hK h4 l0 = 7) <|
  rq (hR h4 l0 0) fun a7 =>
  ck (hK h4 a7 = 5) <|
  cl (f_X5_isSound N a7 h4) fun r8 h9 =>
  if r8 = 0 then
    f_X7_readLaw_40 N l0 h9
  else
    ck (hK h9 l0 = 7) <|
    rq (hR h9 l0 0) fun a13 =>
    ck (hK h9 l1 = 1) <|
    cl (f_X1_readFrom N l1 a13 h9) fun r14 h15 =>
    f_X7_readLaw_40 N l0 h15
def f_X7_readLaw (N : Nat) (l0 : Nat) (l1 : Nat) (h : PH) : Option (Unit × PH) :=
  ck (hK h l1 = 1) <|
  cl (f_X1_isTold N l1 h) fun r1 h2 =>
  if r1 = 0 then
    f_X7_readLaw_15 N l0 l1 h2
  else
    ck (hK h2 l0 = 7) <|
    rq (hR h2 l0 0) fun a6 =>
    ck (hK h2 a6 = 5) <|
    cl (f_X5_fail N a6 (3 : Int32) h2) fun r7 h8 =>
    f_X7_readLaw_15 N l0 l1 h8
/-! X7_readLines -/
def f_X7_readLines_235 (N : Nat) (K_16 : Nat → Int32 → PH → Option (Unit × PH)) (l0 : Nat) (l1 : Int32) (h : PH) : Option (Unit × PH) :=
  bd (l1 + (1 : Int32)) fun v1 =>
  K_16 l0 v1 h
def f_X7_readLines_16_b (N : Nat) (K_16 : Nat → Int32 → PH → Option (Unit × PH)) (l0 : Nat) (l1 : Int32) (h : PH) : Option (Unit × PH) :=
  if (1000 : Int32) ≤ l1 then
    some ((), h)
  else
    ck (hK h l0 = 7) <|
    rq (hR h l0 0) fun a3 =>
    ck (hK h a3 = 5) <|
    cl (f_X5_isOver N a3 h) fun r4 h5 =>
    if r4 = 0 then
      ck (hK h5 l0 = 7) <|
      rq (hR h5 l0 0) fun a9 =>
      ck (hK h5 a9 = 5) <|
      cl (f_X5_isAt N a9 (hW h5 0) h5) fun r10 h11 =>
      if r10 = 0 then
        ck (hK h11 l0 = 7) <|
        rq (hR h11 l0 0) fun a15 =>
        ck (hK h11 a15 = 5) <|
        cl (f_X5_isAt N a15 (hW h11 4) h11) fun r16 h17 =>
        if r16 = 0 then
          ck (hK h17 l0 = 7) <|
          rq (hR h17 l0 0) fun a21 =>
          ck (hK h17 a21 = 5) <|
          cl (f_X5_isAt N a21 (hW h17 5) h17) fun r22 h23 =>
          if r22 = 0 then
            ck (hK h23 l0 = 7) <|
            rq (hR h23 l0 0) fun a27 =>
            ck (hK h23 a27 = 5) <|
            cl (f_X5_isAt N a27 (hW h23 7) h23) fun r28 h29 =>
            if r28 = 0 then
              ck (hK h29 l0 = 7) <|
              rq (hR h29 l0 0) fun a33 =>
              ck (hK h29 a33 = 5) <|
              cl (f_X5_isAt N a33 (hW h29 8) h29) fun r34 h35 =>
              if r34 = 0 then
                ck (hK h35 l0 = 7) <|
                rq (hR h35 l0 0) fun a39 =>
                ck (hK h35 a39 = 5) <|
                cl (f_X5_isAt N a39 (hW h35 10) h35) fun r40 h41 =>
                if r40 = 0 then
                  ck (hK h41 l0 = 7) <|
                  rq (hR h41 l0 0) fun a45 =>
                  ck (hK h41 a45 = 5) <|
                  cl (f_X5_isAt N a45 (hW h41 13) h41) fun r46 h47 =>
                  if r46 = 0 then
                    ck (hK h47 l0 = 7) <|
                    rq (hR h47 l0 0) fun a51 =>
                    ck (hK h47 a51 = 5) <|
                    cl (f_X5_isAt N a51 (hW h47 14) h47) fun r52 h53 =>
                    if r52 = 0 then
                      ck (hK h53 l0 = 7) <|
                      rq (hR h53 l0 0) fun a57 =>
                      ck (hK h53 a57 = 5) <|
                      cl (f_X5_isAt N a57 (hW h53 15) h53) fun r58 h59 =>
                      if r58 = 0 then
                        ck (hK h59 l0 = 7) <|
                        rq (hR h59 l0 0) fun a63 =>
                        ck (hK h59 a63 = 5) <|
                        cl (f_X5_fail N a63 (1 : Int32) h59) fun r64 h65 =>
                        f_X7_readLines_235 N K_16 l0 l1 h65
                      else
                        ck (hK h59 l0 = 7) <|
                        rq (hR h59 l0 1) fun a68 =>
                        ck (hK h59 a68 = 6) <|
                        rq (hR h59 a68 13) fun a70 =>
                        cl (f_X7_readLaw N l0 a70 h59) fun r71 h72 =>
                        f_X7_readLines_235 N K_16 l0 l1 h72
                    else
                      ck (hK h53 l0 = 7) <|
                      rq (hR h53 l0 1) fun a74 =>
                      ck (hK h53 a74 = 6) <|
                      rq (hR h53 a74 12) fun a76 =>
                      cl (f_X7_readLaw N l0 a76 h53) fun r77 h78 =>
                      f_X7_readLines_235 N K_16 l0 l1 h78
                  else
                    ck (hK h47 l0 = 7) <|
                    cl (f_X7_readWinds N l0 h47) fun r79 h80 =>
                    f_X7_readLines_235 N K_16 l0 l1 h80
                else
                  ck (hK h41 l0 = 7) <|
                  cl (f_X7_readWatcher N l0 h41) fun r82 h83 =>
                  f_X7_readLines_235 N K_16 l0 l1 h83
              else
                ck (hK h35 l0 = 7) <|
                cl (f_X7_readSign N l0 h35) fun r85 h86 =>
                f_X7_readLines_235 N K_16 l0 l1 h86
            else
              ck (hK h29 l0 = 7) <|
              cl (f_X7_readStock N l0 h29) fun r88 h89 =>
              f_X7_readLines_235 N K_16 l0 l1 h89
          else
            ck (hK h23 l0 = 7) <|
            cl (f_X7_readHouse N l0 h23) fun r91 h92 =>
            f_X7_readLines_235 N K_16 l0 l1 h92
        else
          ck (hK h17 l0 = 7) <|
          cl (f_X7_readFlue N l0 h17) fun r94 h95 =>
          f_X7_readLines_235 N K_16 l0 l1 h95
      else
        ck (hK h11 l0 = 7) <|
        cl (f_X7_readFuel N l0 h11) fun r97 h98 =>
        f_X7_readLines_235 N K_16 l0 l1 h98
    else
      some ((), h5)
def f_X7_readLines_16 (N : Nat) : Nat → Nat → Int32 → PH → Option (Unit × PH)
  | 0 => fun _ _ _ => none
  | n + 1 => fun l0 l1 h => f_X7_readLines_16_b N (f_X7_readLines_16 N n) l0 l1 h
def f_X7_readLines (N : Nat) (l0 : Nat) (h : PH) : Option (Unit × PH) :=
  ck (hK h l0 = 7) <|
  rq (hR h l0 1) fun a2 =>
  ck (hK h a2 = 6) <|
  cl (f_X6_clear N a2 h) fun r3 h4 =>
  ck (hK h4 l0 = 7) <|
  rq (hR h4 l0 0) fun a7 =>
  ck (hK h4 a7 = 5) <|
  cl (f_X5_open N a7 h4) fun r8 h9 =>
  f_X7_readLines_16 N N l0 (0 : Int32) h9
/-! X5_close -/
def f_X5_close (N : Nat) (l0 : Nat) (h : PH) : Option (Int32 × PH) :=
  ck (hK h l0 = 5) <|
  bd (sI h l0 1 (0 : Int32)) fun h2 =>
  ck (hK h2 l0 = 5) <|
  some ((hI h2 l0 8), h2)
/-! X4_begin -/
def f_X4_begin (N : Nat) (l0 : Nat) (l1 : Nat) (h : PH) : Option (Unit × PH) :=
  ck (hK h l0 = 4) <|
  bd (sI h l0 0 (0 : Int32)) fun h2 =>
  ck (hK h2 l1 = 6) <|
  rq (hR h2 l1 6) fun a4 =>
  ck (hK h2 l0 = 4) <|
  rq (hR h2 l0 1) fun a6 =>
  rq (hR h2 l0 1) fun a7 =>
  ck (hK h2 a7 = 12) <|
  ck (hK h2 a4 = 12) <|
  ck (hK h2 a6 = 12) <|
  ck (¬ (nI (hN h2 a7)) < 0) <|
  ck (ix (0 : Int32) + ix (nI (hN h2 a7)) ≤ hN h2 a4) <|
  ck (ix (0 : Int32) + ix (nI (hN h2 a7)) ≤ hN h2 a6) <|
  bd (sRow h2 a6 (va_cpy (hI h2 a4) (hI h2 a6) (ix (0 : Int32)) (ix (0 : Int32)) (ix (nI (hN h2 a7))))) fun h14 =>
  ck (hK h14 l0 = 4) <|
  rq (hR h14 l0 2) fun a16 =>
  cl (f_J7_fill_53178 N a16 (-1 : Int32) h14) fun r17 h18 =>
  ck (hK h18 l0 = 4) <|
  rq (hR h18 l0 3) fun a20 =>
  cl (f_J7_fill_53178 N a20 (0 : Int32) h18) fun r21 h22 =>
  ck (hK h22 l0 = 4) <|
  rq (hR h22 l0 4) fun a24 =>
  cl (f_J7_fill_53178 N a24 (0 : Int32) h22) fun r25 h26 =>
  some ((), h26)
/-! X0_clear -/
def f_X0_clear (N : Nat) (l0 : Nat) (h : PH) : Option (Unit × PH) :=
  ck (hK h l0 = 0) <|
  bd (sI h l0 1 (0 : Int32)) fun h2 =>
  some ((), h2)
/-! X2_begin -/
def f_X2_begin (N : Nat) (l0 : Nat) (l1 : Nat) (h : PH) : Option (Unit × PH) :=
  ck (hK h l0 = 2) <|
  rq (hR h l0 0) fun a2 =>
  ck (hK h a2 = 4) <|
  cl (f_X4_begin N a2 l1 h) fun r3 h4 =>
  ck (hK h4 l0 = 2) <|
  rq (hR h4 l0 1) fun a7 =>
  ck (hK h4 a7 = 0) <|
  cl (f_X0_clear N a7 h4) fun r8 h9 =>
  ck (hK h9 l0 = 2) <|
  bd (sI h9 l0 5 (0 : Int32)) fun h12 =>
  some ((), h12)
/-! X10_valley -/
def f_X10_valley (N : Nat) (l0 : Nat) (h : PH) : Option (Int32 × PH) :=
  bd (hz h) fun a1 =>
  bd (nwh h 7 0) fun h2 =>
  ck (hK h2 l0 = 9) <|
  rq (hR h2 l0 0) fun a4 =>
  rq (hR h2 l0 11) fun a5 =>
  cl (f_X7_init N a1 a4 a5 h2) fun r6 h7 =>
  ck (hK h7 a1 = 7) <|
  cl (f_X7_readLines N a1 h7) fun r8 h9 =>
  ck (hK h9 l0 = 9) <|
  rq (hR h9 l0 0) fun a12 =>
  ck (hK h9 a12 = 5) <|
  cl (f_X5_close N a12 h9) fun r13 h14 =>
  if r13 = 0 then
    ck (hK h14 l0 = 9) <|
    rq (hR h14 l0 10) fun a18 =>
    rq (hR h14 l0 11) fun a19 =>
    bd (sR h14 l0 10 (some a19)) fun h20 =>
    ck (hK h20 l0 = 9) <|
    bd (sR h20 l0 11 (some a18)) fun h22 =>
    ck (hK h22 l0 = 9) <|
    rq (hR h22 l0 1) fun a24 =>
    rq (hR h22 l0 10) fun a25 =>
    ck (hK h22 a24 = 2) <|
    cl (f_X2_begin N a24 a25 h22) fun r26 h27 =>
    ck (hK h27 l0 = 9) <|
    bd (sI h27 l0 14 (0 : Int32)) fun h30 =>
    ck (hK h30 l0 = 9) <|
    bd (sI h30 l0 12 (0 : Int32)) fun h32 =>
    some (r13, h32)
  else
    some (r13, h14)
/-! X0_readHouse -/
def f_X0_readHouse_22 (N : Nat) (l0 : Nat) (l3 : Int32) (h : PH) : Option (Int32 × PH) :=
  ck (hK h l0 = 5) <|
  cl (f_X5_step N l0 h) fun r1 h2 =>
  some (l3, h2)
def f_X0_readHouse (N : Nat) (l0 : Nat) (l1 : Nat) (l2 : Int32) (h : PH) : Option (Int32 × PH) :=
  ck (hK h l0 = 5) <|
  cl (f_X5_toldHere N l0 l1 (2 : Int32) h) fun r1 h2 =>
  if r1 = (-1 : Int32) then
    f_X0_readHouse_22 N l0 r1 h2
  else
    if r1 = l2 then
      ck (hK h2 l0 = 5) <|
      cl (f_X5_fail N l0 (3 : Int32) h2) fun r6 h7 =>
      f_X0_readHouse_22 N l0 r1 h7
    else
      f_X0_readHouse_22 N l0 r1 h2
/-! X0_readLine -/
def f_X0_readLine_146 (N : Nat) (s0 : Int32) (l0 : Nat) (l1 : Nat) (l3 : Int32) (l4 : Int32) (l5 : Int32) (l6 : Int32) (h : PH) : Option (Unit × PH) :=
  ck (hK h l1 = 5) <|
  cl (f_X5_expectSign N l1 (59 : Int32) h) fun r1 h2 =>
  ck (hK h2 l1 = 5) <|
  cl (f_X5_isSound N l1 h2) fun r4 h5 =>
  if r4 = 0 then
    some ((), h5)
  else
    ck (hK h5 l0 = 0) <|
    if (40 : Int32) ≤ (hI h5 l0 1) then
      some ((), h5)
    else
      bd (((hI h5 l0 1) * (5 : Int32))) fun v10 =>
      rq (hR h5 l0 0) fun a11 =>
      ck (hK h5 a11 = 12) <|
      ck (inb v10 (hN h5 a11)) <|
      bd (sI h5 a11 (ix v10) l3) fun h14 =>
      ck (hK h14 l0 = 0) <|
      rq (hR h14 l0 0) fun a16 =>
      ck (hK h14 a16 = 12) <|
      ck (inb (v10 + (1 : Int32)) (hN h14 a16)) <|
      bd (sI h14 a16 (ix (v10 + (1 : Int32))) l4) fun h19 =>
      ck (hK h19 l0 = 0) <|
      rq (hR h19 l0 0) fun a21 =>
      ck (hK h19 a21 = 12) <|
      ck (inb (v10 + (2 : Int32)) (hN h19 a21)) <|
      bd (sI h19 a21 (ix (v10 + (2 : Int32))) l5) fun h24 =>
      ck (hK h24 l0 = 0) <|
      rq (hR h24 l0 0) fun a26 =>
      ck (hK h24 a26 = 12) <|
      ck (inb (v10 + (3 : Int32)) (hN h24 a26)) <|
      bd (sI h24 a26 (ix (v10 + (3 : Int32))) l6) fun h29 =>
      ck (hK h29 l0 = 0) <|
      rq (hR h29 l0 0) fun a31 =>
      ck (hK h29 a31 = 12) <|
      ck (inb (v10 + (4 : Int32)) (hN h29 a31)) <|
      bd (sI h29 a31 (ix (v10 + (4 : Int32))) s0) fun h34 =>
      ck (hK h34 l0 = 0) <|
      bd (sI h34 l0 1 ((hI h34 l0 1) + (1 : Int32))) fun h36 =>
      some ((), h36)
def f_X0_readLine_130 (N : Nat) (l0 : Nat) (l1 : Nat) (l3 : Int32) (l4 : Int32) (l5 : Int32) (l6 : Int32) (h : PH) : Option (Unit × PH) :=
  if l3 = (1 : Int32) then
    ck (hK h l1 = 5) <|
    cl (f_X5_expectNumber N l1 (1 : Int32) (99 : Int32) h) fun r2 h3 =>
    f_X0_readLine_146 N r2 l0 l1 l3 l4 l5 l6 h3
  else
    f_X0_readLine_146 N (0 : Int32) l0 l1 l3 l4 l5 l6 h
def f_X0_readLine_108 (N : Nat) (s0 : Int32) (l0 : Nat) (l1 : Nat) (l2 : Nat) (l3 : Int32) (l4 : Int32) (h : PH) : Option (Unit × PH) :=
  if l3 = (2 : Int32) then
    f_X0_readLine_130 N l0 l1 l3 l4 s0 (0 : Int32) h
  else
    ck (hK h l1 = 5) <|
    cl (f_X5_toldHere N l1 l2 (0 : Int32) h) fun r2 h3 =>
    ck (hK h3 l1 = 5) <|
    cl (f_X5_step N l1 h3) fun r5 h6 =>
    f_X0_readLine_130 N l0 l1 l3 l4 s0 r2 h6
def f_X0_readLine_90 (N : Nat) (s0 : Int32) (l0 : Nat) (l1 : Nat) (l2 : Nat) (l3 : Int32) (h : PH) : Option (Unit × PH) :=
  if l3 = (1 : Int32) then
    cl (f_X0_readHouse N l1 l2 s0 h) fun r2 h3 =>
    f_X0_readLine_108 N r2 l0 l1 l2 l3 s0 h3
  else
    f_X0_readLine_108 N (0 : Int32) l0 l1 l2 l3 s0 h
def f_X0_readLine_71 (N : Nat) (l0 : Nat) (l1 : Nat) (l2 : Nat) (l3 : Int32) (h : PH) : Option (Unit × PH) :=
  ck (hK h l1 = 5) <|
  cl (f_X5_step N l1 h) fun r1 h2 =>
  if l3 = (2 : Int32) then
    f_X0_readLine_90 N (0 : Int32) l0 l1 l2 l3 h2
  else
    cl (f_X0_readHouse N l1 l2 (-1 : Int32) h2) fun r5 h6 =>
    f_X0_readLine_90 N r5 l0 l1 l2 l3 h6
def f_X0_readLine_43 (N : Nat) (s0 : Int32) (l0 : Nat) (l1 : Nat) (l2 : Nat) (h : PH) : Option (Unit × PH) :=
  if s0 = (-1 : Int32) then
    ck (hK h l1 = 5) <|
    cl (f_X5_fail N l1 (1 : Int32) h) fun r7 h8 =>
    f_X0_readLine_71 N l0 l1 l2 s0 h8
  else
    ck (hK h l0 = 0) <|
    if (hI h l0 1) < (40 : Int32) then
      f_X0_readLine_71 N l0 l1 l2 s0 h
    else
      ck (hK h l1 = 5) <|
      cl (f_X5_fail N l1 (5 : Int32) h) fun r4 h5 =>
      f_X0_readLine_71 N l0 l1 l2 s0 h5
def f_X0_readLine (N : Nat) (l0 : Nat) (l1 : Nat) (l2 : Nat) (h : PH) : Option (Unit × PH) :=
  ck (hK h l1 = 5) <|
  cl (f_X5_isAt N l1 (hW h 16) h) fun r1 h2 =>
  if r1 = 0 then
    ck (hK h2 l1 = 5) <|
    cl (f_X5_isAt N l1 (hW h2 17) h2) fun r5 h6 =>
    if r5 = 0 then
      ck (hK h6 l1 = 5) <|
      cl (f_X5_isAt N l1 (hW h6 18) h6) fun r9 h10 =>
      if r9 = 0 then
        f_X0_readLine_43 N (-1 : Int32) l0 l1 l2 h10
      else
        f_X0_readLine_43 N (2 : Int32) l0 l1 l2 h10
    else
      f_X0_readLine_43 N (1 : Int32) l0 l1 l2 h6
  else
    f_X0_readLine_43 N (0 : Int32) l0 l1 l2 h2
/-! X0_readFrom -/
def f_X0_readFrom_11_b (N : Nat) (K_11 : Nat → Nat → Nat → Int32 → PH → Option (Unit × PH)) (l0 : Nat) (l1 : Nat) (l2 : Nat) (l3 : Int32) (h : PH) : Option (Unit × PH) :=
  if (40 : Int32) < l3 then
    some ((), h)
  else
    ck (hK h l1 = 5) <|
    cl (f_X5_isOver N l1 h) fun r2 h3 =>
    if r2 = 0 then
      ck (hK h3 l0 = 0) <|
      cl (f_X0_readLine N l0 l1 l2 h3) fun r6 h7 =>
      bd (l3 + (1 : Int32)) fun v9 =>
      K_11 l0 l1 l2 v9 h7
    else
      some ((), h3)
def f_X0_readFrom_11 (N : Nat) : Nat → Nat → Nat → Nat → Int32 → PH → Option (Unit × PH)
  | 0 => fun _ _ _ _ _ => none
  | n + 1 => fun l0 l1 l2 l3 h => f_X0_readFrom_11_b N (f_X0_readFrom_11 N n) l0 l1 l2 l3 h
def f_X0_readFrom (N : Nat) (l0 : Nat) (l1 : Nat) (l2 : Nat) (h : PH) : Option (Unit × PH) :=
  ck (hK h l0 = 0) <|
  bd (sI h l0 1 (0 : Int32)) fun h2 =>
  ck (hK h2 l1 = 5) <|
  cl (f_X5_open N l1 h2) fun r3 h4 =>
  f_X0_readFrom_11 N N l0 l1 l2 (0 : Int32) h4
/-! X0_copy -/
def f_X0_copy (N : Nat) (l0 : Nat) (l1 : Nat) (h : PH) : Option (Unit × PH) :=
  ck (hK h l1 = 0) <|
  ck (hK h l0 = 0) <|
  bd (sI h l0 1 (hI h l1 1)) fun h3 =>
  ck (hK h3 l1 = 0) <|
  rq (hR h3 l1 0) fun a5 =>
  ck (hK h3 l0 = 0) <|
  rq (hR h3 l0 0) fun a7 =>
  ck (hK h3 a5 = 12) <|
  ck (hK h3 a7 = 12) <|
  ck (¬ ((hI h3 l0 1) * (5 : Int32)) < 0) <|
  ck (ix (0 : Int32) + ix ((hI h3 l0 1) * (5 : Int32)) ≤ hN h3 a5) <|
  ck (ix (0 : Int32) + ix ((hI h3 l0 1) * (5 : Int32)) ≤ hN h3 a7) <|
  bd (sRow h3 a7 (va_cpy (hI h3 a5) (hI h3 a7) (ix (0 : Int32)) (ix (0 : Int32)) (ix ((hI h3 l0 1) * (5 : Int32))))) fun h13 =>
  some ((), h13)
/-! X10_day -/
def f_X10_day (N : Nat) (l0 : Nat) (h : PH) : Option (Int32 × PH) :=
  ck (hK h l0 = 9) <|
  rq (hR h l0 5) fun a2 =>
  rq (hR h l0 0) fun a3 =>
  rq (hR h l0 10) fun a4 =>
  ck (hK h a2 = 0) <|
  cl (f_X0_readFrom N a2 a3 a4 h) fun r5 h6 =>
  ck (hK h6 l0 = 9) <|
  rq (hR h6 l0 0) fun a9 =>
  ck (hK h6 a9 = 5) <|
  cl (f_X5_close N a9 h6) fun r10 h11 =>
  if r10 = 0 then
    ck (hK h11 l0 = 9) <|
    rq (hR h11 l0 1) fun a15 =>
    ck (hK h11 a15 = 2) <|
    rq (hR h11 a15 1) fun a17 =>
    rq (hR h11 l0 5) fun a18 =>
    ck (hK h11 a17 = 0) <|
    cl (f_X0_copy N a17 a18 h11) fun r19 h20 =>
    some (r10, h20)
  else
    some (r10, h11)
/-! X6_has -/
def f_X6_has (N : Nat) (l0 : Nat) (l1 : Int32) (l2 : Int32) (h : PH) : Option (Int32 × PH) :=
  if l2 < 0 then
    some ((0 : Int32), h)
  else
    ck (hK h l0 = 6) <|
    rq (hR h l0 0) fun a3 =>
    ck (hK h a3 = 12) <|
    ck (inb l1 (hN h a3)) <|
    if (hI h a3 (ix l1)) ≤ l2 then
      some ((0 : Int32), h)
    else
      some ((1 : Int32), h)
/-! X4_stockOf -/
def f_X4_stockOf (N : Nat) (l0 : Nat) (l1 : Int32) (l2 : Int32) (h : PH) : Option (Int32 × PH) :=
  if l1 < 0 then
    some ((0 : Int32), h)
  else
    if (4 : Int32) ≤ l1 then
      some ((0 : Int32), h)
    else
      if l2 < 0 then
        some ((0 : Int32), h)
      else
        if l2 < (5 : Int32) then
          ck (hK h l0 = 4) <|
          rq (hR h l0 1) fun a6 =>
          ck (hK h a6 = 12) <|
          ck (inb ((l1 * (5 : Int32)) + l2) (hN h a6)) <|
          some ((hI h a6 (ix ((l1 * (5 : Int32)) + l2))), h)
        else
          some ((0 : Int32), h)
/-! X10_house -/
def f_X10_house (N : Nat) (l0 : Nat) (l1 : Int32) (l2 : Int32) (h : PH) : Option (Int32 × PH) :=
  ck (hK h l0 = 9) <|
  rq (hR h l0 10) fun a2 =>
  ck (hK h a2 = 6) <|
  cl (f_X6_has N a2 (2 : Int32) l1 h) fun r3 h4 =>
  if r3 = 0 then
    some ((-2 : Int32), h4)
  else
    if 0 ≤ l2 then
      ck (hK h4 l0 = 9) <|
      rq (hR h4 l0 1) fun a9 =>
      ck (hK h4 a9 = 2) <|
      rq (hR h4 a9 0) fun a11 =>
      if l2 = 0 then
        rq (hR h4 l0 10) fun a12 =>
        ck (hK h4 a12 = 6) <|
        rq (hR h4 a12 5) fun a14 =>
        ck (hK h4 a14 = 12) <|
        ck (inb l1 (hN h4 a14)) <|
        some ((hI h4 a14 (ix l1)), h4)
      else
      if l2 = 1 then
        ck (hK h4 a11 = 4) <|
        rq (hR h4 a11 2) fun a18 =>
        ck (hK h4 a18 = 12) <|
        ck (inb l1 (hN h4 a18)) <|
        some ((hI h4 a18 (ix l1)), h4)
      else
      if l2 = 2 then
        ck (hK h4 a11 = 4) <|
        rq (hR h4 a11 3) fun a22 =>
        ck (hK h4 a22 = 12) <|
        ck (inb l1 (hN h4 a22)) <|
        some ((hI h4 a22 (ix l1)), h4)
      else
      rq (hR h4 l0 10) fun a25 =>
      ck (hK h4 a25 = 6) <|
      cl (f_X6_has N a25 (0 : Int32) (l2 - (3 : Int32)) h4) fun r26 h27 =>
      if r26 = 0 then
        some ((-2 : Int32), h27)
      else
        ck (hK h27 a11 = 4) <|
        cl (f_X4_stockOf N a11 l1 (l2 - (3 : Int32)) h27) fun r30 h31 =>
        some (r30, h31)
    else
      some ((-2 : Int32), h4)
/-! X6_housesAt -/
def f_X6_housesAt_30 (N : Nat) (K_4 : Nat → Int32 → Int32 → Int32 → PH → Option (Int32 × PH)) (l0 : Nat) (l1 : Int32) (l2 : Int32) (l3 : Int32) (h : PH) : Option (Int32 × PH) :=
  bd (l3 + (1 : Int32)) fun v1 =>
  K_4 l0 l1 l2 v1 h
def f_X6_housesAt_4_b (N : Nat) (K_4 : Nat → Int32 → Int32 → Int32 → PH → Option (Int32 × PH)) (l0 : Nat) (l1 : Int32) (l2 : Int32) (l3 : Int32) (h : PH) : Option (Int32 × PH) :=
  ck (hK h l0 = 6) <|
  rq (hR h l0 0) fun a2 =>
  ck (hK h a2 = 12) <|
  ck (2 < hN h a2) <|
  if (hI h a2 2) ≤ l3 then
    some (l2, h)
  else
    rq (hR h l0 5) fun a6 =>
    ck (hK h a6 = 12) <|
    ck (inb l3 (hN h a6)) <|
    if (hI h a6 (ix l3)) = l1 then
      bd ((l2 ||| ((1 : Int32) <<< (l3 &&& 31)))) fun v10 =>
      f_X6_housesAt_30 N K_4 l0 l1 v10 l3 h
    else
      f_X6_housesAt_30 N K_4 l0 l1 l2 l3 h
def f_X6_housesAt_4 (N : Nat) : Nat → Nat → Int32 → Int32 → Int32 → PH → Option (Int32 × PH)
  | 0 => fun _ _ _ _ _ => none
  | n + 1 => fun l0 l1 l2 l3 h => f_X6_housesAt_4_b N (f_X6_housesAt_4 N n) l0 l1 l2 l3 h
def f_X6_housesAt (N : Nat) (l0 : Nat) (l1 : Int32) (h : PH) : Option (Int32 × PH) :=
  f_X6_housesAt_4 N N l0 l1 (0 : Int32) (0 : Int32) h
/-! X6_windAt -/
def f_X6_windAt (N : Nat) (l0 : Nat) (l1 : Int32) (h : PH) : Option (Int32 × PH) :=
  ck (hK h l0 = 6) <|
  if (hI h l0 11) ≤ 0 then
    some ((0 : Int32), h)
  else
    if l1 < 0 then
      some ((0 : Int32), h)
    else
      rq (hR h l0 10) fun a4 =>
      ck (¬ (hI h l0 11) = 0) <|
      ck (hK h a4 = 12) <|
      ck (inb (l1 - l1 / (hI h l0 11) * (hI h l0 11)) (hN h a4)) <|
      some ((hI h a4 (ix (l1 - l1 / (hI h l0 11) * (hI h l0 11)))), h)
/-! X1_joined -/
def f_X1_joined (N : Nat) (l0 : Int32) (l1 : Int32) (l2 : Int32) (h : PH) : Option (Int32 × PH) :=
  if l0 = -12 then
    some ((l1 - l2), h)
  else
  if l0 = -11 then
    some ((l1 + l2), h)
  else
  if l0 = -10 then
    if l1 = l2 then
      some ((1 : Int32), h)
    else
      some ((0 : Int32), h)
  else
  if l0 = -9 then
    if l2 ≤ l1 then
      some ((0 : Int32), h)
    else
      some ((1 : Int32), h)
  else
  if l0 = -8 then
    if l1 = 0 then
      if l2 = 0 then
        some ((0 : Int32), h)
      else
        some ((1 : Int32), h)
    else
      some ((1 : Int32), h)
  else
  if l0 = -7 then
    if l1 = 0 then
      some ((0 : Int32), h)
    else
      if l2 = 0 then
        some ((0 : Int32), h)
      else
        some ((1 : Int32), h)
  else
  some ((l1 * l2), h)
/-! X1_worth -/
def f_X1_worth_187 (N : Nat) (K_6 : Nat → Int32 → Int32 → Int32 → Int32 → Int32 → Int32 → Int32 → PH → Option (Int32 × PH)) (l0 : Nat) (l1 : Int32) (l2 : Int32) (l3 : Int32) (l4 : Int32) (l5 : Int32) (l6 : Int32) (l7 : Int32) (h : PH) : Option (Int32 × PH) :=
  bd (l7 + (1 : Int32)) fun v1 =>
  K_6 l0 l1 l2 l3 l4 l5 l6 v1 h
def f_X1_worth_100 (N : Nat) (K_6 : Nat → Int32 → Int32 → Int32 → Int32 → Int32 → Int32 → Int32 → PH → Option (Int32 × PH)) (s0 : Int32) (s1 : Int32) (s2 : Nat) (l0 : Nat) (l1 : Int32) (l2 : Int32) (l3 : Int32) (l4 : Int32) (l5 : Int32) (l6 : Int32) (l7 : Int32) (h : PH) : Option (Int32 × PH) :=
  ck (hK h s2 = 12) <|
  ck (inb s1 (hN h s2)) <|
  bd (sI h s2 (ix s1) s0) fun h3 =>
  bd (l6 + (1 : Int32)) fun v4 =>
  f_X1_worth_187 N K_6 l0 l1 l2 l3 l4 l5 v4 l7 h3
def f_X1_worth_144 (N : Nat) (K_6 : Nat → Int32 → Int32 → Int32 → Int32 → Int32 → Int32 → Int32 → PH → Option (Int32 × PH)) (s0 : Int32) (s1 : Int32) (s2 : Nat) (l0 : Nat) (l1 : Int32) (l2 : Int32) (l3 : Int32) (l4 : Int32) (l5 : Int32) (l6 : Int32) (l7 : Int32) (h : PH) : Option (Int32 × PH) :=
  ck (hK h s2 = 12) <|
  ck (inb s1 (hN h s2)) <|
  bd (sI h s2 (ix s1) s0) fun h3 =>
  f_X1_worth_187 N K_6 l0 l1 l2 l3 l4 l5 l6 l7 h3
def f_X1_worth_6_b (N : Nat) (K_6 : Nat → Int32 → Int32 → Int32 → Int32 → Int32 → Int32 → Int32 → PH → Option (Int32 × PH)) (l0 : Nat) (l1 : Int32) (l2 : Int32) (l3 : Int32) (l4 : Int32) (l5 : Int32) (l6 : Int32) (l7 : Int32) (h : PH) : Option (Int32 × PH) :=
  ck (hK h l0 = 1) <|
  if (hI h l0 3) ≤ l7 then
    if l6 ≤ 0 then
      some ((0 : Int32), h)
    else
      rq (hR h l0 2) fun a4 =>
      ck (hK h a4 = 12) <|
      ck (0 < hN h a4) <|
      some ((hI h a4 0), h)
  else
    rq (hR h l0 1) fun a7 =>
    ck (hK h a7 = 12) <|
    ck (inb l7 (hN h a7)) <|
    bd ((hI h a7 (ix l7))) fun v10 =>
    if v10 < (-5 : Int32) then
      if v10 = (-6 : Int32) then
        if l6 ≤ 0 then
          f_X1_worth_187 N K_6 l0 l1 l2 l3 l4 l5 l6 l7 h
        else
          rq (hR h l0 2) fun a28 =>
          rq (hR h l0 2) fun a29 =>
          ck (hK h a29 = 12) <|
          ck (inb (l6 - (1 : Int32)) (hN h a29)) <|
          if (hI h a29 (ix (l6 - (1 : Int32)))) = 0 then
            f_X1_worth_144 N K_6 (1 : Int32) (l6 - (1 : Int32)) a28 l0 l1 l2 l3 l4 l5 l6 l7 h
          else
            f_X1_worth_144 N K_6 (0 : Int32) (l6 - (1 : Int32)) a28 l0 l1 l2 l3 l4 l5 l6 l7 h
      else
        if l6 ≤ (1 : Int32) then
          f_X1_worth_187 N K_6 l0 l1 l2 l3 l4 l5 l6 l7 h
        else
          bd (l6 + (-1 : Int32)) fun v14 =>
          rq (hR h l0 2) fun a15 =>
          rq (hR h l0 2) fun a16 =>
          ck (hK h a16 = 12) <|
          ck (inb (v14 - (1 : Int32)) (hN h a16)) <|
          rq (hR h l0 2) fun a19 =>
          ck (hK h a19 = 12) <|
          ck (inb v14 (hN h a19)) <|
          cl (f_X1_joined N v10 (hI h a16 (ix (v14 - (1 : Int32)))) (hI h a19 (ix v14)) h) fun r22 h23 =>
          ck (hK h23 a15 = 12) <|
          ck (inb (v14 - (1 : Int32)) (hN h23 a15)) <|
          bd (sI h23 a15 (ix (v14 - (1 : Int32))) r22) fun h26 =>
          f_X1_worth_187 N K_6 l0 l1 l2 l3 l4 l5 v14 l7 h26
    else
      if (32 : Int32) ≤ l6 then
        f_X1_worth_187 N K_6 l0 l1 l2 l3 l4 l5 l6 l7 h
      else
        rq (hR h l0 2) fun a34 =>
        if v10 < 0 then
          if v10 = (-1 : Int32) then
            f_X1_worth_100 N K_6 l1 l6 a34 l0 l1 l2 l3 l4 l5 l6 l7 h
          else
            if v10 = (-2 : Int32) then
              f_X1_worth_100 N K_6 l2 l6 a34 l0 l1 l2 l3 l4 l5 l6 l7 h
            else
              if v10 = (-3 : Int32) then
                f_X1_worth_100 N K_6 l3 l6 a34 l0 l1 l2 l3 l4 l5 l6 l7 h
              else
                if v10 = (-4 : Int32) then
                  f_X1_worth_100 N K_6 l4 l6 a34 l0 l1 l2 l3 l4 l5 l6 l7 h
                else
                  f_X1_worth_100 N K_6 l5 l6 a34 l0 l1 l2 l3 l4 l5 l6 l7 h
        else
          f_X1_worth_100 N K_6 v10 l6 a34 l0 l1 l2 l3 l4 l5 l6 l7 h
def f_X1_worth_6 (N : Nat) : Nat → Nat → Int32 → Int32 → Int32 → Int32 → Int32 → Int32 → Int32 → PH → Option (Int32 × PH)
  | 0 => fun _ _ _ _ _ _ _ _ _ => none
  | n + 1 => fun l0 l1 l2 l3 l4 l5 l6 l7 h => f_X1_worth_6_b N (f_X1_worth_6 N n) l0 l1 l2 l3 l4 l5 l6 l7 h
def f_X1_worth (N : Nat) (l0 : Nat) (l1 : Int32) (l2 : Int32) (l3 : Int32) (l4 : Int32) (l5 : Int32) (h : PH) : Option (Int32 × PH) :=
  f_X1_worth_6 N N l0 l1 l2 l3 l4 l5 (0 : Int32) (0 : Int32) h
/-! X10_within -/
def f_X10_within (N : Nat) (l0 : Int32) (l1 : Int32) (h : PH) : Option (Int32 × PH) :=
  some ((if (0 : Int32) < (if l1 < l0 then l1 else l0) then (if l1 < l0 then l1 else l0) else (0 : Int32)), h)
/-! X6_givesOf -/
def f_X6_givesOf_150 (N : Nat) (l0 : Nat) (l5 : Int32) (h : PH) : Option (Int32 × PH) :=
  ck (hK h l0 = 6) <|
  rq (hR h l0 14) fun a2 =>
  ck (hK h a2 = 12) <|
  ck (inb l5 (hN h a2)) <|
  some ((hI h a2 (ix l5)), h)
def f_X6_givesOf_133 (N : Nat) (s0 : Int32) (l0 : Nat) (l5 : Int32) (h : PH) : Option (Int32 × PH) :=
  ck (hK h l0 = 6) <|
  rq (hR h l0 14) fun a2 =>
  cl (f_X10_within N s0 (999 : Int32) h) fun r3 h4 =>
  ck (hK h4 a2 = 12) <|
  ck (inb l5 (hN h4 a2)) <|
  bd (sI h4 a2 (ix l5) r3) fun h7 =>
  f_X6_givesOf_150 N l0 l5 h7
def f_X6_givesOf_93 (N : Nat) (s0 : Int32) (l0 : Nat) (l1 : Int32) (l2 : Int32) (l3 : Int32) (l4 : Int32) (l5 : Int32) (h : PH) : Option (Int32 × PH) :=
  ck (hK h l0 = 6) <|
  rq (hR h l0 12) fun a2 =>
  ck (hK h a2 = 1) <|
  cl (f_X1_isTold N a2 h) fun r3 h4 =>
  if r3 = 0 then
    f_X6_givesOf_133 N s0 l0 l5 h4
  else
    ck (hK h4 l0 = 6) <|
    rq (hR h4 l0 12) fun a8 =>
    rq (hR h4 l0 2) fun a9 =>
    ck (hK h4 a9 = 12) <|
    ck (inb l1 (hN h4 a9)) <|
    rq (hR h4 l0 3) fun a12 =>
    ck (hK h4 a12 = 12) <|
    ck (inb l1 (hN h4 a12)) <|
    ck (hK h4 a8 = 1) <|
    cl (f_X1_worth N a8 (hI h4 a9 (ix l1)) (hI h4 a12 (ix l1)) l3 l2 l4 h4) fun r15 h16 =>
    f_X6_givesOf_133 N r15 l0 l5 h16
def f_X6_givesOf (N : Nat) (l0 : Nat) (l1 : Int32) (l2 : Int32) (l3 : Int32) (l4 : Int32) (h : PH) : Option (Int32 × PH) :=
  if l1 < 0 then
    some ((0 : Int32), h)
  else
    ck (hK h l0 = 6) <|
    rq (hR h l0 0) fun a3 =>
    ck (hK h a3 = 12) <|
    ck (0 < hN h a3) <|
    if (hI h a3 0) ≤ l1 then
      some ((0 : Int32), h)
    else
      if l2 < (1 : Int32) then
        some ((0 : Int32), h)
      else
        if l2 ≤ (9 : Int32) then
          bd (((((((l1 * (10 : Int32)) + l2) * (10 : Int32)) + l3) * (2 : Int32)) + l4)) fun v9 =>
          if v9 < 0 then
            some ((0 : Int32), h)
          else
            rq (hR h l0 14) fun a11 =>
            ck (hK h a11 = 12) <|
            if v9 < (nI (hN h a11)) then
              rq (hR h l0 14) fun a14 =>
              ck (hK h a14 = 12) <|
              ck (inb v9 (hN h a14)) <|
              if (hI h a14 (ix v9)) = (-1 : Int32) then
                if l4 = 0 then
                  rq (hR h l0 2) fun a22 =>
                  ck (hK h a22 = 12) <|
                  ck (inb l1 (hN h a22)) <|
                  f_X6_givesOf_93 N (hI h a22 (ix l1)) l0 l1 l2 l3 l4 v9 h
                else
                  rq (hR h l0 3) fun a19 =>
                  ck (hK h a19 = 12) <|
                  ck (inb l1 (hN h a19)) <|
                  f_X6_givesOf_93 N (hI h a19 (ix l1)) l0 l1 l2 l3 l4 v9 h
              else
                f_X6_givesOf_150 N l0 v9 h
            else
              some ((0 : Int32), h)
        else
          some ((0 : Int32), h)
/-! X4_smoke -/
def f_X4_smoke_57 (N : Nat) (K_16 : Nat → Nat → Int32 → Int32 → Int32 → Int32 → Int32 → PH → Option (Int32 × PH)) (l0 : Nat) (l1 : Nat) (l2 : Int32) (l3 : Int32) (l4 : Int32) (l5 : Int32) (l6 : Int32) (h : PH) : Option (Int32 × PH) :=
  bd (l6 + (1 : Int32)) fun v1 =>
  K_16 l0 l1 l2 l3 l4 l5 v1 h
def f_X4_smoke_16_b (N : Nat) (K_16 : Nat → Nat → Int32 → Int32 → Int32 → Int32 → Int32 → PH → Option (Int32 × PH)) (l0 : Nat) (l1 : Nat) (l2 : Int32) (l3 : Int32) (l4 : Int32) (l5 : Int32) (l6 : Int32) (h : PH) : Option (Int32 × PH) :=
  if (4 : Int32) ≤ l6 then
    some ((if (999 : Int32) < l5 then (999 : Int32) else l5), h)
  else
    if ((l2 >>> (l6 &&& 31)) &&& (1 : Int32)) = 0 then
      f_X4_smoke_57 N K_16 l0 l1 l2 l3 l4 l5 l6 h
    else
      ck (hK h l0 = 4) <|
      rq (hR h l0 2) fun a4 =>
      ck (hK h a4 = 12) <|
      ck (inb l6 (hN h a4)) <|
      rq (hR h l0 3) fun a7 =>
      ck (hK h a7 = 12) <|
      ck (inb l6 (hN h a7)) <|
      ck (hK h l1 = 6) <|
      cl (f_X6_givesOf N l1 (hI h a4 (ix l6)) (hI h a7 (ix l6)) l4 l3 h) fun r10 h11 =>
      bd ((l5 + r10)) fun v13 =>
      f_X4_smoke_57 N K_16 l0 l1 l2 l3 l4 v13 l6 h11
def f_X4_smoke_16 (N : Nat) : Nat → Nat → Nat → Int32 → Int32 → Int32 → Int32 → Int32 → PH → Option (Int32 × PH)
  | 0 => fun _ _ _ _ _ _ _ _ => none
  | n + 1 => fun l0 l1 l2 l3 l4 l5 l6 h => f_X4_smoke_16_b N (f_X4_smoke_16 N n) l0 l1 l2 l3 l4 l5 l6 h
def f_X4_smoke (N : Nat) (l0 : Nat) (l1 : Nat) (l2 : Int32) (l3 : Int32) (h : PH) : Option (Int32 × PH) :=
  ck (hK h l0 = 4) <|
  ck (hK h l1 = 6) <|
  cl (f_X6_windAt N l1 (hI h l0 0) h) fun r2 h3 =>
  f_X4_smoke_16 N N l0 l1 l2 l3 r2 (0 : Int32) (0 : Int32) h3
/-! X6_fits -/
def f_X6_fits (N : Nat) (l0 : Nat) (l1 : Int32) (l2 : Int32) (l3 : Int32) (h : PH) : Option (Int32 × PH) :=
  bd (((l1 * (4 : Int32)) + (l3 * (2 : Int32)))) fun v1 =>
  ck (hK h l0 = 6) <|
  rq (hR h l0 8) fun a3 =>
  ck (hK h a3 = 12) <|
  ck (inb v1 (hN h a3)) <|
  if l2 < (hI h a3 (ix v1)) then
    some ((0 : Int32), h)
  else
    rq (hR h l0 8) fun a7 =>
    ck (hK h a7 = 12) <|
    ck (inb (v1 + (1 : Int32)) (hN h a7)) <|
    if (hI h a7 (ix (v1 + (1 : Int32)))) < l2 then
      some ((0 : Int32), h)
    else
      some ((1 : Int32), h)
/-! X6_signOf -/
def f_X6_signOf_57 (N : Nat) (K_20 : Nat → Int32 → Int32 → Int32 → PH → Option (Int32 × PH)) (l0 : Nat) (l3 : Int32) (l4 : Int32) (l5 : Int32) (h : PH) : Option (Int32 × PH) :=
  bd (l5 + (1 : Int32)) fun v1 =>
  K_20 l0 l3 l4 v1 h
def f_X6_signOf_20_b (N : Nat) (K_20 : Nat → Int32 → Int32 → Int32 → PH → Option (Int32 × PH)) (l0 : Nat) (l3 : Int32) (l4 : Int32) (l5 : Int32) (h : PH) : Option (Int32 × PH) :=
  ck (hK h l0 = 6) <|
  rq (hR h l0 0) fun a2 =>
  ck (hK h a2 = 12) <|
  ck (3 < hN h a2) <|
  if (hI h a2 3) ≤ l5 then
    some ((-1 : Int32), h)
  else
    cl (f_X6_fits N l0 l5 l3 (0 : Int32) h) fun r6 h7 =>
    if r6 = 0 then
      f_X6_signOf_57 N K_20 l0 l3 l4 l5 h7
    else
      ck (hK h7 l0 = 6) <|
      cl (f_X6_fits N l0 l5 l4 (1 : Int32) h7) fun r9 h10 =>
      if r9 = 0 then
        f_X6_signOf_57 N K_20 l0 l3 l4 l5 h10
      else
        some (l5, h10)
def f_X6_signOf_20 (N : Nat) : Nat → Nat → Int32 → Int32 → Int32 → PH → Option (Int32 × PH)
  | 0 => fun _ _ _ _ _ => none
  | n + 1 => fun l0 l3 l4 l5 h => f_X6_signOf_20_b N (f_X6_signOf_20 N n) l0 l3 l4 l5 h
def f_X6_signOf (N : Nat) (l0 : Nat) (l1 : Int32) (l2 : Int32) (h : PH) : Option (Int32 × PH) :=
  bd ((if (999 : Int32) < l1 then (999 : Int32) else l1)) fun v1 =>
  bd ((if (999 : Int32) < l2 then (999 : Int32) else l2)) fun v2 =>
  f_X6_signOf_20 N N l0 v1 v2 (0 : Int32) h
/-! X4_signAt -/
def f_X4_signAt (N : Nat) (l0 : Nat) (l1 : Nat) (l2 : Int32) (h : PH) : Option (Int32 × PH) :=
  ck (hK h l1 = 6) <|
  cl (f_X6_housesAt N l1 l2 h) fun r1 h2 =>
  ck (hK h2 l0 = 4) <|
  cl (f_X4_smoke N l0 l1 r1 (0 : Int32) h2) fun r4 h5 =>
  ck (hK h5 l0 = 4) <|
  cl (f_X4_smoke N l0 l1 r1 (1 : Int32) h5) fun r7 h8 =>
  ck (hK h8 l1 = 6) <|
  cl (f_X6_signOf N l1 r4 r7 h8) fun r10 h11 =>
  some (r10, h11)
/-! X10_flue -/
def f_X10_flue (N : Nat) (l0 : Nat) (l1 : Int32) (l2 : Int32) (h : PH) : Option (Int32 × PH) :=
  ck (hK h l0 = 9) <|
  rq (hR h l0 10) fun a2 =>
  ck (hK h a2 = 6) <|
  cl (f_X6_has N a2 (1 : Int32) l1 h) fun r3 h4 =>
  if r3 = 0 then
    some ((-2 : Int32), h4)
  else
    ck (hK h4 l0 = 9) <|
    rq (hR h4 l0 10) fun a8 =>
    ck (hK h4 a8 = 6) <|
    cl (f_X6_housesAt N a8 l1 h4) fun r9 h10 =>
    if l2 = 0 then
      ck (hK h10 l0 = 9) <|
      rq (hR h10 l0 1) fun a13 =>
      ck (hK h10 a13 = 2) <|
      rq (hR h10 a13 0) fun a15 =>
      rq (hR h10 l0 10) fun a16 =>
      ck (hK h10 a15 = 4) <|
      cl (f_X4_smoke N a15 a16 r9 (0 : Int32) h10) fun r17 h18 =>
      some (r17, h18)
    else
    if l2 = 1 then
      ck (hK h10 l0 = 9) <|
      rq (hR h10 l0 1) fun a21 =>
      ck (hK h10 a21 = 2) <|
      rq (hR h10 a21 0) fun a23 =>
      rq (hR h10 l0 10) fun a24 =>
      ck (hK h10 a23 = 4) <|
      cl (f_X4_smoke N a23 a24 r9 (1 : Int32) h10) fun r25 h26 =>
      some (r25, h26)
    else
    if l2 = 2 then
      ck (hK h10 l0 = 9) <|
      rq (hR h10 l0 1) fun a29 =>
      ck (hK h10 a29 = 2) <|
      rq (hR h10 a29 0) fun a31 =>
      rq (hR h10 l0 10) fun a32 =>
      ck (hK h10 a31 = 4) <|
      cl (f_X4_signAt N a31 a32 l1 h10) fun r33 h34 =>
      some (r33, h34)
    else
    if l2 = 3 then
      ck (hK h10 l0 = 9) <|
      rq (hR h10 l0 1) fun a37 =>
      ck (hK h10 a37 = 2) <|
      rq (hR h10 a37 0) fun a39 =>
      ck (hK h10 a39 = 4) <|
      rq (hR h10 a39 4) fun a41 =>
      ck (hK h10 a41 = 12) <|
      ck (inb l1 (hN h10 a41)) <|
      some ((hI h10 a41 (ix l1)), h10)
    else
    if l2 = 4 then
      some (r9, h10)
    else
    some ((-2 : Int32), h10)
/-! X4_burns -/
def f_X4_burns (N : Nat) (l0 : Nat) (l1 : Int32) (h : PH) : Option (Int32 × PH) :=
  if l1 < 0 then
    some ((0 : Int32), h)
  else
    if (4 : Int32) ≤ l1 then
      some ((0 : Int32), h)
    else
      ck (hK h l0 = 4) <|
      rq (hR h l0 3) fun a4 =>
      ck (hK h a4 = 12) <|
      ck (inb l1 (hN h a4)) <|
      if (hI h a4 (ix l1)) ≤ 0 then
        some ((0 : Int32), h)
      else
        some ((1 : Int32), h)
/-! X4_canLight -/
def f_X4_canLight (N : Nat) (l0 : Nat) (l1 : Int32) (l2 : Int32) (h : PH) : Option (Int32 × PH) :=
  ck (hK h l0 = 4) <|
  cl (f_X4_burns N l0 l1 h) fun r1 h2 =>
  if r1 = 0 then
    ck (hK h2 l0 = 4) <|
    cl (f_X4_stockOf N l0 l1 l2 h2) fun r5 h6 =>
    if r5 ≤ 0 then
      some ((0 : Int32), h6)
    else
      some ((1 : Int32), h6)
  else
    some ((0 : Int32), h2)
/-! X10_canBurn -/
def f_X10_canBurn (N : Nat) (l0 : Nat) (l1 : Int32) (l2 : Int32) (h : PH) : Option (Int32 × PH) :=
  ck (hK h l0 = 9) <|
  rq (hR h l0 10) fun a2 =>
  ck (hK h a2 = 6) <|
  cl (f_X6_has N a2 (2 : Int32) l1 h) fun r3 h4 =>
  if r3 = 0 then
    some ((0 : Int32), h4)
  else
    ck (hK h4 l0 = 9) <|
    rq (hR h4 l0 10) fun a8 =>
    ck (hK h4 a8 = 6) <|
    cl (f_X6_has N a8 (0 : Int32) l2 h4) fun r9 h10 =>
    if r9 = 0 then
      some ((0 : Int32), h10)
    else
      ck (hK h10 l0 = 9) <|
      rq (hR h10 l0 1) fun a14 =>
      ck (hK h10 a14 = 2) <|
      rq (hR h10 a14 0) fun a16 =>
      ck (hK h10 a16 = 4) <|
      cl (f_X4_canLight N a16 l1 l2 h10) fun r17 h18 =>
      if r17 = 0 then
        some ((0 : Int32), h18)
      else
        some ((1 : Int32), h18)
/-! X4_copy -/
def f_X4_copy (N : Nat) (l0 : Nat) (l1 : Nat) (h : PH) : Option (Unit × PH) :=
  ck (hK h l1 = 4) <|
  ck (hK h l0 = 4) <|
  bd (sI h l0 0 (hI h l1 0)) fun h3 =>
  ck (hK h3 l1 = 4) <|
  rq (hR h3 l1 1) fun a5 =>
  ck (hK h3 l0 = 4) <|
  rq (hR h3 l0 1) fun a7 =>
  rq (hR h3 l0 1) fun a8 =>
  ck (hK h3 a8 = 12) <|
  ck (hK h3 a5 = 12) <|
  ck (hK h3 a7 = 12) <|
  ck (¬ (nI (hN h3 a8)) < 0) <|
  ck (ix (0 : Int32) + ix (nI (hN h3 a8)) ≤ hN h3 a5) <|
  ck (ix (0 : Int32) + ix (nI (hN h3 a8)) ≤ hN h3 a7) <|
  bd (sRow h3 a7 (va_cpy (hI h3 a5) (hI h3 a7) (ix (0 : Int32)) (ix (0 : Int32)) (ix (nI (hN h3 a8))))) fun h15 =>
  ck (hK h15 l1 = 4) <|
  rq (hR h15 l1 2) fun a17 =>
  ck (hK h15 l0 = 4) <|
  rq (hR h15 l0 2) fun a19 =>
  rq (hR h15 l0 2) fun a20 =>
  ck (hK h15 a20 = 12) <|
  ck (hK h15 a17 = 12) <|
  ck (hK h15 a19 = 12) <|
  ck (¬ (nI (hN h15 a20)) < 0) <|
  ck (ix (0 : Int32) + ix (nI (hN h15 a20)) ≤ hN h15 a17) <|
  ck (ix (0 : Int32) + ix (nI (hN h15 a20)) ≤ hN h15 a19) <|
  bd (sRow h15 a19 (va_cpy (hI h15 a17) (hI h15 a19) (ix (0 : Int32)) (ix (0 : Int32)) (ix (nI (hN h15 a20))))) fun h27 =>
  ck (hK h27 l1 = 4) <|
  rq (hR h27 l1 3) fun a29 =>
  ck (hK h27 l0 = 4) <|
  rq (hR h27 l0 3) fun a31 =>
  rq (hR h27 l0 3) fun a32 =>
  ck (hK h27 a32 = 12) <|
  ck (hK h27 a29 = 12) <|
  ck (hK h27 a31 = 12) <|
  ck (¬ (nI (hN h27 a32)) < 0) <|
  ck (ix (0 : Int32) + ix (nI (hN h27 a32)) ≤ hN h27 a29) <|
  ck (ix (0 : Int32) + ix (nI (hN h27 a32)) ≤ hN h27 a31) <|
  bd (sRow h27 a31 (va_cpy (hI h27 a29) (hI h27 a31) (ix (0 : Int32)) (ix (0 : Int32)) (ix (nI (hN h27 a32))))) fun h39 =>
  ck (hK h39 l1 = 4) <|
  rq (hR h39 l1 4) fun a41 =>
  ck (hK h39 l0 = 4) <|
  rq (hR h39 l0 4) fun a43 =>
  rq (hR h39 l0 4) fun a44 =>
  ck (hK h39 a44 = 12) <|
  ck (hK h39 a41 = 12) <|
  ck (hK h39 a43 = 12) <|
  ck (¬ (nI (hN h39 a44)) < 0) <|
  ck (ix (0 : Int32) + ix (nI (hN h39 a44)) ≤ hN h39 a41) <|
  ck (ix (0 : Int32) + ix (nI (hN h39 a44)) ≤ hN h39 a43) <|
  bd (sRow h39 a43 (va_cpy (hI h39 a41) (hI h39 a43) (ix (0 : Int32)) (ix (0 : Int32)) (ix (nI (hN h39 a44))))) fun h51 =>
  some ((), h51)
/-! X10_remember -/
def f_X10_remember (N : Nat) (l0 : Nat) (h : PH) : Option (Unit × PH) :=
  ck (hK h l0 = 9) <|
  rq (hR h l0 3) fun a2 =>
  ck (hK h a2 = 16) <|
  ck (inb (hI h l0 13) (hN h a2)) <|
  rq (hR h a2 (ix (hI h l0 13))) fun a5 =>
  rq (hR h l0 1) fun a6 =>
  ck (hK h a6 = 2) <|
  rq (hR h a6 0) fun a8 =>
  ck (hK h a5 = 4) <|
  cl (f_X4_copy N a5 a8 h) fun r9 h10 =>
  ck (hK h10 l0 = 9) <|
  bd (sI h10 l0 13 (((hI h10 l0 13) + (1 : Int32)) - ((hI h10 l0 13) + (1 : Int32)) / (16 : Int32) * (16 : Int32))) fun h13 =>
  ck (hK h13 l0 = 9) <|
  bd (sI h13 l0 14 (if (16 : Int32) < ((hI h13 l0 14) + (1 : Int32)) then (16 : Int32) else ((hI h13 l0 14) + (1 : Int32)))) fun h15 =>
  some ((), h15)
/-! X4_light -/
def f_X4_light (N : Nat) (l0 : Nat) (l1 : Nat) (l2 : Int32) (l3 : Int32) (h : PH) : Option (Int32 × PH) :=
  ck (hK h l0 = 4) <|
  cl (f_X4_canLight N l0 l2 l3 h) fun r1 h2 =>
  if r1 = 0 then
    some ((0 : Int32), h2)
  else
    ck (hK h2 l0 = 4) <|
    rq (hR h2 l0 1) fun a6 =>
    bd (((l2 * (5 : Int32)) + l3)) fun v7 =>
    ck (hK h2 a6 = 12) <|
    ck (inb v7 (hN h2 a6)) <|
    bd (sI h2 a6 (ix v7) ((hI h2 a6 (ix v7)) - (1 : Int32))) fun h10 =>
    ck (hK h10 l0 = 4) <|
    rq (hR h10 l0 2) fun a12 =>
    ck (hK h10 a12 = 12) <|
    ck (inb l2 (hN h10 a12)) <|
    bd (sI h10 a12 (ix l2) l3) fun h15 =>
    ck (hK h15 l0 = 4) <|
    rq (hR h15 l0 3) fun a17 =>
    ck (hK h15 l1 = 6) <|
    rq (hR h15 l1 4) fun a19 =>
    ck (hK h15 a19 = 12) <|
    ck (inb l3 (hN h15 a19)) <|
    ck (hK h15 a17 = 12) <|
    ck (inb l2 (hN h15 a17)) <|
    bd (sI h15 a17 (ix l2) (hI h15 a19 (ix l3))) fun h24 =>
    some ((1 : Int32), h24)
/-! X10_burn -/
def f_X10_burn (N : Nat) (l0 : Nat) (l1 : Int32) (l2 : Int32) (h : PH) : Option (Int32 × PH) :=
  ck (hK h l0 = 9) <|
  cl (f_X10_canBurn N l0 l1 l2 h) fun r1 h2 =>
  if r1 = 0 then
    some ((0 : Int32), h2)
  else
    ck (hK h2 l0 = 9) <|
    cl (f_X10_remember N l0 h2) fun r5 h6 =>
    ck (hK h6 l0 = 9) <|
    rq (hR h6 l0 1) fun a9 =>
    ck (hK h6 a9 = 2) <|
    rq (hR h6 a9 0) fun a11 =>
    rq (hR h6 l0 10) fun a12 =>
    ck (hK h6 a11 = 4) <|
    cl (f_X4_light N a11 a12 l1 l2 h6) fun r13 h14 =>
    ck (r13 = 0 ∨ r13 = 1) <|
    some (r13, h14)
/-! X4_canHand -/
def f_X4_canHand (N : Nat) (l0 : Nat) (l1 : Int32) (l2 : Int32) (l3 : Int32) (l4 : Int32) (h : PH) : Option (Int32 × PH) :=
  if l2 < 0 then
    some ((0 : Int32), h)
  else
    if (4 : Int32) ≤ l2 then
      some ((0 : Int32), h)
    else
      if l2 = l1 then
        some ((0 : Int32), h)
      else
        if l4 ≤ 0 then
          some ((0 : Int32), h)
        else
          ck (hK h l0 = 4) <|
          cl (f_X4_stockOf N l0 l1 l3 h) fun r5 h6 =>
          if r5 < l4 then
            some ((0 : Int32), h6)
          else
            some ((1 : Int32), h6)
/-! X4_hand -/
def f_X4_hand (N : Nat) (l0 : Nat) (l1 : Int32) (l2 : Int32) (l3 : Int32) (l4 : Int32) (h : PH) : Option (Int32 × PH) :=
  ck (hK h l0 = 4) <|
  cl (f_X4_canHand N l0 l1 l2 l3 l4 h) fun r1 h2 =>
  if r1 = 0 then
    some ((0 : Int32), h2)
  else
    ck (hK h2 l0 = 4) <|
    rq (hR h2 l0 1) fun a6 =>
    bd (((l1 * (5 : Int32)) + l3)) fun v7 =>
    ck (hK h2 a6 = 12) <|
    ck (inb v7 (hN h2 a6)) <|
    bd (sI h2 a6 (ix v7) ((hI h2 a6 (ix v7)) - l4)) fun h10 =>
    ck (hK h10 l0 = 4) <|
    cl (f_X4_stockOf N l0 l2 l3 h10) fun r11 h12 =>
    bd ((r11 + l4)) fun v14 =>
    ck (hK h12 l0 = 4) <|
    rq (hR h12 l0 1) fun a16 =>
    ck (hK h12 a16 = 12) <|
    ck (inb ((l2 * (5 : Int32)) + l3) (hN h12 a16)) <|
    bd (sI h12 a16 (ix ((l2 * (5 : Int32)) + l3)) (if (99 : Int32) < v14 then (99 : Int32) else v14)) fun h19 =>
    some ((1 : Int32), h19)
/-! X10_lend -/
def f_X10_lend (N : Nat) (l0 : Nat) (l1 : Int32) (l2 : Int32) (l3 : Int32) (l4 : Int32) (h : PH) : Option (Int32 × PH) :=
  ck (hK h l0 = 9) <|
  rq (hR h l0 10) fun a2 =>
  ck (hK h a2 = 6) <|
  cl (f_X6_has N a2 (2 : Int32) l1 h) fun r3 h4 =>
  if r3 = 0 then
    some ((-1 : Int32), h4)
  else
    ck (hK h4 l0 = 9) <|
    rq (hR h4 l0 10) fun a8 =>
    ck (hK h4 a8 = 6) <|
    cl (f_X6_has N a8 (2 : Int32) l2 h4) fun r9 h10 =>
    if r9 = 0 then
      some ((-1 : Int32), h10)
    else
      ck (hK h10 l0 = 9) <|
      rq (hR h10 l0 10) fun a14 =>
      ck (hK h10 a14 = 6) <|
      cl (f_X6_has N a14 (0 : Int32) l3 h10) fun r15 h16 =>
      if r15 = 0 then
        some ((-1 : Int32), h16)
      else
        ck (hK h16 l0 = 9) <|
        rq (hR h16 l0 1) fun a20 =>
        ck (hK h16 a20 = 2) <|
        rq (hR h16 a20 0) fun a22 =>
        ck (hK h16 a22 = 4) <|
        cl (f_X4_canHand N a22 l1 l2 l3 l4 h16) fun r23 h24 =>
        if r23 = 0 then
          some ((-1 : Int32), h24)
        else
          ck (hK h24 l0 = 9) <|
          cl (f_X10_remember N l0 h24) fun r27 h28 =>
          ck (hK h28 l0 = 9) <|
          rq (hR h28 l0 1) fun a31 =>
          ck (hK h28 a31 = 2) <|
          rq (hR h28 a31 0) fun a33 =>
          ck (hK h28 a33 = 4) <|
          cl (f_X4_hand N a33 l1 l2 l3 l4 h28) fun r34 h35 =>
          ck (hK h35 l0 = 9) <|
          rq (hR h35 l0 1) fun a38 =>
          ck (hK h35 a38 = 2) <|
          rq (hR h35 a38 0) fun a40 =>
          ck (hK h35 a40 = 4) <|
          cl (f_X4_stockOf N a40 l2 l3 h35) fun r41 h42 =>
          some (r41, h42)
/-! X6_sootOf -/
def f_X6_sootOf_26 (N : Nat) (s0 : Int32) (h : PH) : Option (Int32 × PH) :=
  cl (f_X10_within N s0 (999 : Int32) h) fun r1 h2 =>
  some (r1, h2)
def f_X6_sootOf (N : Nat) (l0 : Nat) (l1 : Int32) (l2 : Int32) (l3 : Int32) (h : PH) : Option (Int32 × PH) :=
  ck (hK h l0 = 6) <|
  rq (hR h l0 13) fun a2 =>
  ck (hK h a2 = 1) <|
  cl (f_X1_isTold N a2 h) fun r3 h4 =>
  if r3 = 0 then
    f_X6_sootOf_26 N l1 h4
  else
    ck (hK h4 l0 = 6) <|
    rq (hR h4 l0 13) fun a8 =>
    ck (hK h4 a8 = 1) <|
    cl (f_X1_worth N a8 l1 l2 l3 (0 : Int32) (0 : Int32) h4) fun r9 h10 =>
    f_X6_sootOf_26 N r9 h10
/-! X4_sootBy -/
def f_X4_sootBy (N : Nat) (l0 : Nat) (l1 : Nat) (l2 : Int32) (h : PH) : Option (Int32 × PH) :=
  ck (hK h l0 = 4) <|
  cl (f_X4_smoke N l0 l1 l2 (0 : Int32) h) fun r1 h2 =>
  ck (hK h2 l0 = 4) <|
  cl (f_X4_smoke N l0 l1 l2 (1 : Int32) h2) fun r4 h5 =>
  ck (hK h5 l0 = 4) <|
  ck (hK h5 l1 = 6) <|
  cl (f_X6_windAt N l1 (hI h5 l0 0) h5) fun r8 h9 =>
  ck (hK h9 l1 = 6) <|
  cl (f_X6_sootOf N l1 r1 r4 r8 h9) fun r11 h12 =>
  some (r11, h12)
/-! X4_pass -/
def f_X4_pass_93 (N : Nat) (K_51 : Nat → Int32 → Int32 → PH → Option (Int32 × PH)) (l0 : Nat) (l2 : Int32) (l3 : Int32) (h : PH) : Option (Int32 × PH) :=
  bd (l3 + (1 : Int32)) fun v1 =>
  K_51 l0 l2 v1 h
def f_X4_pass_51_b (N : Nat) (K_51 : Nat → Int32 → Int32 → PH → Option (Int32 × PH)) (l0 : Nat) (l2 : Int32) (l3 : Int32) (h : PH) : Option (Int32 × PH) :=
  if (4 : Int32) ≤ l3 then
    ck (hK h l0 = 4) <|
    bd (sI h l0 0 ((hI h l0 0) + (1 : Int32))) fun h3 =>
    some (l2, h3)
  else
    ck (hK h l0 = 4) <|
    cl (f_X4_burns N l0 l3 h) fun r4 h5 =>
    if r4 = 0 then
      f_X4_pass_93 N K_51 l0 l2 l3 h5
    else
      ck (hK h5 l0 = 4) <|
      rq (hR h5 l0 3) fun a9 =>
      ck (hK h5 a9 = 12) <|
      ck (inb l3 (hN h5 a9)) <|
      bd (sI h5 a9 (ix l3) ((hI h5 a9 (ix l3)) - (1 : Int32))) fun h12 =>
      ck (hK h12 l0 = 4) <|
      rq (hR h12 l0 3) fun a14 =>
      ck (hK h12 a14 = 12) <|
      ck (inb l3 (hN h12 a14)) <|
      if (hI h12 a14 (ix l3)) = 0 then
        rq (hR h12 l0 2) fun a18 =>
        ck (hK h12 a18 = 12) <|
        ck (inb l3 (hN h12 a18)) <|
        bd (sI h12 a18 (ix l3) (-1 : Int32)) fun h21 =>
        bd (l2 + (1 : Int32)) fun v22 =>
        f_X4_pass_93 N K_51 l0 v22 l3 h21
      else
        f_X4_pass_93 N K_51 l0 l2 l3 h12
def f_X4_pass_51 (N : Nat) : Nat → Nat → Int32 → Int32 → PH → Option (Int32 × PH)
  | 0 => fun _ _ _ _ => none
  | n + 1 => fun l0 l2 l3 h => f_X4_pass_51_b N (f_X4_pass_51 N n) l0 l2 l3 h
def f_X4_pass_2_b (N : Nat) (K_2 : Nat → Nat → Int32 → PH → Option (Int32 × PH)) (l0 : Nat) (l1 : Nat) (l2 : Int32) (h : PH) : Option (Int32 × PH) :=
  ck (hK h l1 = 6) <|
  rq (hR h l1 0) fun a2 =>
  ck (hK h a2 = 12) <|
  ck (1 < hN h a2) <|
  if (hI h a2 1) ≤ l2 then
    f_X4_pass_51 N N l0 (0 : Int32) (0 : Int32) h
  else
    ck (hK h l0 = 4) <|
    rq (hR h l0 4) fun a7 =>
    rq (hR h l0 4) fun a8 =>
    ck (hK h a8 = 12) <|
    ck (inb l2 (hN h a8)) <|
    cl (f_X6_housesAt N l1 l2 h) fun r11 h12 =>
    ck (hK h12 l0 = 4) <|
    cl (f_X4_sootBy N l0 l1 r11 h12) fun r13 h14 =>
    ck (hK h14 a7 = 12) <|
    ck (inb l2 (hN h14 a7)) <|
    bd (sI h14 a7 (ix l2) (if (9999 : Int32) < ((hI h a8 (ix l2)) + r13) then (9999 : Int32) else ((hI h a8 (ix l2)) + r13))) fun h18 =>
    bd (l2 + (1 : Int32)) fun v19 =>
    K_2 l0 l1 v19 h18
def f_X4_pass_2 (N : Nat) : Nat → Nat → Nat → Int32 → PH → Option (Int32 × PH)
  | 0 => fun _ _ _ _ => none
  | n + 1 => fun l0 l1 l2 h => f_X4_pass_2_b N (f_X4_pass_2 N n) l0 l1 l2 h
def f_X4_pass (N : Nat) (l0 : Nat) (l1 : Nat) (h : PH) : Option (Int32 × PH) :=
  f_X4_pass_2 N N l0 l1 (0 : Int32) h
/-! X10_hour -/
def f_X10_hour (N : Nat) (l0 : Nat) (h : PH) : Option (Int32 × PH) :=
  ck (hK h l0 = 9) <|
  cl (f_X10_remember N l0 h) fun r1 h2 =>
  ck (hK h2 l0 = 9) <|
  rq (hR h2 l0 1) fun a5 =>
  ck (hK h2 a5 = 2) <|
  bd (sI h2 a5 5 (0 : Int32)) fun h7 =>
  ck (hK h7 l0 = 9) <|
  rq (hR h7 l0 1) fun a9 =>
  ck (hK h7 a9 = 2) <|
  rq (hR h7 a9 0) fun a11 =>
  rq (hR h7 l0 10) fun a12 =>
  ck (hK h7 a11 = 4) <|
  cl (f_X4_pass N a11 a12 h7) fun r13 h14 =>
  some (r13, h14)
/-! X10_undo -/
def f_X10_undo (N : Nat) (l0 : Nat) (h : PH) : Option (Int32 × PH) :=
  ck (hK h l0 = 9) <|
  if (1 : Int32) ≤ (hI h l0 14) then
    bd (sI h l0 14 ((hI h l0 14) - (1 : Int32))) fun h3 =>
    ck (hK h3 l0 = 9) <|
    bd (sI h3 l0 13 ((((hI h3 l0 13) + (16 : Int32)) - (1 : Int32)) - (((hI h3 l0 13) + (16 : Int32)) - (1 : Int32)) / (16 : Int32) * (16 : Int32))) fun h5 =>
    ck (hK h5 l0 = 9) <|
    rq (hR h5 l0 1) fun a7 =>
    ck (hK h5 a7 = 2) <|
    rq (hR h5 a7 0) fun a9 =>
    rq (hR h5 l0 3) fun a10 =>
    ck (hK h5 a10 = 16) <|
    ck (inb (hI h5 l0 13) (hN h5 a10)) <|
    rq (hR h5 a10 (ix (hI h5 l0 13))) fun a13 =>
    ck (hK h5 a9 = 4) <|
    cl (f_X4_copy N a9 a13 h5) fun r14 h15 =>
    ck (hK h15 l0 = 9) <|
    rq (hR h15 l0 1) fun a18 =>
    ck (hK h15 a18 = 2) <|
    bd (sI h15 a18 5 (0 : Int32)) fun h20 =>
    some ((1 : Int32), h20)
  else
    some ((0 : Int32), h)
/-! X0_isHour -/
def f_X0_isHour (N : Nat) (l0 : Nat) (l1 : Int32) (h : PH) : Option (Int32 × PH) :=
  if l1 < 0 then
    some ((0 : Int32), h)
  else
    ck (hK h l0 = 0) <|
    if (hI h l0 1) ≤ l1 then
      some ((0 : Int32), h)
    else
      rq (hR h l0 0) fun a4 =>
      ck (hK h a4 = 12) <|
      ck (inb (l1 * (5 : Int32)) (hN h a4)) <|
      if (hI h a4 (ix (l1 * (5 : Int32)))) = (2 : Int32) then
        some ((1 : Int32), h)
      else
        some ((0 : Int32), h)
/-! X4_signsRead -/
def f_X4_signsRead_30 (N : Nat) (K_4 : Nat → Nat → Int32 → Int32 → PH → Option (Int32 × PH)) (s0 : Int32) (s1 : Int32) (l0 : Nat) (l1 : Nat) (l3 : Int32) (h : PH) : Option (Int32 × PH) :=
  bd ((s1 + s0)) fun v1 =>
  bd (l3 + (1 : Int32)) fun v2 =>
  K_4 l0 l1 v1 v2 h
def f_X4_signsRead_4_b (N : Nat) (K_4 : Nat → Nat → Int32 → Int32 → PH → Option (Int32 × PH)) (l0 : Nat) (l1 : Nat) (l2 : Int32) (l3 : Int32) (h : PH) : Option (Int32 × PH) :=
  ck (hK h l1 = 6) <|
  rq (hR h l1 0) fun a2 =>
  ck (hK h a2 = 12) <|
  ck (1 < hN h a2) <|
  if (hI h a2 1) ≤ l3 then
    some (l2, h)
  else
    ck (hK h l0 = 4) <|
    cl (f_X4_signAt N l0 l1 l3 h) fun r6 h7 =>
    if r6 = (-1 : Int32) then
      f_X4_signsRead_30 N K_4 (0 : Int32) l2 l0 l1 l3 h7
    else
      f_X4_signsRead_30 N K_4 (1 : Int32) l2 l0 l1 l3 h7
def f_X4_signsRead_4 (N : Nat) : Nat → Nat → Nat → Int32 → Int32 → PH → Option (Int32 × PH)
  | 0 => fun _ _ _ _ _ => none
  | n + 1 => fun l0 l1 l2 l3 h => f_X4_signsRead_4_b N (f_X4_signsRead_4 N n) l0 l1 l2 l3 h
def f_X4_signsRead (N : Nat) (l0 : Nat) (l1 : Nat) (h : PH) : Option (Int32 × PH) :=
  f_X4_signsRead_4 N N l0 l1 (0 : Int32) (0 : Int32) h
/-! X0_play -/
def f_X0_play (N : Nat) (l0 : Nat) (l1 : Int32) (l2 : Nat) (l3 : Nat) (h : PH) : Option (Int32 × PH) :=
  if l1 < 0 then
    some ((0 : Int32), h)
  else
    ck (hK h l0 = 0) <|
    if l1 < (hI h l0 1) then
      bd ((l1 * (5 : Int32))) fun v4 =>
      rq (hR h l0 0) fun a5 =>
      ck (hK h a5 = 12) <|
      ck (inb (v4 + (1 : Int32)) (hN h a5)) <|
      bd ((hI h a5 (ix (v4 + (1 : Int32))))) fun v8 =>
      rq (hR h l0 0) fun a9 =>
      ck (hK h a9 = 12) <|
      ck (inb (v4 + (3 : Int32)) (hN h a9)) <|
      bd ((hI h a9 (ix (v4 + (3 : Int32))))) fun v12 =>
      rq (hR h l0 0) fun a13 =>
      ck (hK h a13 = 12) <|
      ck (inb v4 (hN h a13)) <|
      if (hI h a13 (ix v4)) = (2 : Int32) then
        ck (hK h l2 = 4) <|
        cl (f_X4_pass N l2 l3 h) fun r35 h36 =>
        some ((1 : Int32), h36)
      else
        rq (hR h l0 0) fun a17 =>
        ck (hK h a17 = 12) <|
        ck (inb v4 (hN h a17)) <|
        if (hI h a17 (ix v4)) = 0 then
          ck (hK h l2 = 4) <|
          cl (f_X4_light N l2 l3 v8 v12 h) fun r31 h32 =>
          ck (r31 = 0 ∨ r31 = 1) <|
          some (r31, h32)
        else
          rq (hR h l0 0) fun a21 =>
          ck (hK h a21 = 12) <|
          ck (inb (v4 + (2 : Int32)) (hN h a21)) <|
          rq (hR h l0 0) fun a24 =>
          ck (hK h a24 = 12) <|
          ck (inb (v4 + (4 : Int32)) (hN h a24)) <|
          ck (hK h l2 = 4) <|
          cl (f_X4_hand N l2 v8 (hI h a21 (ix (v4 + (2 : Int32)))) v12 (hI h a24 (ix (v4 + (4 : Int32)))) h) fun r27 h28 =>
          ck (r27 = 0 ∨ r27 = 1) <|
          some (r27, h28)
    else
      some ((0 : Int32), h)
/-! X4_sootOfAll -/
def f_X4_sootOfAll_4_b (N : Nat) (K_4 : Nat → Int32 → Int32 → PH → Option (Int32 × PH)) (l0 : Nat) (l1 : Int32) (l2 : Int32) (h : PH) : Option (Int32 × PH) :=
  if (3 : Int32) ≤ l2 then
    some (l1, h)
  else
    ck (hK h l0 = 4) <|
    rq (hR h l0 4) fun a3 =>
    ck (hK h a3 = 12) <|
    ck (inb l2 (hN h a3)) <|
    bd ((l1 + (hI h a3 (ix l2)))) fun v6 =>
    bd (l2 + (1 : Int32)) fun v7 =>
    K_4 l0 v6 v7 h
def f_X4_sootOfAll_4 (N : Nat) : Nat → Nat → Int32 → Int32 → PH → Option (Int32 × PH)
  | 0 => fun _ _ _ _ => none
  | n + 1 => fun l0 l1 l2 h => f_X4_sootOfAll_4_b N (f_X4_sootOfAll_4 N n) l0 l1 l2 h
def f_X4_sootOfAll (N : Nat) (l0 : Nat) (h : PH) : Option (Int32 × PH) :=
  f_X4_sootOfAll_4 N N l0 (0 : Int32) (0 : Int32) h
/-! X10_judged -/
def f_X10_judged_105 (N : Nat) (K_30 : Nat → Int32 → Int32 → Int32 → Int32 → PH → Option (Int32 × PH)) (l0 : Nat) (l1 : Int32) (l2 : Int32) (l3 : Int32) (l4 : Int32) (h : PH) : Option (Int32 × PH) :=
  bd (l4 + (1 : Int32)) fun v1 =>
  K_30 l0 l1 l2 l3 v1 h
def f_X10_judged_74 (N : Nat) (K_30 : Nat → Int32 → Int32 → Int32 → Int32 → PH → Option (Int32 × PH)) (l0 : Nat) (l1 : Int32) (l2 : Int32) (l3 : Int32) (l4 : Int32) (h : PH) : Option (Int32 × PH) :=
  ck (hK h l0 = 9) <|
  rq (hR h l0 1) fun a2 =>
  ck (hK h a2 = 2) <|
  rq (hR h a2 1) fun a4 =>
  rq (hR h l0 4) fun a5 =>
  rq (hR h l0 10) fun a6 =>
  ck (hK h a4 = 0) <|
  cl (f_X0_play N a4 l4 a5 a6 h) fun r7 h8 =>
  if r7 = 0 then
    if l2 = (-1 : Int32) then
      f_X10_judged_105 N K_30 l0 l1 l4 l3 l4 h8
    else
      f_X10_judged_105 N K_30 l0 l1 l2 l3 l4 h8
  else
    f_X10_judged_105 N K_30 l0 l1 l2 l3 l4 h8
def f_X10_judged_30_b (N : Nat) (K_30 : Nat → Int32 → Int32 → Int32 → Int32 → PH → Option (Int32 × PH)) (l0 : Nat) (l1 : Int32) (l2 : Int32) (l3 : Int32) (l4 : Int32) (h : PH) : Option (Int32 × PH) :=
  ck (hK h l0 = 9) <|
  rq (hR h l0 1) fun a2 =>
  ck (hK h a2 = 2) <|
  rq (hR h a2 1) fun a4 =>
  ck (hK h a4 = 0) <|
  if (hI h a4 1) ≤ l4 then
    if l1 = 0 then
      some (l2, h)
    else
      if l1 = (1 : Int32) then
        some (l3, h)
      else
        rq (hR h l0 4) fun a9 =>
        ck (hK h a9 = 4) <|
        cl (f_X4_sootOfAll N a9 h) fun r10 h11 =>
        some (r10, h11)
  else
    rq (hR h l0 1) fun a13 =>
    ck (hK h a13 = 2) <|
    rq (hR h a13 1) fun a15 =>
    ck (hK h a15 = 0) <|
    cl (f_X0_isHour N a15 l4 h) fun r16 h17 =>
    if r16 = 0 then
      f_X10_judged_74 N K_30 l0 l1 l2 l3 l4 h17
    else
      ck (hK h17 l0 = 9) <|
      rq (hR h17 l0 4) fun a21 =>
      rq (hR h17 l0 10) fun a22 =>
      ck (hK h17 a21 = 4) <|
      cl (f_X4_signsRead N a21 a22 h17) fun r23 h24 =>
      bd ((l3 + r23)) fun v26 =>
      f_X10_judged_74 N K_30 l0 l1 l2 v26 l4 h24
def f_X10_judged_30 (N : Nat) : Nat → Nat → Int32 → Int32 → Int32 → Int32 → PH → Option (Int32 × PH)
  | 0 => fun _ _ _ _ _ _ => none
  | n + 1 => fun l0 l1 l2 l3 l4 h => f_X10_judged_30_b N (f_X10_judged_30 N n) l0 l1 l2 l3 l4 h
def f_X10_judged (N : Nat) (l0 : Nat) (l1 : Int32) (h : PH) : Option (Int32 × PH) :=
  if l1 < 0 then
    some ((-2 : Int32), h)
  else
    if l1 ≤ (2 : Int32) then
      ck (hK h l0 = 9) <|
      rq (hR h l0 4) fun a4 =>
      rq (hR h l0 10) fun a5 =>
      ck (hK h a4 = 4) <|
      cl (f_X4_begin N a4 a5 h) fun r6 h7 =>
      f_X10_judged_30 N N l0 l1 (-1 : Int32) (0 : Int32) (0 : Int32) h7
    else
      some ((-2 : Int32), h)
/-! X10_isSignOrNone -/
def f_X10_isSignOrNone (N : Nat) (l0 : Nat) (l1 : Int32) (h : PH) : Option (Int32 × PH) :=
  if l1 = (-1 : Int32) then
    some ((1 : Int32), h)
  else
    ck (hK h l0 = 9) <|
    rq (hR h l0 10) fun a3 =>
    ck (hK h a3 = 6) <|
    cl (f_X6_has N a3 (3 : Int32) l1 h) fun r4 h5 =>
    if r4 = 0 then
      some ((0 : Int32), h5)
    else
      some ((1 : Int32), h5)
/-! X3_keep -/
def f_X3_keep (N : Nat) (l0 : Nat) (l1 : Int32) (l2 : Int32) (l3 : Int32) (l4 : Int32) (h : PH) : Option (Unit × PH) :=
  ck (hK h l0 = 3) <|
  rq (hR h l0 9) fun a2 =>
  rq (hR h l0 10) fun a3 =>
  ck (hK h a3 = 4) <|
  ck (hK h a2 = 6) <|
  cl (f_X6_windAt N a2 ((hI h a3 0) + (1 : Int32)) h) fun r5 h6 =>
  ck (hK h6 l0 = 3) <|
  rq (hR h6 l0 4) fun a9 =>
  rq (hR h6 l0 9) fun a10 =>
  ck (hK h6 a10 = 6) <|
  cl (f_X6_givesOf N a10 l3 l4 r5 (0 : Int32) h6) fun r11 h12 =>
  ck (hK h12 a9 = 12) <|
  ck (inb ((l1 * (11 : Int32)) + l2) (hN h12 a9)) <|
  bd (sI h12 a9 (ix ((l1 * (11 : Int32)) + l2)) r11) fun h16 =>
  ck (hK h16 l0 = 3) <|
  rq (hR h16 l0 5) fun a18 =>
  rq (hR h16 l0 9) fun a19 =>
  ck (hK h16 a19 = 6) <|
  cl (f_X6_givesOf N a19 l3 l4 r5 (1 : Int32) h16) fun r20 h21 =>
  ck (hK h21 a18 = 12) <|
  ck (inb ((l1 * (11 : Int32)) + l2) (hN h21 a18)) <|
  bd (sI h21 a18 (ix ((l1 * (11 : Int32)) + l2)) r20) fun h25 =>
  some ((), h25)
/-! X3_prepareBehind -/
def f_X3_prepareBehind_214 (N : Nat) (K_141 : Nat → Int32 → Int32 → Int32 → Int32 → Int32 → PH → Option (Unit × PH)) (l0 : Nat) (l1 : Int32) (l2 : Int32) (l3 : Int32) (l7 : Int32) (l8 : Int32) (h : PH) : Option (Unit × PH) :=
  bd (l8 + (1 : Int32)) fun v1 =>
  K_141 l0 l1 l2 l3 l7 v1 h
def f_X3_prepareBehind_176 (N : Nat) (K_141 : Nat → Int32 → Int32 → Int32 → Int32 → Int32 → PH → Option (Unit × PH)) (s0 : Int32) (s1 : Int32) (l0 : Nat) (l1 : Int32) (l2 : Int32) (l3 : Int32) (l7 : Int32) (l8 : Int32) (h : PH) : Option (Unit × PH) :=
  if s1 ≤ s0 then
    f_X3_prepareBehind_214 N K_141 l0 l1 l2 l3 l7 l8 h
  else
    ck (hK h l0 = 3) <|
    rq (hR h l0 7) fun a3 =>
    ck (hK h a3 = 12) <|
    ck (inb l7 (hN h a3)) <|
    bd (sI h a3 (ix l7) ((hI h a3 (ix l7)) ||| ((1 : Int32) <<< (l8 &&& 31)))) fun h6 =>
    ck (hK h6 l0 = 3) <|
    rq (hR h6 l0 9) fun a8 =>
    ck (hK h6 a8 = 6) <|
    rq (hR h6 a8 4) fun a10 =>
    ck (hK h6 a10 = 12) <|
    ck (inb l8 (hN h6 a10)) <|
    cl (f_X3_keep N l0 l1 ((1 : Int32) + l8) l8 (hI h6 a10 (ix l8)) h6) fun r13 h14 =>
    f_X3_prepareBehind_214 N K_141 l0 l1 l2 l3 l7 l8 h14
def f_X3_prepareBehind_220 (N : Nat) (l0 : Nat) (l1 : Int32) (l7 : Int32) (h : PH) : Option (Unit × PH) :=
  ck (hK h l0 = 3) <|
  rq (hR h l0 3) fun a2 =>
  ck (hK h a2 = 12) <|
  ck (inb l1 (hN h a2)) <|
  rq (hR h l0 6) fun a5 =>
  ck (hK h a5 = 12) <|
  ck (inb l7 (hN h a5)) <|
  rq (hR h l0 7) fun a8 =>
  ck (hK h a8 = 12) <|
  ck (inb l7 (hN h a8)) <|
  bd (sI h a2 (ix l1) ((hI h a2 (ix l1)) ||| (((1 : Int32) <<< ((hI h a5 (ix l7)) &&& 31)) ||| ((hI h a8 (ix l7)) <<< ((1 : Int32) &&& 31))))) fun h11 =>
  some ((), h11)
def f_X3_prepareBehind_141_b (N : Nat) (K_141 : Nat → Int32 → Int32 → Int32 → Int32 → Int32 → PH → Option (Unit × PH)) (l0 : Nat) (l1 : Int32) (l2 : Int32) (l3 : Int32) (l7 : Int32) (l8 : Int32) (h : PH) : Option (Unit × PH) :=
  ck (hK h l0 = 3) <|
  rq (hR h l0 9) fun a2 =>
  ck (hK h a2 = 6) <|
  rq (hR h a2 0) fun a4 =>
  ck (hK h a4 = 12) <|
  ck (0 < hN h a4) <|
  if (hI h a4 0) ≤ l8 then
    f_X3_prepareBehind_220 N l0 l1 l7 h
  else
    rq (hR h l0 10) fun a8 =>
    ck (hK h a8 = 4) <|
    cl (f_X4_stockOf N a8 l3 l8 h) fun r9 h10 =>
    if l8 = l2 then
      f_X3_prepareBehind_176 N K_141 (1 : Int32) r9 l0 l1 l2 l3 l7 l8 h10
    else
      f_X3_prepareBehind_176 N K_141 (0 : Int32) r9 l0 l1 l2 l3 l7 l8 h10
def f_X3_prepareBehind_141 (N : Nat) : Nat → Nat → Int32 → Int32 → Int32 → Int32 → Int32 → PH → Option (Unit × PH)
  | 0 => fun _ _ _ _ _ _ _ => none
  | n + 1 => fun l0 l1 l2 l3 l7 l8 h => f_X3_prepareBehind_141_b N (f_X3_prepareBehind_141 N n) l0 l1 l2 l3 l7 l8 h
def f_X3_prepareBehind_76 (N : Nat) (s0 : Int32) (l0 : Nat) (l1 : Int32) (l2 : Int32) (l3 : Int32) (l5 : Int32) (h : PH) : Option (Unit × PH) :=
  bd ((((l1 * (6 : Int32)) + l2) + (1 : Int32))) fun v1 =>
  ck (hK h l0 = 3) <|
  rq (hR h l0 6) fun a3 =>
  ck (hK h a3 = 12) <|
  ck (inb v1 (hN h a3)) <|
  bd (sI h a3 (ix v1) (0 : Int32)) fun h6 =>
  ck (hK h6 l0 = 3) <|
  rq (hR h6 l0 7) fun a8 =>
  ck (hK h6 a8 = 12) <|
  ck (inb v1 (hN h6 a8)) <|
  bd (sI h6 a8 (ix v1) (0 : Int32)) fun h11 =>
  if s0 ≤ 0 then
    f_X3_prepareBehind_141 N N l0 l1 l2 l3 v1 (0 : Int32) h11
  else
    ck (hK h11 l0 = 3) <|
    rq (hR h11 l0 6) fun a14 =>
    ck (hK h11 a14 = 12) <|
    ck (inb v1 (hN h11 a14)) <|
    bd (sI h11 a14 (ix v1) ((6 : Int32) + l5)) fun h17 =>
    ck (hK h17 l0 = 3) <|
    cl (f_X3_keep N l0 l1 ((6 : Int32) + l5) l5 s0 h17) fun r18 h19 =>
    f_X3_prepareBehind_220 N l0 l1 v1 h19
def f_X3_prepareBehind_35 (N : Nat) (s0 : Int32) (l0 : Nat) (l1 : Int32) (l2 : Int32) (l3 : Int32) (l4 : Int32) (h : PH) : Option (Unit × PH) :=
  if l4 = 0 then
    if l2 = (-1 : Int32) then
      f_X3_prepareBehind_76 N (0 : Int32) l0 l1 l2 l3 s0 h
    else
      ck (hK h l0 = 3) <|
      rq (hR h l0 9) fun a4 =>
      ck (hK h a4 = 6) <|
      rq (hR h a4 4) fun a6 =>
      ck (hK h a6 = 12) <|
      ck (inb l2 (hN h a6)) <|
      f_X3_prepareBehind_76 N ((hI h a6 (ix l2)) - (1 : Int32)) l0 l1 l2 l3 s0 h
  else
    ck (hK h l0 = 3) <|
    rq (hR h l0 10) fun a10 =>
    ck (hK h a10 = 4) <|
    rq (hR h a10 3) fun a12 =>
    ck (hK h a12 = 12) <|
    ck (inb l3 (hN h a12)) <|
    f_X3_prepareBehind_76 N ((hI h a12 (ix l3)) - (1 : Int32)) l0 l1 l2 l3 s0 h
def f_X3_prepareBehind (N : Nat) (l0 : Nat) (l1 : Int32) (l2 : Int32) (h : PH) : Option (Unit × PH) :=
  ck (hK h l0 = 3) <|
  rq (hR h l0 0) fun a2 =>
  ck (hK h a2 = 12) <|
  ck (inb l1 (hN h a2)) <|
  bd ((hI h a2 (ix l1))) fun v5 =>
  rq (hR h l0 10) fun a6 =>
  ck (hK h a6 = 4) <|
  cl (f_X4_burns N a6 v5 h) fun r7 h8 =>
  if r7 = 0 then
    f_X3_prepareBehind_35 N l2 l0 l1 l2 v5 r7 h8
  else
    ck (hK h8 l0 = 3) <|
    rq (hR h8 l0 10) fun a12 =>
    ck (hK h8 a12 = 4) <|
    rq (hR h8 a12 2) fun a14 =>
    ck (hK h8 a14 = 12) <|
    ck (inb v5 (hN h8 a14)) <|
    f_X3_prepareBehind_35 N (hI h8 a14 (ix v5)) l0 l1 l2 v5 r7 h8
/-! X3_prepare -/
def f_X3_prepare_51 (N : Nat) (K_15 : Nat → Int32 → Int32 → PH → Option (Unit × PH)) (l0 : Nat) (l1 : Int32) (l2 : Int32) (h : PH) : Option (Unit × PH) :=
  bd (l2 + (1 : Int32)) fun v1 =>
  K_15 l0 l1 v1 h
def f_X3_prepare_15_b (N : Nat) (K_15 : Nat → Int32 → Int32 → PH → Option (Unit × PH)) (l0 : Nat) (l1 : Int32) (l2 : Int32) (h : PH) : Option (Unit × PH) :=
  ck (hK h l0 = 3) <|
  rq (hR h l0 9) fun a2 =>
  ck (hK h a2 = 6) <|
  rq (hR h a2 0) fun a4 =>
  ck (hK h a4 = 12) <|
  ck (0 < hN h a4) <|
  if (hI h a4 0) ≤ l2 then
    some ((), h)
  else
    rq (hR h l0 10) fun a8 =>
    rq (hR h l0 0) fun a9 =>
    ck (hK h a9 = 12) <|
    ck (inb l1 (hN h a9)) <|
    ck (hK h a8 = 4) <|
    cl (f_X4_canLight N a8 (hI h a9 (ix l1)) l2 h) fun r12 h13 =>
    if r12 = 0 then
      f_X3_prepare_51 N K_15 l0 l1 l2 h13
    else
      ck (hK h13 l0 = 3) <|
      cl (f_X3_prepareBehind N l0 l1 l2 h13) fun r16 h17 =>
      f_X3_prepare_51 N K_15 l0 l1 l2 h17
def f_X3_prepare_15 (N : Nat) : Nat → Nat → Int32 → Int32 → PH → Option (Unit × PH)
  | 0 => fun _ _ _ _ => none
  | n + 1 => fun l0 l1 l2 h => f_X3_prepare_15_b N (f_X3_prepare_15 N n) l0 l1 l2 h
def f_X3_prepare (N : Nat) (l0 : Nat) (l1 : Int32) (h : PH) : Option (Unit × PH) :=
  ck (hK h l0 = 3) <|
  rq (hR h l0 3) fun a2 =>
  ck (hK h a2 = 12) <|
  ck (inb l1 (hN h a2)) <|
  bd (sI h a2 (ix l1) (0 : Int32)) fun h5 =>
  ck (hK h5 l0 = 3) <|
  cl (f_X3_prepareBehind N l0 l1 (-1 : Int32) h5) fun r6 h7 =>
  f_X3_prepare_15 N N l0 l1 (0 : Int32) h7
/-! X3_note -/
def f_X3_note_114 (R_X3_note : Nat → Int32 → Int32 → Int32 → Int32 → PH → Option (Unit × PH)) (N : Nat) (K_3 : Nat → Int32 → Int32 → Int32 → Int32 → Int32 → PH → Option (Unit × PH)) (l0 : Nat) (l1 : Int32) (l2 : Int32) (l3 : Int32) (l4 : Int32) (l5 : Int32) (h : PH) : Option (Unit × PH) :=
  bd (l5 + (1 : Int32)) fun v1 =>
  K_3 l0 l1 l2 l3 l4 v1 h
def f_X3_note_3_b (R_X3_note : Nat → Int32 → Int32 → Int32 → Int32 → PH → Option (Unit × PH)) (N : Nat) (K_3 : Nat → Int32 → Int32 → Int32 → Int32 → Int32 → PH → Option (Unit × PH)) (l0 : Nat) (l1 : Int32) (l2 : Int32) (l3 : Int32) (l4 : Int32) (l5 : Int32) (h : PH) : Option (Unit × PH) :=
  if (11 : Int32) ≤ l5 then
    some ((), h)
  else
    ck (hK h l0 = 3) <|
    rq (hR h l0 3) fun a3 =>
    ck (hK h a3 = 12) <|
    ck (inb l1 (hN h a3)) <|
    if (((hI h a3 (ix l1)) >>> (l5 &&& 31)) &&& (1 : Int32)) = 0 then
      f_X3_note_114 R_X3_note N K_3 l0 l1 l2 l3 l4 l5 h
    else
      rq (hR h l0 4) fun a7 =>
      ck (hK h a7 = 12) <|
      ck (inb ((l1 * (11 : Int32)) + l5) (hN h a7)) <|
      bd ((l3 + (hI h a7 (ix ((l1 * (11 : Int32)) + l5))))) fun v10 =>
      rq (hR h l0 5) fun a11 =>
      ck (hK h a11 = 12) <|
      ck (inb ((l1 * (11 : Int32)) + l5) (hN h a11)) <|
      bd ((l4 + (hI h a11 (ix ((l1 * (11 : Int32)) + l5))))) fun v14 =>
      if (3 : Int32) ≤ l1 then
        rq (hR h l0 9) fun a16 =>
        ck (hK h a16 = 6) <|
        cl (f_X6_signOf N a16 v10 v14 h) fun r17 h18 =>
        ck (hK h18 l0 = 3) <|
        if r17 = (hI h18 l0 13) then
          rq (hR h18 l0 8) fun a22 =>
          ck (hK h18 a22 = 12) <|
          ck (inb l2 (hN h18 a22)) <|
          bd (sI h18 a22 (ix l2) ((hI h18 a22 (ix l2)) ||| ((1 : Int32) <<< (l5 &&& 31)))) fun h25 =>
          f_X3_note_114 R_X3_note N K_3 l0 l1 l2 l3 l4 l5 h25
        else
          f_X3_note_114 R_X3_note N K_3 l0 l1 l2 l3 l4 l5 h18
      else
        cl (R_X3_note l0 (l1 + (1 : Int32)) ((l2 * (11 : Int32)) + l5) v10 v14 h) fun r26 h27 =>
        f_X3_note_114 R_X3_note N K_3 l0 l1 l2 l3 l4 l5 h27
def f_X3_note_3 (R_X3_note : Nat → Int32 → Int32 → Int32 → Int32 → PH → Option (Unit × PH)) (N : Nat) : Nat → Nat → Int32 → Int32 → Int32 → Int32 → Int32 → PH → Option (Unit × PH)
  | 0 => fun _ _ _ _ _ _ _ => none
  | n + 1 => fun l0 l1 l2 l3 l4 l5 h => f_X3_note_3_b R_X3_note N (f_X3_note_3 R_X3_note N n) l0 l1 l2 l3 l4 l5 h
def f_X3_note_b (R_X3_note : Nat → Int32 → Int32 → Int32 → Int32 → PH → Option (Unit × PH)) (N : Nat) (l0 : Nat) (l1 : Int32) (l2 : Int32) (l3 : Int32) (l4 : Int32) (h : PH) : Option (Unit × PH) :=
  f_X3_note_3 R_X3_note N N l0 l1 l2 l3 l4 (0 : Int32) h
def f_X3_note : Nat → Nat → Nat → Int32 → Int32 → Int32 → Int32 → PH → Option (Unit × PH)
  | 0 => fun _ _ _ _ _ _ _ => none
  | d + 1 => fun N z0 z1 z2 z3 z4 h => f_X3_note_b (f_X3_note d N) N z0 z1 z2 z3 z4 h
/-! X3_fewestThen -/
def f_X3_fewestThen_156 (R_X3_fewestThen : Nat → Int32 → Int32 → Int32 → Int32 → PH → Option (Int32 × PH)) (N : Nat) (K_96 : Nat → Int32 → Int32 → Int32 → Int32 → Int32 → Int32 → PH → Option (Int32 × PH)) (l0 : Nat) (l1 : Int32) (l2 : Int32) (l3 : Int32) (l5 : Int32) (l6 : Int32) (l7 : Int32) (h : PH) : Option (Int32 × PH) :=
  bd (l7 + (1 : Int32)) fun v1 =>
  K_96 l0 l1 l2 l3 l5 l6 v1 h
def f_X3_fewestThen_96_b (R_X3_fewestThen : Nat → Int32 → Int32 → Int32 → Int32 → PH → Option (Int32 × PH)) (N : Nat) (K_96 : Nat → Int32 → Int32 → Int32 → Int32 → Int32 → Int32 → PH → Option (Int32 × PH)) (l0 : Nat) (l1 : Int32) (l2 : Int32) (l3 : Int32) (l5 : Int32) (l6 : Int32) (l7 : Int32) (h : PH) : Option (Int32 × PH) :=
  ck (hK h l0 = 3) <|
  rq (hR h l0 9) fun a2 =>
  ck (hK h a2 = 6) <|
  rq (hR h a2 0) fun a4 =>
  ck (hK h a4 = 12) <|
  ck (0 < hN h a4) <|
  if (hI h a4 0) ≤ l7 then
    some (l6, h)
  else
    if l6 ≤ (l3 + (1 : Int32)) then
      some (l6, h)
    else
      rq (hR h l0 7) fun a9 =>
      ck (hK h a9 = 12) <|
      ck (inb l5 (hN h a9)) <|
      if (((hI h a9 (ix l5)) >>> (l7 &&& 31)) &&& (1 : Int32)) = 0 then
        f_X3_fewestThen_156 R_X3_fewestThen N K_96 l0 l1 l2 l3 l5 l6 l7 h
      else
        cl (R_X3_fewestThen l0 (l1 + (1 : Int32)) (((l2 * (11 : Int32)) + (1 : Int32)) + l7) (l3 + (1 : Int32)) l6 h) fun r13 h14 =>
        f_X3_fewestThen_156 R_X3_fewestThen N K_96 l0 l1 l2 l3 l5 r13 l7 h14
def f_X3_fewestThen_96 (R_X3_fewestThen : Nat → Int32 → Int32 → Int32 → Int32 → PH → Option (Int32 × PH)) (N : Nat) : Nat → Nat → Int32 → Int32 → Int32 → Int32 → Int32 → Int32 → PH → Option (Int32 × PH)
  | 0 => fun _ _ _ _ _ _ _ _ => none
  | n + 1 => fun l0 l1 l2 l3 l5 l6 l7 h => f_X3_fewestThen_96_b R_X3_fewestThen N (f_X3_fewestThen_96 R_X3_fewestThen N n) l0 l1 l2 l3 l5 l6 l7 h
def f_X3_fewestThen_b (R_X3_fewestThen : Nat → Int32 → Int32 → Int32 → Int32 → PH → Option (Int32 × PH)) (N : Nat) (l0 : Nat) (l1 : Int32) (l2 : Int32) (l3 : Int32) (l4 : Int32) (h : PH) : Option (Int32 × PH) :=
  ck (hK h l0 = 3) <|
  rq (hR h l0 1) fun a2 =>
  ck (hK h a2 = 12) <|
  ck (inb l1 (hN h a2)) <|
  bd ((((l1 * (6 : Int32)) + (hI h a2 (ix l1))) + (1 : Int32))) fun v5 =>
  if l1 < (3 : Int32) then
    rq (hR h l0 6) fun a7 =>
    ck (hK h a7 = 12) <|
    ck (inb v5 (hN h a7)) <|
    cl (R_X3_fewestThen l0 (l1 + (1 : Int32)) ((l2 * (11 : Int32)) + (hI h a7 (ix v5))) l3 l4 h) fun r10 h11 =>
    f_X3_fewestThen_96 R_X3_fewestThen N N l0 l1 l2 l3 v5 r10 (0 : Int32) h11
  else
    rq (hR h l0 8) fun a12 =>
    ck (hK h a12 = 12) <|
    ck (inb l2 (hN h a12)) <|
    rq (hR h l0 6) fun a15 =>
    ck (hK h a15 = 12) <|
    ck (inb v5 (hN h a15)) <|
    if (((hI h a12 (ix l2)) >>> ((hI h a15 (ix v5)) &&& 31)) &&& (1 : Int32)) = 0 then
      rq (hR h l0 8) fun a19 =>
      ck (hK h a19 = 12) <|
      ck (inb l2 (hN h a19)) <|
      rq (hR h l0 7) fun a22 =>
      ck (hK h a22 = 12) <|
      ck (inb v5 (hN h a22)) <|
      if (((hI h a19 (ix l2)) >>> ((1 : Int32) &&& 31)) &&& (hI h a22 (ix v5))) = 0 then
        some (l4, h)
      else
        some ((l3 + (1 : Int32)), h)
    else
      some (l3, h)
def f_X3_fewestThen : Nat → Nat → Nat → Int32 → Int32 → Int32 → Int32 → PH → Option (Int32 × PH)
  | 0 => fun _ _ _ _ _ _ _ => none
  | d + 1 => fun N z0 z1 z2 z3 z4 h => f_X3_fewestThen_b (f_X3_fewestThen d N) N z0 z1 z2 z3 z4 h
/-! X3_take -/
def f_X3_take (N : Nat) (l0 : Nat) (l1 : Int32) (h : PH) : Option (Unit × PH) :=
  ck (hK h l0 = 3) <|
  if (hI h l0 14) ≤ l1 then
    some ((), h)
  else
    bd (sI h l0 14 l1) fun h3 =>
    ck (hK h3 l0 = 3) <|
    rq (hR h3 l0 1) fun a5 =>
    rq (hR h3 l0 2) fun a6 =>
    rq (hR h3 l0 1) fun a7 =>
    ck (hK h3 a7 = 12) <|
    ck (hK h3 a5 = 12) <|
    ck (hK h3 a6 = 12) <|
    ck (¬ (nI (hN h3 a7)) < 0) <|
    ck (ix (0 : Int32) + ix (nI (hN h3 a7)) ≤ hN h3 a5) <|
    ck (ix (0 : Int32) + ix (nI (hN h3 a7)) ≤ hN h3 a6) <|
    bd (sRow h3 a6 (va_cpy (hI h3 a5) (hI h3 a6) (ix (0 : Int32)) (ix (0 : Int32)) (ix (nI (hN h3 a7))))) fun h14 =>
    some ((), h14)
/-! X6_fresh -/
def f_X6_fresh (N : Nat) (l0 : Nat) (l1 : Int32) (l2 : Int32) (l3 : Int32) (h : PH) : Option (Int32 × PH) :=
  ck (hK h l0 = 6) <|
  cl (f_X6_has N l0 (0 : Int32) l1 h) fun r1 h2 =>
  if r1 = 0 then
    some ((0 : Int32), h2)
  else
    ck (hK h2 l0 = 6) <|
    rq (hR h2 l0 4) fun a6 =>
    ck (hK h2 a6 = 12) <|
    ck (inb l1 (hN h2 a6)) <|
    cl (f_X6_givesOf N l0 l1 (hI h2 a6 (ix l1)) l2 l3 h2) fun r9 h10 =>
    some (r9, h10)
/-! X3_goFirst -/
def f_X3_goFirst_61 (R_X3_goFirst : Nat → Int32 → Int32 → Int32 → Int32 → PH → Option (Unit × PH)) (N : Nat) (s0 : Int32) (s1 : Nat) (h : PH) : Option (Unit × PH) :=
  ck (hK h s1 = 3) <|
  cl (f_X3_take N s1 s0 h) fun r1 h2 =>
  some ((), h2)
def f_X3_goFirst_269 (R_X3_goFirst : Nat → Int32 → Int32 → Int32 → Int32 → PH → Option (Unit × PH)) (N : Nat) (K_186 : Nat → Int32 → Int32 → Int32 → Int32 → Int32 → Int32 → Int32 → PH → Option (Unit × PH)) (l0 : Nat) (l1 : Int32) (l2 : Int32) (l3 : Int32) (l4 : Int32) (l5 : Int32) (l6 : Int32) (l7 : Int32) (h : PH) : Option (Unit × PH) :=
  bd (l7 + (1 : Int32)) fun v1 =>
  K_186 l0 l1 l2 l3 l4 l5 l6 v1 h
def f_X3_goFirst_186_b (R_X3_goFirst : Nat → Int32 → Int32 → Int32 → Int32 → PH → Option (Unit × PH)) (N : Nat) (K_186 : Nat → Int32 → Int32 → Int32 → Int32 → Int32 → Int32 → Int32 → PH → Option (Unit × PH)) (l0 : Nat) (l1 : Int32) (l2 : Int32) (l3 : Int32) (l4 : Int32) (l5 : Int32) (l6 : Int32) (l7 : Int32) (h : PH) : Option (Unit × PH) :=
  ck (hK h l0 = 3) <|
  rq (hR h l0 9) fun a2 =>
  ck (hK h a2 = 6) <|
  rq (hR h a2 0) fun a4 =>
  ck (hK h a4 = 12) <|
  ck (0 < hN h a4) <|
  if (hI h a4 0) ≤ l7 then
    rq (hR h l0 1) fun a8 =>
    ck (hK h a8 = 12) <|
    ck (inb l1 (hN h a8)) <|
    bd (sI h a8 (ix l1) (-1 : Int32)) fun h11 =>
    ck (hK h11 l0 = 3) <|
    cl (R_X3_goFirst l0 (l1 + (1 : Int32)) l2 l3 l4 h11) fun r12 h13 =>
    some ((), h13)
  else
    rq (hR h l0 10) fun a15 =>
    ck (hK h a15 = 4) <|
    cl (f_X4_canLight N a15 l5 l7 h) fun r16 h17 =>
    if r16 = 0 then
      f_X3_goFirst_269 R_X3_goFirst N K_186 l0 l1 l2 l3 l4 l5 l6 l7 h17
    else
      ck (hK h17 l0 = 3) <|
      rq (hR h17 l0 1) fun a21 =>
      ck (hK h17 a21 = 12) <|
      ck (inb l1 (hN h17 a21)) <|
      bd (sI h17 a21 (ix l1) l7) fun h24 =>
      ck (hK h24 l0 = 3) <|
      rq (hR h24 l0 9) fun a26 =>
      ck (hK h24 a26 = 6) <|
      cl (f_X6_fresh N a26 l7 l6 (0 : Int32) h24) fun r27 h28 =>
      ck (hK h28 l0 = 3) <|
      rq (hR h28 l0 9) fun a31 =>
      ck (hK h28 a31 = 6) <|
      cl (f_X6_fresh N a31 l7 l6 (1 : Int32) h28) fun r32 h33 =>
      ck (hK h33 l0 = 3) <|
      cl (R_X3_goFirst l0 (l1 + (1 : Int32)) (l2 + r27) (l3 + r32) (l4 + (1 : Int32)) h33) fun r35 h36 =>
      f_X3_goFirst_269 R_X3_goFirst N K_186 l0 l1 l2 l3 l4 l5 l6 l7 h36
def f_X3_goFirst_186 (R_X3_goFirst : Nat → Int32 → Int32 → Int32 → Int32 → PH → Option (Unit × PH)) (N : Nat) : Nat → Nat → Int32 → Int32 → Int32 → Int32 → Int32 → Int32 → Int32 → PH → Option (Unit × PH)
  | 0 => fun _ _ _ _ _ _ _ _ _ => none
  | n + 1 => fun l0 l1 l2 l3 l4 l5 l6 l7 h => f_X3_goFirst_186_b R_X3_goFirst N (f_X3_goFirst_186 R_X3_goFirst N n) l0 l1 l2 l3 l4 l5 l6 l7 h
def f_X3_goFirst_b (R_X3_goFirst : Nat → Int32 → Int32 → Int32 → Int32 → PH → Option (Unit × PH)) (N : Nat) (l0 : Nat) (l1 : Int32) (l2 : Int32) (l3 : Int32) (l4 : Int32) (h : PH) : Option (Unit × PH) :=
  ck (hK h l0 = 3) <|
  if l4 < (hI h l0 14) then
    if l1 < (hI h l0 11) then
      rq (hR h l0 0) fun a4 =>
      ck (hK h a4 = 12) <|
      ck (inb l1 (hN h a4)) <|
      bd ((hI h a4 (ix l1))) fun v7 =>
      rq (hR h l0 9) fun a8 =>
      rq (hR h l0 10) fun a9 =>
      ck (hK h a9 = 4) <|
      ck (hK h a8 = 6) <|
      cl (f_X6_windAt N a8 (hI h a9 0) h) fun r11 h12 =>
      ck (hK h12 l0 = 3) <|
      rq (hR h12 l0 10) fun a15 =>
      ck (hK h12 a15 = 4) <|
      cl (f_X4_burns N a15 v7 h12) fun r16 h17 =>
      if r16 = 0 then
        f_X3_goFirst_186 R_X3_goFirst N N l0 l1 l2 l3 l4 v7 r11 (0 : Int32) h17
      else
        ck (hK h17 l0 = 3) <|
        rq (hR h17 l0 9) fun a21 =>
        rq (hR h17 l0 10) fun a22 =>
        ck (hK h17 a22 = 4) <|
        rq (hR h17 a22 2) fun a24 =>
        ck (hK h17 a24 = 12) <|
        ck (inb v7 (hN h17 a24)) <|
        rq (hR h17 l0 10) fun a27 =>
        ck (hK h17 a27 = 4) <|
        rq (hR h17 a27 3) fun a29 =>
        ck (hK h17 a29 = 12) <|
        ck (inb v7 (hN h17 a29)) <|
        ck (hK h17 a21 = 6) <|
        cl (f_X6_givesOf N a21 (hI h17 a24 (ix v7)) (hI h17 a29 (ix v7)) r11 (0 : Int32) h17) fun r32 h33 =>
        ck (hK h33 l0 = 3) <|
        rq (hR h33 l0 9) fun a36 =>
        rq (hR h33 l0 10) fun a37 =>
        ck (hK h33 a37 = 4) <|
        rq (hR h33 a37 2) fun a39 =>
        ck (hK h33 a39 = 12) <|
        ck (inb v7 (hN h33 a39)) <|
        rq (hR h33 l0 10) fun a42 =>
        ck (hK h33 a42 = 4) <|
        rq (hR h33 a42 3) fun a44 =>
        ck (hK h33 a44 = 12) <|
        ck (inb v7 (hN h33 a44)) <|
        ck (hK h33 a36 = 6) <|
        cl (f_X6_givesOf N a36 (hI h33 a39 (ix v7)) (hI h33 a44 (ix v7)) r11 (1 : Int32) h33) fun r47 h48 =>
        ck (hK h48 l0 = 3) <|
        cl (R_X3_goFirst l0 (l1 + (1 : Int32)) (l2 + r32) (l3 + r47) l4 h48) fun r50 h51 =>
        some ((), h51)
    else
      rq (hR h l0 9) fun a53 =>
      ck (hK h a53 = 6) <|
      cl (f_X6_signOf N a53 l2 l3 h) fun r54 h55 =>
      ck (hK h55 l0 = 3) <|
      if r54 = (hI h55 l0 12) then
        if (hI h55 l0 13) = (-2 : Int32) then
          f_X3_goFirst_61 R_X3_goFirst N l4 l0 h55
        else
          cl (f_X3_fewestThen 40 N l0 (0 : Int32) (0 : Int32) l4 (hI h55 l0 14) h55) fun r60 h61 =>
          f_X3_goFirst_61 R_X3_goFirst N r60 l0 h61
      else
        some ((), h55)
  else
    some ((), h)
def f_X3_goFirst : Nat → Nat → Nat → Int32 → Int32 → Int32 → Int32 → PH → Option (Unit × PH)
  | 0 => fun _ _ _ _ _ _ _ => none
  | d + 1 => fun N z0 z1 z2 z3 z4 h => f_X3_goFirst_b (f_X3_goFirst d N) N z0 z1 z2 z3 z4 h
/-! X3_find -/
def f_X3_find_89 (N : Nat) (K_46 : Nat → Nat → Int32 → Int32 → Int32 → PH → Option (Int32 × PH)) (l0 : Nat) (l1 : Nat) (l3 : Int32) (l5 : Int32) (l6 : Int32) (h : PH) : Option (Int32 × PH) :=
  bd (l6 + (1 : Int32)) fun v1 =>
  K_46 l0 l1 l3 l5 v1 h
def f_X3_find_139 (N : Nat) (l0 : Nat) (h : PH) : Option (Int32 × PH) :=
  ck (hK h l0 = 3) <|
  bd (sI h l0 14 (9 : Int32)) fun h2 =>
  ck (hK h2 l0 = 3) <|
  cl (f_X3_goFirst 40 N l0 (0 : Int32) (0 : Int32) (0 : Int32) (0 : Int32) h2) fun r3 h4 =>
  ck (hK h4 l0 = 3) <|
  if (9 : Int32) ≤ (hI h4 l0 14) then
    some ((0 : Int32), h4)
  else
    some ((1 : Int32), h4)
def f_X3_find_105_b (N : Nat) (K_105 : Nat → Int32 → PH → Option (Int32 × PH)) (l0 : Nat) (l6 : Int32) (h : PH) : Option (Int32 × PH) :=
  if (3 : Int32) < l6 then
    ck (hK h l0 = 3) <|
    rq (hR h l0 8) fun a3 =>
    cl (f_J7_fill_53178 N a3 (0 : Int32) h) fun r4 h5 =>
    ck (hK h5 l0 = 3) <|
    cl (f_X3_note 40 N l0 (0 : Int32) (0 : Int32) (0 : Int32) (0 : Int32) h5) fun r6 h7 =>
    f_X3_find_139 N l0 h7
  else
    ck (hK h l0 = 3) <|
    cl (f_X3_prepare N l0 l6 h) fun r9 h10 =>
    bd (l6 + (1 : Int32)) fun v12 =>
    K_105 l0 v12 h10
def f_X3_find_105 (N : Nat) : Nat → Nat → Int32 → PH → Option (Int32 × PH)
  | 0 => fun _ _ _ => none
  | n + 1 => fun l0 l6 h => f_X3_find_105_b N (f_X3_find_105 N n) l0 l6 h
def f_X3_find_46_b (N : Nat) (K_46 : Nat → Nat → Int32 → Int32 → Int32 → PH → Option (Int32 × PH)) (l0 : Nat) (l1 : Nat) (l3 : Int32) (l5 : Int32) (l6 : Int32) (h : PH) : Option (Int32 × PH) :=
  ck (hK h l1 = 6) <|
  rq (hR h l1 0) fun a2 =>
  ck (hK h a2 = 12) <|
  ck (2 < hN h a2) <|
  if (hI h a2 2) ≤ l6 then
    if l5 = (-2 : Int32) then
      f_X3_find_139 N l0 h
    else
      f_X3_find_105 N N l0 (0 : Int32) h
  else
    rq (hR h l1 5) fun a7 =>
    ck (hK h a7 = 12) <|
    ck (inb l6 (hN h a7)) <|
    if (hI h a7 (ix l6)) = l3 then
      ck (hK h l0 = 3) <|
      rq (hR h l0 0) fun a12 =>
      ck (hK h a12 = 12) <|
      ck (inb (hI h l0 11) (hN h a12)) <|
      bd (sI h a12 (ix (hI h l0 11)) l6) fun h15 =>
      ck (hK h15 l0 = 3) <|
      bd (sI h15 l0 11 ((hI h15 l0 11) + (1 : Int32))) fun h17 =>
      f_X3_find_89 N K_46 l0 l1 l3 l5 l6 h17
    else
      f_X3_find_89 N K_46 l0 l1 l3 l5 l6 h
def f_X3_find_46 (N : Nat) : Nat → Nat → Nat → Int32 → Int32 → Int32 → PH → Option (Int32 × PH)
  | 0 => fun _ _ _ _ _ _ => none
  | n + 1 => fun l0 l1 l3 l5 l6 h => f_X3_find_46_b N (f_X3_find_46 N n) l0 l1 l3 l5 l6 h
def f_X3_find (N : Nat) (l0 : Nat) (l1 : Nat) (l2 : Nat) (l3 : Int32) (l4 : Int32) (l5 : Int32) (h : PH) : Option (Int32 × PH) :=
  ck (hK h l0 = 3) <|
  bd (sR h l0 9 (some l1)) fun h2 =>
  ck (hK h2 l0 = 3) <|
  bd (sR h2 l0 10 (some l2)) fun h4 =>
  ck (hK h4 l0 = 3) <|
  bd (sI h4 l0 12 l4) fun h6 =>
  ck (hK h6 l0 = 3) <|
  bd (sI h6 l0 13 l5) fun h8 =>
  ck (hK h8 l0 = 3) <|
  bd (sI h8 l0 11 (0 : Int32)) fun h10 =>
  ck (hK h10 l0 = 3) <|
  rq (hR h10 l0 0) fun a12 =>
  cl (f_J7_fill_53178 N a12 (-1 : Int32) h10) fun r13 h14 =>
  ck (hK h14 l0 = 3) <|
  rq (hR h14 l0 1) fun a16 =>
  cl (f_J7_fill_53178 N a16 (-1 : Int32) h14) fun r17 h18 =>
  f_X3_find_46 N N l0 l1 l3 l5 (0 : Int32) h18
/-! X3_firstOf -/
def f_X3_firstOf_2_b (N : Nat) (K_2 : Nat → Int32 → Int32 → PH → Option (Int32 × PH)) (l0 : Nat) (l1 : Int32) (l2 : Int32) (h : PH) : Option (Int32 × PH) :=
  ck (hK h l0 = 3) <|
  if (hI h l0 11) ≤ l2 then
    some ((-1 : Int32), h)
  else
    rq (hR h l0 0) fun a3 =>
    ck (hK h a3 = 12) <|
    ck (inb l2 (hN h a3)) <|
    if (hI h a3 (ix l2)) = l1 then
      rq (hR h l0 2) fun a8 =>
      ck (hK h a8 = 12) <|
      ck (inb l2 (hN h a8)) <|
      some ((hI h a8 (ix l2)), h)
    else
      bd (l2 + (1 : Int32)) fun v7 =>
      K_2 l0 l1 v7 h
def f_X3_firstOf_2 (N : Nat) : Nat → Nat → Int32 → Int32 → PH → Option (Int32 × PH)
  | 0 => fun _ _ _ _ => none
  | n + 1 => fun l0 l1 l2 h => f_X3_firstOf_2_b N (f_X3_firstOf_2 N n) l0 l1 l2 h
def f_X3_firstOf (N : Nat) (l0 : Nat) (l1 : Int32) (h : PH) : Option (Int32 × PH) :=
  f_X3_firstOf_2 N N l0 l1 (0 : Int32) h
/-! X10_spell -/
def f_X10_spell_62 (N : Nat) (l0 : Nat) (l1 : Int32) (l2 : Int32) (l3 : Int32) (l4 : Int32) (h : PH) : Option (Int32 × PH) :=
  ck (hK h l0 = 9) <|
  rq (hR h l0 7) fun a2 =>
  rq (hR h l0 10) fun a3 =>
  rq (hR h l0 1) fun a4 =>
  ck (hK h a4 = 2) <|
  rq (hR h a4 0) fun a6 =>
  ck (hK h a2 = 3) <|
  cl (f_X3_find N a2 a3 a6 l1 l2 l3 h) fun r7 h8 =>
  if r7 = 0 then
    some ((-2 : Int32), h8)
  else
    if l4 = (-1 : Int32) then
      ck (hK h8 l0 = 9) <|
      rq (hR h8 l0 7) fun a18 =>
      ck (hK h8 a18 = 3) <|
      some ((hI h8 a18 14), h8)
    else
      ck (hK h8 l0 = 9) <|
      rq (hR h8 l0 7) fun a13 =>
      ck (hK h8 a13 = 3) <|
      cl (f_X3_firstOf N a13 l4 h8) fun r14 h15 =>
      some (r14, h15)
def f_X10_spell_40 (N : Nat) (l0 : Nat) (l1 : Int32) (l2 : Int32) (l3 : Int32) (l4 : Int32) (h : PH) : Option (Int32 × PH) :=
  if l4 = (-1 : Int32) then
    f_X10_spell_62 N l0 l1 l2 l3 l4 h
  else
    ck (hK h l0 = 9) <|
    rq (hR h l0 10) fun a3 =>
    ck (hK h a3 = 6) <|
    cl (f_X6_has N a3 (2 : Int32) l4 h) fun r4 h5 =>
    if r4 = 0 then
      some ((-2 : Int32), h5)
    else
      f_X10_spell_62 N l0 l1 l2 l3 l4 h5
def f_X10_spell (N : Nat) (l0 : Nat) (l1 : Int32) (l2 : Int32) (l3 : Int32) (l4 : Int32) (h : PH) : Option (Int32 × PH) :=
  ck (hK h l0 = 9) <|
  rq (hR h l0 10) fun a2 =>
  ck (hK h a2 = 6) <|
  cl (f_X6_has N a2 (1 : Int32) l1 h) fun r3 h4 =>
  if r3 = 0 then
    some ((-2 : Int32), h4)
  else
    ck (hK h4 l0 = 9) <|
    cl (f_X10_isSignOrNone N l0 l2 h4) fun r7 h8 =>
    if r7 = 0 then
      some ((-2 : Int32), h8)
    else
      if l3 = (-2 : Int32) then
        f_X10_spell_40 N l0 l1 l2 l3 l4 h8
      else
        ck (hK h8 l0 = 9) <|
        cl (f_X10_isSignOrNone N l0 l3 h8) fun r12 h13 =>
        if r12 = 0 then
          some ((-2 : Int32), h13)
        else
          f_X10_spell_40 N l0 l1 l2 l3 l4 h13
/-! X8_choicesOf -/
def f_X8_choicesOf_46 (N : Nat) (K_17 : Nat → Int32 → Int32 → Int32 → Int32 → PH → Option (Int32 × PH)) (l0 : Nat) (l1 : Int32) (l2 : Int32) (l3 : Int32) (l4 : Int32) (h : PH) : Option (Int32 × PH) :=
  bd (l4 + (1 : Int32)) fun v1 =>
  K_17 l0 l1 l2 l3 v1 h
def f_X8_choicesOf_17_b (N : Nat) (K_17 : Nat → Int32 → Int32 → Int32 → Int32 → PH → Option (Int32 × PH)) (l0 : Nat) (l1 : Int32) (l2 : Int32) (l3 : Int32) (l4 : Int32) (h : PH) : Option (Int32 × PH) :=
  if l2 ≤ l4 then
    some (l3, h)
  else
    ck (hK h l0 = 8) <|
    rq (hR h l0 8) fun a3 =>
    ck (hK h a3 = 2) <|
    rq (hR h a3 0) fun a5 =>
    ck (hK h a5 = 4) <|
    cl (f_X4_canLight N a5 l1 l4 h) fun r6 h7 =>
    if r6 = 0 then
      f_X8_choicesOf_46 N K_17 l0 l1 l2 l3 l4 h7
    else
      bd ((l3 ||| ((1 : Int32) <<< (l4 &&& 31)))) fun v10 =>
      f_X8_choicesOf_46 N K_17 l0 l1 l2 v10 l4 h7
def f_X8_choicesOf_17 (N : Nat) : Nat → Nat → Int32 → Int32 → Int32 → Int32 → PH → Option (Int32 × PH)
  | 0 => fun _ _ _ _ _ _ => none
  | n + 1 => fun l0 l1 l2 l3 l4 h => f_X8_choicesOf_17_b N (f_X8_choicesOf_17 N n) l0 l1 l2 l3 l4 h
def f_X8_choicesOf (N : Nat) (l0 : Nat) (l1 : Int32) (h : PH) : Option (Int32 × PH) :=
  ck (hK h l0 = 8) <|
  rq (hR h l0 7) fun a2 =>
  ck (hK h a2 = 6) <|
  rq (hR h a2 0) fun a4 =>
  ck (hK h a4 = 12) <|
  ck (0 < hN h a4) <|
  bd ((hI h a4 0)) fun v7 =>
  bd (((1 : Int32) <<< (v7 &&& 31))) fun v8 =>
  f_X8_choicesOf_17 N N l0 l1 v7 v8 (0 : Int32) h
/-! X6_fitsNone -/
def f_X6_fitsNone_2_b (N : Nat) (K_2 : Nat → Int32 → Int32 → Int32 → PH → Option (Int32 × PH)) (l0 : Nat) (l1 : Int32) (l2 : Int32) (l3 : Int32) (h : PH) : Option (Int32 × PH) :=
  ck (hK h l0 = 6) <|
  rq (hR h l0 0) fun a2 =>
  ck (hK h a2 = 12) <|
  ck (3 < hN h a2) <|
  if (hI h a2 3) ≤ l3 then
    some ((1 : Int32), h)
  else
    cl (f_X6_fits N l0 l3 l1 l2 h) fun r6 h7 =>
    if r6 = 0 then
      bd (l3 + (1 : Int32)) fun v9 =>
      K_2 l0 l1 l2 v9 h7
    else
      some ((0 : Int32), h7)
def f_X6_fitsNone_2 (N : Nat) : Nat → Nat → Int32 → Int32 → Int32 → PH → Option (Int32 × PH)
  | 0 => fun _ _ _ _ _ => none
  | n + 1 => fun l0 l1 l2 l3 h => f_X6_fitsNone_2_b N (f_X6_fitsNone_2 N n) l0 l1 l2 l3 h
def f_X6_fitsNone (N : Nat) (l0 : Nat) (l1 : Int32) (l2 : Int32) (h : PH) : Option (Int32 × PH) :=
  f_X6_fitsNone_2 N N l0 l1 l2 (0 : Int32) h
/-! X2_agrees -/
def f_X2_agrees_116 (N : Nat) (K_3 : Nat → Nat → Int32 → Int32 → Int32 → Int32 → Int32 → PH → Option (Int32 × PH)) (l0 : Nat) (l1 : Nat) (l2 : Int32) (l3 : Int32) (l4 : Int32) (l5 : Int32) (l6 : Int32) (h : PH) : Option (Int32 × PH) :=
  bd (l6 + (1 : Int32)) fun v1 =>
  K_3 l0 l1 l2 l3 l4 l5 v1 h
def f_X2_agrees_96 (N : Nat) (K_3 : Nat → Nat → Int32 → Int32 → Int32 → Int32 → Int32 → PH → Option (Int32 × PH)) (s0 : Int32) (l0 : Nat) (l1 : Nat) (l2 : Int32) (l3 : Int32) (l4 : Int32) (l5 : Int32) (l6 : Int32) (h : PH) : Option (Int32 × PH) :=
  ck (hK h l0 = 2) <|
  rq (hR h l0 3) fun a2 =>
  ck (hK h a2 = 12) <|
  ck (inb l6 (hN h a2)) <|
  if (hI h a2 (ix l6)) = l2 then
    if s0 = 0 then
      some ((0 : Int32), h)
    else
      f_X2_agrees_116 N K_3 l0 l1 l2 l3 l4 l5 l6 h
  else
    f_X2_agrees_116 N K_3 l0 l1 l2 l3 l4 l5 l6 h
def f_X2_agrees_46 (N : Nat) (K_3 : Nat → Nat → Int32 → Int32 → Int32 → Int32 → Int32 → PH → Option (Int32 × PH)) (s0 : Int32) (l0 : Nat) (l1 : Nat) (l2 : Int32) (l3 : Int32) (l4 : Int32) (l5 : Int32) (l6 : Int32) (l7 : Int32) (l8 : Int32) (h : PH) : Option (Int32 × PH) :=
  if l8 = (2 : Int32) then
    if l5 = l7 then
      f_X2_agrees_96 N K_3 (1 : Int32) l0 l1 l2 l3 l4 l5 l6 h
    else
      f_X2_agrees_96 N K_3 (0 : Int32) l0 l1 l2 l3 l4 l5 l6 h
  else
    if l7 = (-1 : Int32) then
      ck (hK h l1 = 6) <|
      cl (f_X6_fitsNone N l1 s0 l8 h) fun r6 h7 =>
      f_X2_agrees_96 N K_3 r6 l0 l1 l2 l3 l4 l5 l6 h7
    else
      ck (hK h l1 = 6) <|
      cl (f_X6_fits N l1 l7 s0 l8 h) fun r3 h4 =>
      f_X2_agrees_96 N K_3 r3 l0 l1 l2 l3 l4 l5 l6 h4
def f_X2_agrees_3_b (N : Nat) (K_3 : Nat → Nat → Int32 → Int32 → Int32 → Int32 → Int32 → PH → Option (Int32 × PH)) (l0 : Nat) (l1 : Nat) (l2 : Int32) (l3 : Int32) (l4 : Int32) (l5 : Int32) (l6 : Int32) (h : PH) : Option (Int32 × PH) :=
  ck (hK h l0 = 2) <|
  if (hI h l0 5) ≤ l6 then
    some ((1 : Int32), h)
  else
    rq (hR h l0 4) fun a3 =>
    ck (hK h a3 = 12) <|
    ck (inb l6 (hN h a3)) <|
    bd ((hI h a3 (ix l6))) fun v6 =>
    ck (hK h l1 = 6) <|
    rq (hR h l1 9) fun a8 =>
    rq (hR h l0 2) fun a9 =>
    ck (hK h a9 = 12) <|
    ck (inb l6 (hN h a9)) <|
    ck (hK h a8 = 12) <|
    ck (inb (hI h a9 (ix l6)) (hN h a8)) <|
    bd ((hI h a8 (ix (hI h a9 (ix l6))))) fun v14 =>
    if v14 = 0 then
      f_X2_agrees_46 N K_3 l3 l0 l1 l2 l3 l4 l5 l6 v6 v14 h
    else
      f_X2_agrees_46 N K_3 l4 l0 l1 l2 l3 l4 l5 l6 v6 v14 h
def f_X2_agrees_3 (N : Nat) : Nat → Nat → Nat → Int32 → Int32 → Int32 → Int32 → Int32 → PH → Option (Int32 × PH)
  | 0 => fun _ _ _ _ _ _ _ _ => none
  | n + 1 => fun l0 l1 l2 l3 l4 l5 l6 h => f_X2_agrees_3_b N (f_X2_agrees_3 N n) l0 l1 l2 l3 l4 l5 l6 h
def f_X2_agrees (N : Nat) (l0 : Nat) (l1 : Nat) (l2 : Int32) (l3 : Int32) (l4 : Int32) (l5 : Int32) (h : PH) : Option (Int32 × PH) :=
  f_X2_agrees_3 N N l0 l1 l2 l3 l4 l5 (0 : Int32) h
/-! X8_look -/
def f_X8_look_207 (N : Nat) (K_148 : Nat → Int32 → PH → Option (Unit × PH)) (l0 : Nat) (l5 : Int32) (h : PH) : Option (Unit × PH) :=
  bd (l5 + (1 : Int32)) fun v1 =>
  K_148 l0 v1 h
def f_X8_look_148_b (N : Nat) (K_148 : Nat → Int32 → PH → Option (Unit × PH)) (l0 : Nat) (l5 : Int32) (h : PH) : Option (Unit × PH) :=
  ck (hK h l0 = 8) <|
  if (hI h l0 11) ≤ l5 then
    some ((), h)
  else
    if (hI h l0 13) = (1 : Int32) then
      rq (hR h l0 3) fun a15 =>
      rq (hR h l0 2) fun a16 =>
      ck (hK h a16 = 12) <|
      ck (inb l5 (hN h a16)) <|
      ck (hK h a15 = 12) <|
      ck (inb l5 (hN h a15)) <|
      bd (sI h a15 (ix l5) (hI h a16 (ix l5))) fun h21 =>
      f_X8_look_207 N K_148 l0 l5 h21
    else
      rq (hR h l0 3) fun a4 =>
      ck (hK h a4 = 12) <|
      ck (inb l5 (hN h a4)) <|
      rq (hR h l0 2) fun a7 =>
      ck (hK h a7 = 12) <|
      ck (inb l5 (hN h a7)) <|
      if (hI h a4 (ix l5)) = (hI h a7 (ix l5)) then
        f_X8_look_207 N K_148 l0 l5 h
      else
        rq (hR h l0 3) fun a11 =>
        ck (hK h a11 = 12) <|
        ck (inb l5 (hN h a11)) <|
        bd (sI h a11 (ix l5) (-1 : Int32)) fun h14 =>
        f_X8_look_207 N K_148 l0 l5 h14
def f_X8_look_148 (N : Nat) : Nat → Nat → Int32 → PH → Option (Unit × PH)
  | 0 => fun _ _ _ => none
  | n + 1 => fun l0 l5 h => f_X8_look_148_b N (f_X8_look_148 N n) l0 l5 h
def f_X8_look_50 (N : Nat) (s0 : Int32) (l0 : Nat) (l1 : Int32) (l2 : Int32) (h : PH) : Option (Unit × PH) :=
  ck (hK h l0 = 8) <|
  bd (sI h l0 13 ((hI h l0 13) + (1 : Int32))) fun h2 =>
  ck (hK h2 l0 = 8) <|
  rq (hR h2 l0 4) fun a4 =>
  ck (hK h2 a4 = 12) <|
  ck (inb l1 (hN h2 a4)) <|
  bd (sI h2 a4 (ix l1) ((hI h2 a4 (ix l1)) + (1 : Int32))) fun h7 =>
  ck (hK h7 l0 = 8) <|
  rq (hR h7 l0 5) fun a9 =>
  ck (hK h7 a9 = 12) <|
  ck (inb l2 (hN h7 a9)) <|
  bd (sI h7 a9 (ix l2) ((hI h7 a9 (ix l2)) + (1 : Int32))) fun h12 =>
  ck (hK h12 l0 = 8) <|
  rq (hR h12 l0 6) fun a14 =>
  ck (hK h12 a14 = 12) <|
  ck (inb s0 (hN h12 a14)) <|
  bd (sI h12 a14 (ix s0) ((hI h12 a14 (ix s0)) + (1 : Int32))) fun h17 =>
  ck (hK h17 l0 = 8) <|
  rq (hR h17 l0 4) fun a19 =>
  ck (hK h17 a19 = 12) <|
  ck (inb l1 (hN h17 a19)) <|
  bd (sI h17 l0 14 (if (hI h17 l0 14) < (hI h17 a19 (ix l1)) then (hI h17 a19 (ix l1)) else (hI h17 l0 14))) fun h22 =>
  ck (hK h22 l0 = 8) <|
  rq (hR h22 l0 5) fun a24 =>
  ck (hK h22 a24 = 12) <|
  ck (inb l2 (hN h22 a24)) <|
  bd (sI h22 l0 15 (if (hI h22 l0 15) < (hI h22 a24 (ix l2)) then (hI h22 a24 (ix l2)) else (hI h22 l0 15))) fun h27 =>
  ck (hK h27 l0 = 8) <|
  rq (hR h27 l0 6) fun a29 =>
  ck (hK h27 a29 = 12) <|
  ck (inb s0 (hN h27 a29)) <|
  bd (sI h27 l0 16 (if (hI h27 l0 16) < (hI h27 a29 (ix s0)) then (hI h27 a29 (ix s0)) else (hI h27 l0 16))) fun h32 =>
  f_X8_look_148 N N l0 (0 : Int32) h32
def f_X8_look_39 (N : Nat) (l0 : Nat) (l1 : Int32) (l2 : Int32) (l3 : Int32) (h : PH) : Option (Unit × PH) :=
  if l3 = (-1 : Int32) then
    f_X8_look_50 N (6 : Int32) l0 l1 l2 h
  else
    f_X8_look_50 N l3 l0 l1 l2 h
def f_X8_look (N : Nat) (l0 : Nat) (l1 : Int32) (l2 : Int32) (h : PH) : Option (Unit × PH) :=
  ck (hK h l0 = 8) <|
  rq (hR h l0 7) fun a2 =>
  ck (hK h a2 = 6) <|
  cl (f_X6_signOf N a2 l1 l2 h) fun r3 h4 =>
  ck (hK h4 l0 = 8) <|
  if (hI h4 l0 9) = 0 then
    f_X8_look_39 N l0 l1 l2 r3 h4
  else
    rq (hR h4 l0 8) fun a8 =>
    rq (hR h4 l0 7) fun a9 =>
    ck (hK h4 a8 = 2) <|
    cl (f_X2_agrees N a8 a9 (hI h4 l0 10) l1 l2 r3 h4) fun r10 h11 =>
    if r10 = 0 then
      some ((), h11)
    else
      f_X8_look_39 N l0 l1 l2 r3 h11
/-! X8_choose -/
def f_X8_choose_113 (R_X8_choose : Nat → Int32 → Int32 → Int32 → PH → Option (Unit × PH)) (N : Nat) (K_30 : Nat → Int32 → Int32 → Int32 → Int32 → PH → Option (Unit × PH)) (l0 : Nat) (l1 : Int32) (l2 : Int32) (l3 : Int32) (l4 : Int32) (h : PH) : Option (Unit × PH) :=
  bd (l4 + (1 : Int32)) fun v1 =>
  K_30 l0 l1 l2 l3 v1 h
def f_X8_choose_30_b (R_X8_choose : Nat → Int32 → Int32 → Int32 → PH → Option (Unit × PH)) (N : Nat) (K_30 : Nat → Int32 → Int32 → Int32 → Int32 → PH → Option (Unit × PH)) (l0 : Nat) (l1 : Int32) (l2 : Int32) (l3 : Int32) (l4 : Int32) (h : PH) : Option (Unit × PH) :=
  ck (hK h l0 = 8) <|
  rq (hR h l0 7) fun a2 =>
  ck (hK h a2 = 6) <|
  rq (hR h a2 0) fun a4 =>
  ck (hK h a4 = 12) <|
  ck (0 < hN h a4) <|
  if (hI h a4 0) < l4 then
    some ((), h)
  else
    rq (hR h l0 1) fun a8 =>
    ck (hK h a8 = 12) <|
    ck (inb l1 (hN h a8)) <|
    if (((hI h a8 (ix l1)) >>> (l4 &&& 31)) &&& (1 : Int32)) = 0 then
      f_X8_choose_113 R_X8_choose N K_30 l0 l1 l2 l3 l4 h
    else
      rq (hR h l0 2) fun a12 =>
      ck (hK h a12 = 12) <|
      ck (inb l1 (hN h a12)) <|
      bd (sI h a12 (ix l1) l4) fun h15 =>
      ck (hK h15 l0 = 8) <|
      rq (hR h15 l0 7) fun a17 =>
      ck (hK h15 a17 = 6) <|
      cl (f_X6_fresh N a17 l4 (hI h15 l0 12) (0 : Int32) h15) fun r18 h19 =>
      ck (hK h19 l0 = 8) <|
      rq (hR h19 l0 7) fun a22 =>
      ck (hK h19 a22 = 6) <|
      cl (f_X6_fresh N a22 l4 (hI h19 l0 12) (1 : Int32) h19) fun r23 h24 =>
      ck (hK h24 l0 = 8) <|
      cl (R_X8_choose l0 (l1 + (1 : Int32)) (l2 + r18) (l3 + r23) h24) fun r26 h27 =>
      f_X8_choose_113 R_X8_choose N K_30 l0 l1 l2 l3 l4 h27
def f_X8_choose_30 (R_X8_choose : Nat → Int32 → Int32 → Int32 → PH → Option (Unit × PH)) (N : Nat) : Nat → Nat → Int32 → Int32 → Int32 → Int32 → PH → Option (Unit × PH)
  | 0 => fun _ _ _ _ _ _ => none
  | n + 1 => fun l0 l1 l2 l3 l4 h => f_X8_choose_30_b R_X8_choose N (f_X8_choose_30 R_X8_choose N n) l0 l1 l2 l3 l4 h
def f_X8_choose_b (R_X8_choose : Nat → Int32 → Int32 → Int32 → PH → Option (Unit × PH)) (N : Nat) (l0 : Nat) (l1 : Int32) (l2 : Int32) (l3 : Int32) (h : PH) : Option (Unit × PH) :=
  ck (hK h l0 = 8) <|
  if l1 < (hI h l0 11) then
    f_X8_choose_30 R_X8_choose N N l0 l1 l2 l3 (0 : Int32) h
  else
    cl (f_X8_look N l0 (if (999 : Int32) < l2 then (999 : Int32) else l2) (if (999 : Int32) < l3 then (999 : Int32) else l3) h) fun r3 h4 =>
    some ((), h4)
def f_X8_choose : Nat → Nat → Nat → Int32 → Int32 → Int32 → PH → Option (Unit × PH)
  | 0 => fun _ _ _ _ _ _ => none
  | d + 1 => fun N z0 z1 z2 z3 h => f_X8_choose_b (f_X8_choose d N) N z0 z1 z2 z3 h
/-! X8_go -/
def f_X8_go_166 (N : Nat) (K_82 : Nat → Nat → Nat → Int32 → Int32 → Int32 → Int32 → PH → Option (Unit × PH)) (l0 : Nat) (l1 : Nat) (l2 : Nat) (l3 : Int32) (l4 : Int32) (l5 : Int32) (l6 : Int32) (h : PH) : Option (Unit × PH) :=
  bd (l6 + (1 : Int32)) fun v1 =>
  K_82 l0 l1 l2 l3 l4 l5 v1 h
def f_X8_go_155 (N : Nat) (K_82 : Nat → Nat → Nat → Int32 → Int32 → Int32 → Int32 → PH → Option (Unit × PH)) (s0 : Int32) (s1 : Int32) (s2 : Nat) (l0 : Nat) (l1 : Nat) (l2 : Nat) (l3 : Int32) (l4 : Int32) (l5 : Int32) (l6 : Int32) (h : PH) : Option (Unit × PH) :=
  ck (hK h s2 = 12) <|
  ck (inb s1 (hN h s2)) <|
  bd (sI h s2 (ix s1) s0) fun h3 =>
  ck (hK h3 l0 = 8) <|
  bd (sI h3 l0 11 ((hI h3 l0 11) + (1 : Int32))) fun h5 =>
  f_X8_go_166 N K_82 l0 l1 l2 l3 l4 l5 l6 h5
def f_X8_go_82_b (N : Nat) (K_82 : Nat → Nat → Nat → Int32 → Int32 → Int32 → Int32 → PH → Option (Unit × PH)) (l0 : Nat) (l1 : Nat) (l2 : Nat) (l3 : Int32) (l4 : Int32) (l5 : Int32) (l6 : Int32) (h : PH) : Option (Unit × PH) :=
  ck (hK h l1 = 6) <|
  rq (hR h l1 0) fun a2 =>
  ck (hK h a2 = 12) <|
  ck (2 < hN h a2) <|
  if (hI h a2 2) ≤ l6 then
    cl (f_X6_housesAt N l1 l3 h) fun r6 h7 =>
    ck (hK h7 l2 = 2) <|
    rq (hR h7 l2 0) fun a9 =>
    ck (hK h7 a9 = 4) <|
    cl (f_X4_smoke N a9 l1 r6 (0 : Int32) h7) fun r10 h11 =>
    ck (hK h11 l2 = 2) <|
    rq (hR h11 l2 0) fun a14 =>
    ck (hK h11 a14 = 4) <|
    cl (f_X4_smoke N a14 l1 r6 (1 : Int32) h11) fun r15 h16 =>
    ck (hK h16 l0 = 8) <|
    cl (f_X8_choose 40 N l0 (0 : Int32) r10 r15 h16) fun r18 h19 =>
    some ((), h19)
  else
    rq (hR h l1 5) fun a21 =>
    ck (hK h a21 = 12) <|
    ck (inb l6 (hN h a21)) <|
    if (hI h a21 (ix l6)) = l3 then
      ck (hK h l2 = 2) <|
      rq (hR h l2 0) fun a26 =>
      ck (hK h a26 = 4) <|
      cl (f_X4_burns N a26 l6 h) fun r27 h28 =>
      if r27 = 0 then
        ck (hK h28 l0 = 8) <|
        rq (hR h28 l0 0) fun a32 =>
        ck (hK h28 a32 = 12) <|
        ck (inb (hI h28 l0 11) (hN h28 a32)) <|
        bd (sI h28 a32 (ix (hI h28 l0 11)) l6) fun h35 =>
        ck (hK h35 l0 = 8) <|
        rq (hR h35 l0 1) fun a37 =>
        if l6 = l4 then
          f_X8_go_155 N K_82 ((1 : Int32) <<< (l5 &&& 31)) (hI h35 l0 11) a37 l0 l1 l2 l3 l4 l5 l6 h35
        else
          cl (f_X8_choicesOf N l0 l6 h35) fun r39 h40 =>
          f_X8_go_155 N K_82 r39 (hI h35 l0 11) a37 l0 l1 l2 l3 l4 l5 l6 h40
      else
        f_X8_go_166 N K_82 l0 l1 l2 l3 l4 l5 l6 h28
    else
      f_X8_go_166 N K_82 l0 l1 l2 l3 l4 l5 l6 h
def f_X8_go_82 (N : Nat) : Nat → Nat → Nat → Nat → Int32 → Int32 → Int32 → Int32 → PH → Option (Unit × PH)
  | 0 => fun _ _ _ _ _ _ _ _ => none
  | n + 1 => fun l0 l1 l2 l3 l4 l5 l6 h => f_X8_go_82_b N (f_X8_go_82 N n) l0 l1 l2 l3 l4 l5 l6 h
def f_X8_go (N : Nat) (l0 : Nat) (l1 : Nat) (l2 : Nat) (l3 : Int32) (l4 : Int32) (l5 : Int32) (h : PH) : Option (Unit × PH) :=
  ck (hK h l0 = 8) <|
  bd (sR h l0 7 (some l1)) fun h2 =>
  ck (hK h2 l0 = 8) <|
  bd (sR h2 l0 8 (some l2)) fun h4 =>
  ck (hK h4 l0 = 8) <|
  bd (sI h4 l0 10 l3) fun h6 =>
  ck (hK h6 l2 = 2) <|
  rq (hR h6 l2 0) fun a8 =>
  ck (hK h6 a8 = 4) <|
  ck (hK h6 l1 = 6) <|
  cl (f_X6_windAt N l1 (hI h6 a8 0) h6) fun r10 h11 =>
  ck (hK h11 l0 = 8) <|
  bd (sI h11 l0 12 r10) fun h14 =>
  ck (hK h14 l0 = 8) <|
  bd (sI h14 l0 13 (0 : Int32)) fun h16 =>
  ck (hK h16 l0 = 8) <|
  bd (sI h16 l0 14 (0 : Int32)) fun h18 =>
  ck (hK h18 l0 = 8) <|
  bd (sI h18 l0 15 (0 : Int32)) fun h20 =>
  ck (hK h20 l0 = 8) <|
  bd (sI h20 l0 16 (0 : Int32)) fun h22 =>
  ck (hK h22 l0 = 8) <|
  rq (hR h22 l0 4) fun a24 =>
  cl (f_J7_fill_53178 N a24 (0 : Int32) h22) fun r25 h26 =>
  ck (hK h26 l0 = 8) <|
  rq (hR h26 l0 5) fun a28 =>
  cl (f_J7_fill_53178 N a28 (0 : Int32) h26) fun r29 h30 =>
  ck (hK h30 l0 = 8) <|
  rq (hR h30 l0 6) fun a32 =>
  cl (f_J7_fill_53178 N a32 (0 : Int32) h30) fun r33 h34 =>
  ck (hK h34 l0 = 8) <|
  bd (sI h34 l0 11 (0 : Int32)) fun h36 =>
  f_X8_go_82 N N l0 l1 l2 l3 l4 l5 (0 : Int32) h36
/-! X8_besides -/
def f_X8_besides (N : Nat) (l0 : Nat) (l1 : Nat) (l2 : Nat) (l3 : Int32) (l4 : Int32) (h : PH) : Option (Unit × PH) :=
  ck (hK h l0 = 8) <|
  bd (sI h l0 9 (0 : Int32)) fun h2 =>
  ck (hK h2 l1 = 6) <|
  rq (hR h2 l1 5) fun a4 =>
  ck (hK h2 a4 = 12) <|
  ck (inb l3 (hN h2 a4)) <|
  ck (hK h2 l0 = 8) <|
  cl (f_X8_go N l0 l1 l2 (hI h2 a4 (ix l3)) l3 l4 h2) fun r7 h8 =>
  some ((), h8)
/-! X10_sure -/
def f_X10_sure_76 (N : Nat) (K_16 : Nat → Int32 → Int32 → Int32 → PH → Option (Int32 × PH)) (l0 : Nat) (l1 : Int32) (l2 : Int32) (l3 : Int32) (h : PH) : Option (Int32 × PH) :=
  bd (l3 + (1 : Int32)) fun v1 =>
  K_16 l0 l1 l2 v1 h
def f_X10_sure_16_b (N : Nat) (K_16 : Nat → Int32 → Int32 → Int32 → PH → Option (Int32 × PH)) (l0 : Nat) (l1 : Int32) (l2 : Int32) (l3 : Int32) (h : PH) : Option (Int32 × PH) :=
  ck (hK h l0 = 9) <|
  rq (hR h l0 10) fun a2 =>
  ck (hK h a2 = 6) <|
  rq (hR h a2 0) fun a4 =>
  ck (hK h a4 = 12) <|
  ck (0 < hN h a4) <|
  if (hI h a4 0) ≤ l3 then
    some ((-1 : Int32), h)
  else
    cl (f_X10_canBurn N l0 l1 l3 h) fun r8 h9 =>
    if r8 = 0 then
      f_X10_sure_76 N K_16 l0 l1 l2 l3 h9
    else
      ck (hK h9 l0 = 9) <|
      rq (hR h9 l0 6) fun a12 =>
      rq (hR h9 l0 10) fun a13 =>
      rq (hR h9 l0 1) fun a14 =>
      ck (hK h9 a12 = 8) <|
      cl (f_X8_besides N a12 a13 a14 l1 l3 h9) fun r15 h16 =>
      ck (hK h16 l0 = 9) <|
      rq (hR h16 l0 6) fun a19 =>
      ck (hK h16 a19 = 8) <|
      rq (hR h16 a19 6) fun a21 =>
      ck (hK h16 a21 = 12) <|
      ck (inb l2 (hN h16 a21)) <|
      rq (hR h16 l0 6) fun a24 =>
      ck (hK h16 a24 = 8) <|
      if (hI h16 a21 (ix l2)) = (hI h16 a24 13) then
        some (l3, h16)
      else
        f_X10_sure_76 N K_16 l0 l1 l2 l3 h16
def f_X10_sure_16 (N : Nat) : Nat → Nat → Int32 → Int32 → Int32 → PH → Option (Int32 × PH)
  | 0 => fun _ _ _ _ _ => none
  | n + 1 => fun l0 l1 l2 l3 h => f_X10_sure_16_b N (f_X10_sure_16 N n) l0 l1 l2 l3 h
def f_X10_sure (N : Nat) (l0 : Nat) (l1 : Int32) (l2 : Int32) (h : PH) : Option (Int32 × PH) :=
  ck (hK h l0 = 9) <|
  rq (hR h l0 10) fun a2 =>
  ck (hK h a2 = 6) <|
  cl (f_X6_has N a2 (3 : Int32) l2 h) fun r3 h4 =>
  if r3 = 0 then
    some ((-1 : Int32), h4)
  else
    f_X10_sure_16 N N l0 l1 l2 (0 : Int32) h4
/-! X10_hope -/
def f_X10_hope (N : Nat) (l0 : Nat) (l1 : Int32) (l2 : Int32) (l3 : Int32) (h : PH) : Option (Int32 × PH) :=
  ck (hK h l0 = 9) <|
  rq (hR h l0 10) fun a2 =>
  ck (hK h a2 = 6) <|
  cl (f_X6_has N a2 (3 : Int32) l3 h) fun r3 h4 =>
  if r3 = 0 then
    some ((-1 : Int32), h4)
  else
    ck (hK h4 l0 = 9) <|
    cl (f_X10_canBurn N l0 l1 l2 h4) fun r7 h8 =>
    if r7 = 0 then
      some ((-1 : Int32), h8)
    else
      ck (hK h8 l0 = 9) <|
      rq (hR h8 l0 6) fun a12 =>
      rq (hR h8 l0 10) fun a13 =>
      rq (hR h8 l0 1) fun a14 =>
      ck (hK h8 a12 = 8) <|
      cl (f_X8_besides N a12 a13 a14 l1 l2 h8) fun r15 h16 =>
      ck (hK h16 l0 = 9) <|
      rq (hR h16 l0 6) fun a19 =>
      ck (hK h16 a19 = 8) <|
      if (hI h16 a19 13) ≤ 0 then
        some ((-1 : Int32), h16)
      else
        rq (hR h16 l0 6) fun a22 =>
        ck (hK h16 a22 = 8) <|
        rq (hR h16 a22 6) fun a24 =>
        ck (hK h16 a24 = 12) <|
        ck (inb l3 (hN h16 a24)) <|
        rq (hR h16 l0 6) fun a27 =>
        ck (hK h16 a27 = 8) <|
        ck (¬ (hI h16 a27 13) = 0) <|
        some ((((hI h16 a24 (ix l3)) * (1000000 : Int32)) / (hI h16 a27 13)), h16)
/-! X2_addRead -/
def f_X2_addRead (N : Nat) (l0 : Nat) (l1 : Int32) (l2 : Int32) (l3 : Int32) (h : PH) : Option (Int32 × PH) :=
  ck (hK h l0 = 2) <|
  if (hI h l0 5) < (8 : Int32) then
    rq (hR h l0 2) fun a3 =>
    ck (hK h a3 = 12) <|
    ck (inb (hI h l0 5) (hN h a3)) <|
    bd (sI h a3 (ix (hI h l0 5)) l1) fun h6 =>
    ck (hK h6 l0 = 2) <|
    rq (hR h6 l0 3) fun a8 =>
    ck (hK h6 a8 = 12) <|
    ck (inb (hI h6 l0 5) (hN h6 a8)) <|
    bd (sI h6 a8 (ix (hI h6 l0 5)) l2) fun h11 =>
    ck (hK h11 l0 = 2) <|
    rq (hR h11 l0 4) fun a13 =>
    ck (hK h11 a13 = 12) <|
    ck (inb (hI h11 l0 5) (hN h11 a13)) <|
    bd (sI h11 a13 (ix (hI h11 l0 5)) l3) fun h16 =>
    ck (hK h16 l0 = 2) <|
    bd (sI h16 l0 5 ((hI h16 l0 5) + (1 : Int32))) fun h18 =>
    some ((1 : Int32), h18)
  else
    some ((0 : Int32), h)
/-! X10_read -/
def f_X10_read (N : Nat) (l0 : Nat) (l1 : Int32) (l2 : Int32) (l3 : Int32) (h : PH) : Option (Int32 × PH) :=
  ck (hK h l0 = 9) <|
  rq (hR h l0 10) fun a2 =>
  ck (hK h a2 = 6) <|
  cl (f_X6_has N a2 (4 : Int32) l1 h) fun r3 h4 =>
  if r3 = 0 then
    some ((0 : Int32), h4)
  else
    ck (hK h4 l0 = 9) <|
    rq (hR h4 l0 10) fun a8 =>
    ck (hK h4 a8 = 6) <|
    cl (f_X6_has N a8 (1 : Int32) l2 h4) fun r9 h10 =>
    if r9 = 0 then
      some ((0 : Int32), h10)
    else
      ck (hK h10 l0 = 9) <|
      cl (f_X10_isSignOrNone N l0 l3 h10) fun r13 h14 =>
      if r13 = 0 then
        some ((0 : Int32), h14)
      else
        ck (hK h14 l0 = 9) <|
        rq (hR h14 l0 1) fun a18 =>
        ck (hK h14 a18 = 2) <|
        cl (f_X2_addRead N a18 l1 l2 l3 h14) fun r19 h20 =>
        ck (r19 = 0 ∨ r19 = 1) <|
        some (r19, h20)
/-! X8_byRead -/
def f_X8_byRead (N : Nat) (l0 : Nat) (l1 : Nat) (l2 : Nat) (l3 : Int32) (h : PH) : Option (Unit × PH) :=
  ck (hK h l0 = 8) <|
  bd (sI h l0 9 (1 : Int32)) fun h2 =>
  ck (hK h2 l0 = 8) <|
  cl (f_X8_go N l0 l1 l2 l3 (-1 : Int32) (-1 : Int32) h2) fun r3 h4 =>
  some ((), h4)
/-! X8_sameOf -/
def f_X8_sameOf_34 (N : Nat) (K_2 : Nat → Int32 → Int32 → PH → Option (Int32 × PH)) (l0 : Nat) (l1 : Int32) (l2 : Int32) (h : PH) : Option (Int32 × PH) :=
  bd (l2 + (1 : Int32)) fun v1 =>
  K_2 l0 l1 v1 h
def f_X8_sameOf_2_b (N : Nat) (K_2 : Nat → Int32 → Int32 → PH → Option (Int32 × PH)) (l0 : Nat) (l1 : Int32) (l2 : Int32) (h : PH) : Option (Int32 × PH) :=
  ck (hK h l0 = 8) <|
  if (hI h l0 11) ≤ l2 then
    some ((-1 : Int32), h)
  else
    rq (hR h l0 0) fun a3 =>
    ck (hK h a3 = 12) <|
    ck (inb l2 (hN h a3)) <|
    if (hI h a3 (ix l2)) = l1 then
      if (hI h l0 13) ≤ 0 then
        f_X8_sameOf_34 N K_2 l0 l1 l2 h
      else
        rq (hR h l0 3) fun a8 =>
        ck (hK h a8 = 12) <|
        ck (inb l2 (hN h a8)) <|
        some ((hI h a8 (ix l2)), h)
    else
      f_X8_sameOf_34 N K_2 l0 l1 l2 h
def f_X8_sameOf_2 (N : Nat) : Nat → Nat → Int32 → Int32 → PH → Option (Int32 × PH)
  | 0 => fun _ _ _ _ => none
  | n + 1 => fun l0 l1 l2 h => f_X8_sameOf_2_b N (f_X8_sameOf_2 N n) l0 l1 l2 h
def f_X8_sameOf (N : Nat) (l0 : Nat) (l1 : Int32) (h : PH) : Option (Int32 × PH) :=
  f_X8_sameOf_2 N N l0 l1 (0 : Int32) h
/-! X10_ways -/
def f_X10_ways_110 (N : Nat) (K_41 : Nat → Int32 → Int32 → Int32 → Int32 → PH → Option (Int32 × PH)) (l0 : Nat) (l1 : Int32) (l2 : Int32) (l3 : Int32) (l4 : Int32) (h : PH) : Option (Int32 × PH) :=
  bd (l4 + (1 : Int32)) fun v1 =>
  K_41 l0 l1 l2 l3 v1 h
def f_X10_ways_41_b (N : Nat) (K_41 : Nat → Int32 → Int32 → Int32 → Int32 → PH → Option (Int32 × PH)) (l0 : Nat) (l1 : Int32) (l2 : Int32) (l3 : Int32) (l4 : Int32) (h : PH) : Option (Int32 × PH) :=
  ck (hK h l0 = 9) <|
  rq (hR h l0 10) fun a2 =>
  ck (hK h a2 = 6) <|
  rq (hR h a2 0) fun a4 =>
  ck (hK h a4 = 12) <|
  ck (1 < hN h a4) <|
  if (hI h a4 1) ≤ l4 then
    if l1 = (-1 : Int32) then
      some (l2, h)
    else
      if l2 = 0 then
        some ((-1 : Int32), h)
      else
        some (l3, h)
  else
    rq (hR h l0 6) fun a10 =>
    rq (hR h l0 10) fun a11 =>
    rq (hR h l0 1) fun a12 =>
    ck (hK h a10 = 8) <|
    cl (f_X8_byRead N a10 a11 a12 l4 h) fun r13 h14 =>
    ck (hK h14 l0 = 9) <|
    rq (hR h14 l0 6) fun a17 =>
    ck (hK h14 a17 = 8) <|
    bd ((l2 * (hI h14 a17 13))) fun v19 =>
    if l1 = (-1 : Int32) then
      f_X10_ways_110 N K_41 l0 l1 v19 l3 l4 h14
    else
      rq (hR h14 l0 10) fun a21 =>
      ck (hK h14 a21 = 6) <|
      rq (hR h14 a21 5) fun a23 =>
      ck (hK h14 a23 = 12) <|
      ck (inb l1 (hN h14 a23)) <|
      if (hI h14 a23 (ix l1)) = l4 then
        rq (hR h14 l0 6) fun a27 =>
        ck (hK h14 a27 = 8) <|
        cl (f_X8_sameOf N a27 l1 h14) fun r28 h29 =>
        f_X10_ways_110 N K_41 l0 l1 v19 r28 l4 h29
      else
        f_X10_ways_110 N K_41 l0 l1 v19 l3 l4 h14
def f_X10_ways_41 (N : Nat) : Nat → Nat → Int32 → Int32 → Int32 → Int32 → PH → Option (Int32 × PH)
  | 0 => fun _ _ _ _ _ _ => none
  | n + 1 => fun l0 l1 l2 l3 l4 h => f_X10_ways_41_b N (f_X10_ways_41 N n) l0 l1 l2 l3 l4 h
def f_X10_ways_34 (N : Nat) (l0 : Nat) (l1 : Int32) (h : PH) : Option (Int32 × PH) :=
  f_X10_ways_41 N N l0 l1 (1 : Int32) (-1 : Int32) (0 : Int32) h
def f_X10_ways (N : Nat) (l0 : Nat) (l1 : Int32) (h : PH) : Option (Int32 × PH) :=
  if l1 = (-1 : Int32) then
    f_X10_ways_34 N l0 l1 h
  else
    ck (hK h l0 = 9) <|
    rq (hR h l0 10) fun a3 =>
    ck (hK h a3 = 6) <|
    cl (f_X6_has N a3 (2 : Int32) l1 h) fun r4 h5 =>
    if r4 = 0 then
      some ((-2 : Int32), h5)
    else
      ck (hK h5 l0 = 9) <|
      rq (hR h5 l0 1) fun a9 =>
      ck (hK h5 a9 = 2) <|
      rq (hR h5 a9 0) fun a11 =>
      ck (hK h5 a11 = 4) <|
      cl (f_X4_burns N a11 l1 h5) fun r12 h13 =>
      if r12 = 0 then
        f_X10_ways_34 N l0 l1 h13
      else
        some ((-2 : Int32), h13)
/-! X10_ask -/
def f_X10_ask_214 (N : Nat) (K_123 : Nat → Int32 → Int32 → Int32 → Int32 → Int32 → PH → Option (Int32 × PH)) (K_140 : Nat → Int32 → Int32 → Int32 → Int32 → Int32 → Int32 → PH → Option (Int32 × PH)) (l0 : Nat) (l1 : Int32) (l2 : Int32) (l3 : Int32) (l4 : Int32) (l5 : Int32) (l6 : Int32) (h : PH) : Option (Int32 × PH) :=
  bd (l6 + (1 : Int32)) fun v1 =>
  K_140 l0 l1 l2 l3 l4 l5 v1 h
def f_X10_ask_169 (N : Nat) (K_123 : Nat → Int32 → Int32 → Int32 → Int32 → Int32 → PH → Option (Int32 × PH)) (K_140 : Nat → Int32 → Int32 → Int32 → Int32 → Int32 → Int32 → PH → Option (Int32 × PH)) (s0 : Int32) (l0 : Nat) (l1 : Int32) (l2 : Int32) (l3 : Int32) (l4 : Int32) (l5 : Int32) (l6 : Int32) (h : PH) : Option (Int32 × PH) :=
  ck (hK h l0 = 9) <|
  rq (hR h l0 9) fun a2 =>
  rq (hR h l0 10) fun a3 =>
  ck (hK h a3 = 6) <|
  rq (hR h a3 9) fun a5 =>
  ck (hK h a5 = 12) <|
  ck (inb l5 (hN h a5)) <|
  ck (hK h a2 = 12) <|
  ck (inb ((l6 * (3 : Int32)) + (hI h a5 (ix l5))) (hN h a2)) <|
  bd (((hI h a2 (ix ((l6 * (3 : Int32)) + (hI h a5 (ix l5))))) * s0)) fun v10 =>
  if l3 ≤ v10 then
    f_X10_ask_214 N K_123 K_140 l0 l1 l2 l3 l4 l5 l6 h
  else
    bd (((l5 * (3 : Int32)) + l6)) fun v12 =>
    f_X10_ask_214 N K_123 K_140 l0 l1 l2 v10 v12 l5 l6 h
def f_X10_ask_140_b (N : Nat) (K_123 : Nat → Int32 → Int32 → Int32 → Int32 → Int32 → PH → Option (Int32 × PH)) (K_140 : Nat → Int32 → Int32 → Int32 → Int32 → Int32 → Int32 → PH → Option (Int32 × PH)) (l0 : Nat) (l1 : Int32) (l2 : Int32) (l3 : Int32) (l4 : Int32) (l5 : Int32) (l6 : Int32) (h : PH) : Option (Int32 × PH) :=
  if l1 ≤ l6 then
    bd (l5 + (1 : Int32)) fun v2 =>
    K_123 l0 l1 l2 l3 l4 v2 h
  else
    ck (hK h l0 = 9) <|
    rq (hR h l0 8) fun a4 =>
    ck (hK h a4 = 12) <|
    ck (inb l6 (hN h a4)) <|
    if (hI h a4 (ix l6)) ≤ 0 then
      f_X10_ask_169 N K_123 K_140 (0 : Int32) l0 l1 l2 l3 l4 l5 l6 h
    else
      rq (hR h l0 8) fun a8 =>
      ck (hK h a8 = 12) <|
      ck (inb l6 (hN h a8)) <|
      ck (¬ (hI h a8 (ix l6)) = 0) <|
      f_X10_ask_169 N K_123 K_140 (l2 / (hI h a8 (ix l6))) l0 l1 l2 l3 l4 l5 l6 h
def f_X10_ask_140 (N : Nat) (K_123 : Nat → Int32 → Int32 → Int32 → Int32 → Int32 → PH → Option (Int32 × PH)) : Nat → Nat → Int32 → Int32 → Int32 → Int32 → Int32 → Int32 → PH → Option (Int32 × PH)
  | 0 => fun _ _ _ _ _ _ _ _ => none
  | n + 1 => fun l0 l1 l2 l3 l4 l5 l6 h => f_X10_ask_140_b N K_123 (f_X10_ask_140 N K_123 n) l0 l1 l2 l3 l4 l5 l6 h
def f_X10_ask_123_b (N : Nat) (K_123 : Nat → Int32 → Int32 → Int32 → Int32 → Int32 → PH → Option (Int32 × PH)) (l0 : Nat) (l1 : Int32) (l2 : Int32) (l3 : Int32) (l4 : Int32) (l5 : Int32) (h : PH) : Option (Int32 × PH) :=
  ck (hK h l0 = 9) <|
  rq (hR h l0 10) fun a2 =>
  ck (hK h a2 = 6) <|
  rq (hR h a2 0) fun a4 =>
  ck (hK h a4 = 12) <|
  ck (4 < hN h a4) <|
  if (hI h a4 4) ≤ l5 then
    some (l4, h)
  else
    f_X10_ask_140 N K_123 N l0 l1 l2 l3 l4 l5 (0 : Int32) h
def f_X10_ask_123 (N : Nat) : Nat → Nat → Int32 → Int32 → Int32 → Int32 → Int32 → PH → Option (Int32 × PH)
  | 0 => fun _ _ _ _ _ _ _ => none
  | n + 1 => fun l0 l1 l2 l3 l4 l5 h => f_X10_ask_123_b N (f_X10_ask_123 N n) l0 l1 l2 l3 l4 l5 h
def f_X10_ask_14_b (N : Nat) (K_14 : Nat → Int32 → Int32 → Int32 → PH → Option (Int32 × PH)) (l0 : Nat) (l1 : Int32) (l2 : Int32) (l3 : Int32) (h : PH) : Option (Int32 × PH) :=
  if l1 ≤ l3 then
    f_X10_ask_123 N N l0 l1 l2 l2 (-1 : Int32) (0 : Int32) h
  else
    ck (hK h l0 = 9) <|
    rq (hR h l0 6) fun a3 =>
    rq (hR h l0 10) fun a4 =>
    rq (hR h l0 1) fun a5 =>
    ck (hK h a3 = 8) <|
    cl (f_X8_byRead N a3 a4 a5 l3 h) fun r6 h7 =>
    ck (hK h7 l0 = 9) <|
    rq (hR h7 l0 8) fun a10 =>
    rq (hR h7 l0 6) fun a11 =>
    ck (hK h7 a11 = 8) <|
    ck (hK h7 a10 = 12) <|
    ck (inb l3 (hN h7 a10)) <|
    bd (sI h7 a10 (ix l3) (hI h7 a11 13)) fun h15 =>
    ck (hK h15 l0 = 9) <|
    rq (hR h15 l0 9) fun a17 =>
    rq (hR h15 l0 6) fun a18 =>
    ck (hK h15 a18 = 8) <|
    ck (hK h15 a17 = 12) <|
    ck (inb ((l3 * (3 : Int32)) + (0 : Int32)) (hN h15 a17)) <|
    bd (sI h15 a17 (ix ((l3 * (3 : Int32)) + (0 : Int32))) (hI h15 a18 14)) fun h22 =>
    ck (hK h22 l0 = 9) <|
    rq (hR h22 l0 9) fun a24 =>
    rq (hR h22 l0 6) fun a25 =>
    ck (hK h22 a25 = 8) <|
    ck (hK h22 a24 = 12) <|
    ck (inb ((l3 * (3 : Int32)) + (1 : Int32)) (hN h22 a24)) <|
    bd (sI h22 a24 (ix ((l3 * (3 : Int32)) + (1 : Int32))) (hI h22 a25 15)) fun h29 =>
    ck (hK h29 l0 = 9) <|
    rq (hR h29 l0 9) fun a31 =>
    rq (hR h29 l0 6) fun a32 =>
    ck (hK h29 a32 = 8) <|
    ck (hK h29 a31 = 12) <|
    ck (inb ((l3 * (3 : Int32)) + (2 : Int32)) (hN h29 a31)) <|
    bd (sI h29 a31 (ix ((l3 * (3 : Int32)) + (2 : Int32))) (hI h29 a32 16)) fun h36 =>
    ck (hK h36 l0 = 9) <|
    rq (hR h36 l0 6) fun a38 =>
    ck (hK h36 a38 = 8) <|
    bd ((l2 * (hI h36 a38 13))) fun v40 =>
    bd (l3 + (1 : Int32)) fun v41 =>
    K_14 l0 l1 v40 v41 h36
def f_X10_ask_14 (N : Nat) : Nat → Nat → Int32 → Int32 → Int32 → PH → Option (Int32 × PH)
  | 0 => fun _ _ _ _ _ => none
  | n + 1 => fun l0 l1 l2 l3 h => f_X10_ask_14_b N (f_X10_ask_14 N n) l0 l1 l2 l3 h
def f_X10_ask (N : Nat) (l0 : Nat) (h : PH) : Option (Int32 × PH) :=
  ck (hK h l0 = 9) <|
  rq (hR h l0 10) fun a2 =>
  ck (hK h a2 = 6) <|
  rq (hR h a2 0) fun a4 =>
  ck (hK h a4 = 12) <|
  ck (1 < hN h a4) <|
  bd ((hI h a4 1)) fun v7 =>
  f_X10_ask_14 N N l0 v7 (1 : Int32) (0 : Int32) h
/-! X6_overlap -/
def f_X6_overlap (N : Nat) (l0 : Nat) (l1 : Int32) (l2 : Int32) (l3 : Int32) (h : PH) : Option (Int32 × PH) :=
  bd (((l1 * (4 : Int32)) + (l3 * (2 : Int32)))) fun v1 =>
  bd (((l2 * (4 : Int32)) + (l3 * (2 : Int32)))) fun v2 =>
  ck (hK h l0 = 6) <|
  rq (hR h l0 8) fun a4 =>
  ck (hK h a4 = 12) <|
  ck (inb v1 (hN h a4)) <|
  rq (hR h l0 8) fun a7 =>
  ck (hK h a7 = 12) <|
  ck (inb (v2 + (1 : Int32)) (hN h a7)) <|
  if (hI h a7 (ix (v2 + (1 : Int32)))) < (hI h a4 (ix v1)) then
    some ((0 : Int32), h)
  else
    rq (hR h l0 8) fun a11 =>
    ck (hK h a11 = 12) <|
    ck (inb v2 (hN h a11)) <|
    rq (hR h l0 8) fun a14 =>
    ck (hK h a14 = 12) <|
    ck (inb (v1 + (1 : Int32)) (hN h a14)) <|
    if (hI h a14 (ix (v1 + (1 : Int32)))) < (hI h a11 (ix v2)) then
      some ((0 : Int32), h)
    else
      some ((1 : Int32), h)
/-! X10_blur -/
def f_X10_blur_115 (N : Nat) (K_60 : Nat → Int32 → Int32 → Int32 → Int32 → PH → Option (Int32 × PH)) (l0 : Nat) (l3 : Int32) (l4 : Int32) (l5 : Int32) (l6 : Int32) (h : PH) : Option (Int32 × PH) :=
  bd (l6 + (1 : Int32)) fun v1 =>
  K_60 l0 l3 l4 l5 v1 h
def f_X10_blur_106 (N : Nat) (K_60 : Nat → Int32 → Int32 → Int32 → Int32 → PH → Option (Int32 × PH)) (l0 : Nat) (l3 : Int32) (l4 : Int32) (l5 : Int32) (l6 : Int32) (h : PH) : Option (Int32 × PH) :=
  bd ((l5 ||| ((1 : Int32) <<< (l6 &&& 31)))) fun v1 =>
  f_X10_blur_115 N K_60 l0 l3 l4 v1 l6 h
def f_X10_blur_96 (N : Nat) (K_60 : Nat → Int32 → Int32 → Int32 → Int32 → PH → Option (Int32 × PH)) (l0 : Nat) (l3 : Int32) (l4 : Int32) (l5 : Int32) (l6 : Int32) (l7 : Int32) (h : PH) : Option (Int32 × PH) :=
  if l4 = 0 then
    if l7 = 0 then
      f_X10_blur_106 N K_60 l0 l3 l4 l5 l6 h
    else
      f_X10_blur_115 N K_60 l0 l3 l4 l5 l6 h
  else
    f_X10_blur_106 N K_60 l0 l3 l4 l5 l6 h
def f_X10_blur_60_b (N : Nat) (K_60 : Nat → Int32 → Int32 → Int32 → Int32 → PH → Option (Int32 × PH)) (l0 : Nat) (l3 : Int32) (l4 : Int32) (l5 : Int32) (l6 : Int32) (h : PH) : Option (Int32 × PH) :=
  ck (hK h l0 = 9) <|
  rq (hR h l0 10) fun a2 =>
  ck (hK h a2 = 6) <|
  rq (hR h a2 0) fun a4 =>
  ck (hK h a4 = 12) <|
  ck (4 < hN h a4) <|
  if (hI h a4 4) ≤ l6 then
    some (l5, h)
  else
    rq (hR h l0 10) fun a8 =>
    ck (hK h a8 = 6) <|
    rq (hR h a8 9) fun a10 =>
    ck (hK h a10 = 12) <|
    ck (inb l6 (hN h a10)) <|
    bd ((hI h a10 (ix l6))) fun v13 =>
    if l3 = 0 then
      if v13 = (1 : Int32) then
        f_X10_blur_96 N K_60 l0 l3 l4 l5 l6 v13 h
      else
        f_X10_blur_115 N K_60 l0 l3 l4 l5 l6 h
    else
      f_X10_blur_96 N K_60 l0 l3 l4 l5 l6 v13 h
def f_X10_blur_60 (N : Nat) : Nat → Nat → Int32 → Int32 → Int32 → Int32 → PH → Option (Int32 × PH)
  | 0 => fun _ _ _ _ _ _ => none
  | n + 1 => fun l0 l3 l4 l5 l6 h => f_X10_blur_60_b N (f_X10_blur_60 N n) l0 l3 l4 l5 l6 h
def f_X10_blur (N : Nat) (l0 : Nat) (l1 : Int32) (l2 : Int32) (h : PH) : Option (Int32 × PH) :=
  ck (hK h l0 = 9) <|
  rq (hR h l0 10) fun a2 =>
  ck (hK h a2 = 6) <|
  cl (f_X6_has N a2 (3 : Int32) l1 h) fun r3 h4 =>
  if r3 = 0 then
    some ((-1 : Int32), h4)
  else
    ck (hK h4 l0 = 9) <|
    rq (hR h4 l0 10) fun a8 =>
    ck (hK h4 a8 = 6) <|
    cl (f_X6_has N a8 (3 : Int32) l2 h4) fun r9 h10 =>
    if r9 = 0 then
      some ((-1 : Int32), h10)
    else
      if l1 = l2 then
        some ((-1 : Int32), h10)
      else
        ck (hK h10 l0 = 9) <|
        rq (hR h10 l0 10) fun a15 =>
        ck (hK h10 a15 = 6) <|
        cl (f_X6_overlap N a15 l1 l2 (0 : Int32) h10) fun r16 h17 =>
        ck (hK h17 l0 = 9) <|
        rq (hR h17 l0 10) fun a20 =>
        ck (hK h17 a20 = 6) <|
        cl (f_X6_overlap N a20 l1 l2 (1 : Int32) h17) fun r21 h22 =>
        f_X10_blur_60 N N l0 r16 r21 (0 : Int32) (0 : Int32) h22
/-! X4_fires -/
def f_X4_fires_23 (N : Nat) (K_4 : Nat → Int32 → Int32 → PH → Option (Int32 × PH)) (l0 : Nat) (l1 : Int32) (l2 : Int32) (h : PH) : Option (Int32 × PH) :=
  bd (l2 + (1 : Int32)) fun v1 =>
  K_4 l0 l1 v1 h
def f_X4_fires_4_b (N : Nat) (K_4 : Nat → Int32 → Int32 → PH → Option (Int32 × PH)) (l0 : Nat) (l1 : Int32) (l2 : Int32) (h : PH) : Option (Int32 × PH) :=
  if (4 : Int32) ≤ l2 then
    some (l1, h)
  else
    ck (hK h l0 = 4) <|
    cl (f_X4_burns N l0 l2 h) fun r2 h3 =>
    if r2 = 0 then
      f_X4_fires_23 N K_4 l0 l1 l2 h3
    else
      bd ((l1 ||| ((1 : Int32) <<< (l2 &&& 31)))) fun v6 =>
      f_X4_fires_23 N K_4 l0 v6 l2 h3
def f_X4_fires_4 (N : Nat) : Nat → Nat → Int32 → Int32 → PH → Option (Int32 × PH)
  | 0 => fun _ _ _ _ => none
  | n + 1 => fun l0 l1 l2 h => f_X4_fires_4_b N (f_X4_fires_4 N n) l0 l1 l2 h
def f_X4_fires (N : Nat) (l0 : Nat) (h : PH) : Option (Int32 × PH) :=
  f_X4_fires_4 N N l0 (0 : Int32) (0 : Int32) h
/-! J6_bitCount_0f7a4 -/
def f_J6_bitCount_0f7a4 (N : Nat) (l0 : Int32) (h : PH) : Option (Int32 × PH) :=
  bd ((l0 - ((g_iushr l0 (1 : Int32)) &&& (1431655765 : Int32)))) fun v1 =>
  bd (((v1 &&& (858993459 : Int32)) + ((g_iushr v1 (2 : Int32)) &&& (858993459 : Int32)))) fun v2 =>
  bd (((v2 + (g_iushr v2 (4 : Int32))) &&& (252645135 : Int32))) fun v3 =>
  bd ((v3 + (g_iushr v3 (8 : Int32)))) fun v4 =>
  bd ((v4 + (g_iushr v4 (16 : Int32)))) fun v5 =>
  some ((v5 &&& (63 : Int32)), h)
/-! X10_share -/
def f_X10_share_185 (N : Nat) (K_98 : Nat → Int32 → Int32 → Int32 → Int32 → Int32 → PH → Option (Int32 × PH)) (l0 : Nat) (l3 : Int32) (l4 : Int32) (l5 : Int32) (l6 : Int32) (l7 : Int32) (h : PH) : Option (Int32 × PH) :=
  bd (l7 + (1 : Int32)) fun v1 =>
  K_98 l0 l3 l4 l5 l6 v1 h
def f_X10_share_98_b (N : Nat) (K_98 : Nat → Int32 → Int32 → Int32 → Int32 → Int32 → PH → Option (Int32 × PH)) (l0 : Nat) (l3 : Int32) (l4 : Int32) (l5 : Int32) (l6 : Int32) (l7 : Int32) (h : PH) : Option (Int32 × PH) :=
  if l4 < l7 then
    ck (inb l5 5) <|
    ck (¬ (gorders (ix l5)) = 0) <|
    some (((l6 * (1000 : Int32)) / (gorders (ix l5))), h)
  else
    if (l7 &&& (l4 ^^^ (-1 : Int32))) = 0 then
      cl (f_J6_bitCount_0f7a4 N l7 h) fun r5 h6 =>
      ck (hK h6 l0 = 9) <|
      rq (hR h6 l0 1) fun a8 =>
      ck (hK h6 a8 = 2) <|
      rq (hR h6 a8 0) fun a10 =>
      rq (hR h6 l0 10) fun a11 =>
      ck (hK h6 a10 = 4) <|
      cl (f_X4_sootBy N a10 a11 (l7 ||| l3) h6) fun r12 h13 =>
      ck (hK h13 l0 = 9) <|
      rq (hR h13 l0 1) fun a16 =>
      ck (hK h13 a16 = 2) <|
      rq (hR h13 a16 0) fun a18 =>
      rq (hR h13 l0 10) fun a19 =>
      ck (hK h13 a18 = 4) <|
      cl (f_X4_sootBy N a18 a19 l7 h13) fun r20 h21 =>
      bd ((r12 - r20)) fun v23 =>
      ck (inb r5 5) <|
      ck (inb ((l5 - (1 : Int32)) - r5) 5) <|
      bd ((l6 + ((v23 * (gorders (ix r5))) * (gorders (ix ((l5 - (1 : Int32)) - r5)))))) fun v26 =>
      f_X10_share_185 N K_98 l0 l3 l4 l5 v26 l7 h21
    else
      f_X10_share_185 N K_98 l0 l3 l4 l5 l6 l7 h
def f_X10_share_98 (N : Nat) : Nat → Nat → Int32 → Int32 → Int32 → Int32 → Int32 → PH → Option (Int32 × PH)
  | 0 => fun _ _ _ _ _ _ _ => none
  | n + 1 => fun l0 l3 l4 l5 l6 l7 h => f_X10_share_98_b N (f_X10_share_98 N n) l0 l3 l4 l5 l6 l7 h
def f_X10_share (N : Nat) (l0 : Nat) (l1 : Int32) (h : PH) : Option (Int32 × PH) :=
  ck (hK h l0 = 9) <|
  rq (hR h l0 10) fun a2 =>
  ck (hK h a2 = 6) <|
  cl (f_X6_has N a2 (2 : Int32) l1 h) fun r3 h4 =>
  if r3 = 0 then
    some ((-1 : Int32), h4)
  else
    ck (hK h4 l0 = 9) <|
    rq (hR h4 l0 1) fun a8 =>
    ck (hK h4 a8 = 2) <|
    rq (hR h4 a8 0) fun a10 =>
    ck (hK h4 a10 = 4) <|
    cl (f_X4_burns N a10 l1 h4) fun r11 h12 =>
    if r11 = 0 then
      some ((0 : Int32), h12)
    else
      ck (hK h12 l0 = 9) <|
      rq (hR h12 l0 1) fun a16 =>
      ck (hK h12 a16 = 2) <|
      rq (hR h12 a16 0) fun a18 =>
      ck (hK h12 a18 = 4) <|
      cl (f_X4_fires N a18 h12) fun r19 h20 =>
      ck (hK h20 l0 = 9) <|
      rq (hR h20 l0 10) fun a23 =>
      rq (hR h20 l0 10) fun a24 =>
      ck (hK h20 a24 = 6) <|
      rq (hR h20 a24 5) fun a26 =>
      ck (hK h20 a26 = 12) <|
      ck (inb l1 (hN h20 a26)) <|
      ck (hK h20 a23 = 6) <|
      cl (f_X6_housesAt N a23 (hI h20 a26 (ix l1)) h20) fun r29 h30 =>
      bd ((r19 &&& r29)) fun v32 =>
      bd (((1 : Int32) <<< (l1 &&& 31))) fun v33 =>
      bd ((v32 &&& (v33 ^^^ (-1 : Int32)))) fun v34 =>
      cl (f_J6_bitCount_0f7a4 N v32 h30) fun r35 h36 =>
      if r35 < (1 : Int32) then
        some ((0 : Int32), h36)
      else
        if r35 < (5 : Int32) then
          f_X10_share_98 N N l0 v33 v34 r35 (0 : Int32) (0 : Int32) h36
        else
          some ((0 : Int32), h36)
/-! X10_given -/
def f_X10_given_109 (N : Nat) (K_52 : Nat → Int32 → Int32 → Int32 → Int32 → Int32 → Int32 → PH → Option (Int32 × PH)) (l0 : Nat) (l1 : Int32) (l2 : Int32) (l3 : Int32) (l4 : Int32) (l5 : Int32) (l6 : Int32) (h : PH) : Option (Int32 × PH) :=
  bd (l6 + (1 : Int32)) fun v1 =>
  K_52 l0 l1 l2 l3 l4 l5 v1 h
def f_X10_given_106 (N : Nat) (K_52 : Nat → Int32 → Int32 → Int32 → Int32 → Int32 → Int32 → PH → Option (Int32 × PH)) (s0 : Int32) (s1 : Int32) (l0 : Nat) (l1 : Int32) (l2 : Int32) (l3 : Int32) (l4 : Int32) (l6 : Int32) (h : PH) : Option (Int32 × PH) :=
  bd ((s1 + s0)) fun v1 =>
  f_X10_given_109 N K_52 l0 l1 l2 l3 l4 v1 l6 h
def f_X10_given_149 (N : Nat) (s0 : Int32) (s1 : Int32) (h : PH) : Option (Int32 × PH) :=
  some ((s1 + s0), h)
def f_X10_given_52_b (N : Nat) (K_52 : Nat → Int32 → Int32 → Int32 → Int32 → Int32 → Int32 → PH → Option (Int32 × PH)) (l0 : Nat) (l1 : Int32) (l2 : Int32) (l3 : Int32) (l4 : Int32) (l5 : Int32) (l6 : Int32) (h : PH) : Option (Int32 × PH) :=
  ck (hK h l0 = 9) <|
  rq (hR h l0 10) fun a2 =>
  ck (hK h a2 = 6) <|
  rq (hR h a2 0) fun a4 =>
  ck (hK h a4 = 12) <|
  ck (2 < hN h a4) <|
  if (hI h a4 2) ≤ l6 then
    cl (f_J6_bitCount_0f7a4 N l3 h) fun r8 h9 =>
    if (1 : Int32) ≤ r8 then
      ck (¬ r8 = 0) <|
      if (l4 - l4 / r8 * r8) ≤ l5 then
        f_X10_given_149 N (0 : Int32) (l4 / r8) h9
      else
        f_X10_given_149 N (1 : Int32) (l4 / r8) h9
    else
      some ((-1 : Int32), h9)
  else
    if ((l3 >>> (l6 &&& 31)) &&& (1 : Int32)) = 0 then
      f_X10_given_109 N K_52 l0 l1 l2 l3 l4 l5 l6 h
    else
      rq (hR h l0 1) fun a14 =>
      ck (hK h a14 = 2) <|
      rq (hR h a14 0) fun a16 =>
      ck (hK h a16 = 4) <|
      cl (f_X4_stockOf N a16 l6 l2 h) fun r17 h18 =>
      bd ((l4 + r17)) fun v20 =>
      if l1 ≤ l6 then
        f_X10_given_106 N K_52 (0 : Int32) l5 l0 l1 l2 l3 v20 l6 h18
      else
        f_X10_given_106 N K_52 (1 : Int32) l5 l0 l1 l2 l3 v20 l6 h18
def f_X10_given_52 (N : Nat) : Nat → Nat → Int32 → Int32 → Int32 → Int32 → Int32 → Int32 → PH → Option (Int32 × PH)
  | 0 => fun _ _ _ _ _ _ _ _ => none
  | n + 1 => fun l0 l1 l2 l3 l4 l5 l6 h => f_X10_given_52_b N (f_X10_given_52 N n) l0 l1 l2 l3 l4 l5 l6 h
def f_X10_given (N : Nat) (l0 : Nat) (l1 : Int32) (l2 : Int32) (h : PH) : Option (Int32 × PH) :=
  ck (hK h l0 = 9) <|
  rq (hR h l0 10) fun a2 =>
  ck (hK h a2 = 6) <|
  cl (f_X6_has N a2 (2 : Int32) l1 h) fun r3 h4 =>
  if r3 = 0 then
    some ((-1 : Int32), h4)
  else
    ck (hK h4 l0 = 9) <|
    rq (hR h4 l0 10) fun a8 =>
    ck (hK h4 a8 = 6) <|
    cl (f_X6_has N a8 (0 : Int32) l2 h4) fun r9 h10 =>
    if r9 = 0 then
      some ((-1 : Int32), h10)
    else
      ck (hK h10 l0 = 9) <|
      rq (hR h10 l0 10) fun a14 =>
      rq (hR h10 l0 10) fun a15 =>
      ck (hK h10 a15 = 6) <|
      rq (hR h10 a15 5) fun a17 =>
      ck (hK h10 a17 = 12) <|
      ck (inb l1 (hN h10 a17)) <|
      ck (hK h10 a14 = 6) <|
      cl (f_X6_housesAt N a14 (hI h10 a17 (ix l1)) h10) fun r20 h21 =>
      f_X10_given_52 N N l0 l1 l2 r20 (0 : Int32) (0 : Int32) (0 : Int32) h21
/-! X10_areNeighbours -/
def f_X10_areNeighbours (N : Nat) (l0 : Nat) (l1 : Int32) (l2 : Int32) (h : PH) : Option (Int32 × PH) :=
  ck (hK h l0 = 9) <|
  rq (hR h l0 10) fun a2 =>
  ck (hK h a2 = 6) <|
  cl (f_X6_has N a2 (2 : Int32) l1 h) fun r3 h4 =>
  if r3 = 0 then
    some ((0 : Int32), h4)
  else
    ck (hK h4 l0 = 9) <|
    rq (hR h4 l0 10) fun a8 =>
    ck (hK h4 a8 = 6) <|
    cl (f_X6_has N a8 (2 : Int32) l2 h4) fun r9 h10 =>
    if r9 = 0 then
      some ((0 : Int32), h10)
    else
      if l1 = l2 then
        some ((0 : Int32), h10)
      else
        ck (hK h10 l0 = 9) <|
        rq (hR h10 l0 10) fun a15 =>
        ck (hK h10 a15 = 6) <|
        rq (hR h10 a15 5) fun a17 =>
        ck (hK h10 a17 = 12) <|
        ck (inb l1 (hN h10 a17)) <|
        rq (hR h10 l0 10) fun a20 =>
        ck (hK h10 a20 = 6) <|
        rq (hR h10 a20 5) fun a22 =>
        ck (hK h10 a22 = 12) <|
        ck (inb l2 (hN h10 a22)) <|
        if (hI h10 a17 (ix l1)) = (hI h10 a22 (ix l2)) then
          rq (hR h10 l0 1) fun a26 =>
          ck (hK h10 a26 = 2) <|
          rq (hR h10 a26 0) fun a28 =>
          ck (hK h10 a28 = 4) <|
          cl (f_X4_burns N a28 l1 h10) fun r29 h30 =>
          if r29 = 0 then
            ck (hK h30 l0 = 9) <|
            rq (hR h30 l0 1) fun a34 =>
            ck (hK h30 a34 = 2) <|
            rq (hR h30 a34 0) fun a36 =>
            ck (hK h30 a36 = 4) <|
            cl (f_X4_burns N a36 l2 h30) fun r37 h38 =>
            if r37 = 0 then
              some ((1 : Int32), h38)
            else
              some ((0 : Int32), h38)
          else
            some ((0 : Int32), h30)
        else
          some ((0 : Int32), h10)
/-! X10_mayTake -/
def f_X10_mayTake (N : Nat) (l0 : Nat) (l1 : Int32) (l2 : Int32) (h : PH) : Option (Int32 × PH) :=
  ck (hK h l0 = 9) <|
  rq (hR h l0 10) fun a2 =>
  ck (hK h a2 = 6) <|
  rq (hR h a2 0) fun a4 =>
  ck (hK h a4 = 12) <|
  ck (0 < hN h a4) <|
  if l2 = (hI h a4 0) then
    some ((1 : Int32), h)
  else
    cl (f_X10_canBurn N l0 l1 l2 h) fun r8 h9 =>
    if r8 = 0 then
      some ((0 : Int32), h9)
    else
      some ((1 : Int32), h9)
/-! X10_signWith -/
def f_X10_signWith (N : Nat) (l0 : Nat) (l1 : Int32) (l2 : Int32) (l3 : Int32) (h : PH) : Option (Int32 × PH) :=
  ck (hK h l0 = 9) <|
  rq (hR h l0 10) fun a2 =>
  ck (hK h a2 = 6) <|
  cl (f_X6_housesAt N a2 l1 h) fun r3 h4 =>
  ck (hK h4 l0 = 9) <|
  rq (hR h4 l0 10) fun a7 =>
  rq (hR h4 l0 1) fun a8 =>
  ck (hK h4 a8 = 2) <|
  rq (hR h4 a8 0) fun a10 =>
  ck (hK h4 a10 = 4) <|
  ck (hK h4 a7 = 6) <|
  cl (f_X6_windAt N a7 (hI h4 a10 0) h4) fun r12 h13 =>
  ck (hK h13 l0 = 9) <|
  rq (hR h13 l0 1) fun a16 =>
  ck (hK h13 a16 = 2) <|
  rq (hR h13 a16 0) fun a18 =>
  rq (hR h13 l0 10) fun a19 =>
  ck (hK h13 a18 = 4) <|
  cl (f_X4_smoke N a18 a19 r3 (0 : Int32) h13) fun r20 h21 =>
  ck (hK h21 l0 = 9) <|
  rq (hR h21 l0 10) fun a24 =>
  ck (hK h21 a24 = 6) <|
  cl (f_X6_fresh N a24 l2 r12 (0 : Int32) h21) fun r25 h26 =>
  ck (hK h26 l0 = 9) <|
  rq (hR h26 l0 10) fun a29 =>
  ck (hK h26 a29 = 6) <|
  cl (f_X6_fresh N a29 l3 r12 (0 : Int32) h26) fun r30 h31 =>
  bd ((r20 + (r25 + r30))) fun v33 =>
  ck (hK h31 l0 = 9) <|
  rq (hR h31 l0 1) fun a35 =>
  ck (hK h31 a35 = 2) <|
  rq (hR h31 a35 0) fun a37 =>
  rq (hR h31 l0 10) fun a38 =>
  ck (hK h31 a37 = 4) <|
  cl (f_X4_smoke N a37 a38 r3 (1 : Int32) h31) fun r39 h40 =>
  ck (hK h40 l0 = 9) <|
  rq (hR h40 l0 10) fun a43 =>
  ck (hK h40 a43 = 6) <|
  cl (f_X6_fresh N a43 l2 r12 (1 : Int32) h40) fun r44 h45 =>
  ck (hK h45 l0 = 9) <|
  rq (hR h45 l0 10) fun a48 =>
  ck (hK h45 a48 = 6) <|
  cl (f_X6_fresh N a48 l3 r12 (1 : Int32) h45) fun r49 h50 =>
  bd ((r39 + (r44 + r49))) fun v52 =>
  ck (hK h50 l0 = 9) <|
  rq (hR h50 l0 10) fun a54 =>
  ck (hK h50 a54 = 6) <|
  cl (f_X6_signOf N a54 v33 v52 h50) fun r55 h56 =>
  some (r55, h56)
/-! X10_gainOf -/
def f_X10_gainOf_48 (N : Nat) (s0 : Int32) (s1 : Int32) (h : PH) : Option (Int32 × PH) :=
  some ((s1 - s0), h)
def f_X10_gainOf_30 (N : Nat) (s0 : Int32) (l0 : Nat) (l2 : Int32) (h : PH) : Option (Int32 × PH) :=
  ck (hK h l0 = 9) <|
  rq (hR h l0 10) fun a2 =>
  ck (hK h a2 = 6) <|
  rq (hR h a2 0) fun a4 =>
  ck (hK h a4 = 12) <|
  ck (0 < hN h a4) <|
  if (hI h a4 0) ≤ l2 then
    f_X10_gainOf_48 N (0 : Int32) s0 h
  else
    f_X10_gainOf_48 N (1 : Int32) s0 h
def f_X10_gainOf (N : Nat) (l0 : Nat) (l1 : Int32) (l2 : Int32) (l3 : Int32) (l4 : Int32) (l5 : Int32) (h : PH) : Option (Int32 × PH) :=
  ck (hK h l0 = 9) <|
  rq (hR h l0 10) fun a2 =>
  ck (hK h a2 = 6) <|
  rq (hR h a2 5) fun a4 =>
  ck (hK h a4 = 12) <|
  ck (inb l1 (hN h a4)) <|
  cl (f_X10_signWith N l0 (hI h a4 (ix l1)) l2 l3 h) fun r7 h8 =>
  if r7 = l4 then
    f_X10_gainOf_30 N l5 l0 l2 h8
  else
    f_X10_gainOf_30 N (0 : Int32) l0 l2 h8
/-! X10_isContent -/
def f_X10_isContent_70 (N : Nat) (K_27 : Nat → Int32 → Int32 → Int32 → Int32 → Int32 → Int32 → PH → Option (Int32 × PH)) (l0 : Nat) (l1 : Int32) (l3 : Int32) (l4 : Int32) (l5 : Int32) (l6 : Int32) (l7 : Int32) (h : PH) : Option (Int32 × PH) :=
  bd (l7 + (1 : Int32)) fun v1 =>
  K_27 l0 l1 l3 l4 l5 l6 v1 h
def f_X10_isContent_27_b (N : Nat) (K_27 : Nat → Int32 → Int32 → Int32 → Int32 → Int32 → Int32 → PH → Option (Int32 × PH)) (l0 : Nat) (l1 : Int32) (l3 : Int32) (l4 : Int32) (l5 : Int32) (l6 : Int32) (l7 : Int32) (h : PH) : Option (Int32 × PH) :=
  ck (hK h l0 = 9) <|
  rq (hR h l0 10) fun a2 =>
  ck (hK h a2 = 6) <|
  rq (hR h a2 0) fun a4 =>
  ck (hK h a4 = 12) <|
  ck (0 < hN h a4) <|
  if (hI h a4 0) < l7 then
    some ((1 : Int32), h)
  else
    cl (f_X10_mayTake N l0 l1 l7 h) fun r8 h9 =>
    if r8 = 0 then
      f_X10_isContent_70 N K_27 l0 l1 l3 l4 l5 l6 l7 h9
    else
      ck (hK h9 l0 = 9) <|
      cl (f_X10_gainOf N l0 l1 l7 l3 l4 l5 h9) fun r11 h12 =>
      if r11 ≤ l6 then
        f_X10_isContent_70 N K_27 l0 l1 l3 l4 l5 l6 l7 h12
      else
        some ((0 : Int32), h12)
def f_X10_isContent_27 (N : Nat) : Nat → Nat → Int32 → Int32 → Int32 → Int32 → Int32 → Int32 → PH → Option (Int32 × PH)
  | 0 => fun _ _ _ _ _ _ _ _ => none
  | n + 1 => fun l0 l1 l3 l4 l5 l6 l7 h => f_X10_isContent_27_b N (f_X10_isContent_27 N n) l0 l1 l3 l4 l5 l6 l7 h
def f_X10_isContent (N : Nat) (l0 : Nat) (l1 : Int32) (l2 : Int32) (l3 : Int32) (l4 : Int32) (l5 : Int32) (h : PH) : Option (Int32 × PH) :=
  ck (hK h l0 = 9) <|
  cl (f_X10_mayTake N l0 l1 l2 h) fun r1 h2 =>
  if r1 = 0 then
    some ((0 : Int32), h2)
  else
    ck (hK h2 l0 = 9) <|
    cl (f_X10_gainOf N l0 l1 l2 l3 l4 l5 h2) fun r5 h6 =>
    f_X10_isContent_27 N N l0 l1 l3 l4 l5 r5 (0 : Int32) h6
/-! X10_rests -/
def f_X10_rests_34 (N : Nat) (h : PH) : Option (Option Int32 × PH) :=
  some (none, h)
def f_X10_rests_60 (N : Nat) (h : PH) : Option (Option Int32 × PH) :=
  some (none, h)
def f_X10_rests_155 (N : Nat) (K_74 : Nat → Int32 → Int32 → Int32 → Int32 → Int32 → Int32 → Int32 → Int32 → PH → Option (Option Int32 × PH)) (K_91 : Nat → Int32 → Int32 → Int32 → Int32 → Int32 → Int32 → Int32 → Int32 → Int32 → PH → Option (Option Int32 × PH)) (l0 : Nat) (l1 : Int32) (l2 : Int32) (l3 : Int32) (l4 : Int32) (l5 : Int32) (l6 : Int32) (l7 : Int32) (l8 : Int32) (l9 : Int32) (h : PH) : Option (Option Int32 × PH) :=
  bd (l9 + (1 : Int32)) fun v1 =>
  K_91 l0 l1 l2 l3 l4 l5 l6 l7 l8 v1 h
def f_X10_rests_91_b (N : Nat) (K_74 : Nat → Int32 → Int32 → Int32 → Int32 → Int32 → Int32 → Int32 → Int32 → PH → Option (Option Int32 × PH)) (K_91 : Nat → Int32 → Int32 → Int32 → Int32 → Int32 → Int32 → Int32 → Int32 → Int32 → PH → Option (Option Int32 × PH)) (l0 : Nat) (l1 : Int32) (l2 : Int32) (l3 : Int32) (l4 : Int32) (l5 : Int32) (l6 : Int32) (l7 : Int32) (l8 : Int32) (l9 : Int32) (h : PH) : Option (Option Int32 × PH) :=
  ck (hK h l0 = 9) <|
  rq (hR h l0 10) fun a2 =>
  ck (hK h a2 = 6) <|
  rq (hR h a2 0) fun a4 =>
  ck (hK h a4 = 12) <|
  ck (0 < hN h a4) <|
  if (hI h a4 0) < l9 then
    bd (l8 + (1 : Int32)) fun v8 =>
    K_74 l0 l1 l2 l3 l4 l5 l6 l7 v8 h
  else
    cl (f_X10_isContent N l0 l1 l8 l9 l3 l5 h) fun r9 h10 =>
    if r9 = 0 then
      f_X10_rests_155 N K_74 K_91 l0 l1 l2 l3 l4 l5 l6 l7 l8 l9 h10
    else
      ck (hK h10 l0 = 9) <|
      cl (f_X10_isContent N l0 l2 l9 l8 l4 l5 h10) fun r12 h13 =>
      if r12 = 0 then
        f_X10_rests_155 N K_74 K_91 l0 l1 l2 l3 l4 l5 l6 l7 l8 l9 h13
      else
        if l7 = l6 then
          some (some (((10 : Int32) * l8) + l9), h13)
        else
          bd (l7 + (1 : Int32)) fun v17 =>
          f_X10_rests_155 N K_74 K_91 l0 l1 l2 l3 l4 l5 l6 v17 l8 l9 h13
def f_X10_rests_91 (N : Nat) (K_74 : Nat → Int32 → Int32 → Int32 → Int32 → Int32 → Int32 → Int32 → Int32 → PH → Option (Option Int32 × PH)) : Nat → Nat → Int32 → Int32 → Int32 → Int32 → Int32 → Int32 → Int32 → Int32 → Int32 → PH → Option (Option Int32 × PH)
  | 0 => fun _ _ _ _ _ _ _ _ _ _ _ => none
  | n + 1 => fun l0 l1 l2 l3 l4 l5 l6 l7 l8 l9 h => f_X10_rests_91_b N K_74 (f_X10_rests_91 N K_74 n) l0 l1 l2 l3 l4 l5 l6 l7 l8 l9 h
def f_X10_rests_74_b (N : Nat) (K_74 : Nat → Int32 → Int32 → Int32 → Int32 → Int32 → Int32 → Int32 → Int32 → PH → Option (Option Int32 × PH)) (l0 : Nat) (l1 : Int32) (l2 : Int32) (l3 : Int32) (l4 : Int32) (l5 : Int32) (l6 : Int32) (l7 : Int32) (l8 : Int32) (h : PH) : Option (Option Int32 × PH) :=
  ck (hK h l0 = 9) <|
  rq (hR h l0 10) fun a2 =>
  ck (hK h a2 = 6) <|
  rq (hR h a2 0) fun a4 =>
  ck (hK h a4 = 12) <|
  ck (0 < hN h a4) <|
  if (hI h a4 0) < l8 then
    if l6 = (-1 : Int32) then
      some (some l7, h)
    else
      some (none, h)
  else
    f_X10_rests_91 N K_74 N l0 l1 l2 l3 l4 l5 l6 l7 l8 (0 : Int32) h
def f_X10_rests_74 (N : Nat) : Nat → Nat → Int32 → Int32 → Int32 → Int32 → Int32 → Int32 → Int32 → Int32 → PH → Option (Option Int32 × PH)
  | 0 => fun _ _ _ _ _ _ _ _ _ _ => none
  | n + 1 => fun l0 l1 l2 l3 l4 l5 l6 l7 l8 h => f_X10_rests_74_b N (f_X10_rests_74 N n) l0 l1 l2 l3 l4 l5 l6 l7 l8 h
def f_X10_rests (N : Nat) (l0 : Nat) (l1 : Int32) (l2 : Int32) (l3 : Int32) (l4 : Int32) (l5 : Int32) (l6 : Int32) (h : PH) : Option (Option Int32 × PH) :=
  ck (hK h l0 = 9) <|
  cl (f_X10_areNeighbours N l0 l1 l2 h) fun r1 h2 =>
  if r1 = 0 then
    f_X10_rests_34 N  h2
  else
    ck (hK h2 l0 = 9) <|
    rq (hR h2 l0 10) fun a6 =>
    ck (hK h2 a6 = 6) <|
    cl (f_X6_has N a6 (3 : Int32) l3 h2) fun r7 h8 =>
    if r7 = 0 then
      f_X10_rests_34 N  h8
    else
      ck (hK h8 l0 = 9) <|
      rq (hR h8 l0 10) fun a12 =>
      ck (hK h8 a12 = 6) <|
      cl (f_X6_has N a12 (3 : Int32) l4 h8) fun r13 h14 =>
      if r13 = 0 then
        f_X10_rests_34 N  h14
      else
        if l5 < 0 then
          f_X10_rests_60 N  h14
        else
          if (99 : Int32) < l5 then
            f_X10_rests_60 N  h14
          else
            if (-1 : Int32) ≤ l6 then
              f_X10_rests_74 N N l0 l1 l2 l3 l4 l5 l6 (0 : Int32) (0 : Int32) h14
            else
              f_X10_rests_60 N  h14
/-! X10_dreamBurns -/
def f_X10_dreamBurns_89 (N : Nat) (K_23 : Nat → Int32 → Int64 → Int32 → PH → Option (Int64 × PH)) (l0 : Nat) (l3 : Int32) (l4 : Int64) (l6 : Int32) (h : PH) : Option (Int64 × PH) :=
  bd (l6 + (1 : Int32)) fun v1 =>
  K_23 l0 l3 l4 v1 h
def f_X10_dreamBurns_23_b (N : Nat) (K_23 : Nat → Int32 → Int64 → Int32 → PH → Option (Int64 × PH)) (l0 : Nat) (l3 : Int32) (l4 : Int64) (l6 : Int32) (h : PH) : Option (Int64 × PH) :=
  ck (hK h l0 = 9) <|
  rq (hR h l0 10) fun a2 =>
  ck (hK h a2 = 6) <|
  rq (hR h a2 0) fun a4 =>
  ck (hK h a4 = 12) <|
  ck (2 < hN h a4) <|
  if (hI h a4 2) ≤ l6 then
    some (l4, h)
  else
    bd ((((l4 * (1103515245 : Int64)) + (12345 : Int64)) - ((l4 * (1103515245 : Int64)) + (12345 : Int64)) / (2147483648 : Int64) * (2147483648 : Int64))) fun v8 =>
    ck (¬ ((l3 + (1 : Int32)).toInt64) = 0) <|
    bd (((v8 / (65536 : Int64)) - (v8 / (65536 : Int64)) / ((l3 + (1 : Int32)).toInt64) * ((l3 + (1 : Int32)).toInt64)).toInt32) fun v10 =>
    if l3 ≤ v10 then
      f_X10_dreamBurns_89 N K_23 l0 l3 v8 l6 h
    else
      rq (hR h l0 4) fun a12 =>
      rq (hR h l0 10) fun a13 =>
      ck (hK h a12 = 4) <|
      cl (f_X4_light N a12 a13 l6 v10 h) fun r14 h15 =>
      f_X10_dreamBurns_89 N K_23 l0 l3 v8 l6 h15
def f_X10_dreamBurns_23 (N : Nat) : Nat → Nat → Int32 → Int64 → Int32 → PH → Option (Int64 × PH)
  | 0 => fun _ _ _ _ _ => none
  | n + 1 => fun l0 l3 l4 l6 h => f_X10_dreamBurns_23_b N (f_X10_dreamBurns_23 N n) l0 l3 l4 l6 h
def f_X10_dreamBurns (N : Nat) (l0 : Nat) (l1 : Int64) (h : PH) : Option (Int64 × PH) :=
  ck (hK h l0 = 9) <|
  rq (hR h l0 10) fun a2 =>
  ck (hK h a2 = 6) <|
  rq (hR h a2 0) fun a4 =>
  ck (hK h a4 = 12) <|
  ck (0 < hN h a4) <|
  bd ((hI h a4 0)) fun v7 =>
  if (1 : Int32) ≤ v7 then
    f_X10_dreamBurns_23 N N l0 v7 l1 (0 : Int32) h
  else
    some (l1, h)
/-! X4_stockOfAll -/
def f_X4_stockOfAll_4_b (N : Nat) (K_4 : Nat → Int32 → Int32 → PH → Option (Int32 × PH)) (l0 : Nat) (l1 : Int32) (l2 : Int32) (h : PH) : Option (Int32 × PH) :=
  ck (hK h l0 = 4) <|
  rq (hR h l0 1) fun a2 =>
  ck (hK h a2 = 12) <|
  if (nI (hN h a2)) ≤ l2 then
    some (l1, h)
  else
    rq (hR h l0 1) fun a5 =>
    ck (hK h a5 = 12) <|
    ck (inb l2 (hN h a5)) <|
    bd ((l1 + (hI h a5 (ix l2)))) fun v8 =>
    bd (l2 + (1 : Int32)) fun v9 =>
    K_4 l0 v8 v9 h
def f_X4_stockOfAll_4 (N : Nat) : Nat → Nat → Int32 → Int32 → PH → Option (Int32 × PH)
  | 0 => fun _ _ _ _ => none
  | n + 1 => fun l0 l1 l2 h => f_X4_stockOfAll_4_b N (f_X4_stockOfAll_4 N n) l0 l1 l2 h
def f_X4_stockOfAll (N : Nat) (l0 : Nat) (h : PH) : Option (Int32 × PH) :=
  f_X4_stockOfAll_4 N N l0 (0 : Int32) (0 : Int32) h
/-! X10_years -/
def f_X10_years_57_b (N : Nat) (K_57 : Nat → Int32 → Int32 → Int64 → Int32 → Int32 → PH → Option (Int32 × PH)) (l0 : Nat) (l2 : Int32) (l3 : Int32) (l4 : Int64) (l6 : Int32) (l7 : Int32) (h : PH) : Option (Int32 × PH) :=
  if l2 ≤ l7 then
    if l3 = 0 then
      some (l6, h)
    else
      if l3 = (1 : Int32) then
        ck (hK h l0 = 9) <|
        rq (hR h l0 4) fun a10 =>
        ck (hK h a10 = 4) <|
        cl (f_X4_sootOfAll N a10 h) fun r11 h12 =>
        ck (hK h12 l0 = 9) <|
        rq (hR h12 l0 1) fun a15 =>
        ck (hK h12 a15 = 2) <|
        rq (hR h12 a15 0) fun a17 =>
        ck (hK h12 a17 = 4) <|
        cl (f_X4_sootOfAll N a17 h12) fun r18 h19 =>
        some ((r11 - r18), h19)
      else
        ck (hK h l0 = 9) <|
        rq (hR h l0 4) fun a5 =>
        ck (hK h a5 = 4) <|
        cl (f_X4_stockOfAll N a5 h) fun r6 h7 =>
        some (r6, h7)
  else
    ck (hK h l0 = 9) <|
    cl (f_X10_dreamBurns N l0 l4 h) fun r21 h22 =>
    ck (hK h22 l0 = 9) <|
    rq (hR h22 l0 4) fun a25 =>
    rq (hR h22 l0 10) fun a26 =>
    ck (hK h22 a25 = 4) <|
    cl (f_X4_signsRead N a25 a26 h22) fun r27 h28 =>
    bd ((l6 + r27)) fun v30 =>
    ck (hK h28 l0 = 9) <|
    rq (hR h28 l0 4) fun a32 =>
    rq (hR h28 l0 10) fun a33 =>
    ck (hK h28 a32 = 4) <|
    cl (f_X4_pass N a32 a33 h28) fun r34 h35 =>
    bd (l7 + (1 : Int32)) fun v37 =>
    K_57 l0 l2 l3 r21 v30 v37 h35
def f_X10_years_57 (N : Nat) : Nat → Nat → Int32 → Int32 → Int64 → Int32 → Int32 → PH → Option (Int32 × PH)
  | 0 => fun _ _ _ _ _ _ _ => none
  | n + 1 => fun l0 l2 l3 l4 l6 l7 h => f_X10_years_57_b N (f_X10_years_57 N n) l0 l2 l3 l4 l6 l7 h
def f_X10_years (N : Nat) (l0 : Nat) (l1 : Int32) (l2 : Int32) (l3 : Int32) (h : PH) : Option (Int32 × PH) :=
  if l1 < 0 then
    some ((-1 : Int32), h)
  else
    if (9999 : Int32) < l1 then
      some ((-1 : Int32), h)
    else
      if l2 < (1 : Int32) then
        some ((-1 : Int32), h)
      else
        if (99 : Int32) < l2 then
          some ((-1 : Int32), h)
        else
          if l3 < 0 then
            some ((-1 : Int32), h)
          else
            if l3 ≤ (2 : Int32) then
              ck (hK h l0 = 9) <|
              rq (hR h l0 4) fun a8 =>
              rq (hR h l0 1) fun a9 =>
              ck (hK h a9 = 2) <|
              rq (hR h a9 0) fun a11 =>
              ck (hK h a8 = 4) <|
              cl (f_X4_copy N a8 a11 h) fun r12 h13 =>
              bd (l1.toInt64) fun v15 =>
              f_X10_years_57 N N l0 l2 l3 v15 (0 : Int32) (0 : Int32) h13
            else
              some ((-1 : Int32), h)
/-! X2_copy -/
def f_X2_copy (N : Nat) (l0 : Nat) (l1 : Nat) (h : PH) : Option (Unit × PH) :=
  ck (hK h l0 = 2) <|
  rq (hR h l0 0) fun a2 =>
  ck (hK h l1 = 2) <|
  rq (hR h l1 0) fun a4 =>
  ck (hK h a2 = 4) <|
  cl (f_X4_copy N a2 a4 h) fun r5 h6 =>
  ck (hK h6 l0 = 2) <|
  rq (hR h6 l0 1) fun a9 =>
  ck (hK h6 l1 = 2) <|
  rq (hR h6 l1 1) fun a11 =>
  ck (hK h6 a9 = 0) <|
  cl (f_X0_copy N a9 a11 h6) fun r12 h13 =>
  ck (hK h13 l1 = 2) <|
  ck (hK h13 l0 = 2) <|
  bd (sI h13 l0 5 (hI h13 l1 5)) fun h17 =>
  ck (hK h17 l1 = 2) <|
  rq (hR h17 l1 2) fun a19 =>
  ck (hK h17 l0 = 2) <|
  rq (hR h17 l0 2) fun a21 =>
  ck (hK h17 a19 = 12) <|
  ck (hK h17 a21 = 12) <|
  ck (ix (0 : Int32) + ix (8 : Int32) ≤ hN h17 a19) <|
  ck (ix (0 : Int32) + ix (8 : Int32) ≤ hN h17 a21) <|
  bd (sRow h17 a21 (va_cpy (hI h17 a19) (hI h17 a21) (ix (0 : Int32)) (ix (0 : Int32)) (ix (8 : Int32)))) fun h26 =>
  ck (hK h26 l1 = 2) <|
  rq (hR h26 l1 3) fun a28 =>
  ck (hK h26 l0 = 2) <|
  rq (hR h26 l0 3) fun a30 =>
  ck (hK h26 a28 = 12) <|
  ck (hK h26 a30 = 12) <|
  ck (ix (0 : Int32) + ix (8 : Int32) ≤ hN h26 a28) <|
  ck (ix (0 : Int32) + ix (8 : Int32) ≤ hN h26 a30) <|
  bd (sRow h26 a30 (va_cpy (hI h26 a28) (hI h26 a30) (ix (0 : Int32)) (ix (0 : Int32)) (ix (8 : Int32)))) fun h35 =>
  ck (hK h35 l1 = 2) <|
  rq (hR h35 l1 4) fun a37 =>
  ck (hK h35 l0 = 2) <|
  rq (hR h35 l0 4) fun a39 =>
  ck (hK h35 a37 = 12) <|
  ck (hK h35 a39 = 12) <|
  ck (ix (0 : Int32) + ix (8 : Int32) ≤ hN h35 a37) <|
  ck (ix (0 : Int32) + ix (8 : Int32) ≤ hN h35 a39) <|
  bd (sRow h35 a39 (va_cpy (hI h35 a37) (hI h35 a39) (ix (0 : Int32)) (ix (0 : Int32)) (ix (8 : Int32)))) fun h44 =>
  some ((), h44)
/-! X10_mark -/
def f_X10_mark_26 (N : Nat) (l0 : Nat) (l1 : Int32) (l2 : Int32) (h : PH) : Option (Int32 × PH) :=
  if l2 = 0 then
    ck (hK h l0 = 9) <|
    rq (hR h l0 2) fun a3 =>
    ck (hK h a3 = 15) <|
    ck (inb l1 (hN h a3)) <|
    rq (hR h a3 (ix l1)) fun a6 =>
    rq (hR h l0 1) fun a7 =>
    ck (hK h a6 = 2) <|
    cl (f_X2_copy N a6 a7 h) fun r8 h9 =>
    ck (hK h9 l0 = 9) <|
    bd (sI h9 l0 12 ((hI h9 l0 12) ||| ((1 : Int32) <<< (l1 &&& 31)))) fun h12 =>
    some ((1 : Int32), h12)
  else
    ck (hK h l0 = 9) <|
    rq (hR h l0 1) fun a14 =>
    rq (hR h l0 2) fun a15 =>
    ck (hK h a15 = 15) <|
    ck (inb l1 (hN h a15)) <|
    rq (hR h a15 (ix l1)) fun a18 =>
    ck (hK h a14 = 2) <|
    cl (f_X2_copy N a14 a18 h) fun r19 h20 =>
    ck (hK h20 l0 = 9) <|
    bd (sI h20 l0 14 (0 : Int32)) fun h23 =>
    some ((1 : Int32), h23)
def f_X10_mark (N : Nat) (l0 : Nat) (l1 : Int32) (l2 : Int32) (h : PH) : Option (Int32 × PH) :=
  if l1 < 0 then
    some ((0 : Int32), h)
  else
    if (4 : Int32) ≤ l1 then
      some ((0 : Int32), h)
    else
      if l2 = 0 then
        f_X10_mark_26 N l0 l1 l2 h
      else
        ck (hK h l0 = 9) <|
        if (((hI h l0 12) >>> (l1 &&& 31)) &&& (1 : Int32)) = 0 then
          some ((0 : Int32), h)
        else
          f_X10_mark_26 N l0 l1 l2 h
/-! X10_count -/
def f_X10_count_19 (N : Nat) (l0 : Nat) (l1 : Int32) (h : PH) : Option (Int32 × PH) :=
  if l1 = 5 then
    ck (hK h l0 = 9) <|
    rq (hR h l0 1) fun a2 =>
    ck (hK h a2 = 2) <|
    rq (hR h a2 0) fun a4 =>
    ck (hK h a4 = 4) <|
    some ((hI h a4 0), h)
  else
  if l1 = 6 then
    ck (hK h l0 = 9) <|
    rq (hR h l0 10) fun a7 =>
    rq (hR h l0 1) fun a8 =>
    ck (hK h a8 = 2) <|
    rq (hR h a8 0) fun a10 =>
    ck (hK h a10 = 4) <|
    ck (hK h a7 = 6) <|
    cl (f_X6_windAt N a7 (hI h a10 0) h) fun r12 h13 =>
    some (r12, h13)
  else
  if l1 = 7 then
    ck (hK h l0 = 9) <|
    rq (hR h l0 1) fun a16 =>
    ck (hK h a16 = 2) <|
    rq (hR h a16 0) fun a18 =>
    ck (hK h a18 = 4) <|
    cl (f_X4_fires N a18 h) fun r19 h20 =>
    some (r19, h20)
  else
  if l1 = 8 then
    ck (hK h l0 = 9) <|
    rq (hR h l0 1) fun a23 =>
    ck (hK h a23 = 2) <|
    rq (hR h a23 0) fun a25 =>
    ck (hK h a25 = 4) <|
    cl (f_X4_stockOfAll N a25 h) fun r26 h27 =>
    some (r26, h27)
  else
  if l1 = 9 then
    ck (hK h l0 = 9) <|
    rq (hR h l0 1) fun a30 =>
    ck (hK h a30 = 2) <|
    rq (hR h a30 0) fun a32 =>
    ck (hK h a32 = 4) <|
    cl (f_X4_sootOfAll N a32 h) fun r33 h34 =>
    some (r33, h34)
  else
  if l1 = 10 then
    ck (hK h l0 = 9) <|
    rq (hR h l0 1) fun a37 =>
    ck (hK h a37 = 2) <|
    rq (hR h a37 1) fun a39 =>
    ck (hK h a39 = 0) <|
    some ((hI h a39 1), h)
  else
  if l1 = 11 then
    ck (hK h l0 = 9) <|
    rq (hR h l0 1) fun a42 =>
    ck (hK h a42 = 2) <|
    some ((hI h a42 5), h)
  else
  if l1 = 12 then
    ck (hK h l0 = 9) <|
    some ((hI h l0 14), h)
  else
  if l1 = 13 then
    ck (hK h l0 = 9) <|
    rq (hR h l0 0) fun a46 =>
    ck (hK h a46 = 5) <|
    some ((hI h a46 1), h)
  else
  some ((-1 : Int32), h)
def f_X10_count (N : Nat) (l0 : Nat) (l1 : Int32) (h : PH) : Option (Int32 × PH) :=
  if l1 < 0 then
    f_X10_count_19 N l0 l1 h
  else
    if (4 : Int32) < l1 then
      f_X10_count_19 N l0 l1 h
    else
      ck (hK h l0 = 9) <|
      rq (hR h l0 10) fun a4 =>
      ck (hK h a4 = 6) <|
      rq (hR h a4 0) fun a6 =>
      ck (hK h a6 = 12) <|
      ck (inb l1 (hN h a6)) <|
      some ((hI h a6 (ix l1)), h)
/-! X11_thrown -/
def f_X11_thrown (N : Nat) (l0 : Nat) (h : PH) : Option (Int32 × PH) :=
  ck (hK h l0 = 10) <|
  some ((hI h l0 0), h)
/-! X11_within -/
def f_X11_within (N : Nat) (l0 : Int32) (l1 : Int32) (l2 : Int32) (h : PH) : Option (Int32 × PH) :=
  if l0 < l1 then
    some ((0 : Int32), h)
  else
    if l2 < l0 then
      some ((0 : Int32), h)
    else
      some ((1 : Int32), h)
/-! X11_between -/
def f_X11_between (N : Nat) (l0 : Int32) (l1 : Int32) (l2 : Int32) (h : PH) : Option (Int32 × PH) :=
  if l1 ≤ l0 then
    if l0 ≤ l2 then
      some (l0, h)
    else
      some (l2, h)
  else
    some (l1, h)
/-! X11_feed -/
def f_X11_feed_114 (N : Nat) (K_8 : Nat → Int64 → Int64 → Int64 → Int32 → PH → Option (Int32 × PH)) (l0 : Nat) (l1 : Int64) (l3 : Int64) (l5 : Int64) (l7 : Int32) (h : PH) : Option (Int32 × PH) :=
  bd (l7 + (1 : Int32)) fun v1 =>
  K_8 l0 l1 l3 l5 v1 h
def f_X11_feed_93 (N : Nat) (K_8 : Nat → Int64 → Int64 → Int64 → Int32 → PH → Option (Int32 × PH)) (l0 : Nat) (l1 : Int64) (l3 : Int64) (l5 : Int64) (l7 : Int32) (l10 : Int32) (h : PH) : Option (Int32 × PH) :=
  ck (hK h l0 = 10) <|
  rq (hR h l0 2) fun a2 =>
  ck (hK h a2 = 12) <|
  ck (inb (hI h l0 1) (hN h a2)) <|
  bd (sI h a2 (ix (hI h l0 1)) l10) fun h5 =>
  ck (hK h5 l0 = 10) <|
  bd (sI h5 l0 1 ((hI h5 l0 1) + (1 : Int32))) fun h7 =>
  f_X11_feed_114 N K_8 l0 l1 l3 l5 l7 h7
def f_X11_feed_39 (N : Nat) (K_8 : Nat → Int64 → Int64 → Int64 → Int32 → PH → Option (Int32 × PH)) (s0 : Int64) (l0 : Nat) (l1 : Int64) (l3 : Int64) (l5 : Int64) (l7 : Int32) (h : PH) : Option (Int32 × PH) :=
  bd (((g_lushr s0 ((56 : Int32) - ((8 : Int32) * (l7 &&& (7 : Int32))))) &&& (255 : Int64)).toInt32) fun v1 =>
  ck (hK h l0 = 10) <|
  if (1000 : Int32) ≤ (hI h l0 1) then
    f_X11_feed_114 N K_8 l0 l1 l3 l5 l7 h
  else
    if v1 = (10 : Int32) then
      f_X11_feed_93 N K_8 l0 l1 l3 l5 l7 v1 h
    else
      if v1 < (32 : Int32) then
        f_X11_feed_114 N K_8 l0 l1 l3 l5 l7 h
      else
        if (126 : Int32) < v1 then
          f_X11_feed_114 N K_8 l0 l1 l3 l5 l7 h
        else
          f_X11_feed_93 N K_8 l0 l1 l3 l5 l7 v1 h
def f_X11_feed_8_b (N : Nat) (K_8 : Nat → Int64 → Int64 → Int64 → Int32 → PH → Option (Int32 × PH)) (l0 : Nat) (l1 : Int64) (l3 : Int64) (l5 : Int64) (l7 : Int32) (h : PH) : Option (Int32 × PH) :=
  if (24 : Int32) ≤ l7 then
    ck (hK h l0 = 10) <|
    some ((hI h l0 1), h)
  else
    if (8 : Int32) ≤ l7 then
      if (16 : Int32) ≤ l7 then
        f_X11_feed_39 N K_8 l5 l0 l1 l3 l5 l7 h
      else
        f_X11_feed_39 N K_8 l3 l0 l1 l3 l5 l7 h
    else
      f_X11_feed_39 N K_8 l1 l0 l1 l3 l5 l7 h
def f_X11_feed_8 (N : Nat) : Nat → Nat → Int64 → Int64 → Int64 → Int32 → PH → Option (Int32 × PH)
  | 0 => fun _ _ _ _ _ _ => none
  | n + 1 => fun l0 l1 l3 l5 l7 h => f_X11_feed_8_b N (f_X11_feed_8 N n) l0 l1 l3 l5 l7 h
def f_X11_feed (N : Nat) (l0 : Nat) (l1 : Int64) (l3 : Int64) (l5 : Int64) (h : PH) : Option (Int32 × PH) :=
  ck (hK h l0 = 10) <|
  bd (sI h l0 0 (0 : Int32)) fun h2 =>
  f_X11_feed_8 N N l0 l1 l3 l5 (0 : Int32) h2
/-! X11_signAt -/
def f_X11_signAt (N : Nat) (l0 : Nat) (l1 : Int32) (h : PH) : Option (Int32 × PH) :=
  ck (hK h l0 = 10) <|
  if (hI h l0 3) ≤ l1 then
    some ((0 : Int32), h)
  else
    rq (hR h l0 2) fun a3 =>
    ck (hK h a3 = 12) <|
    ck (inb l1 (hN h a3)) <|
    some ((hI h a3 (ix l1)), h)
/-! X11_nextToken -/
def f_X11_nextToken_39 (N : Nat) (K_0 : Nat → PH → Option (Unit × PH)) (l0 : Nat) (h : PH) : Option (Unit × PH) :=
  ck (hK h l0 = 10) <|
  bd (sI h l0 4 ((hI h l0 4) + (1 : Int32))) fun h2 =>
  K_0 l0 h2
def f_X11_nextToken_175 (N : Nat) (K_109 : Nat → PH → Option (Unit × PH)) (l0 : Nat) (h : PH) : Option (Unit × PH) :=
  ck (hK h l0 = 10) <|
  bd (sI h l0 4 ((hI h l0 4) + (1 : Int32))) fun h2 =>
  K_109 l0 h2
def f_X11_nextToken_208 (N : Nat) (s0 : Int32) (s1 : Nat) (h : PH) : Option (Unit × PH) :=
  ck (hK h s1 = 10) <|
  bd (sI h s1 6 s0) fun h2 =>
  some ((), h2)
def f_X11_nextToken_188 (N : Nat) (l0 : Nat) (h : PH) : Option (Unit × PH) :=
  ck (hK h l0 = 10) <|
  if ((hI h l0 4) - (hI h l0 5)) ≤ (8 : Int32) then
    f_X11_nextToken_208 N (1 : Int32) l0 h
  else
    f_X11_nextToken_208 N (4 : Int32) l0 h
def f_X11_nextToken_109_b (N : Nat) (K_109 : Nat → PH → Option (Unit × PH)) (l0 : Nat) (h : PH) : Option (Unit × PH) :=
  ck (hK h l0 = 10) <|
  cl (f_X11_signAt N l0 (hI h l0 4) h) fun r2 h3 =>
  if r2 < (97 : Int32) then
    f_X11_nextToken_188 N l0 h3
  else
    ck (hK h3 l0 = 10) <|
    cl (f_X11_signAt N l0 (hI h3 l0 4) h3) fun r6 h7 =>
    if (122 : Int32) < r6 then
      f_X11_nextToken_188 N l0 h7
    else
      ck (hK h7 l0 = 10) <|
      if (8 : Int32) ≤ ((hI h7 l0 4) - (hI h7 l0 5)) then
        f_X11_nextToken_175 N K_109 l0 h7
      else
        cl (f_X11_signAt N l0 (hI h7 l0 4) h7) fun r11 h12 =>
        ck (hK h12 l0 = 10) <|
        bd (sJ h12 l0 7 ((((hJ h7 l0 7) * (27 : Int64)) + r11.toInt64) - (96 : Int64))) fun h14 =>
        f_X11_nextToken_175 N K_109 l0 h14
def f_X11_nextToken_109 (N : Nat) : Nat → Nat → PH → Option (Unit × PH)
  | 0 => fun _ _ => none
  | n + 1 => fun l0 h => f_X11_nextToken_109_b N (f_X11_nextToken_109 N n) l0 h
def f_X11_nextToken_286 (N : Nat) (K_224 : Nat → PH → Option (Unit × PH)) (l0 : Nat) (h : PH) : Option (Unit × PH) :=
  ck (hK h l0 = 10) <|
  bd (sI h l0 4 ((hI h l0 4) + (1 : Int32))) fun h2 =>
  K_224 l0 h2
def f_X11_nextToken_318 (N : Nat) (s0 : Int32) (s1 : Nat) (h : PH) : Option (Unit × PH) :=
  ck (hK h s1 = 10) <|
  bd (sI h s1 6 s0) fun h2 =>
  some ((), h2)
def f_X11_nextToken_299 (N : Nat) (l0 : Nat) (h : PH) : Option (Unit × PH) :=
  ck (hK h l0 = 10) <|
  if ((hI h l0 4) - (hI h l0 5)) ≤ (4 : Int32) then
    f_X11_nextToken_318 N (2 : Int32) l0 h
  else
    f_X11_nextToken_318 N (4 : Int32) l0 h
def f_X11_nextToken_224_b (N : Nat) (K_224 : Nat → PH → Option (Unit × PH)) (l0 : Nat) (h : PH) : Option (Unit × PH) :=
  ck (hK h l0 = 10) <|
  cl (f_X11_signAt N l0 (hI h l0 4) h) fun r2 h3 =>
  if r2 < (48 : Int32) then
    f_X11_nextToken_299 N l0 h3
  else
    ck (hK h3 l0 = 10) <|
    cl (f_X11_signAt N l0 (hI h3 l0 4) h3) fun r6 h7 =>
    if (57 : Int32) < r6 then
      f_X11_nextToken_299 N l0 h7
    else
      ck (hK h7 l0 = 10) <|
      if (4 : Int32) ≤ ((hI h7 l0 4) - (hI h7 l0 5)) then
        f_X11_nextToken_286 N K_224 l0 h7
      else
        cl (f_X11_signAt N l0 (hI h7 l0 4) h7) fun r11 h12 =>
        ck (hK h12 l0 = 10) <|
        bd (sI h12 l0 8 ((((hI h7 l0 8) * (10 : Int32)) + r11) - (48 : Int32))) fun h14 =>
        f_X11_nextToken_286 N K_224 l0 h14
def f_X11_nextToken_224 (N : Nat) : Nat → Nat → PH → Option (Unit × PH)
  | 0 => fun _ _ => none
  | n + 1 => fun l0 h => f_X11_nextToken_224_b N (f_X11_nextToken_224 N n) l0 h
def f_X11_nextToken_368 (N : Nat) (s0 : Int32) (s1 : Nat) (h : PH) : Option (Unit × PH) :=
  ck (hK h s1 = 10) <|
  bd (sI h s1 6 s0) fun h2 =>
  some ((), h2)
def f_X11_nextToken_363 (N : Nat) (s0 : Nat) (h : PH) : Option (Unit × PH) :=
  f_X11_nextToken_368 N (3 : Int32) s0 h
def f_X11_nextToken_367 (N : Nat) (s0 : Nat) (h : PH) : Option (Unit × PH) :=
  f_X11_nextToken_368 N (4 : Int32) s0 h
def f_X11_nextToken_345 (N : Nat) (s0 : Nat) (l1 : Int32) (h : PH) : Option (Unit × PH) :=
  if l1 = (45 : Int32) then
    f_X11_nextToken_363 N s0 h
  else
    if l1 < (59 : Int32) then
      f_X11_nextToken_367 N s0 h
    else
      if (61 : Int32) < l1 then
        f_X11_nextToken_367 N s0 h
      else
        f_X11_nextToken_363 N s0 h
def f_X11_nextToken_322 (N : Nat) (l0 : Nat) (l1 : Int32) (h : PH) : Option (Unit × PH) :=
  ck (hK h l0 = 10) <|
  bd (sI h l0 4 ((hI h l0 4) + (1 : Int32))) fun h2 =>
  if l1 < (40 : Int32) then
    f_X11_nextToken_345 N l0 l1 h2
  else
    if l1 ≤ (43 : Int32) then
      f_X11_nextToken_363 N l0 h2
    else
      f_X11_nextToken_345 N l0 l1 h2
def f_X11_nextToken_212 (N : Nat) (l0 : Nat) (l1 : Int32) (h : PH) : Option (Unit × PH) :=
  if l1 < (48 : Int32) then
    f_X11_nextToken_322 N l0 l1 h
  else
    if (57 : Int32) < l1 then
      f_X11_nextToken_322 N l0 l1 h
    else
      f_X11_nextToken_224 N N l0 h
def f_X11_nextToken_52 (N : Nat) (l0 : Nat) (h : PH) : Option (Unit × PH) :=
  ck (hK h l0 = 10) <|
  bd (sI h l0 5 (hI h l0 4)) fun h2 =>
  ck (hK h2 l0 = 10) <|
  bd (sJ h2 l0 7 (0 : Int64)) fun h4 =>
  ck (hK h4 l0 = 10) <|
  bd (sI h4 l0 8 (0 : Int32)) fun h6 =>
  ck (hK h6 l0 = 10) <|
  if (hI h6 l0 4) = (hI h6 l0 3) then
    bd (sI h6 l0 6 (0 : Int32)) fun h15 =>
    some ((), h15)
  else
    rq (hR h6 l0 2) fun a9 =>
    ck (hK h6 a9 = 12) <|
    ck (inb (hI h6 l0 4) (hN h6 a9)) <|
    bd ((hI h6 a9 (ix (hI h6 l0 4)))) fun v12 =>
    if v12 < (97 : Int32) then
      f_X11_nextToken_212 N l0 v12 h6
    else
      if (122 : Int32) < v12 then
        f_X11_nextToken_212 N l0 v12 h6
      else
        f_X11_nextToken_109 N N l0 h6
def f_X11_nextToken_0_b (N : Nat) (K_0 : Nat → PH → Option (Unit × PH)) (l0 : Nat) (h : PH) : Option (Unit × PH) :=
  ck (hK h l0 = 10) <|
  if (hI h l0 3) ≤ (hI h l0 4) then
    f_X11_nextToken_52 N l0 h
  else
    rq (hR h l0 2) fun a3 =>
    ck (hK h a3 = 12) <|
    ck (inb (hI h l0 4) (hN h a3)) <|
    if (hI h a3 (ix (hI h l0 4))) = (32 : Int32) then
      f_X11_nextToken_39 N K_0 l0 h
    else
      rq (hR h l0 2) fun a7 =>
      ck (hK h a7 = 12) <|
      ck (inb (hI h l0 4) (hN h a7)) <|
      if (hI h a7 (ix (hI h l0 4))) = (10 : Int32) then
        f_X11_nextToken_39 N K_0 l0 h
      else
        f_X11_nextToken_52 N l0 h
def f_X11_nextToken_0 (N : Nat) : Nat → Nat → PH → Option (Unit × PH)
  | 0 => fun _ _ => none
  | n + 1 => fun l0 h => f_X11_nextToken_0_b N (f_X11_nextToken_0 N n) l0 h
def f_X11_nextToken (N : Nat) (l0 : Nat) (h : PH) : Option (Unit × PH) :=
  f_X11_nextToken_0 N N l0 h
/-! X11_isWord -/
def f_X11_isWord (N : Nat) (l0 : Nat) (l1 : Int64) (h : PH) : Option (Int32 × PH) :=
  ck (hK h l0 = 10) <|
  if (hI h l0 6) = (1 : Int32) then
    if (lg_cmp (hJ h l0 7) l1) = 0 then
      some ((1 : Int32), h)
    else
      some ((0 : Int32), h)
  else
    some ((0 : Int32), h)
/-! X11_isSign -/
def f_X11_isSign (N : Nat) (l0 : Nat) (l1 : Int32) (h : PH) : Option (Int32 × PH) :=
  ck (hK h l0 = 10) <|
  if (hI h l0 6) = (3 : Int32) then
    rq (hR h l0 2) fun a3 =>
    ck (hK h a3 = 12) <|
    ck (inb (hI h l0 5) (hN h a3)) <|
    if (hI h a3 (ix (hI h l0 5))) = l1 then
      some ((1 : Int32), h)
    else
      some ((0 : Int32), h)
  else
    some ((0 : Int32), h)
/-! X11_fails -/
def f_X11_fails (N : Nat) (l0 : Nat) (l1 : Int32) (h : PH) : Option (Int32 × PH) :=
  ck (hK h l0 = 10) <|
  bd (sI h l0 9 (l1 + ((16 : Int32) * (hI h l0 5)))) fun h2 =>
  some ((0 : Int32), h2)
/-! X11_puts -/
def f_X11_puts (N : Nat) (l0 : Nat) (l1 : Int32) (h : PH) : Option (Unit × PH) :=
  ck (hK h l0 = 10) <|
  rq (hR h l0 22) fun a2 =>
  ck (hK h a2 = 12) <|
  ck (inb (hI h l0 23) (hN h a2)) <|
  bd (sI h a2 (ix (hI h l0 23)) l1) fun h5 =>
  ck (hK h5 l0 = 10) <|
  bd (sI h5 l0 23 ((hI h5 l0 23) + (1 : Int32))) fun h7 =>
  some ((), h7)
/-! X11_fact -/
def f_X11_fact (N : Nat) (l0 : Nat) (h : PH) : Option (Int32 × PH) :=
  ck (hK h l0 = 10) <|
  if (hI h l0 6) = (1 : Int32) then
    if (lg_cmp (hJ h l0 7) (10255685 : Int64)) = 0 then
      some ((1 : Int32), h)
    else
      if (lg_cmp (hJ h l0 7) (10160471 : Int64)) = 0 then
        some ((2 : Int32), h)
      else
        if (lg_cmp (hJ h l0 7) (459652 : Int64)) = 0 then
          some ((3 : Int32), h)
        else
          if (hI h l0 24) = (1 : Int32) then
            some ((0 : Int32), h)
          else
            if (lg_cmp (hJ h l0 7) (240023 : Int64)) = 0 then
              some ((4 : Int32), h)
            else
              if (lg_cmp (hJ h l0 7) (10357247 : Int64)) = 0 then
                some ((5 : Int32), h)
              else
                some ((0 : Int32), h)
  else
    some ((0 : Int32), h)
/-! X11_reads -/
def f_X11_reads_172 (N : Nat) (K_11 : Nat → Int32 → Int32 → PH → Option (Int32 × PH)) (l0 : Nat) (l1 : Int32) (l2 : Int32) (h : PH) : Option (Int32 × PH) :=
  ck (hK h l0 = 10) <|
  cl (f_X11_nextToken N l0 h) fun r1 h2 =>
  K_11 l0 l1 l2 h2
def f_X11_reads_120 (N : Nat) (K_11 : Nat → Int32 → Int32 → PH → Option (Int32 × PH)) (s0 : Int32) (s1 : Int32) (s2 : Nat) (l0 : Nat) (l1 : Int32) (l2 : Int32) (h : PH) : Option (Int32 × PH) :=
  ck (hK h s2 = 12) <|
  ck (inb s1 (hN h s2)) <|
  bd (sI h s2 (ix s1) s0) fun h3 =>
  ck (hK h3 l0 = 10) <|
  rq (hR h3 l0 26) fun a5 =>
  ck (hK h3 a5 = 13) <|
  ck (inb l1 (hN h3 a5)) <|
  bd (sI h3 a5 (ix l1) ((0 : Int32) &&& 1)) fun h8 =>
  f_X11_reads_172 N K_11 l0 l1 l2 h8
def f_X11_reads_99 (N : Nat) (K_11 : Nat → Int32 → Int32 → PH → Option (Int32 × PH)) (s0 : Int32) (s1 : Nat) (l0 : Nat) (l1 : Int32) (l2 : Int32) (l4 : Int32) (h : PH) : Option (Int32 × PH) :=
  ck (hK h s1 = 10) <|
  cl (f_X11_puts N s1 s0 h) fun r1 h2 =>
  bd (l1 + (1 : Int32)) fun v4 =>
  ck (hK h2 l0 = 10) <|
  rq (hR h2 l0 25) fun a6 =>
  if l4 = 0 then
    f_X11_reads_120 N K_11 (2 : Int32) v4 a6 l0 v4 l2 h2
  else
    f_X11_reads_120 N K_11 (1 : Int32) v4 a6 l0 v4 l2 h2
def f_X11_reads_86 (N : Nat) (K_11 : Nat → Int32 → Int32 → PH → Option (Int32 × PH)) (l0 : Nat) (l1 : Int32) (l2 : Int32) (l4 : Int32) (h : PH) : Option (Int32 × PH) :=
  if l4 = 0 then
    f_X11_reads_99 N K_11 (28 : Int32) l0 l0 l1 l2 l4 h
  else
    f_X11_reads_99 N K_11 (30 : Int32) l0 l0 l1 l2 l4 h
def f_X11_reads_152_b (N : Nat) (K_11 : Nat → Int32 → Int32 → PH → Option (Int32 × PH)) (K_152 : Nat → Int32 → Int32 → PH → Option (Int32 × PH)) (l0 : Nat) (l1 : Int32) (l2 : Int32) (h : PH) : Option (Int32 × PH) :=
  if l1 ≤ 0 then
    f_X11_reads_172 N K_11 l0 l1 l2 h
  else
    ck (hK h l0 = 10) <|
    rq (hR h l0 25) fun a3 =>
    ck (hK h a3 = 12) <|
    ck (inb l1 (hN h a3)) <|
    if (hI h a3 (ix l1)) = (1 : Int32) then
      bd (l1 + (-1 : Int32)) fun v7 =>
      K_152 l0 v7 l2 h
    else
      f_X11_reads_172 N K_11 l0 l1 l2 h
def f_X11_reads_152 (N : Nat) (K_11 : Nat → Int32 → Int32 → PH → Option (Int32 × PH)) : Nat → Nat → Int32 → Int32 → PH → Option (Int32 × PH)
  | 0 => fun _ _ _ _ => none
  | n + 1 => fun l0 l1 l2 h => f_X11_reads_152_b N K_11 (f_X11_reads_152 N K_11 n) l0 l1 l2 h
def f_X11_reads_147 (N : Nat) (K_11 : Nat → Int32 → Int32 → PH → Option (Int32 × PH)) (s0 : Int32) (s1 : Nat) (l0 : Nat) (l1 : Int32) (h : PH) : Option (Int32 × PH) :=
  ck (hK h s1 = 10) <|
  cl (f_X11_puts N s1 s0 h) fun r1 h2 =>
  f_X11_reads_152 N K_11 N l0 l1 (0 : Int32) h2
def f_X11_reads_65 (N : Nat) (K_11 : Nat → Int32 → Int32 → PH → Option (Int32 × PH)) (l0 : Nat) (l1 : Int32) (l2 : Int32) (l3 : Int32) (l4 : Int32) (l5 : Int32) (h : PH) : Option (Int32 × PH) :=
  if l1 = (5 : Int32) then
    ck (hK h l0 = 10) <|
    cl (f_X11_fails N l0 (5 : Int32) h) fun r6 h7 =>
    ck (r6 = 0 ∨ r6 = 1) <|
    some (r6, h7)
  else
    if l4 = 0 then
      if l5 = 0 then
        if l3 ≤ 0 then
          ck (hK h l0 = 10) <|
          f_X11_reads_147 N K_11 ((100 : Int32) + (hI h l0 8)) l0 l0 l1 h
        else
          f_X11_reads_147 N K_11 l3 l0 l0 l1 h
      else
        f_X11_reads_86 N K_11 l0 l1 l2 l4 h
    else
      f_X11_reads_86 N K_11 l0 l1 l2 l4 h
def f_X11_reads_424 (N : Nat) (K_11 : Nat → Int32 → Int32 → PH → Option (Int32 × PH)) (l0 : Nat) (l1 : Int32) (l2 : Int32) (h : PH) : Option (Int32 × PH) :=
  ck (hK h l0 = 10) <|
  cl (f_X11_nextToken N l0 h) fun r1 h2 =>
  K_11 l0 l1 l2 h2
def f_X11_reads_237 (N : Nat) (K_11 : Nat → Int32 → Int32 → PH → Option (Int32 × PH)) (s0 : Int32) (s1 : Nat) (l0 : Nat) (l1 : Int32) (h : PH) : Option (Int32 × PH) :=
  ck (hK h s1 = 10) <|
  cl (f_X11_puts N s1 s0 h) fun r1 h2 =>
  f_X11_reads_424 N K_11 l0 l1 (1 : Int32) h2
def f_X11_reads_206 (N : Nat) (K_11 : Nat → Int32 → Int32 → PH → Option (Int32 × PH)) (l0 : Nat) (l1 : Int32) (h : PH) : Option (Int32 × PH) :=
  ck (hK h l0 = 10) <|
  cl (f_X11_isSign N l0 (43 : Int32) h) fun r1 h2 =>
  if r1 = 0 then
    ck (hK h2 l0 = 10) <|
    cl (f_X11_isSign N l0 (45 : Int32) h2) fun r5 h6 =>
    if r5 = 0 then
      f_X11_reads_237 N K_11 (22 : Int32) l0 l0 l1 h6
    else
      f_X11_reads_237 N K_11 (21 : Int32) l0 l0 l1 h6
  else
    f_X11_reads_237 N K_11 (20 : Int32) l0 l0 l1 h2
def f_X11_reads_289 (N : Nat) (K_11 : Nat → Int32 → Int32 → PH → Option (Int32 × PH)) (s0 : Int32) (s1 : Nat) (l0 : Nat) (l1 : Int32) (h : PH) : Option (Int32 × PH) :=
  ck (hK h s1 = 10) <|
  cl (f_X11_puts N s1 s0 h) fun r1 h2 =>
  ck (hK h2 l0 = 10) <|
  rq (hR h2 l0 26) fun a5 =>
  ck (hK h2 a5 = 13) <|
  ck (inb l1 (hN h2 a5)) <|
  bd (sI h2 a5 (ix l1) ((1 : Int32) &&& 1)) fun h8 =>
  f_X11_reads_424 N K_11 l0 l1 (1 : Int32) h8
def f_X11_reads_342 (N : Nat) (K_11 : Nat → Int32 → Int32 → PH → Option (Int32 × PH)) (s0 : Int32) (s1 : Nat) (l0 : Nat) (l1 : Int32) (h : PH) : Option (Int32 × PH) :=
  ck (hK h s1 = 10) <|
  cl (f_X11_puts N s1 s0 h) fun r1 h2 =>
  ck (hK h2 l0 = 10) <|
  rq (hR h2 l0 26) fun a5 =>
  ck (hK h2 a5 = 13) <|
  ck (inb l1 (hN h2 a5)) <|
  bd (sI h2 a5 (ix l1) ((0 : Int32) &&& 1)) fun h8 =>
  f_X11_reads_424 N K_11 l0 l1 (1 : Int32) h8
def f_X11_reads_324 (N : Nat) (K_11 : Nat → Int32 → Int32 → PH → Option (Int32 × PH)) (l0 : Nat) (l1 : Int32) (h : PH) : Option (Int32 × PH) :=
  ck (hK h l0 = 10) <|
  cl (f_X11_isWord N l0 (1111 : Int64) h) fun r1 h2 =>
  if r1 = 0 then
    f_X11_reads_342 N K_11 (27 : Int32) l0 l0 l1 h2
  else
    f_X11_reads_342 N K_11 (26 : Int32) l0 l0 l1 h2
def f_X11_reads_379_b (N : Nat) (K_11 : Nat → Int32 → Int32 → PH → Option (Int32 × PH)) (K_379 : Nat → Int32 → Int32 → PH → Option (Int32 × PH)) (l0 : Nat) (l1 : Int32) (l2 : Int32) (h : PH) : Option (Int32 × PH) :=
  if l1 ≤ 0 then
    f_X11_reads_424 N K_11 l0 l1 l2 h
  else
    ck (hK h l0 = 10) <|
    rq (hR h l0 25) fun a3 =>
    ck (hK h a3 = 12) <|
    ck (inb l1 (hN h a3)) <|
    if (hI h a3 (ix l1)) = (1 : Int32) then
      bd (l1 + (-1 : Int32)) fun v7 =>
      K_379 l0 v7 l2 h
    else
      f_X11_reads_424 N K_11 l0 l1 l2 h
def f_X11_reads_379 (N : Nat) (K_11 : Nat → Int32 → Int32 → PH → Option (Int32 × PH)) : Nat → Nat → Int32 → Int32 → PH → Option (Int32 × PH)
  | 0 => fun _ _ _ _ => none
  | n + 1 => fun l0 l1 l2 h => f_X11_reads_379_b N K_11 (f_X11_reads_379 N K_11 n) l0 l1 l2 h
def f_X11_reads_418 (N : Nat) (l0 : Nat) (h : PH) : Option (Int32 × PH) :=
  ck (hK h l0 = 10) <|
  cl (f_X11_fails N l0 (1 : Int32) h) fun r1 h2 =>
  ck (r1 = 0 ∨ r1 = 1) <|
  some (r1, h2)
def f_X11_reads_399 (N : Nat) (l0 : Nat) (l1 : Int32) (h : PH) : Option (Int32 × PH) :=
  if l1 = 0 then
    ck (hK h l0 = 10) <|
    cl (f_X11_isSign N l0 (59 : Int32) h) fun r2 h3 =>
    if r2 = 0 then
      f_X11_reads_418 N l0 h3
    else
      ck (hK h3 l0 = 10) <|
      cl (f_X11_nextToken N l0 h3) fun r6 h7 =>
      some ((1 : Int32), h7)
  else
    f_X11_reads_418 N l0 h
def f_X11_reads_304 (N : Nat) (K_11 : Nat → Int32 → Int32 → PH → Option (Int32 × PH)) (l0 : Nat) (l1 : Int32) (l2 : Int32) (h : PH) : Option (Int32 × PH) :=
  ck (hK h l0 = 10) <|
  cl (f_X11_isWord N l0 (1111 : Int64) h) fun r1 h2 =>
  if r1 = 0 then
    ck (hK h2 l0 = 10) <|
    cl (f_X11_isWord N l0 (423 : Int64) h2) fun r5 h6 =>
    if r5 = 0 then
      ck (hK h6 l0 = 10) <|
      cl (f_X11_isSign N l0 (41 : Int32) h6) fun r9 h10 =>
      if r9 = 0 then
        f_X11_reads_399 N l0 l1 h10
      else
        if l1 ≤ 0 then
          f_X11_reads_399 N l0 l1 h10
        else
          ck (hK h10 l0 = 10) <|
          cl (f_X11_puts N l0 (29 : Int32) h10) fun r14 h15 =>
          bd (l1 + (-1 : Int32)) fun v17 =>
          f_X11_reads_379 N K_11 N l0 v17 l2 h15
    else
      f_X11_reads_324 N K_11 l0 l1 h6
  else
    f_X11_reads_324 N K_11 l0 l1 h2
def f_X11_reads_263 (N : Nat) (K_11 : Nat → Int32 → Int32 → PH → Option (Int32 × PH)) (l0 : Nat) (l1 : Int32) (l2 : Int32) (h : PH) : Option (Int32 × PH) :=
  ck (hK h l0 = 10) <|
  rq (hR h l0 26) fun a2 =>
  ck (hK h a2 = 13) <|
  ck (inb l1 (hN h a2)) <|
  if (hI h a2 (ix l1)) = 0 then
    cl (f_X11_isSign N l0 (60 : Int32) h) fun r6 h7 =>
    if r6 = 0 then
      f_X11_reads_289 N K_11 (25 : Int32) l0 l0 l1 h7
    else
      f_X11_reads_289 N K_11 (24 : Int32) l0 l0 l1 h7
  else
    f_X11_reads_304 N K_11 l0 l1 l2 h
def f_X11_reads_11_b (N : Nat) (K_11 : Nat → Int32 → Int32 → PH → Option (Int32 × PH)) (l0 : Nat) (l1 : Int32) (l2 : Int32) (h : PH) : Option (Int32 × PH) :=
  if l2 = 0 then
    ck (hK h l0 = 10) <|
    cl (f_X11_isSign N l0 (43 : Int32) h) fun r2 h3 =>
    if r2 = 0 then
      ck (hK h3 l0 = 10) <|
      cl (f_X11_isSign N l0 (45 : Int32) h3) fun r6 h7 =>
      if r6 = 0 then
        ck (hK h7 l0 = 10) <|
        cl (f_X11_isSign N l0 (42 : Int32) h7) fun r10 h11 =>
        if r10 = 0 then
          ck (hK h11 l0 = 10) <|
          cl (f_X11_isSign N l0 (60 : Int32) h11) fun r14 h15 =>
          if r14 = 0 then
            ck (hK h15 l0 = 10) <|
            cl (f_X11_isSign N l0 (61 : Int32) h15) fun r18 h19 =>
            if r18 = 0 then
              f_X11_reads_304 N K_11 l0 l1 l2 h19
            else
              f_X11_reads_263 N K_11 l0 l1 l2 h19
          else
            f_X11_reads_263 N K_11 l0 l1 l2 h15
        else
          f_X11_reads_206 N K_11 l0 l1 h11
      else
        f_X11_reads_206 N K_11 l0 l1 h7
    else
      f_X11_reads_206 N K_11 l0 l1 h3
  else
    ck (hK h l0 = 10) <|
    cl (f_X11_fact N l0 h) fun r22 h23 =>
    ck (hK h23 l0 = 10) <|
    cl (f_X11_isWord N l0 (10631 : Int64) h23) fun r25 h26 =>
    ck (hK h26 l0 = 10) <|
    cl (f_X11_isSign N l0 (40 : Int32) h26) fun r28 h29 =>
    if r22 = 0 then
      if r25 = 0 then
        if r28 = 0 then
          ck (hK h29 l0 = 10) <|
          if (hI h29 l0 6) = (2 : Int32) then
            f_X11_reads_65 N K_11 l0 l1 l2 r22 r25 r28 h29
          else
            cl (f_X11_fails N l0 (1 : Int32) h29) fun r36 h37 =>
            ck (r36 = 0 ∨ r36 = 1) <|
            some (r36, h37)
        else
          f_X11_reads_65 N K_11 l0 l1 l2 r22 r25 r28 h29
      else
        f_X11_reads_65 N K_11 l0 l1 l2 r22 r25 r28 h29
    else
      f_X11_reads_65 N K_11 l0 l1 l2 r22 r25 r28 h29
def f_X11_reads_11 (N : Nat) : Nat → Nat → Int32 → Int32 → PH → Option (Int32 × PH)
  | 0 => fun _ _ _ _ => none
  | n + 1 => fun l0 l1 l2 h => f_X11_reads_11_b N (f_X11_reads_11 N n) l0 l1 l2 h
def f_X11_reads (N : Nat) (l0 : Nat) (h : PH) : Option (Int32 × PH) :=
  ck (hK h l0 = 10) <|
  rq (hR h l0 26) fun a2 =>
  ck (hK h a2 = 13) <|
  ck (0 < hN h a2) <|
  bd (sI h a2 0 ((0 : Int32) &&& 1)) fun h5 =>
  f_X11_reads_11 N N l0 (0 : Int32) (1 : Int32) h5
/-! X11_opens -/
def f_X11_opens (N : Nat) (l0 : Nat) (l1 : Int32) (h : PH) : Option (Unit × PH) :=
  ck (hK h l0 = 10) <|
  rq (hR h l0 28) fun a2 =>
  ck (hK h a2 = 12) <|
  ck (inb l1 (hN h a2)) <|
  bd (sI h a2 (ix l1) (0 : Int32)) fun h5 =>
  ck (hK h5 l0 = 10) <|
  rq (hR h5 l0 30) fun a7 =>
  ck (hK h5 a7 = 12) <|
  ck (inb l1 (hN h5 a7)) <|
  bd (sI h5 a7 (ix l1) (0 : Int32)) fun h10 =>
  ck (hK h10 l0 = 10) <|
  rq (hR h10 l0 31) fun a12 =>
  ck (hK h10 a12 = 12) <|
  ck (inb l1 (hN h10 a12)) <|
  bd (sI h10 a12 (ix l1) (0 : Int32)) fun h15 =>
  ck (hK h15 l0 = 10) <|
  rq (hR h15 l0 32) fun a17 =>
  ck (hK h15 a17 = 12) <|
  ck (inb l1 (hN h15 a17)) <|
  bd (sI h15 a17 (ix l1) (20 : Int32)) fun h20 =>
  ck (hK h20 l0 = 10) <|
  rq (hR h20 l0 34) fun a22 =>
  ck (hK h20 a22 = 12) <|
  ck (inb l1 (hN h20 a22)) <|
  bd (sI h20 a22 (ix l1) (0 : Int32)) fun h25 =>
  some ((), h25)
/-! X11_sums -/
def f_X11_sums_45 (N : Nat) (s0 : Int32) (s1 : Int32) (s2 : Nat) (l0 : Nat) (l1 : Int32) (h : PH) : Option (Unit × PH) :=
  ck (hK h s2 = 12) <|
  ck (inb s1 (hN h s2)) <|
  bd (sI h s2 (ix s1) s0) fun h3 =>
  ck (hK h3 l0 = 10) <|
  rq (hR h3 l0 34) fun a5 =>
  ck (hK h3 a5 = 12) <|
  ck (inb l1 (hN h3 a5)) <|
  bd (sI h3 a5 (ix l1) (0 : Int32)) fun h8 =>
  some ((), h8)
def f_X11_sums (N : Nat) (l0 : Nat) (l1 : Int32) (h : PH) : Option (Unit × PH) :=
  ck (hK h l0 = 10) <|
  rq (hR h l0 31) fun a2 =>
  rq (hR h l0 32) fun a3 =>
  ck (hK h a3 = 12) <|
  ck (inb l1 (hN h a3)) <|
  if (hI h a3 (ix l1)) = (21 : Int32) then
    rq (hR h l0 31) fun a13 =>
    ck (hK h a13 = 12) <|
    ck (inb l1 (hN h a13)) <|
    rq (hR h l0 33) fun a16 =>
    ck (hK h a16 = 12) <|
    ck (inb l1 (hN h a16)) <|
    f_X11_sums_45 N ((hI h a13 (ix l1)) - (hI h a16 (ix l1))) l1 a2 l0 l1 h
  else
    rq (hR h l0 31) fun a7 =>
    ck (hK h a7 = 12) <|
    ck (inb l1 (hN h a7)) <|
    rq (hR h l0 33) fun a10 =>
    ck (hK h a10 = 12) <|
    ck (inb l1 (hN h a10)) <|
    f_X11_sums_45 N ((hI h a7 (ix l1)) + (hI h a10 (ix l1))) l1 a2 l0 l1 h
/-! X11_tests -/
def f_X11_tests_136 (N : Nat) (l0 : Nat) (l1 : Int32) (l2 : Int32) (h : PH) : Option (Unit × PH) :=
  ck (hK h l0 = 10) <|
  rq (hR h l0 27) fun a2 =>
  ck (hK h a2 = 12) <|
  ck (inb l1 (hN h a2)) <|
  bd (sI h a2 (ix l1) l2) fun h5 =>
  ck (hK h5 l0 = 10) <|
  rq (hR h5 l0 30) fun a7 =>
  ck (hK h5 a7 = 12) <|
  ck (inb l1 (hN h5 a7)) <|
  bd (sI h5 a7 (ix l1) (0 : Int32)) fun h10 =>
  ck (hK h10 l0 = 10) <|
  rq (hR h10 l0 31) fun a12 =>
  ck (hK h10 a12 = 12) <|
  ck (inb l1 (hN h10 a12)) <|
  bd (sI h10 a12 (ix l1) (0 : Int32)) fun h15 =>
  ck (hK h15 l0 = 10) <|
  rq (hR h15 l0 32) fun a17 =>
  ck (hK h15 a17 = 12) <|
  ck (inb l1 (hN h15 a17)) <|
  bd (sI h15 a17 (ix l1) (20 : Int32)) fun h20 =>
  some ((), h20)
def f_X11_tests_135 (N : Nat) (s0 : Int32) (l0 : Nat) (l1 : Int32) (h : PH) : Option (Unit × PH) :=
  f_X11_tests_136 N l0 l1 s0 h
def f_X11_tests_130 (N : Nat) (l0 : Nat) (l1 : Int32) (h : PH) : Option (Unit × PH) :=
  f_X11_tests_135 N (1 : Int32) l0 l1 h
def f_X11_tests_106 (N : Nat) (l0 : Nat) (l1 : Int32) (l2 : Int32) (h : PH) : Option (Unit × PH) :=
  ck (hK h l0 = 10) <|
  rq (hR h l0 28) fun a2 =>
  ck (hK h a2 = 12) <|
  ck (inb l1 (hN h a2)) <|
  if (hI h a2 (ix l1)) = (27 : Int32) then
    rq (hR h l0 27) fun a6 =>
    ck (hK h a6 = 12) <|
    ck (inb l1 (hN h a6)) <|
    if (hI h a6 (ix l1)) = 0 then
      if l2 = 0 then
        f_X11_tests_135 N (0 : Int32) l0 l1 h
      else
        f_X11_tests_130 N l0 l1 h
    else
      f_X11_tests_130 N l0 l1 h
  else
    f_X11_tests_136 N l0 l1 l2 h
def f_X11_tests_105 (N : Nat) (s0 : Int32) (l0 : Nat) (l1 : Int32) (h : PH) : Option (Unit × PH) :=
  f_X11_tests_106 N l0 l1 s0 h
def f_X11_tests_104 (N : Nat) (l0 : Nat) (l1 : Int32) (h : PH) : Option (Unit × PH) :=
  f_X11_tests_105 N (0 : Int32) l0 l1 h
def f_X11_tests_76 (N : Nat) (l0 : Nat) (l1 : Int32) (l2 : Int32) (h : PH) : Option (Unit × PH) :=
  ck (hK h l0 = 10) <|
  rq (hR h l0 28) fun a2 =>
  ck (hK h a2 = 12) <|
  ck (inb l1 (hN h a2)) <|
  if (hI h a2 (ix l1)) = (26 : Int32) then
    rq (hR h l0 27) fun a6 =>
    ck (hK h a6 = 12) <|
    ck (inb l1 (hN h a6)) <|
    if (hI h a6 (ix l1)) = 0 then
      f_X11_tests_104 N l0 l1 h
    else
      if l2 = 0 then
        f_X11_tests_104 N l0 l1 h
      else
        f_X11_tests_105 N (1 : Int32) l0 l1 h
  else
    f_X11_tests_106 N l0 l1 l2 h
def f_X11_tests_75 (N : Nat) (s0 : Int32) (l0 : Nat) (l1 : Int32) (h : PH) : Option (Unit × PH) :=
  f_X11_tests_76 N l0 l1 s0 h
def f_X11_tests_44 (N : Nat) (l0 : Nat) (l1 : Int32) (l2 : Int32) (h : PH) : Option (Unit × PH) :=
  ck (hK h l0 = 10) <|
  rq (hR h l0 30) fun a2 =>
  ck (hK h a2 = 12) <|
  ck (inb l1 (hN h a2)) <|
  if (hI h a2 (ix l1)) = (25 : Int32) then
    rq (hR h l0 29) fun a6 =>
    ck (hK h a6 = 12) <|
    ck (inb l1 (hN h a6)) <|
    rq (hR h l0 31) fun a9 =>
    ck (hK h a9 = 12) <|
    ck (inb l1 (hN h a9)) <|
    if (hI h a6 (ix l1)) = (hI h a9 (ix l1)) then
      f_X11_tests_75 N (1 : Int32) l0 l1 h
    else
      f_X11_tests_75 N (0 : Int32) l0 l1 h
  else
    f_X11_tests_76 N l0 l1 l2 h
def f_X11_tests_43 (N : Nat) (s0 : Int32) (l0 : Nat) (l1 : Int32) (h : PH) : Option (Unit × PH) :=
  f_X11_tests_44 N l0 l1 s0 h
def f_X11_tests (N : Nat) (l0 : Nat) (l1 : Int32) (h : PH) : Option (Unit × PH) :=
  ck (hK h l0 = 10) <|
  cl (f_X11_sums N l0 l1 h) fun r1 h2 =>
  ck (hK h2 l0 = 10) <|
  rq (hR h2 l0 31) fun a5 =>
  ck (hK h2 a5 = 12) <|
  ck (inb l1 (hN h2 a5)) <|
  bd ((hI h2 a5 (ix l1))) fun v8 =>
  rq (hR h2 l0 30) fun a9 =>
  ck (hK h2 a9 = 12) <|
  ck (inb l1 (hN h2 a9)) <|
  if (hI h2 a9 (ix l1)) = (24 : Int32) then
    rq (hR h2 l0 29) fun a13 =>
    ck (hK h2 a13 = 12) <|
    ck (inb l1 (hN h2 a13)) <|
    rq (hR h2 l0 31) fun a16 =>
    ck (hK h2 a16 = 12) <|
    ck (inb l1 (hN h2 a16)) <|
    if (hI h2 a16 (ix l1)) ≤ (hI h2 a13 (ix l1)) then
      f_X11_tests_43 N (0 : Int32) l0 l1 h2
    else
      f_X11_tests_43 N (1 : Int32) l0 l1 h2
  else
    f_X11_tests_44 N l0 l1 v8 h2
/-! X11_worked -/
def f_X11_worked_329 (N : Nat) (K_14 : Nat → Int32 → Int32 → Int32 → PH → Option (Int32 × PH)) (l0 : Nat) (l1 : Int32) (l2 : Int32) (l3 : Int32) (h : PH) : Option (Int32 × PH) :=
  bd (l3 + (1 : Int32)) fun v1 =>
  K_14 l0 l1 l2 v1 h
def f_X11_worked_66 (N : Nat) (K_14 : Nat → Int32 → Int32 → Int32 → PH → Option (Int32 × PH)) (s0 : Int32) (s1 : Int32) (s2 : Nat) (l0 : Nat) (l1 : Int32) (l2 : Int32) (l3 : Int32) (h : PH) : Option (Int32 × PH) :=
  ck (hK h s2 = 12) <|
  ck (inb s1 (hN h s2)) <|
  bd (sI h s2 (ix s1) s0) fun h3 =>
  ck (hK h3 l0 = 10) <|
  cl (f_X11_opens N l0 l2 h3) fun r4 h5 =>
  f_X11_worked_329 N K_14 l0 l1 l2 l3 h5
def f_X11_worked_46 (N : Nat) (K_14 : Nat → Int32 → Int32 → Int32 → PH → Option (Int32 × PH)) (l0 : Nat) (l1 : Int32) (l2 : Int32) (l3 : Int32) (l4 : Int32) (h : PH) : Option (Int32 × PH) :=
  bd (l2 + (1 : Int32)) fun v1 =>
  ck (hK h l0 = 10) <|
  rq (hR h l0 35) fun a3 =>
  if l4 = (30 : Int32) then
    f_X11_worked_66 N K_14 (1 : Int32) v1 a3 l0 l1 v1 l3 h
  else
    f_X11_worked_66 N K_14 (0 : Int32) v1 a3 l0 l1 v1 l3 h
def f_X11_worked_89 (N : Nat) (K_14 : Nat → Int32 → Int32 → Int32 → PH → Option (Int32 × PH)) (l0 : Nat) (l1 : Int32) (l2 : Int32) (l3 : Int32) (l4 : Int32) (h : PH) : Option (Int32 × PH) :=
  ck (hK h l0 = 10) <|
  cl (f_X11_sums N l0 l2 h) fun r1 h2 =>
  ck (hK h2 l0 = 10) <|
  rq (hR h2 l0 32) fun a5 =>
  ck (hK h2 a5 = 12) <|
  ck (inb l2 (hN h2 a5)) <|
  bd (sI h2 a5 (ix l2) l4) fun h8 =>
  f_X11_worked_329 N K_14 l0 l1 l2 l3 h8
def f_X11_worked_137 (N : Nat) (K_14 : Nat → Int32 → Int32 → Int32 → PH → Option (Int32 × PH)) (l0 : Nat) (l1 : Int32) (l2 : Int32) (l3 : Int32) (l4 : Int32) (h : PH) : Option (Int32 × PH) :=
  ck (hK h l0 = 10) <|
  cl (f_X11_sums N l0 l2 h) fun r1 h2 =>
  ck (hK h2 l0 = 10) <|
  rq (hR h2 l0 29) fun a5 =>
  rq (hR h2 l0 31) fun a6 =>
  ck (hK h2 a6 = 12) <|
  ck (inb l2 (hN h2 a6)) <|
  ck (hK h2 a5 = 12) <|
  ck (inb l2 (hN h2 a5)) <|
  bd (sI h2 a5 (ix l2) (hI h2 a6 (ix l2))) fun h11 =>
  ck (hK h11 l0 = 10) <|
  rq (hR h11 l0 30) fun a13 =>
  ck (hK h11 a13 = 12) <|
  ck (inb l2 (hN h11 a13)) <|
  bd (sI h11 a13 (ix l2) l4) fun h16 =>
  ck (hK h16 l0 = 10) <|
  rq (hR h16 l0 31) fun a18 =>
  ck (hK h16 a18 = 12) <|
  ck (inb l2 (hN h16 a18)) <|
  bd (sI h16 a18 (ix l2) (0 : Int32)) fun h21 =>
  ck (hK h21 l0 = 10) <|
  rq (hR h21 l0 32) fun a23 =>
  ck (hK h21 a23 = 12) <|
  ck (inb l2 (hN h21 a23)) <|
  bd (sI h21 a23 (ix l2) (20 : Int32)) fun h26 =>
  f_X11_worked_329 N K_14 l0 l1 l2 l3 h26
def f_X11_worked_194 (N : Nat) (K_14 : Nat → Int32 → Int32 → Int32 → PH → Option (Int32 × PH)) (l0 : Nat) (l1 : Int32) (l2 : Int32) (l3 : Int32) (l4 : Int32) (h : PH) : Option (Int32 × PH) :=
  ck (hK h l0 = 10) <|
  cl (f_X11_tests N l0 l2 h) fun r1 h2 =>
  ck (hK h2 l0 = 10) <|
  rq (hR h2 l0 28) fun a5 =>
  ck (hK h2 a5 = 12) <|
  ck (inb l2 (hN h2 a5)) <|
  bd (sI h2 a5 (ix l2) l4) fun h8 =>
  f_X11_worked_329 N K_14 l0 l1 l2 l3 h8
def f_X11_worked_292 (N : Nat) (K_14 : Nat → Int32 → Int32 → Int32 → PH → Option (Int32 × PH)) (K_268 : Nat → Int32 → Int32 → Int32 → Int32 → PH → Option (Int32 × PH)) (s0 : Int32) (l0 : Nat) (l1 : Int32) (l2 : Int32) (l3 : Int32) (h : PH) : Option (Int32 × PH) :=
  bd (l2 + (-1 : Int32)) fun v1 =>
  K_268 l0 l1 v1 l3 s0 h
def f_X11_worked_328 (N : Nat) (K_14 : Nat → Int32 → Int32 → Int32 → PH → Option (Int32 × PH)) (s0 : Int32) (s1 : Int32) (s2 : Nat) (l0 : Nat) (l1 : Int32) (l2 : Int32) (l3 : Int32) (h : PH) : Option (Int32 × PH) :=
  ck (hK h s2 = 12) <|
  ck (inb s1 (hN h s2)) <|
  bd (sI h s2 (ix s1) s0) fun h3 =>
  f_X11_worked_329 N K_14 l0 l1 l2 l3 h3
def f_X11_worked_300 (N : Nat) (K_14 : Nat → Int32 → Int32 → Int32 → PH → Option (Int32 × PH)) (l0 : Nat) (l1 : Int32) (l2 : Int32) (l3 : Int32) (l5 : Int32) (h : PH) : Option (Int32 × PH) :=
  ck (hK h l0 = 10) <|
  rq (hR h l0 33) fun a2 =>
  rq (hR h l0 34) fun a3 =>
  ck (hK h a3 = 12) <|
  ck (inb l2 (hN h a3)) <|
  if (hI h a3 (ix l2)) = 0 then
    f_X11_worked_328 N K_14 l5 l2 a2 l0 l1 l2 l3 h
  else
    rq (hR h l0 33) fun a7 =>
    ck (hK h a7 = 12) <|
    ck (inb l2 (hN h a7)) <|
    f_X11_worked_328 N K_14 ((hI h a7 (ix l2)) * l5) l2 a2 l0 l1 l2 l3 h
def f_X11_worked_268_b (N : Nat) (K_14 : Nat → Int32 → Int32 → Int32 → PH → Option (Int32 × PH)) (K_268 : Nat → Int32 → Int32 → Int32 → Int32 → PH → Option (Int32 × PH)) (l0 : Nat) (l1 : Int32) (l2 : Int32) (l3 : Int32) (l5 : Int32) (h : PH) : Option (Int32 × PH) :=
  if l2 ≤ 0 then
    f_X11_worked_300 N K_14 l0 l1 l2 l3 l5 h
  else
    ck (hK h l0 = 10) <|
    rq (hR h l0 35) fun a3 =>
    ck (hK h a3 = 12) <|
    ck (inb l2 (hN h a3)) <|
    if (hI h a3 (ix l2)) = (1 : Int32) then
      if l5 = 0 then
        f_X11_worked_292 N K_14 K_268 (1 : Int32) l0 l1 l2 l3 h
      else
        f_X11_worked_292 N K_14 K_268 (0 : Int32) l0 l1 l2 l3 h
    else
      f_X11_worked_300 N K_14 l0 l1 l2 l3 l5 h
def f_X11_worked_268 (N : Nat) (K_14 : Nat → Int32 → Int32 → Int32 → PH → Option (Int32 × PH)) : Nat → Nat → Int32 → Int32 → Int32 → Int32 → PH → Option (Int32 × PH)
  | 0 => fun _ _ _ _ _ _ => none
  | n + 1 => fun l0 l1 l2 l3 l5 h => f_X11_worked_268_b N K_14 (f_X11_worked_268 N K_14 n) l0 l1 l2 l3 l5 h
def f_X11_worked_243 (N : Nat) (K_14 : Nat → Int32 → Int32 → Int32 → PH → Option (Int32 × PH)) (s0 : Int32) (l0 : Nat) (l1 : Int32) (l2 : Int32) (l3 : Int32) (l4 : Int32) (h : PH) : Option (Int32 × PH) :=
  if l4 = (29 : Int32) then
    ck (hK h l0 = 10) <|
    cl (f_X11_tests N l0 l2 h) fun r2 h3 =>
    ck (hK h3 l0 = 10) <|
    rq (hR h3 l0 27) fun a6 =>
    ck (hK h3 a6 = 12) <|
    ck (inb l2 (hN h3 a6)) <|
    bd ((hI h3 a6 (ix l2))) fun v9 =>
    bd (l2 + (-1 : Int32)) fun v10 =>
    f_X11_worked_268 N K_14 N l0 l1 v10 l3 v9 h3
  else
    f_X11_worked_268 N K_14 N l0 l1 l2 l3 s0 h
def f_X11_worked_14_b (N : Nat) (K_14 : Nat → Int32 → Int32 → Int32 → PH → Option (Int32 × PH)) (l0 : Nat) (l1 : Int32) (l2 : Int32) (l3 : Int32) (h : PH) : Option (Int32 × PH) :=
  ck (hK h l0 = 10) <|
  rq (hR h l0 21) fun a2 =>
  ck (hK h a2 = 12) <|
  ck (inb l1 (hN h a2)) <|
  if (hI h a2 (ix l1)) ≤ l3 then
    cl (f_X11_tests N l0 (0 : Int32) h) fun r6 h7 =>
    ck (hK h7 l0 = 10) <|
    rq (hR h7 l0 27) fun a9 =>
    ck (hK h7 a9 = 12) <|
    ck (0 < hN h7 a9) <|
    some ((hI h7 a9 0), h7)
  else
    rq (hR h l0 22) fun a12 =>
    ck (hK h a12 = 12) <|
    ck (inb l3 (hN h a12)) <|
    bd ((hI h a12 (ix l3))) fun v15 =>
    if v15 = (28 : Int32) then
      f_X11_worked_46 N K_14 l0 l1 l2 l3 v15 h
    else
      if v15 = (30 : Int32) then
        f_X11_worked_46 N K_14 l0 l1 l2 l3 v15 h
      else
        if v15 = (20 : Int32) then
          f_X11_worked_89 N K_14 l0 l1 l2 l3 v15 h
        else
          if v15 = (21 : Int32) then
            f_X11_worked_89 N K_14 l0 l1 l2 l3 v15 h
          else
            if v15 = (22 : Int32) then
              rq (hR h l0 34) fun a30 =>
              ck (hK h a30 = 12) <|
              ck (inb l2 (hN h a30)) <|
              bd (sI h a30 (ix l2) v15) fun h33 =>
              f_X11_worked_329 N K_14 l0 l1 l2 l3 h33
            else
              if v15 = (24 : Int32) then
                f_X11_worked_137 N K_14 l0 l1 l2 l3 v15 h
              else
                if v15 = (25 : Int32) then
                  f_X11_worked_137 N K_14 l0 l1 l2 l3 v15 h
                else
                  if v15 = (26 : Int32) then
                    f_X11_worked_194 N K_14 l0 l1 l2 l3 v15 h
                  else
                    if v15 = (27 : Int32) then
                      f_X11_worked_194 N K_14 l0 l1 l2 l3 v15 h
                    else
                      if v15 < (100 : Int32) then
                        if (20 : Int32) ≤ v15 then
                          f_X11_worked_243 N K_14 (0 : Int32) l0 l1 l2 l3 v15 h
                        else
                          rq (hR h l0 36) fun a27 =>
                          ck (hK h a27 = 12) <|
                          ck (inb v15 (hN h a27)) <|
                          f_X11_worked_243 N K_14 (hI h a27 (ix v15)) l0 l1 l2 l3 v15 h
                      else
                        f_X11_worked_243 N K_14 (v15 - (100 : Int32)) l0 l1 l2 l3 v15 h
def f_X11_worked_14 (N : Nat) : Nat → Nat → Int32 → Int32 → Int32 → PH → Option (Int32 × PH)
  | 0 => fun _ _ _ _ _ => none
  | n + 1 => fun l0 l1 l2 l3 h => f_X11_worked_14_b N (f_X11_worked_14 N n) l0 l1 l2 l3 h
def f_X11_worked (N : Nat) (l0 : Nat) (l1 : Int32) (h : PH) : Option (Int32 × PH) :=
  ck (hK h l0 = 10) <|
  cl (f_X11_opens N l0 (0 : Int32) h) fun r1 h2 =>
  ck (hK h2 l0 = 10) <|
  rq (hR h2 l0 20) fun a5 =>
  ck (hK h2 a5 = 12) <|
  ck (inb l1 (hN h2 a5)) <|
  bd ((hI h2 a5 (ix l1))) fun v8 =>
  f_X11_worked_14 N N l0 l1 (0 : Int32) v8 h2
/-! X11_isKept -/
def f_X11_isKept (N : Nat) (l0 : Nat) (h : PH) : Option (Int32 × PH) :=
  ck (hK h l0 = 10) <|
  if (hI h l0 6) = (1 : Int32) then
    if (lg_cmp (hJ h l0 7) (133554 : Int64)) = 0 then
      some ((1 : Int32), h)
    else
      if (lg_cmp (hJ h l0 7) (79958 : Int64)) = 0 then
        some ((1 : Int32), h)
      else
        if (lg_cmp (hJ h l0 7) (10553888 : Int64)) = 0 then
          some ((1 : Int32), h)
        else
          if (lg_cmp (hJ h l0 7) (1489744 : Int64)) = 0 then
            some ((1 : Int32), h)
          else
            if (lg_cmp (hJ h l0 7) (127418 : Int64)) = 0 then
              some ((1 : Int32), h)
            else
              if (lg_cmp (hJ h l0 7) (4562600 : Int64)) = 0 then
                some ((1 : Int32), h)
              else
                if (lg_cmp (hJ h l0 7) (47 : Int64)) = 0 then
                  some ((1 : Int32), h)
                else
                  if (lg_cmp (hJ h l0 7) (10502066 : Int64)) = 0 then
                    some ((1 : Int32), h)
                  else
                    if (lg_cmp (hJ h l0 7) (380741 : Int64)) = 0 then
                      some ((1 : Int32), h)
                    else
                      if (lg_cmp (hJ h l0 7) (555 : Int64)) = 0 then
                        some ((1 : Int32), h)
                      else
                        if (lg_cmp (hJ h l0 7) (8935714008 : Int64)) = 0 then
                          some ((1 : Int32), h)
                        else
                          if (lg_cmp (hJ h l0 7) (377776 : Int64)) = 0 then
                            some ((1 : Int32), h)
                          else
                            if (lg_cmp (hJ h l0 7) (50849 : Int64)) = 0 then
                              some ((1 : Int32), h)
                            else
                              if (lg_cmp (hJ h l0 7) (12410623 : Int64)) = 0 then
                                some ((1 : Int32), h)
                              else
                                if (lg_cmp (hJ h l0 7) (3913426 : Int64)) = 0 then
                                  some ((1 : Int32), h)
                                else
                                  if (lg_cmp (hJ h l0 7) (10404118 : Int64)) = 0 then
                                    some ((1 : Int32), h)
                                  else
                                    if (lg_cmp (hJ h l0 7) (55175 : Int64)) = 0 then
                                      some ((1 : Int32), h)
                                    else
                                      if (lg_cmp (hJ h l0 7) (240223 : Int64)) = 0 then
                                        some ((1 : Int32), h)
                                      else
                                        if (lg_cmp (hJ h l0 7) (168984 : Int64)) = 0 then
                                          some ((1 : Int32), h)
                                        else
                                          if (lg_cmp (hJ h l0 7) (10631 : Int64)) = 0 then
                                            some ((1 : Int32), h)
                                          else
                                            if (lg_cmp (hJ h l0 7) (1111 : Int64)) = 0 then
                                              some ((1 : Int32), h)
                                            else
                                              if (lg_cmp (hJ h l0 7) (423 : Int64)) = 0 then
                                                some ((1 : Int32), h)
                                              else
                                                some ((0 : Int32), h)
  else
    some ((1 : Int32), h)
/-! X11_firstName -/
def f_X11_firstName (N : Nat) (l0 : Int32) (h : PH) : Option (Int32 × PH) :=
  if l0 = 0 then
    some ((0 : Int32), h)
  else
    if l0 = (1 : Int32) then
      some ((5 : Int32), h)
    else
      if l0 = (2 : Int32) then
        some ((8 : Int32), h)
      else
        if l0 = (3 : Int32) then
          some ((12 : Int32), h)
        else
          some ((18 : Int32), h)
/-! X11_named -/
def f_X11_named_13_b (N : Nat) (K_13 : Nat → Int32 → Int32 → Int32 → Int32 → PH → Option (Int32 × PH)) (l0 : Nat) (l1 : Int32) (l2 : Int32) (l3 : Int32) (l4 : Int32) (h : PH) : Option (Int32 × PH) :=
  ck (hK h l0 = 10) <|
  rq (hR h l0 10) fun a2 =>
  ck (hK h a2 = 12) <|
  ck (inb (((6 : Int32) * l1) + l2) (hN h a2)) <|
  if (hI h a2 (ix (((6 : Int32) * l1) + l2))) ≤ l4 then
    some ((-1 : Int32), h)
  else
    rq (hR h l0 11) fun a6 =>
    ck (hK h a6 = 14) <|
    ck (inb (l3 + l4) (hN h a6)) <|
    if (lg_cmp (hJ h a6 (ix (l3 + l4))) (hJ h l0 7)) = 0 then
      some (l4, h)
    else
      bd (l4 + (1 : Int32)) fun v10 =>
      K_13 l0 l1 l2 l3 v10 h
def f_X11_named_13 (N : Nat) : Nat → Nat → Int32 → Int32 → Int32 → Int32 → PH → Option (Int32 × PH)
  | 0 => fun _ _ _ _ _ _ => none
  | n + 1 => fun l0 l1 l2 l3 l4 h => f_X11_named_13_b N (f_X11_named_13 N n) l0 l1 l2 l3 l4 h
def f_X11_named (N : Nat) (l0 : Nat) (l1 : Int32) (l2 : Int32) (h : PH) : Option (Int32 × PH) :=
  cl (f_X11_firstName N l2 h) fun r1 h2 =>
  bd ((((22 : Int32) * l1) + r1)) fun v3 =>
  f_X11_named_13 N N l0 l1 l2 v3 (0 : Int32) h2
/-! X11_needsNumber -/
def f_X11_needsNumber (N : Nat) (l0 : Nat) (l1 : Int32) (l2 : Int32) (h : PH) : Option (Int32 × PH) :=
  ck (hK h l0 = 10) <|
  if (hI h l0 6) = (2 : Int32) then
    cl (f_X11_within N (hI h l0 8) l1 l2 h) fun r3 h4 =>
    if r3 = 0 then
      ck (hK h4 l0 = 10) <|
      cl (f_X11_fails N l0 (4 : Int32) h4) fun r11 h12 =>
      ck (r11 = 0 ∨ r11 = 1) <|
      some (r11, h12)
    else
      ck (hK h4 l0 = 10) <|
      bd (sI h4 l0 37 (hI h4 l0 8)) fun h7 =>
      ck (hK h7 l0 = 10) <|
      cl (f_X11_nextToken N l0 h7) fun r8 h9 =>
      some ((1 : Int32), h9)
  else
    cl (f_X11_fails N l0 (1 : Int32) h) fun r15 h16 =>
    ck (r15 = 0 ∨ r15 = 1) <|
    some (r15, h16)
/-! X11_needsWord -/
def f_X11_needsWord (N : Nat) (l0 : Nat) (l1 : Int64) (h : PH) : Option (Int32 × PH) :=
  ck (hK h l0 = 10) <|
  cl (f_X11_isWord N l0 l1 h) fun r1 h2 =>
  if r1 = 0 then
    ck (hK h2 l0 = 10) <|
    cl (f_X11_fails N l0 (1 : Int32) h2) fun r8 h9 =>
    ck (r8 = 0 ∨ r8 = 1) <|
    some (r8, h9)
  else
    ck (hK h2 l0 = 10) <|
    cl (f_X11_nextToken N l0 h2) fun r5 h6 =>
    some ((1 : Int32), h6)
/-! X11_needsBoth -/
def f_X11_needsBoth (N : Nat) (l0 : Nat) (l1 : Int64) (l3 : Int32) (l4 : Int32) (h : PH) : Option (Int32 × PH) :=
  ck (hK h l0 = 10) <|
  cl (f_X11_needsWord N l0 l1 h) fun r1 h2 =>
  if r1 = 0 then
    some ((0 : Int32), h2)
  else
    ck (hK h2 l0 = 10) <|
    cl (f_X11_needsNumber N l0 l3 l4 h2) fun r5 h6 =>
    if r5 = 0 then
      some ((0 : Int32), h6)
    else
      some ((1 : Int32), h6)
/-! X11_closes -/
def f_X11_closes (N : Nat) (l0 : Nat) (h : PH) : Option (Int32 × PH) :=
  ck (hK h l0 = 10) <|
  cl (f_X11_isSign N l0 (59 : Int32) h) fun r1 h2 =>
  if r1 = 0 then
    ck (hK h2 l0 = 10) <|
    cl (f_X11_fails N l0 (1 : Int32) h2) fun r8 h9 =>
    ck (r8 = 0 ∨ r8 = 1) <|
    some (r8, h9)
  else
    ck (hK h2 l0 = 10) <|
    cl (f_X11_nextToken N l0 h2) fun r5 h6 =>
    some ((1 : Int32), h6)
/-! X11_needsNew -/
def f_X11_needsNew_15_b (N : Nat) (K_15 : Nat → Int32 → PH → Option (Int32 × PH)) (l0 : Nat) (l1 : Int32) (h : PH) : Option (Int32 × PH) :=
  if (4 : Int32) < l1 then
    ck (hK h l0 = 10) <|
    bd (sJ h l0 38 (hJ h l0 7)) fun h3 =>
    ck (hK h3 l0 = 10) <|
    cl (f_X11_nextToken N l0 h3) fun r4 h5 =>
    some ((1 : Int32), h5)
  else
    ck (hK h l0 = 10) <|
    cl (f_X11_named N l0 (1 : Int32) l1 h) fun r7 h8 =>
    if r7 < 0 then
      bd (l1 + (1 : Int32)) fun v11 =>
      K_15 l0 v11 h8
    else
      ck (hK h8 l0 = 10) <|
      cl (f_X11_fails N l0 (3 : Int32) h8) fun r12 h13 =>
      ck (r12 = 0 ∨ r12 = 1) <|
      some (r12, h13)
def f_X11_needsNew_15 (N : Nat) : Nat → Nat → Int32 → PH → Option (Int32 × PH)
  | 0 => fun _ _ _ => none
  | n + 1 => fun l0 l1 h => f_X11_needsNew_15_b N (f_X11_needsNew_15 N n) l0 l1 h
def f_X11_needsNew (N : Nat) (l0 : Nat) (h : PH) : Option (Int32 × PH) :=
  ck (hK h l0 = 10) <|
  cl (f_X11_isKept N l0 h) fun r1 h2 =>
  if r1 = 0 then
    f_X11_needsNew_15 N N l0 (0 : Int32) h2
  else
    ck (hK h2 l0 = 10) <|
    cl (f_X11_fails N l0 (1 : Int32) h2) fun r5 h6 =>
    ck (r5 = 0 ∨ r5 = 1) <|
    some (r5, h6)
/-! X11_keepsName -/
def f_X11_keepsName (N : Nat) (l0 : Nat) (l1 : Int32) (h : PH) : Option (Unit × PH) :=
  ck (hK h l0 = 10) <|
  rq (hR h l0 11) fun a2 =>
  cl (f_X11_firstName N l1 h) fun r3 h4 =>
  ck (hK h4 l0 = 10) <|
  rq (hR h4 l0 10) fun a6 =>
  ck (hK h4 a6 = 12) <|
  ck (inb ((6 : Int32) + l1) (hN h4 a6)) <|
  ck (hK h4 a2 = 14) <|
  ck (inb (((22 : Int32) + r3) + (hI h4 a6 (ix ((6 : Int32) + l1)))) (hN h4 a2)) <|
  bd (sJ h4 a2 (ix (((22 : Int32) + r3) + (hI h4 a6 (ix ((6 : Int32) + l1))))) (hJ h4 l0 38)) fun h11 =>
  ck (hK h11 l0 = 10) <|
  rq (hR h11 l0 10) fun a13 =>
  bd (((6 : Int32) + l1)) fun v14 =>
  ck (hK h11 a13 = 12) <|
  ck (inb v14 (hN h11 a13)) <|
  bd (sI h11 a13 (ix v14) ((hI h11 a13 (ix v14)) + (1 : Int32))) fun h17 =>
  some ((), h17)
/-! X11_needsNamed -/
def f_X11_needsNamed (N : Nat) (l0 : Nat) (l1 : Int32) (l2 : Int32) (h : PH) : Option (Int32 × PH) :=
  ck (hK h l0 = 10) <|
  cl (f_X11_isKept N l0 h) fun r1 h2 =>
  if r1 = 0 then
    ck (hK h2 l0 = 10) <|
    cl (f_X11_named N l0 l1 l2 h2) fun r5 h6 =>
    ck (hK h6 l0 = 10) <|
    bd (sI h6 l0 37 r5) fun h9 =>
    ck (hK h9 l0 = 10) <|
    if 0 ≤ (hI h9 l0 37) then
      some ((1 : Int32), h9)
    else
      cl (f_X11_fails N l0 (2 : Int32) h9) fun r12 h13 =>
      if r12 = 0 then
        some ((0 : Int32), h13)
      else
        some ((1 : Int32), h13)
  else
    ck (hK h2 l0 = 10) <|
    cl (f_X11_fails N l0 (1 : Int32) h2) fun r15 h16 =>
    ck (r15 = 0 ∨ r15 = 1) <|
    some (r15, h16)
/-! X11_readsFuel -/
def f_X11_readsFuel (N : Nat) (l0 : Nat) (h : PH) : Option (Int32 × PH) :=
  ck (hK h l0 = 10) <|
  rq (hR h l0 10) fun a2 =>
  ck (hK h a2 = 12) <|
  ck (6 < hN h a2) <|
  bd (((5 : Int32) + (hI h a2 6))) fun v5 =>
  if v5 = (10 : Int32) then
    cl (f_X11_fails N l0 (5 : Int32) h) fun r47 h48 =>
    ck (r47 = 0 ∨ r47 = 1) <|
    some (r47, h48)
  else
    cl (f_X11_nextToken N l0 h) fun r7 h8 =>
    ck (hK h8 l0 = 10) <|
    cl (f_X11_needsNew N l0 h8) fun r9 h10 =>
    if r9 = 0 then
      some ((0 : Int32), h10)
    else
      ck (hK h10 l0 = 10) <|
      cl (f_X11_needsBoth N l0 (79958 : Int64) (0 : Int32) (99 : Int32) h10) fun r13 h14 =>
      if r13 = 0 then
        some ((0 : Int32), h14)
      else
        ck (hK h14 l0 = 10) <|
        rq (hR h14 l0 12) fun a18 =>
        ck (hK h14 a18 = 12) <|
        ck (inb v5 (hN h14 a18)) <|
        bd (sI h14 a18 (ix v5) (hI h14 l0 37)) fun h21 =>
        ck (hK h21 l0 = 10) <|
        cl (f_X11_needsBoth N l0 (10553888 : Int64) (0 : Int32) (99 : Int32) h21) fun r22 h23 =>
        if r22 = 0 then
          some ((0 : Int32), h23)
        else
          ck (hK h23 l0 = 10) <|
          rq (hR h23 l0 13) fun a27 =>
          ck (hK h23 a27 = 12) <|
          ck (inb v5 (hN h23 a27)) <|
          bd (sI h23 a27 (ix v5) (hI h23 l0 37)) fun h30 =>
          ck (hK h30 l0 = 10) <|
          cl (f_X11_needsBoth N l0 (1489744 : Int64) (1 : Int32) (9 : Int32) h30) fun r31 h32 =>
          if r31 = 0 then
            some ((0 : Int32), h32)
          else
            ck (hK h32 l0 = 10) <|
            rq (hR h32 l0 14) fun a36 =>
            ck (hK h32 a36 = 12) <|
            ck (inb v5 (hN h32 a36)) <|
            bd (sI h32 a36 (ix v5) (hI h32 l0 37)) fun h39 =>
            ck (hK h39 l0 = 10) <|
            cl (f_X11_keepsName N l0 (0 : Int32) h39) fun r40 h41 =>
            ck (hK h41 l0 = 10) <|
            cl (f_X11_closes N l0 h41) fun r43 h44 =>
            ck (r43 = 0 ∨ r43 = 1) <|
            some (r43, h44)
/-! X11_readsFlue -/
def f_X11_readsFlue (N : Nat) (l0 : Nat) (h : PH) : Option (Int32 × PH) :=
  ck (hK h l0 = 10) <|
  rq (hR h l0 10) fun a2 =>
  ck (hK h a2 = 12) <|
  ck (7 < hN h a2) <|
  if (hI h a2 7) = (3 : Int32) then
    cl (f_X11_fails N l0 (5 : Int32) h) fun r19 h20 =>
    ck (r19 = 0 ∨ r19 = 1) <|
    some (r19, h20)
  else
    cl (f_X11_nextToken N l0 h) fun r6 h7 =>
    ck (hK h7 l0 = 10) <|
    cl (f_X11_needsNew N l0 h7) fun r8 h9 =>
    if r8 = 0 then
      some ((0 : Int32), h9)
    else
      ck (hK h9 l0 = 10) <|
      cl (f_X11_keepsName N l0 (1 : Int32) h9) fun r12 h13 =>
      ck (hK h13 l0 = 10) <|
      cl (f_X11_closes N l0 h13) fun r15 h16 =>
      ck (r15 = 0 ∨ r15 = 1) <|
      some (r15, h16)
/-! X11_readsHouse -/
def f_X11_readsHouse_74_b (N : Nat) (K_74 : Nat → Int32 → Int64 → Int32 → PH → Option (Int32 × PH)) (l0 : Nat) (l1 : Int32) (l2 : Int64) (l4 : Int32) (h : PH) : Option (Int32 × PH) :=
  if (5 : Int32) ≤ l4 then
    ck (hK h l0 = 10) <|
    cl (f_X11_nextToken N l0 h) fun r2 h3 =>
    ck (hK h3 l0 = 10) <|
    bd (sJ h3 l0 38 l2) fun h6 =>
    ck (hK h6 l0 = 10) <|
    cl (f_X11_keepsName N l0 (2 : Int32) h6) fun r7 h8 =>
    ck (hK h8 l0 = 10) <|
    cl (f_X11_closes N l0 h8) fun r10 h11 =>
    ck (r10 = 0 ∨ r10 = 1) <|
    some (r10, h11)
  else
    ck (hK h l0 = 10) <|
    rq (hR h l0 16) fun a15 =>
    ck (hK h a15 = 12) <|
    ck (inb (((5 : Int32) * l1) + l4) (hN h a15)) <|
    bd (sI h a15 (ix (((5 : Int32) * l1) + l4)) (-1 : Int32)) fun h18 =>
    bd (l4 + (1 : Int32)) fun v19 =>
    K_74 l0 l1 l2 v19 h18
def f_X11_readsHouse_74 (N : Nat) : Nat → Nat → Int32 → Int64 → Int32 → PH → Option (Int32 × PH)
  | 0 => fun _ _ _ _ _ => none
  | n + 1 => fun l0 l1 l2 l4 h => f_X11_readsHouse_74_b N (f_X11_readsHouse_74 N n) l0 l1 l2 l4 h
def f_X11_readsHouse (N : Nat) (l0 : Nat) (h : PH) : Option (Int32 × PH) :=
  ck (hK h l0 = 10) <|
  rq (hR h l0 10) fun a2 =>
  ck (hK h a2 = 12) <|
  ck (8 < hN h a2) <|
  bd (((4 : Int32) + (hI h a2 8))) fun v5 =>
  if v5 = (8 : Int32) then
    cl (f_X11_fails N l0 (5 : Int32) h) fun r27 h28 =>
    ck (r27 = 0 ∨ r27 = 1) <|
    some (r27, h28)
  else
    cl (f_X11_nextToken N l0 h) fun r7 h8 =>
    ck (hK h8 l0 = 10) <|
    cl (f_X11_needsNew N l0 h8) fun r9 h10 =>
    if r9 = 0 then
      some ((0 : Int32), h10)
    else
      ck (hK h10 l0 = 10) <|
      bd ((hJ h10 l0 38)) fun v14 =>
      cl (f_X11_needsWord N l0 (47 : Int64) h10) fun r15 h16 =>
      if r15 = 0 then
        some ((0 : Int32), h16)
      else
        ck (hK h16 l0 = 10) <|
        cl (f_X11_needsNamed N l0 (1 : Int32) (1 : Int32) h16) fun r18 h19 =>
        if r18 = 0 then
          some ((0 : Int32), h19)
        else
          ck (hK h19 l0 = 10) <|
          rq (hR h19 l0 15) fun a23 =>
          ck (hK h19 a23 = 12) <|
          ck (inb v5 (hN h19 a23)) <|
          bd (sI h19 a23 (ix v5) (hI h19 l0 37)) fun h26 =>
          f_X11_readsHouse_74 N N l0 v5 v14 (0 : Int32) h26
/-! X11_readsStock -/
def f_X11_readsStock (N : Nat) (l0 : Nat) (h : PH) : Option (Int32 × PH) :=
  ck (hK h l0 = 10) <|
  cl (f_X11_nextToken N l0 h) fun r1 h2 =>
  ck (hK h2 l0 = 10) <|
  cl (f_X11_needsNamed N l0 (1 : Int32) (2 : Int32) h2) fun r4 h5 =>
  if r4 = 0 then
    some ((0 : Int32), h5)
  else
    ck (hK h5 l0 = 10) <|
    bd ((hI h5 l0 37)) fun v9 =>
    cl (f_X11_nextToken N l0 h5) fun r10 h11 =>
    ck (hK h11 l0 = 10) <|
    cl (f_X11_needsNamed N l0 (1 : Int32) (0 : Int32) h11) fun r12 h13 =>
    if r12 = 0 then
      some ((0 : Int32), h13)
    else
      ck (hK h13 l0 = 10) <|
      bd ((((20 : Int32) + ((5 : Int32) * v9)) + (hI h13 l0 37))) fun v17 =>
      rq (hR h13 l0 16) fun a18 =>
      ck (hK h13 a18 = 12) <|
      ck (inb v17 (hN h13 a18)) <|
      if (hI h13 a18 (ix v17)) < 0 then
        cl (f_X11_nextToken N l0 h13) fun r22 h23 =>
        ck (hK h23 l0 = 10) <|
        cl (f_X11_needsNumber N l0 (0 : Int32) (99 : Int32) h23) fun r24 h25 =>
        if r24 = 0 then
          some ((0 : Int32), h25)
        else
          ck (hK h25 l0 = 10) <|
          rq (hR h25 l0 16) fun a29 =>
          ck (hK h25 a29 = 12) <|
          ck (inb v17 (hN h25 a29)) <|
          bd (sI h25 a29 (ix v17) (hI h25 l0 37)) fun h32 =>
          ck (hK h32 l0 = 10) <|
          cl (f_X11_closes N l0 h32) fun r33 h34 =>
          ck (r33 = 0 ∨ r33 = 1) <|
          some (r33, h34)
      else
        cl (f_X11_fails N l0 (3 : Int32) h13) fun r37 h38 =>
        ck (r37 = 0 ∨ r37 = 1) <|
        some (r37, h38)
/-! X11_readsSpan -/
def f_X11_readsSpan (N : Nat) (l0 : Nat) (l1 : Int64) (l3 : Int32) (h : PH) : Option (Int32 × PH) :=
  ck (hK h l0 = 10) <|
  cl (f_X11_needsBoth N l0 l1 (0 : Int32) (999 : Int32) h) fun r1 h2 =>
  if r1 = 0 then
    some ((0 : Int32), h2)
  else
    ck (hK h2 l0 = 10) <|
    rq (hR h2 l0 17) fun a6 =>
    ck (hK h2 a6 = 12) <|
    ck (inb l3 (hN h2 a6)) <|
    bd (sI h2 a6 (ix l3) (hI h2 l0 37)) fun h9 =>
    ck (hK h9 l0 = 10) <|
    rq (hR h9 l0 17) fun a11 =>
    ck (hK h9 a11 = 12) <|
    ck (inb l3 (hN h9 a11)) <|
    cl (f_X11_needsBoth N l0 (555 : Int64) (hI h9 a11 (ix l3)) (999 : Int32) h9) fun r14 h15 =>
    if r14 = 0 then
      some ((0 : Int32), h15)
    else
      ck (hK h15 l0 = 10) <|
      rq (hR h15 l0 17) fun a18 =>
      ck (hK h15 a18 = 12) <|
      ck (inb (l3 + (1 : Int32)) (hN h15 a18)) <|
      bd (sI h15 a18 (ix (l3 + (1 : Int32))) (hI h15 l0 37)) fun h21 =>
      some ((1 : Int32), h21)
/-! X11_readsSign -/
def f_X11_readsSign (N : Nat) (l0 : Nat) (h : PH) : Option (Int32 × PH) :=
  ck (hK h l0 = 10) <|
  rq (hR h l0 10) fun a2 =>
  ck (hK h a2 = 12) <|
  ck (9 < hN h a2) <|
  bd (((6 : Int32) + (hI h a2 9))) fun v5 =>
  if v5 = (12 : Int32) then
    cl (f_X11_fails N l0 (5 : Int32) h) fun r28 h29 =>
    ck (r28 = 0 ∨ r28 = 1) <|
    some (r28, h29)
  else
    cl (f_X11_nextToken N l0 h) fun r7 h8 =>
    ck (hK h8 l0 = 10) <|
    cl (f_X11_needsNew N l0 h8) fun r9 h10 =>
    if r9 = 0 then
      some ((0 : Int32), h10)
    else
      ck (hK h10 l0 = 10) <|
      cl (f_X11_readsSpan N l0 (79958 : Int64) ((4 : Int32) * v5) h10) fun r13 h14 =>
      if r13 = 0 then
        some ((0 : Int32), h14)
      else
        ck (hK h14 l0 = 10) <|
        cl (f_X11_readsSpan N l0 (10553888 : Int64) (((4 : Int32) * v5) + (2 : Int32)) h14) fun r17 h18 =>
        if r17 = 0 then
          some ((0 : Int32), h18)
        else
          ck (hK h18 l0 = 10) <|
          cl (f_X11_keepsName N l0 (3 : Int32) h18) fun r21 h22 =>
          ck (hK h22 l0 = 10) <|
          cl (f_X11_closes N l0 h22) fun r24 h25 =>
          ck (r24 = 0 ∨ r24 = 1) <|
          some (r24, h25)
/-! X11_readsWatcher -/
def f_X11_readsWatcher_93 (N : Nat) (s0 : Int32) (s1 : Int32) (s2 : Nat) (l0 : Nat) (l1 : Int32) (h : PH) : Option (Int32 × PH) :=
  ck (hK h s2 = 12) <|
  ck (inb s1 (hN h s2)) <|
  bd (sI h s2 (ix s1) s0) fun h3 =>
  ck (hK h3 l0 = 10) <|
  rq (hR h3 l0 18) fun a5 =>
  ck (hK h3 a5 = 12) <|
  ck (inb l1 (hN h3 a5)) <|
  if 0 ≤ (hI h3 a5 (ix l1)) then
    cl (f_X11_nextToken N l0 h3) fun r9 h10 =>
    ck (hK h10 l0 = 10) <|
    cl (f_X11_keepsName N l0 (4 : Int32) h10) fun r11 h12 =>
    ck (hK h12 l0 = 10) <|
    cl (f_X11_closes N l0 h12) fun r14 h15 =>
    ck (r14 = 0 ∨ r14 = 1) <|
    some (r14, h15)
  else
    cl (f_X11_fails N l0 (1 : Int32) h3) fun r18 h19 =>
    ck (r18 = 0 ∨ r18 = 1) <|
    some (r18, h19)
def f_X11_readsWatcher (N : Nat) (l0 : Nat) (h : PH) : Option (Int32 × PH) :=
  ck (hK h l0 = 10) <|
  rq (hR h l0 10) fun a2 =>
  ck (hK h a2 = 12) <|
  ck (10 < hN h a2) <|
  bd (((4 : Int32) + (hI h a2 10))) fun v5 =>
  if v5 = (8 : Int32) then
    cl (f_X11_fails N l0 (5 : Int32) h) fun r30 h31 =>
    ck (r30 = 0 ∨ r30 = 1) <|
    some (r30, h31)
  else
    cl (f_X11_nextToken N l0 h) fun r7 h8 =>
    ck (hK h8 l0 = 10) <|
    cl (f_X11_needsNew N l0 h8) fun r9 h10 =>
    if r9 = 0 then
      some ((0 : Int32), h10)
    else
      ck (hK h10 l0 = 10) <|
      cl (f_X11_needsWord N l0 (377776 : Int64) h10) fun r13 h14 =>
      if r13 = 0 then
        some ((0 : Int32), h14)
      else
        ck (hK h14 l0 = 10) <|
        rq (hR h14 l0 18) fun a18 =>
        cl (f_X11_isWord N l0 (79958 : Int64) h14) fun r19 h20 =>
        if r19 = 0 then
          ck (hK h20 l0 = 10) <|
          cl (f_X11_isWord N l0 (10553888 : Int64) h20) fun r22 h23 =>
          if r22 = 0 then
            ck (hK h23 l0 = 10) <|
            cl (f_X11_isWord N l0 (50849 : Int64) h23) fun r26 h27 =>
            if r26 = 0 then
              f_X11_readsWatcher_93 N (-1 : Int32) v5 a18 l0 v5 h27
            else
              f_X11_readsWatcher_93 N (2 : Int32) v5 a18 l0 v5 h27
          else
            f_X11_readsWatcher_93 N (1 : Int32) v5 a18 l0 v5 h23
        else
          f_X11_readsWatcher_93 N (0 : Int32) v5 a18 l0 v5 h20
/-! X11_readsWinds -/
def f_X11_readsWinds_35 (N : Nat) (K_22 : Nat → Int32 → PH → Option (Int32 × PH)) (l0 : Nat) (l1 : Int32) (h : PH) : Option (Int32 × PH) :=
  ck (hK h l0 = 10) <|
  if (hI h l0 6) = (2 : Int32) then
    if (hI h l0 8) ≤ (9 : Int32) then
      if l1 = (12 : Int32) then
        cl (f_X11_fails N l0 (5 : Int32) h) fun r13 h14 =>
        ck (r13 = 0 ∨ r13 = 1) <|
        some (r13, h14)
      else
        rq (hR h l0 19) fun a5 =>
        ck (hK h a5 = 12) <|
        ck (inb ((12 : Int32) + l1) (hN h a5)) <|
        bd (sI h a5 (ix ((12 : Int32) + l1)) (hI h l0 8)) fun h8 =>
        bd (l1 + (1 : Int32)) fun v9 =>
        ck (hK h8 l0 = 10) <|
        cl (f_X11_nextToken N l0 h8) fun r10 h11 =>
        K_22 l0 v9 h11
    else
      cl (f_X11_fails N l0 (4 : Int32) h) fun r16 h17 =>
      ck (r16 = 0 ∨ r16 = 1) <|
      some (r16, h17)
  else
    cl (f_X11_fails N l0 (1 : Int32) h) fun r19 h20 =>
    ck (r19 = 0 ∨ r19 = 1) <|
    some (r19, h20)
def f_X11_readsWinds_22_b (N : Nat) (K_22 : Nat → Int32 → PH → Option (Int32 × PH)) (l0 : Nat) (l1 : Int32) (h : PH) : Option (Int32 × PH) :=
  if l1 = 0 then
    f_X11_readsWinds_35 N K_22 l0 l1 h
  else
    ck (hK h l0 = 10) <|
    cl (f_X11_isSign N l0 (59 : Int32) h) fun r2 h3 =>
    if r2 = 0 then
      f_X11_readsWinds_35 N K_22 l0 l1 h3
    else
      ck (hK h3 l0 = 10) <|
      rq (hR h3 l0 10) fun a7 =>
      ck (hK h3 a7 = 12) <|
      ck (11 < hN h3 a7) <|
      bd (sI h3 a7 11 l1) fun h10 =>
      ck (hK h10 l0 = 10) <|
      cl (f_X11_closes N l0 h10) fun r11 h12 =>
      ck (r11 = 0 ∨ r11 = 1) <|
      some (r11, h12)
def f_X11_readsWinds_22 (N : Nat) : Nat → Nat → Int32 → PH → Option (Int32 × PH)
  | 0 => fun _ _ _ => none
  | n + 1 => fun l0 l1 h => f_X11_readsWinds_22_b N (f_X11_readsWinds_22 N n) l0 l1 h
def f_X11_readsWinds (N : Nat) (l0 : Nat) (h : PH) : Option (Int32 × PH) :=
  ck (hK h l0 = 10) <|
  rq (hR h l0 10) fun a2 =>
  ck (hK h a2 = 12) <|
  ck (11 < hN h a2) <|
  if (hI h a2 11) ≤ 0 then
    cl (f_X11_nextToken N l0 h) fun r6 h7 =>
    f_X11_readsWinds_22 N N l0 (0 : Int32) h7
  else
    cl (f_X11_fails N l0 (3 : Int32) h) fun r8 h9 =>
    ck (r8 = 0 ∨ r8 = 1) <|
    some (r8, h9)
/-! X11_readsLaw -/
def f_X11_readsLaw (N : Nat) (l0 : Nat) (l1 : Int32) (h : PH) : Option (Int32 × PH) :=
  ck (hK h l0 = 10) <|
  rq (hR h l0 21) fun a2 =>
  ck (hK h a2 = 12) <|
  ck (inb ((2 : Int32) + l1) (hN h a2)) <|
  rq (hR h l0 20) fun a5 =>
  ck (hK h a5 = 12) <|
  ck (inb ((2 : Int32) + l1) (hN h a5)) <|
  if (hI h a2 (ix ((2 : Int32) + l1))) ≤ (hI h a5 (ix ((2 : Int32) + l1))) then
    bd (sI h l0 24 l1) fun h9 =>
    ck (hK h9 l0 = 10) <|
    cl (f_X11_nextToken N l0 h9) fun r10 h11 =>
    ck (hK h11 l0 = 10) <|
    rq (hR h11 l0 20) fun a14 =>
    ck (hK h11 a14 = 12) <|
    ck (inb ((2 : Int32) + l1) (hN h11 a14)) <|
    bd (sI h11 a14 (ix ((2 : Int32) + l1)) (hI h11 l0 23)) fun h17 =>
    ck (hK h17 l0 = 10) <|
    cl (f_X11_reads N l0 h17) fun r18 h19 =>
    if r18 = 0 then
      some ((0 : Int32), h19)
    else
      ck (hK h19 l0 = 10) <|
      rq (hR h19 l0 21) fun a23 =>
      ck (hK h19 a23 = 12) <|
      ck (inb ((2 : Int32) + l1) (hN h19 a23)) <|
      bd (sI h19 a23 (ix ((2 : Int32) + l1)) (hI h19 l0 23)) fun h26 =>
      some ((1 : Int32), h26)
  else
    cl (f_X11_fails N l0 (3 : Int32) h) fun r27 h28 =>
    ck (r27 = 0 ∨ r27 = 1) <|
    some (r27, h28)
/-! X11_begins -/
def f_X11_begins (N : Nat) (l0 : Nat) (h : PH) : Option (Unit × PH) :=
  ck (hK h l0 = 10) <|
  bd (sI h l0 3 (hI h l0 1)) fun h2 =>
  ck (hK h2 l0 = 10) <|
  bd (sI h2 l0 1 (0 : Int32)) fun h4 =>
  ck (hK h4 l0 = 10) <|
  bd (sI h4 l0 4 (0 : Int32)) fun h6 =>
  ck (hK h6 l0 = 10) <|
  cl (f_X11_nextToken N l0 h6) fun r7 h8 =>
  some ((), h8)
/-! X11_readsAll -/
def f_X11_readsAll_231 (N : Nat) (K_64 : Nat → PH → Option (Int32 × PH)) (s0 : Int32) (l0 : Nat) (h : PH) : Option (Int32 × PH) :=
  if s0 = 0 then
    some ((0 : Int32), h)
  else
    K_64 l0 h
def f_X11_readsAll_64_b (N : Nat) (K_64 : Nat → PH → Option (Int32 × PH)) (l0 : Nat) (h : PH) : Option (Int32 × PH) :=
  ck (hK h l0 = 10) <|
  if (hI h l0 6) = 0 then
    some ((1 : Int32), h)
  else
    cl (f_X11_isWord N l0 (133554 : Int64) h) fun r3 h4 =>
    if r3 = 0 then
      ck (hK h4 l0 = 10) <|
      cl (f_X11_isWord N l0 (127418 : Int64) h4) fun r6 h7 =>
      if r6 = 0 then
        ck (hK h7 l0 = 10) <|
        cl (f_X11_isWord N l0 (4562600 : Int64) h7) fun r10 h11 =>
        if r10 = 0 then
          ck (hK h11 l0 = 10) <|
          cl (f_X11_isWord N l0 (10502066 : Int64) h11) fun r14 h15 =>
          if r14 = 0 then
            ck (hK h15 l0 = 10) <|
            cl (f_X11_isWord N l0 (380741 : Int64) h15) fun r18 h19 =>
            if r18 = 0 then
              ck (hK h19 l0 = 10) <|
              cl (f_X11_isWord N l0 (8935714008 : Int64) h19) fun r22 h23 =>
              if r22 = 0 then
                ck (hK h23 l0 = 10) <|
                cl (f_X11_isWord N l0 (12410623 : Int64) h23) fun r26 h27 =>
                if r26 = 0 then
                  ck (hK h27 l0 = 10) <|
                  cl (f_X11_isWord N l0 (3913426 : Int64) h27) fun r30 h31 =>
                  if r30 = 0 then
                    ck (hK h31 l0 = 10) <|
                    cl (f_X11_isWord N l0 (10404118 : Int64) h31) fun r34 h35 =>
                    if r34 = 0 then
                      ck (hK h35 l0 = 10) <|
                      cl (f_X11_fails N l0 (1 : Int32) h35) fun r38 h39 =>
                      f_X11_readsAll_231 N K_64 r38 l0 h39
                    else
                      ck (hK h35 l0 = 10) <|
                      cl (f_X11_readsLaw N l0 (1 : Int32) h35) fun r41 h42 =>
                      f_X11_readsAll_231 N K_64 r41 l0 h42
                  else
                    ck (hK h31 l0 = 10) <|
                    cl (f_X11_readsLaw N l0 (0 : Int32) h31) fun r44 h45 =>
                    f_X11_readsAll_231 N K_64 r44 l0 h45
                else
                  ck (hK h27 l0 = 10) <|
                  cl (f_X11_readsWinds N l0 h27) fun r47 h48 =>
                  f_X11_readsAll_231 N K_64 r47 l0 h48
              else
                ck (hK h23 l0 = 10) <|
                cl (f_X11_readsWatcher N l0 h23) fun r50 h51 =>
                f_X11_readsAll_231 N K_64 r50 l0 h51
            else
              ck (hK h19 l0 = 10) <|
              cl (f_X11_readsSign N l0 h19) fun r53 h54 =>
              f_X11_readsAll_231 N K_64 r53 l0 h54
          else
            ck (hK h15 l0 = 10) <|
            cl (f_X11_readsStock N l0 h15) fun r56 h57 =>
            f_X11_readsAll_231 N K_64 r56 l0 h57
        else
          ck (hK h11 l0 = 10) <|
          cl (f_X11_readsHouse N l0 h11) fun r59 h60 =>
          f_X11_readsAll_231 N K_64 r59 l0 h60
      else
        ck (hK h7 l0 = 10) <|
        cl (f_X11_readsFlue N l0 h7) fun r62 h63 =>
        f_X11_readsAll_231 N K_64 r62 l0 h63
    else
      ck (hK h4 l0 = 10) <|
      cl (f_X11_readsFuel N l0 h4) fun r65 h66 =>
      f_X11_readsAll_231 N K_64 r65 l0 h66
def f_X11_readsAll_64 (N : Nat) : Nat → Nat → PH → Option (Int32 × PH)
  | 0 => fun _ _ => none
  | n + 1 => fun l0 h => f_X11_readsAll_64_b N (f_X11_readsAll_64 N n) l0 h
def f_X11_readsAll_24_b (N : Nat) (K_24 : Nat → Int32 → PH → Option (Int32 × PH)) (l0 : Nat) (l1 : Int32) (h : PH) : Option (Int32 × PH) :=
  if (4 : Int32) ≤ l1 then
    ck (hK h l0 = 10) <|
    bd (sI h l0 23 (1000 : Int32)) fun h3 =>
    ck (hK h3 l0 = 10) <|
    cl (f_X11_begins N l0 h3) fun r4 h5 =>
    f_X11_readsAll_64 N N l0 h5
  else
    ck (hK h l0 = 10) <|
    rq (hR h l0 20) fun a8 =>
    ck (hK h a8 = 12) <|
    ck (inb l1 (hN h a8)) <|
    bd (sI h a8 (ix l1) (1000 : Int32)) fun h11 =>
    ck (hK h11 l0 = 10) <|
    rq (hR h11 l0 21) fun a13 =>
    ck (hK h11 a13 = 12) <|
    ck (inb l1 (hN h11 a13)) <|
    bd (sI h11 a13 (ix l1) (1000 : Int32)) fun h16 =>
    bd (l1 + (1 : Int32)) fun v17 =>
    K_24 l0 v17 h16
def f_X11_readsAll_24 (N : Nat) : Nat → Nat → Int32 → PH → Option (Int32 × PH)
  | 0 => fun _ _ _ => none
  | n + 1 => fun l0 l1 h => f_X11_readsAll_24_b N (f_X11_readsAll_24 N n) l0 l1 h
def f_X11_readsAll_3_b (N : Nat) (K_3 : Nat → Int32 → PH → Option (Int32 × PH)) (l0 : Nat) (l1 : Int32) (h : PH) : Option (Int32 × PH) :=
  if (12 : Int32) ≤ l1 then
    f_X11_readsAll_24 N N l0 (2 : Int32) h
  else
    ck (hK h l0 = 10) <|
    rq (hR h l0 10) fun a3 =>
    ck (hK h a3 = 12) <|
    ck (inb l1 (hN h a3)) <|
    bd (sI h a3 (ix l1) (0 : Int32)) fun h6 =>
    bd (l1 + (1 : Int32)) fun v7 =>
    K_3 l0 v7 h6
def f_X11_readsAll_3 (N : Nat) : Nat → Nat → Int32 → PH → Option (Int32 × PH)
  | 0 => fun _ _ _ => none
  | n + 1 => fun l0 l1 h => f_X11_readsAll_3_b N (f_X11_readsAll_3 N n) l0 l1 h
def f_X11_readsAll (N : Nat) (l0 : Nat) (h : PH) : Option (Int32 × PH) :=
  f_X11_readsAll_3 N N l0 (6 : Int32) h
/-! X11_shifts -/
def f_X11_shifts_2_b (N : Nat) (K_2 : Nat → Int32 → Int32 → PH → Option (Unit × PH)) (l0 : Nat) (l1 : Int32) (l2 : Int32) (h : PH) : Option (Unit × PH) :=
  if l1 ≤ l2 then
    some ((), h)
  else
    ck (hK h l0 = 12) <|
    ck (inb (l1 + l2) (hN h l0)) <|
    ck (inb l2 (hN h l0)) <|
    bd (sI h l0 (ix l2) (hI h l0 (ix (l1 + l2)))) fun h5 =>
    bd (l2 + (1 : Int32)) fun v6 =>
    K_2 l0 l1 v6 h5
def f_X11_shifts_2 (N : Nat) : Nat → Nat → Int32 → Int32 → PH → Option (Unit × PH)
  | 0 => fun _ _ _ _ => none
  | n + 1 => fun l0 l1 l2 h => f_X11_shifts_2_b N (f_X11_shifts_2 N n) l0 l1 l2 h
def f_X11_shifts (N : Nat) (l0 : Nat) (l1 : Int32) (h : PH) : Option (Unit × PH) :=
  f_X11_shifts_2 N N l0 l1 (0 : Int32) h
/-! X11_lays -/
def f_X11_lays_117_b (N : Nat) (K_117 : Nat → Int32 → PH → Option (Unit × PH)) (l0 : Nat) (l1 : Int32) (h : PH) : Option (Unit × PH) :=
  if (2 : Int32) ≤ l1 then
    some ((), h)
  else
    ck (hK h l0 = 10) <|
    rq (hR h l0 20) fun a3 =>
    rq (hR h l0 20) fun a4 =>
    ck (hK h a4 = 12) <|
    ck (inb ((2 : Int32) + l1) (hN h a4)) <|
    ck (hK h a3 = 12) <|
    ck (inb l1 (hN h a3)) <|
    bd (sI h a3 (ix l1) ((hI h a4 (ix ((2 : Int32) + l1))) - (1000 : Int32))) fun h9 =>
    ck (hK h9 l0 = 10) <|
    rq (hR h9 l0 21) fun a11 =>
    rq (hR h9 l0 21) fun a12 =>
    ck (hK h9 a12 = 12) <|
    ck (inb ((2 : Int32) + l1) (hN h9 a12)) <|
    ck (hK h9 a11 = 12) <|
    ck (inb l1 (hN h9 a11)) <|
    bd (sI h9 a11 (ix l1) ((hI h9 a12 (ix ((2 : Int32) + l1))) - (1000 : Int32))) fun h17 =>
    bd (l1 + (1 : Int32)) fun v18 =>
    K_117 l0 v18 h17
def f_X11_lays_117 (N : Nat) : Nat → Nat → Int32 → PH → Option (Unit × PH)
  | 0 => fun _ _ _ => none
  | n + 1 => fun l0 l1 h => f_X11_lays_117_b N (f_X11_lays_117 N n) l0 l1 h
def f_X11_lays_11_b (N : Nat) (K_11 : Nat → Int32 → PH → Option (Unit × PH)) (l0 : Nat) (l1 : Int32) (h : PH) : Option (Unit × PH) :=
  if (22 : Int32) ≤ l1 then
    ck (hK h l0 = 10) <|
    rq (hR h l0 12) fun a3 =>
    cl (f_X11_shifts N a3 (5 : Int32) h) fun r4 h5 =>
    ck (hK h5 l0 = 10) <|
    rq (hR h5 l0 13) fun a7 =>
    cl (f_X11_shifts N a7 (5 : Int32) h5) fun r8 h9 =>
    ck (hK h9 l0 = 10) <|
    rq (hR h9 l0 14) fun a11 =>
    cl (f_X11_shifts N a11 (5 : Int32) h9) fun r12 h13 =>
    ck (hK h13 l0 = 10) <|
    rq (hR h13 l0 15) fun a15 =>
    cl (f_X11_shifts N a15 (4 : Int32) h13) fun r16 h17 =>
    ck (hK h17 l0 = 10) <|
    rq (hR h17 l0 16) fun a19 =>
    cl (f_X11_shifts N a19 (20 : Int32) h17) fun r20 h21 =>
    ck (hK h21 l0 = 10) <|
    rq (hR h21 l0 17) fun a23 =>
    cl (f_X11_shifts N a23 (24 : Int32) h21) fun r24 h25 =>
    ck (hK h25 l0 = 10) <|
    rq (hR h25 l0 18) fun a27 =>
    cl (f_X11_shifts N a27 (4 : Int32) h25) fun r28 h29 =>
    ck (hK h29 l0 = 10) <|
    rq (hR h29 l0 19) fun a31 =>
    cl (f_X11_shifts N a31 (12 : Int32) h29) fun r32 h33 =>
    ck (hK h33 l0 = 10) <|
    rq (hR h33 l0 22) fun a35 =>
    cl (f_X11_shifts N a35 (1000 : Int32) h33) fun r36 h37 =>
    f_X11_lays_117 N N l0 (0 : Int32) h37
  else
    ck (hK h l0 = 10) <|
    rq (hR h l0 11) fun a39 =>
    rq (hR h l0 11) fun a40 =>
    ck (hK h a40 = 14) <|
    ck (inb ((22 : Int32) + l1) (hN h a40)) <|
    ck (hK h a39 = 14) <|
    ck (inb l1 (hN h a39)) <|
    bd (sJ h a39 (ix l1) (hJ h a40 (ix ((22 : Int32) + l1)))) fun h45 =>
    bd (l1 + (1 : Int32)) fun v46 =>
    K_11 l0 v46 h45
def f_X11_lays_11 (N : Nat) : Nat → Nat → Int32 → PH → Option (Unit × PH)
  | 0 => fun _ _ _ => none
  | n + 1 => fun l0 l1 h => f_X11_lays_11_b N (f_X11_lays_11 N n) l0 l1 h
def f_X11_lays (N : Nat) (l0 : Nat) (h : PH) : Option (Unit × PH) :=
  ck (hK h l0 = 10) <|
  rq (hR h l0 10) fun a2 =>
  cl (f_X11_shifts N a2 (6 : Int32) h) fun r3 h4 =>
  f_X11_lays_11 N N l0 (0 : Int32) h4
/-! X11_copies -/
def f_X11_copies_3_b (N : Nat) (K_3 : Nat → Int32 → Nat → Int32 → Int32 → PH → Option (Unit × PH)) (l0 : Nat) (l1 : Int32) (l2 : Nat) (l3 : Int32) (l4 : Int32) (h : PH) : Option (Unit × PH) :=
  if (32 : Int32) ≤ l4 then
    some ((), h)
  else
    ck (hK h l0 = 12) <|
    ck (inb (l1 + l4) (hN h l0)) <|
    ck (hK h l2 = 12) <|
    ck (inb (l3 + l4) (hN h l2)) <|
    bd (sI h l2 (ix (l3 + l4)) (hI h l0 (ix (l1 + l4)))) fun h6 =>
    bd (l4 + (1 : Int32)) fun v7 =>
    K_3 l0 l1 l2 l3 v7 h6
def f_X11_copies_3 (N : Nat) : Nat → Nat → Int32 → Nat → Int32 → Int32 → PH → Option (Unit × PH)
  | 0 => fun _ _ _ _ _ _ => none
  | n + 1 => fun l0 l1 l2 l3 l4 h => f_X11_copies_3_b N (f_X11_copies_3 N n) l0 l1 l2 l3 l4 h
def f_X11_copies (N : Nat) (l0 : Nat) (l1 : Int32) (l2 : Nat) (l3 : Int32) (h : PH) : Option (Unit × PH) :=
  f_X11_copies_3 N N l0 l1 l2 l3 (0 : Int32) h
/-! X11_readsBurn -/
def f_X11_readsBurn (N : Nat) (l0 : Nat) (l1 : Int32) (h : PH) : Option (Int32 × PH) :=
  ck (hK h l0 = 10) <|
  cl (f_X11_needsNamed N l0 (0 : Int32) (2 : Int32) h) fun r1 h2 =>
  if r1 = 0 then
    some ((0 : Int32), h2)
  else
    ck (hK h2 l0 = 10) <|
    rq (hR h2 l0 41) fun a6 =>
    ck (hK h2 a6 = 12) <|
    ck (inb l1 (hN h2 a6)) <|
    bd (sI h2 a6 (ix l1) (hI h2 l0 37)) fun h9 =>
    ck (hK h9 l0 = 10) <|
    cl (f_X11_nextToken N l0 h9) fun r10 h11 =>
    ck (hK h11 l0 = 10) <|
    cl (f_X11_needsNamed N l0 (0 : Int32) (0 : Int32) h11) fun r13 h14 =>
    if r13 = 0 then
      some ((0 : Int32), h14)
    else
      ck (hK h14 l0 = 10) <|
      rq (hR h14 l0 42) fun a18 =>
      ck (hK h14 a18 = 12) <|
      ck (inb l1 (hN h14 a18)) <|
      bd (sI h14 a18 (ix l1) (hI h14 l0 37)) fun h21 =>
      ck (hK h21 l0 = 10) <|
      cl (f_X11_nextToken N l0 h21) fun r22 h23 =>
      some ((1 : Int32), h23)
/-! X11_readsLend -/
def f_X11_readsLend (N : Nat) (l0 : Nat) (l1 : Int32) (h : PH) : Option (Int32 × PH) :=
  ck (hK h l0 = 10) <|
  cl (f_X11_needsNamed N l0 (0 : Int32) (2 : Int32) h) fun r1 h2 =>
  if r1 = 0 then
    some ((0 : Int32), h2)
  else
    ck (hK h2 l0 = 10) <|
    rq (hR h2 l0 41) fun a6 =>
    ck (hK h2 a6 = 12) <|
    ck (inb l1 (hN h2 a6)) <|
    bd (sI h2 a6 (ix l1) (hI h2 l0 37)) fun h9 =>
    ck (hK h9 l0 = 10) <|
    cl (f_X11_nextToken N l0 h9) fun r10 h11 =>
    ck (hK h11 l0 = 10) <|
    cl (f_X11_needsNamed N l0 (0 : Int32) (2 : Int32) h11) fun r13 h14 =>
    if r13 = 0 then
      some ((0 : Int32), h14)
    else
      ck (hK h14 l0 = 10) <|
      rq (hR h14 l0 41) fun a18 =>
      ck (hK h14 a18 = 12) <|
      ck (inb l1 (hN h14 a18)) <|
      if (hI h14 l0 37) = (hI h14 a18 (ix l1)) then
        cl (f_X11_fails N l0 (3 : Int32) h14) fun r50 h51 =>
        ck (r50 = 0 ∨ r50 = 1) <|
        some (r50, h51)
      else
        rq (hR h14 l0 42) fun a22 =>
        ck (hK h14 a22 = 12) <|
        ck (inb l1 (hN h14 a22)) <|
        bd (sI h14 a22 (ix l1) (hI h14 l0 37)) fun h25 =>
        ck (hK h25 l0 = 10) <|
        cl (f_X11_nextToken N l0 h25) fun r26 h27 =>
        ck (hK h27 l0 = 10) <|
        cl (f_X11_needsNamed N l0 (0 : Int32) (0 : Int32) h27) fun r29 h30 =>
        if r29 = 0 then
          some ((0 : Int32), h30)
        else
          ck (hK h30 l0 = 10) <|
          rq (hR h30 l0 43) fun a34 =>
          ck (hK h30 a34 = 12) <|
          ck (inb l1 (hN h30 a34)) <|
          bd (sI h30 a34 (ix l1) (hI h30 l0 37)) fun h37 =>
          ck (hK h37 l0 = 10) <|
          cl (f_X11_nextToken N l0 h37) fun r38 h39 =>
          ck (hK h39 l0 = 10) <|
          cl (f_X11_needsNumber N l0 (1 : Int32) (99 : Int32) h39) fun r41 h42 =>
          if r41 = 0 then
            some ((0 : Int32), h42)
          else
            ck (hK h42 l0 = 10) <|
            rq (hR h42 l0 44) fun a46 =>
            ck (hK h42 a46 = 12) <|
            ck (inb l1 (hN h42 a46)) <|
            bd (sI h42 a46 (ix l1) (hI h42 l0 37)) fun h49 =>
            some ((1 : Int32), h49)
/-! X11_readsLine -/
def f_X11_readsLine_120 (N : Nat) (l0 : Nat) (h : PH) : Option (Int32 × PH) :=
  ck (hK h l0 = 10) <|
  rq (hR h l0 39) fun a2 =>
  ck (hK h a2 = 12) <|
  ck (5 < hN h a2) <|
  bd (sI h a2 5 ((hI h a2 5) + (1 : Int32))) fun h5 =>
  ck (hK h5 l0 = 10) <|
  cl (f_X11_closes N l0 h5) fun r6 h7 =>
  ck (r6 = 0 ∨ r6 = 1) <|
  some (r6, h7)
def f_X11_readsLine_105 (N : Nat) (l0 : Nat) (l1 : Int32) (l2 : Int32) (h : PH) : Option (Int32 × PH) :=
  if l1 = (1 : Int32) then
    ck (hK h l0 = 10) <|
    cl (f_X11_readsLend N l0 l2 h) fun r2 h3 =>
    if r2 = 0 then
      some ((0 : Int32), h3)
    else
      f_X11_readsLine_120 N l0 h3
  else
    f_X11_readsLine_120 N l0 h
def f_X11_readsLine_43 (N : Nat) (s0 : Int32) (l0 : Nat) (h : PH) : Option (Int32 × PH) :=
  if 0 ≤ s0 then
    ck (hK h l0 = 10) <|
    rq (hR h l0 39) fun a3 =>
    ck (hK h a3 = 12) <|
    ck (5 < hN h a3) <|
    if (hI h a3 5) = (40 : Int32) then
      cl (f_X11_fails N l0 (5 : Int32) h) fun r23 h24 =>
      ck (r23 = 0 ∨ r23 = 1) <|
      some (r23, h24)
    else
      cl (f_X11_nextToken N l0 h) fun r7 h8 =>
      ck (hK h8 l0 = 10) <|
      rq (hR h8 l0 39) fun a10 =>
      ck (hK h8 a10 = 12) <|
      ck (5 < hN h8 a10) <|
      bd (((200 : Int32) + (hI h8 a10 5))) fun v13 =>
      rq (hR h8 l0 40) fun a14 =>
      ck (hK h8 a14 = 12) <|
      ck (inb v13 (hN h8 a14)) <|
      bd (sI h8 a14 (ix v13) s0) fun h17 =>
      if s0 = 0 then
        ck (hK h17 l0 = 10) <|
        cl (f_X11_readsBurn N l0 v13 h17) fun r19 h20 =>
        if r19 = 0 then
          some ((0 : Int32), h20)
        else
          f_X11_readsLine_105 N l0 s0 v13 h20
      else
        f_X11_readsLine_105 N l0 s0 v13 h17
  else
    ck (hK h l0 = 10) <|
    cl (f_X11_fails N l0 (1 : Int32) h) fun r26 h27 =>
    ck (r26 = 0 ∨ r26 = 1) <|
    some (r26, h27)
def f_X11_readsLine (N : Nat) (l0 : Nat) (h : PH) : Option (Int32 × PH) :=
  ck (hK h l0 = 10) <|
  cl (f_X11_isWord N l0 (55175 : Int64) h) fun r1 h2 =>
  if r1 = 0 then
    ck (hK h2 l0 = 10) <|
    cl (f_X11_isWord N l0 (240223 : Int64) h2) fun r5 h6 =>
    if r5 = 0 then
      ck (hK h6 l0 = 10) <|
      cl (f_X11_isWord N l0 (168984 : Int64) h6) fun r9 h10 =>
      if r9 = 0 then
        f_X11_readsLine_43 N (-1 : Int32) l0 h10
      else
        f_X11_readsLine_43 N (2 : Int32) l0 h10
    else
      f_X11_readsLine_43 N (1 : Int32) l0 h6
  else
    f_X11_readsLine_43 N (0 : Int32) l0 h2
/-! X11_laysLines -/
def f_X11_laysLines_14_b (N : Nat) (K_14 : Nat → Int32 → Int32 → Int32 → PH → Option (Unit × PH)) (l0 : Nat) (l1 : Int32) (l2 : Int32) (l3 : Int32) (h : PH) : Option (Unit × PH) :=
  if (40 : Int32) ≤ l3 then
    some ((), h)
  else
    ck (hK h l0 = 10) <|
    rq (hR h l0 40) fun a3 =>
    rq (hR h l0 40) fun a4 =>
    ck (hK h a4 = 12) <|
    ck (inb (((40 : Int32) * l1) + l3) (hN h a4)) <|
    ck (hK h a3 = 12) <|
    ck (inb (((40 : Int32) * l2) + l3) (hN h a3)) <|
    bd (sI h a3 (ix (((40 : Int32) * l2) + l3)) (hI h a4 (ix (((40 : Int32) * l1) + l3)))) fun h9 =>
    ck (hK h9 l0 = 10) <|
    rq (hR h9 l0 41) fun a11 =>
    rq (hR h9 l0 41) fun a12 =>
    ck (hK h9 a12 = 12) <|
    ck (inb (((40 : Int32) * l1) + l3) (hN h9 a12)) <|
    ck (hK h9 a11 = 12) <|
    ck (inb (((40 : Int32) * l2) + l3) (hN h9 a11)) <|
    bd (sI h9 a11 (ix (((40 : Int32) * l2) + l3)) (hI h9 a12 (ix (((40 : Int32) * l1) + l3)))) fun h17 =>
    ck (hK h17 l0 = 10) <|
    rq (hR h17 l0 42) fun a19 =>
    rq (hR h17 l0 42) fun a20 =>
    ck (hK h17 a20 = 12) <|
    ck (inb (((40 : Int32) * l1) + l3) (hN h17 a20)) <|
    ck (hK h17 a19 = 12) <|
    ck (inb (((40 : Int32) * l2) + l3) (hN h17 a19)) <|
    bd (sI h17 a19 (ix (((40 : Int32) * l2) + l3)) (hI h17 a20 (ix (((40 : Int32) * l1) + l3)))) fun h25 =>
    ck (hK h25 l0 = 10) <|
    rq (hR h25 l0 43) fun a27 =>
    rq (hR h25 l0 43) fun a28 =>
    ck (hK h25 a28 = 12) <|
    ck (inb (((40 : Int32) * l1) + l3) (hN h25 a28)) <|
    ck (hK h25 a27 = 12) <|
    ck (inb (((40 : Int32) * l2) + l3) (hN h25 a27)) <|
    bd (sI h25 a27 (ix (((40 : Int32) * l2) + l3)) (hI h25 a28 (ix (((40 : Int32) * l1) + l3)))) fun h33 =>
    ck (hK h33 l0 = 10) <|
    rq (hR h33 l0 44) fun a35 =>
    rq (hR h33 l0 44) fun a36 =>
    ck (hK h33 a36 = 12) <|
    ck (inb (((40 : Int32) * l1) + l3) (hN h33 a36)) <|
    ck (hK h33 a35 = 12) <|
    ck (inb (((40 : Int32) * l2) + l3) (hN h33 a35)) <|
    bd (sI h33 a35 (ix (((40 : Int32) * l2) + l3)) (hI h33 a36 (ix (((40 : Int32) * l1) + l3)))) fun h41 =>
    bd (l3 + (1 : Int32)) fun v42 =>
    K_14 l0 l1 l2 v42 h41
def f_X11_laysLines_14 (N : Nat) : Nat → Nat → Int32 → Int32 → Int32 → PH → Option (Unit × PH)
  | 0 => fun _ _ _ _ _ => none
  | n + 1 => fun l0 l1 l2 l3 h => f_X11_laysLines_14_b N (f_X11_laysLines_14 N n) l0 l1 l2 l3 h
def f_X11_laysLines (N : Nat) (l0 : Nat) (l1 : Int32) (l2 : Int32) (h : PH) : Option (Unit × PH) :=
  ck (hK h l0 = 10) <|
  rq (hR h l0 39) fun a2 =>
  rq (hR h l0 39) fun a3 =>
  ck (hK h a3 = 12) <|
  ck (inb l1 (hN h a3)) <|
  ck (hK h a2 = 12) <|
  ck (inb l2 (hN h a2)) <|
  bd (sI h a2 (ix l2) (hI h a3 (ix l1))) fun h8 =>
  f_X11_laysLines_14 N N l0 l1 l2 (0 : Int32) h8
/-! X11_laysSeen -/
def f_X11_laysSeen_14_b (N : Nat) (K_14 : Nat → Int32 → Int32 → Int32 → PH → Option (Unit × PH)) (l0 : Nat) (l1 : Int32) (l2 : Int32) (l3 : Int32) (h : PH) : Option (Unit × PH) :=
  if (8 : Int32) ≤ l3 then
    some ((), h)
  else
    ck (hK h l0 = 10) <|
    rq (hR h l0 46) fun a3 =>
    rq (hR h l0 46) fun a4 =>
    ck (hK h a4 = 12) <|
    ck (inb (((8 : Int32) * l1) + l3) (hN h a4)) <|
    ck (hK h a3 = 12) <|
    ck (inb (((8 : Int32) * l2) + l3) (hN h a3)) <|
    bd (sI h a3 (ix (((8 : Int32) * l2) + l3)) (hI h a4 (ix (((8 : Int32) * l1) + l3)))) fun h9 =>
    ck (hK h9 l0 = 10) <|
    rq (hR h9 l0 47) fun a11 =>
    rq (hR h9 l0 47) fun a12 =>
    ck (hK h9 a12 = 12) <|
    ck (inb (((8 : Int32) * l1) + l3) (hN h9 a12)) <|
    ck (hK h9 a11 = 12) <|
    ck (inb (((8 : Int32) * l2) + l3) (hN h9 a11)) <|
    bd (sI h9 a11 (ix (((8 : Int32) * l2) + l3)) (hI h9 a12 (ix (((8 : Int32) * l1) + l3)))) fun h17 =>
    ck (hK h17 l0 = 10) <|
    rq (hR h17 l0 48) fun a19 =>
    rq (hR h17 l0 48) fun a20 =>
    ck (hK h17 a20 = 12) <|
    ck (inb (((8 : Int32) * l1) + l3) (hN h17 a20)) <|
    ck (hK h17 a19 = 12) <|
    ck (inb (((8 : Int32) * l2) + l3) (hN h17 a19)) <|
    bd (sI h17 a19 (ix (((8 : Int32) * l2) + l3)) (hI h17 a20 (ix (((8 : Int32) * l1) + l3)))) fun h25 =>
    bd (l3 + (1 : Int32)) fun v26 =>
    K_14 l0 l1 l2 v26 h25
def f_X11_laysSeen_14 (N : Nat) : Nat → Nat → Int32 → Int32 → Int32 → PH → Option (Unit × PH)
  | 0 => fun _ _ _ _ _ => none
  | n + 1 => fun l0 l1 l2 l3 h => f_X11_laysSeen_14_b N (f_X11_laysSeen_14 N n) l0 l1 l2 l3 h
def f_X11_laysSeen (N : Nat) (l0 : Nat) (l1 : Int32) (l2 : Int32) (h : PH) : Option (Unit × PH) :=
  ck (hK h l0 = 10) <|
  rq (hR h l0 45) fun a2 =>
  rq (hR h l0 45) fun a3 =>
  ck (hK h a3 = 12) <|
  ck (inb l1 (hN h a3)) <|
  ck (hK h a2 = 12) <|
  ck (inb l2 (hN h a2)) <|
  bd (sI h a2 (ix l2) (hI h a3 (ix l1))) fun h8 =>
  f_X11_laysSeen_14 N N l0 l1 l2 (0 : Int32) h8
/-! X11_valley -/
def f_X11_valley_46_b (N : Nat) (K_46 : Nat → Int32 → PH → Option (Int32 × PH)) (l0 : Nat) (l1 : Int32) (h : PH) : Option (Int32 × PH) :=
  if (4 : Int32) ≤ l1 then
    some ((0 : Int32), h)
  else
    ck (hK h l0 = 10) <|
    rq (hR h l0 53) fun a3 =>
    ck (hK h a3 = 13) <|
    ck (inb l1 (hN h a3)) <|
    bd (sI h a3 (ix l1) ((0 : Int32) &&& 1)) fun h6 =>
    bd (l1 + (1 : Int32)) fun v7 =>
    K_46 l0 v7 h6
def f_X11_valley_46 (N : Nat) : Nat → Nat → Int32 → PH → Option (Int32 × PH)
  | 0 => fun _ _ _ => none
  | n + 1 => fun l0 l1 h => f_X11_valley_46_b N (f_X11_valley_46 N n) l0 l1 h
def f_X11_valley (N : Nat) (l0 : Nat) (h : PH) : Option (Int32 × PH) :=
  ck (hK h l0 = 10) <|
  bd (sI h l0 0 (0 : Int32)) fun h2 =>
  ck (hK h2 l0 = 10) <|
  cl (f_X11_readsAll N l0 h2) fun r3 h4 =>
  if r3 = 0 then
    ck (hK h4 l0 = 10) <|
    some ((hI h4 l0 9), h4)
  else
    ck (hK h4 l0 = 10) <|
    cl (f_X11_lays N l0 h4) fun r7 h8 =>
    ck (hK h8 l0 = 10) <|
    cl (f_X11_fresh N l0 h8) fun r10 h11 =>
    ck (hK h11 l0 = 10) <|
    rq (hR h11 l0 39) fun a14 =>
    ck (hK h11 a14 = 12) <|
    ck (0 < hN h11 a14) <|
    bd (sI h11 a14 0 (0 : Int32)) fun h17 =>
    ck (hK h17 l0 = 10) <|
    rq (hR h17 l0 45) fun a19 =>
    ck (hK h17 a19 = 12) <|
    ck (0 < hN h17 a19) <|
    bd (sI h17 a19 0 (0 : Int32)) fun h22 =>
    ck (hK h22 l0 = 10) <|
    bd (sI h22 l0 54 (0 : Int32)) fun h24 =>
    f_X11_valley_46 N N l0 (0 : Int32) h24
/-! X11_day -/
def f_X11_day_16_b (N : Nat) (K_16 : Nat → PH → Option (Int32 × PH)) (l0 : Nat) (h : PH) : Option (Int32 × PH) :=
  ck (hK h l0 = 10) <|
  if (hI h l0 6) = 0 then
    cl (f_X11_laysLines N l0 (5 : Int32) (0 : Int32) h) fun r3 h4 =>
    some ((0 : Int32), h4)
  else
    cl (f_X11_readsLine N l0 h) fun r5 h6 =>
    if r5 = 0 then
      ck (hK h6 l0 = 10) <|
      some ((hI h6 l0 9), h6)
    else
      K_16 l0 h6
def f_X11_day_16 (N : Nat) : Nat → Nat → PH → Option (Int32 × PH)
  | 0 => fun _ _ => none
  | n + 1 => fun l0 h => f_X11_day_16_b N (f_X11_day_16 N n) l0 h
def f_X11_day (N : Nat) (l0 : Nat) (h : PH) : Option (Int32 × PH) :=
  ck (hK h l0 = 10) <|
  bd (sI h l0 0 (0 : Int32)) fun h2 =>
  ck (hK h2 l0 = 10) <|
  rq (hR h2 l0 39) fun a4 =>
  ck (hK h2 a4 = 12) <|
  ck (5 < hN h2 a4) <|
  bd (sI h2 a4 5 (0 : Int32)) fun h7 =>
  ck (hK h7 l0 = 10) <|
  cl (f_X11_begins N l0 h7) fun r8 h9 =>
  f_X11_day_16 N N l0 h9
/-! X11_isFuel -/
def f_X11_isFuel (N : Nat) (l0 : Nat) (l1 : Int32) (h : PH) : Option (Int32 × PH) :=
  if l1 < 0 then
    some ((0 : Int32), h)
  else
    ck (hK h l0 = 10) <|
    rq (hR h l0 10) fun a3 =>
    ck (hK h a3 = 12) <|
    ck (0 < hN h a3) <|
    if (hI h a3 0) ≤ l1 then
      some ((0 : Int32), h)
    else
      some ((1 : Int32), h)
/-! X11_isFlue -/
def f_X11_isFlue (N : Nat) (l0 : Nat) (l1 : Int32) (h : PH) : Option (Int32 × PH) :=
  if l1 < 0 then
    some ((0 : Int32), h)
  else
    ck (hK h l0 = 10) <|
    rq (hR h l0 10) fun a3 =>
    ck (hK h a3 = 12) <|
    ck (1 < hN h a3) <|
    if (hI h a3 1) ≤ l1 then
      some ((0 : Int32), h)
    else
      some ((1 : Int32), h)
/-! X11_isHouse -/
def f_X11_isHouse (N : Nat) (l0 : Nat) (l1 : Int32) (h : PH) : Option (Int32 × PH) :=
  if l1 < 0 then
    some ((0 : Int32), h)
  else
    ck (hK h l0 = 10) <|
    rq (hR h l0 10) fun a3 =>
    ck (hK h a3 = 12) <|
    ck (2 < hN h a3) <|
    if (hI h a3 2) ≤ l1 then
      some ((0 : Int32), h)
    else
      some ((1 : Int32), h)
/-! X11_isTold -/
def f_X11_isTold (N : Nat) (l0 : Nat) (l1 : Int32) (h : PH) : Option (Int32 × PH) :=
  if l1 < 0 then
    some ((0 : Int32), h)
  else
    ck (hK h l0 = 10) <|
    rq (hR h l0 10) fun a3 =>
    ck (hK h a3 = 12) <|
    ck (3 < hN h a3) <|
    if (hI h a3 3) ≤ l1 then
      some ((0 : Int32), h)
    else
      some ((1 : Int32), h)
/-! X11_windIn -/
def f_X11_windIn (N : Nat) (l0 : Nat) (l1 : Int32) (h : PH) : Option (Int32 × PH) :=
  ck (hK h l0 = 10) <|
  rq (hR h l0 10) fun a2 =>
  ck (hK h a2 = 12) <|
  ck (5 < hN h a2) <|
  if (hI h a2 5) = 0 then
    some ((0 : Int32), h)
  else
    rq (hR h l0 19) fun a6 =>
    rq (hR h l0 10) fun a7 =>
    ck (hK h a7 = 12) <|
    ck (5 < hN h a7) <|
    ck (¬ (hI h a7 5) = 0) <|
    ck (hK h a6 = 12) <|
    ck (inb (l1 - l1 / (hI h a7 5) * (hI h a7 5)) (hN h a6)) <|
    some ((hI h a6 (ix (l1 - l1 / (hI h a7 5) * (hI h a7 5)))), h)
/-! X11_givesIn -/
def f_X11_givesIn_95 (N : Nat) (l5 : Int32) (h : PH) : Option (Int32 × PH) :=
  cl (f_X11_between N l5 (0 : Int32) (999 : Int32) h) fun r1 h2 =>
  some (r1, h2)
def f_X11_givesIn_21 (N : Nat) (s0 : Int32) (l0 : Nat) (l1 : Int32) (l2 : Int32) (l3 : Int32) (l4 : Int32) (h : PH) : Option (Int32 × PH) :=
  ck (hK h l0 = 10) <|
  rq (hR h l0 21) fun a2 =>
  ck (hK h a2 = 12) <|
  ck (0 < hN h a2) <|
  rq (hR h l0 20) fun a5 =>
  ck (hK h a5 = 12) <|
  ck (0 < hN h a5) <|
  if (hI h a2 0) ≤ (hI h a5 0) then
    f_X11_givesIn_95 N s0 h
  else
    rq (hR h l0 36) fun a9 =>
    rq (hR h l0 12) fun a10 =>
    ck (hK h a10 = 12) <|
    ck (inb l1 (hN h a10)) <|
    ck (hK h a9 = 12) <|
    ck (1 < hN h a9) <|
    bd (sI h a9 1 (hI h a10 (ix l1))) fun h15 =>
    ck (hK h15 l0 = 10) <|
    rq (hR h15 l0 36) fun a17 =>
    rq (hR h15 l0 13) fun a18 =>
    ck (hK h15 a18 = 12) <|
    ck (inb l1 (hN h15 a18)) <|
    ck (hK h15 a17 = 12) <|
    ck (2 < hN h15 a17) <|
    bd (sI h15 a17 2 (hI h15 a18 (ix l1))) fun h23 =>
    ck (hK h23 l0 = 10) <|
    rq (hR h23 l0 36) fun a25 =>
    cl (f_X11_windIn N l0 l3 h23) fun r26 h27 =>
    ck (hK h27 a25 = 12) <|
    ck (3 < hN h27 a25) <|
    bd (sI h27 a25 3 r26) fun h30 =>
    ck (hK h30 l0 = 10) <|
    rq (hR h30 l0 36) fun a32 =>
    ck (hK h30 a32 = 12) <|
    ck (4 < hN h30 a32) <|
    bd (sI h30 a32 4 l2) fun h35 =>
    ck (hK h35 l0 = 10) <|
    rq (hR h35 l0 36) fun a37 =>
    ck (hK h35 a37 = 12) <|
    ck (5 < hN h35 a37) <|
    bd (sI h35 a37 5 l4) fun h40 =>
    ck (hK h40 l0 = 10) <|
    cl (f_X11_worked N l0 (0 : Int32) h40) fun r41 h42 =>
    f_X11_givesIn_95 N r41 h42
def f_X11_givesIn (N : Nat) (l0 : Nat) (l1 : Int32) (l2 : Int32) (l3 : Int32) (l4 : Int32) (h : PH) : Option (Int32 × PH) :=
  if l4 = (1 : Int32) then
    ck (hK h l0 = 10) <|
    rq (hR h l0 13) fun a7 =>
    ck (hK h a7 = 12) <|
    ck (inb l1 (hN h a7)) <|
    f_X11_givesIn_21 N (hI h a7 (ix l1)) l0 l1 l2 l3 l4 h
  else
    ck (hK h l0 = 10) <|
    rq (hR h l0 12) fun a3 =>
    ck (hK h a3 = 12) <|
    ck (inb l1 (hN h a3)) <|
    f_X11_givesIn_21 N (hI h a3 (ix l1)) l0 l1 l2 l3 l4 h
/-! X11_sootBy -/
def f_X11_sootBy_53 (N : Nat) (l3 : Int32) (h : PH) : Option (Int32 × PH) :=
  cl (f_X11_between N l3 (0 : Int32) (999 : Int32) h) fun r1 h2 =>
  some (r1, h2)
def f_X11_sootBy (N : Nat) (l0 : Nat) (l1 : Int32) (l2 : Int32) (h : PH) : Option (Int32 × PH) :=
  ck (hK h l0 = 10) <|
  rq (hR h l0 21) fun a2 =>
  ck (hK h a2 = 12) <|
  ck (1 < hN h a2) <|
  rq (hR h l0 20) fun a5 =>
  ck (hK h a5 = 12) <|
  ck (1 < hN h a5) <|
  if (hI h a2 1) ≤ (hI h a5 1) then
    f_X11_sootBy_53 N l1 h
  else
    rq (hR h l0 36) fun a9 =>
    ck (hK h a9 = 12) <|
    ck (1 < hN h a9) <|
    bd (sI h a9 1 l1) fun h12 =>
    ck (hK h12 l0 = 10) <|
    rq (hR h12 l0 36) fun a14 =>
    ck (hK h12 a14 = 12) <|
    ck (2 < hN h12 a14) <|
    bd (sI h12 a14 2 l2) fun h17 =>
    ck (hK h17 l0 = 10) <|
    rq (hR h17 l0 36) fun a19 =>
    rq (hR h17 l0 49) fun a20 =>
    ck (hK h17 a20 = 12) <|
    ck (0 < hN h17 a20) <|
    cl (f_X11_windIn N l0 (hI h17 a20 0) h17) fun r23 h24 =>
    ck (hK h24 a19 = 12) <|
    ck (3 < hN h24 a19) <|
    bd (sI h24 a19 3 r23) fun h27 =>
    ck (hK h27 l0 = 10) <|
    cl (f_X11_worked N l0 (1 : Int32) h27) fun r28 h29 =>
    f_X11_sootBy_53 N r28 h29
/-! X11_isFire -/
def f_X11_isFire (N : Nat) (l0 : Nat) (l1 : Int32) (h : PH) : Option (Int32 × PH) :=
  ck (hK h l0 = 10) <|
  rq (hR h l0 49) fun a2 =>
  ck (hK h a2 = 12) <|
  ck (inb ((5 : Int32) + l1) (hN h a2)) <|
  if (hI h a2 (ix ((5 : Int32) + l1))) ≤ 0 then
    some ((0 : Int32), h)
  else
    some ((1 : Int32), h)
/-! X11_fireGives -/
def f_X11_fireGives (N : Nat) (l0 : Nat) (l1 : Int32) (l2 : Int32) (h : PH) : Option (Int32 × PH) :=
  ck (hK h l0 = 10) <|
  cl (f_X11_isFire N l0 l1 h) fun r1 h2 =>
  if r1 = 0 then
    some ((0 : Int32), h2)
  else
    ck (hK h2 l0 = 10) <|
    rq (hR h2 l0 49) fun a6 =>
    ck (hK h2 a6 = 12) <|
    ck (inb ((1 : Int32) + l1) (hN h2 a6)) <|
    rq (hR h2 l0 49) fun a9 =>
    ck (hK h2 a9 = 12) <|
    ck (inb ((5 : Int32) + l1) (hN h2 a9)) <|
    rq (hR h2 l0 49) fun a12 =>
    ck (hK h2 a12 = 12) <|
    ck (0 < hN h2 a12) <|
    cl (f_X11_givesIn N l0 (hI h2 a6 (ix ((1 : Int32) + l1))) (hI h2 a9 (ix ((5 : Int32) + l1))) (hI h2 a12 0) l2 h2) fun r15 h16 =>
    some (r15, h16)
/-! X11_smokeOf -/
def f_X11_smokeOf_39 (N : Nat) (K_5 : Nat → Int32 → Int32 → Int32 → Int32 → PH → Option (Int32 × PH)) (s0 : Int32) (s1 : Int32) (l0 : Nat) (l1 : Int32) (l2 : Int32) (l4 : Int32) (h : PH) : Option (Int32 × PH) :=
  bd ((s1 + s0)) fun v1 =>
  bd (l4 + (1 : Int32)) fun v2 =>
  K_5 l0 l1 l2 v1 v2 h
def f_X11_smokeOf_5_b (N : Nat) (K_5 : Nat → Int32 → Int32 → Int32 → Int32 → PH → Option (Int32 × PH)) (l0 : Nat) (l1 : Int32) (l2 : Int32) (l3 : Int32) (l4 : Int32) (h : PH) : Option (Int32 × PH) :=
  ck (hK h l0 = 10) <|
  rq (hR h l0 10) fun a2 =>
  ck (hK h a2 = 12) <|
  ck (2 < hN h a2) <|
  if (hI h a2 2) ≤ l4 then
    some ((if l3 < (999 : Int32) then l3 else (999 : Int32)), h)
  else
    rq (hR h l0 15) fun a6 =>
    ck (hK h a6 = 12) <|
    ck (inb l4 (hN h a6)) <|
    if (hI h a6 (ix l4)) = l1 then
      cl (f_X11_fireGives N l0 l4 l2 h) fun r10 h11 =>
      f_X11_smokeOf_39 N K_5 r10 l3 l0 l1 l2 l4 h11
    else
      f_X11_smokeOf_39 N K_5 (0 : Int32) l3 l0 l1 l2 l4 h
def f_X11_smokeOf_5 (N : Nat) : Nat → Nat → Int32 → Int32 → Int32 → Int32 → PH → Option (Int32 × PH)
  | 0 => fun _ _ _ _ _ _ => none
  | n + 1 => fun l0 l1 l2 l3 l4 h => f_X11_smokeOf_5_b N (f_X11_smokeOf_5 N n) l0 l1 l2 l3 l4 h
def f_X11_smokeOf (N : Nat) (l0 : Nat) (l1 : Int32) (l2 : Int32) (h : PH) : Option (Int32 × PH) :=
  f_X11_smokeOf_5 N N l0 l1 l2 (0 : Int32) (0 : Int32) h
/-! X11_signOf -/
def f_X11_signOf_66 (N : Nat) (K_2 : Nat → Int32 → Int32 → Int32 → PH → Option (Int32 × PH)) (l0 : Nat) (l1 : Int32) (l2 : Int32) (l3 : Int32) (h : PH) : Option (Int32 × PH) :=
  bd (l3 + (1 : Int32)) fun v1 =>
  K_2 l0 l1 l2 v1 h
def f_X11_signOf_2_b (N : Nat) (K_2 : Nat → Int32 → Int32 → Int32 → PH → Option (Int32 × PH)) (l0 : Nat) (l1 : Int32) (l2 : Int32) (l3 : Int32) (h : PH) : Option (Int32 × PH) :=
  ck (hK h l0 = 10) <|
  rq (hR h l0 10) fun a2 =>
  ck (hK h a2 = 12) <|
  ck (3 < hN h a2) <|
  if (hI h a2 3) ≤ l3 then
    some ((-1 : Int32), h)
  else
    rq (hR h l0 17) fun a6 =>
    ck (hK h a6 = 12) <|
    ck (inb ((4 : Int32) * l3) (hN h a6)) <|
    rq (hR h l0 17) fun a9 =>
    ck (hK h a9 = 12) <|
    ck (inb (((4 : Int32) * l3) + (1 : Int32)) (hN h a9)) <|
    cl (f_X11_within N l1 (hI h a6 (ix ((4 : Int32) * l3))) (hI h a9 (ix (((4 : Int32) * l3) + (1 : Int32)))) h) fun r12 h13 =>
    if r12 = 0 then
      f_X11_signOf_66 N K_2 l0 l1 l2 l3 h13
    else
      ck (hK h13 l0 = 10) <|
      rq (hR h13 l0 17) fun a16 =>
      ck (hK h13 a16 = 12) <|
      ck (inb (((4 : Int32) * l3) + (2 : Int32)) (hN h13 a16)) <|
      rq (hR h13 l0 17) fun a19 =>
      ck (hK h13 a19 = 12) <|
      ck (inb (((4 : Int32) * l3) + (3 : Int32)) (hN h13 a19)) <|
      cl (f_X11_within N l2 (hI h13 a16 (ix (((4 : Int32) * l3) + (2 : Int32)))) (hI h13 a19 (ix (((4 : Int32) * l3) + (3 : Int32)))) h13) fun r22 h23 =>
      if r22 = 0 then
        f_X11_signOf_66 N K_2 l0 l1 l2 l3 h23
      else
        some (l3, h23)
def f_X11_signOf_2 (N : Nat) : Nat → Nat → Int32 → Int32 → Int32 → PH → Option (Int32 × PH)
  | 0 => fun _ _ _ _ _ => none
  | n + 1 => fun l0 l1 l2 l3 h => f_X11_signOf_2_b N (f_X11_signOf_2 N n) l0 l1 l2 l3 h
def f_X11_signOf (N : Nat) (l0 : Nat) (l1 : Int32) (l2 : Int32) (h : PH) : Option (Int32 × PH) :=
  f_X11_signOf_2 N N l0 l1 l2 (0 : Int32) h
/-! X11_canBurn -/
def f_X11_canBurn (N : Nat) (l0 : Nat) (l1 : Int32) (l2 : Int32) (h : PH) : Option (Int32 × PH) :=
  ck (hK h l0 = 10) <|
  cl (f_X11_isFire N l0 l1 h) fun r1 h2 =>
  if r1 = 0 then
    ck (hK h2 l0 = 10) <|
    rq (hR h2 l0 49) fun a6 =>
    ck (hK h2 a6 = 12) <|
    ck (inb (((9 : Int32) + ((5 : Int32) * l1)) + l2) (hN h2 a6)) <|
    if (hI h2 a6 (ix (((9 : Int32) + ((5 : Int32) * l1)) + l2))) ≤ 0 then
      some ((0 : Int32), h2)
    else
      some ((1 : Int32), h2)
  else
    some ((0 : Int32), h2)
/-! X11_lights -/
def f_X11_lights (N : Nat) (l0 : Nat) (l1 : Int32) (l2 : Int32) (h : PH) : Option (Unit × PH) :=
  ck (hK h l0 = 10) <|
  rq (hR h l0 49) fun a2 =>
  bd ((((9 : Int32) + ((5 : Int32) * l1)) + l2)) fun v3 =>
  ck (hK h a2 = 12) <|
  ck (inb v3 (hN h a2)) <|
  bd (sI h a2 (ix v3) ((hI h a2 (ix v3)) - (1 : Int32))) fun h6 =>
  ck (hK h6 l0 = 10) <|
  rq (hR h6 l0 49) fun a8 =>
  ck (hK h6 a8 = 12) <|
  ck (inb ((1 : Int32) + l1) (hN h6 a8)) <|
  bd (sI h6 a8 (ix ((1 : Int32) + l1)) l2) fun h11 =>
  ck (hK h11 l0 = 10) <|
  rq (hR h11 l0 49) fun a13 =>
  rq (hR h11 l0 14) fun a14 =>
  ck (hK h11 a14 = 12) <|
  ck (inb l2 (hN h11 a14)) <|
  ck (hK h11 a13 = 12) <|
  ck (inb ((5 : Int32) + l1) (hN h11 a13)) <|
  bd (sI h11 a13 (ix ((5 : Int32) + l1)) (hI h11 a14 (ix l2))) fun h19 =>
  some ((), h19)
/-! X11_passes -/
def f_X11_passes_55 (N : Nat) (K_12 : Nat → Int32 → PH → Option (Int32 × PH)) (s0 : Int32) (s1 : Int32) (s2 : Nat) (l0 : Nat) (l1 : Int32) (l2 : Int32) (l3 : Int32) (h : PH) : Option (Int32 × PH) :=
  ck (hK h s2 = 10) <|
  bd (sI h s2 55 (s1 + s0)) fun h2 =>
  ck (hK h2 l0 = 10) <|
  rq (hR h2 l0 49) fun a4 =>
  ck (hK h2 a4 = 12) <|
  ck (inb ((29 : Int32) + l1) (hN h2 a4)) <|
  bd ((hI h2 a4 (ix ((29 : Int32) + l1)))) fun v7 =>
  rq (hR h2 l0 49) fun a8 =>
  cl (f_X11_sootBy N l0 l2 l3 h2) fun r9 h10 =>
  ck (hK h10 a8 = 12) <|
  ck (inb ((29 : Int32) + l1) (hN h10 a8)) <|
  bd (sI h10 a8 (ix ((29 : Int32) + l1)) (if (v7 + r9) < (9999 : Int32) then (v7 + r9) else (9999 : Int32))) fun h13 =>
  ck (hK h13 l0 = 10) <|
  rq (hR h13 l0 49) fun a15 =>
  ck (hK h13 a15 = 12) <|
  ck (inb ((29 : Int32) + l1) (hN h13 a15)) <|
  bd (sI h13 l0 56 ((hI h13 l0 56) + ((hI h13 a15 (ix ((29 : Int32) + l1))) - v7))) fun h18 =>
  bd (l1 + (1 : Int32)) fun v19 =>
  K_12 l0 v19 h18
def f_X11_passes_184 (N : Nat) (K_125 : Nat → Int32 → Int32 → PH → Option (Int32 × PH)) (l0 : Nat) (l1 : Int32) (l2 : Int32) (h : PH) : Option (Int32 × PH) :=
  bd (l2 + (1 : Int32)) fun v1 =>
  K_125 l0 l1 v1 h
def f_X11_passes_125_b (N : Nat) (K_125 : Nat → Int32 → Int32 → PH → Option (Int32 × PH)) (l0 : Nat) (l1 : Int32) (l2 : Int32) (h : PH) : Option (Int32 × PH) :=
  ck (hK h l0 = 10) <|
  rq (hR h l0 10) fun a2 =>
  ck (hK h a2 = 12) <|
  ck (2 < hN h a2) <|
  if (hI h a2 2) ≤ l2 then
    rq (hR h l0 49) fun a6 =>
    ck (hK h a6 = 12) <|
    ck (0 < hN h a6) <|
    bd (sI h a6 0 ((hI h a6 0) + (1 : Int32))) fun h9 =>
    some (l1, h9)
  else
    cl (f_X11_isFire N l0 l2 h) fun r10 h11 =>
    if r10 = 0 then
      f_X11_passes_184 N K_125 l0 l1 l2 h11
    else
      ck (hK h11 l0 = 10) <|
      rq (hR h11 l0 49) fun a14 =>
      bd (((5 : Int32) + l2)) fun v15 =>
      ck (hK h11 a14 = 12) <|
      ck (inb v15 (hN h11 a14)) <|
      bd (sI h11 a14 (ix v15) ((hI h11 a14 (ix v15)) - (1 : Int32))) fun h18 =>
      ck (hK h18 l0 = 10) <|
      rq (hR h18 l0 49) fun a20 =>
      ck (hK h18 a20 = 12) <|
      ck (inb ((5 : Int32) + l2) (hN h18 a20)) <|
      if (hI h18 a20 (ix ((5 : Int32) + l2))) ≤ 0 then
        rq (hR h18 l0 49) fun a24 =>
        ck (hK h18 a24 = 12) <|
        ck (inb ((1 : Int32) + l2) (hN h18 a24)) <|
        bd (sI h18 a24 (ix ((1 : Int32) + l2)) (-1 : Int32)) fun h27 =>
        bd (l1 + (1 : Int32)) fun v28 =>
        f_X11_passes_184 N K_125 l0 v28 l2 h27
      else
        f_X11_passes_184 N K_125 l0 l1 l2 h18
def f_X11_passes_125 (N : Nat) : Nat → Nat → Int32 → Int32 → PH → Option (Int32 × PH)
  | 0 => fun _ _ _ _ => none
  | n + 1 => fun l0 l1 l2 h => f_X11_passes_125_b N (f_X11_passes_125 N n) l0 l1 l2 h
def f_X11_passes_12_b (N : Nat) (K_12 : Nat → Int32 → PH → Option (Int32 × PH)) (l0 : Nat) (l1 : Int32) (h : PH) : Option (Int32 × PH) :=
  ck (hK h l0 = 10) <|
  rq (hR h l0 10) fun a2 =>
  ck (hK h a2 = 12) <|
  ck (1 < hN h a2) <|
  if (hI h a2 1) ≤ l1 then
    f_X11_passes_125 N N l0 (0 : Int32) (0 : Int32) h
  else
    cl (f_X11_smokeOf N l0 l1 (0 : Int32) h) fun r6 h7 =>
    ck (hK h7 l0 = 10) <|
    cl (f_X11_smokeOf N l0 l1 (1 : Int32) h7) fun r8 h9 =>
    ck (hK h9 l0 = 10) <|
    cl (f_X11_signOf N l0 r6 r8 h9) fun r12 h13 =>
    if r12 < 0 then
      f_X11_passes_55 N K_12 (0 : Int32) (hI h9 l0 55) l0 l0 l1 r6 r8 h13
    else
      f_X11_passes_55 N K_12 (1 : Int32) (hI h9 l0 55) l0 l0 l1 r6 r8 h13
def f_X11_passes_12 (N : Nat) : Nat → Nat → Int32 → PH → Option (Int32 × PH)
  | 0 => fun _ _ _ => none
  | n + 1 => fun l0 l1 h => f_X11_passes_12_b N (f_X11_passes_12 N n) l0 l1 h
def f_X11_passes (N : Nat) (l0 : Nat) (h : PH) : Option (Int32 × PH) :=
  ck (hK h l0 = 10) <|
  bd (sI h l0 55 (0 : Int32)) fun h2 =>
  ck (hK h2 l0 = 10) <|
  bd (sI h2 l0 56 (0 : Int32)) fun h4 =>
  f_X11_passes_12 N N l0 (0 : Int32) h4
/-! X11_lends -/
def f_X11_lends (N : Nat) (l0 : Nat) (l1 : Int32) (l2 : Int32) (l3 : Int32) (l4 : Int32) (h : PH) : Option (Unit × PH) :=
  ck (hK h l0 = 10) <|
  rq (hR h l0 49) fun a2 =>
  bd ((((9 : Int32) + ((5 : Int32) * l1)) + l3)) fun v3 =>
  ck (hK h a2 = 12) <|
  ck (inb v3 (hN h a2)) <|
  bd (sI h a2 (ix v3) ((hI h a2 (ix v3)) - l4)) fun h6 =>
  ck (hK h6 l0 = 10) <|
  rq (hR h6 l0 49) fun a8 =>
  rq (hR h6 l0 49) fun a9 =>
  ck (hK h6 a9 = 12) <|
  ck (inb (((9 : Int32) + ((5 : Int32) * l2)) + l3) (hN h6 a9)) <|
  ck (hK h6 a8 = 12) <|
  ck (inb (((9 : Int32) + ((5 : Int32) * l2)) + l3) (hN h6 a8)) <|
  bd (sI h6 a8 (ix (((9 : Int32) + ((5 : Int32) * l2)) + l3)) (if ((hI h6 a9 (ix (((9 : Int32) + ((5 : Int32) * l2)) + l3))) + l4) < (99 : Int32) then ((hI h6 a9 (ix (((9 : Int32) + ((5 : Int32) * l2)) + l3))) + l4) else (99 : Int32))) fun h14 =>
  some ((), h14)
/-! X11_house -/
def f_X11_house (N : Nat) (l0 : Nat) (l1 : Int32) (l2 : Int32) (h : PH) : Option (Int32 × PH) :=
  ck (hK h l0 = 10) <|
  bd (sI h l0 0 (0 : Int32)) fun h2 =>
  ck (hK h2 l0 = 10) <|
  cl (f_X11_isHouse N l0 l1 h2) fun r3 h4 =>
  if r3 = 0 then
    some ((-2 : Int32), h4)
  else
    if l2 < 0 then
      some ((-2 : Int32), h4)
    else
      ck (hK h4 l0 = 10) <|
      rq (hR h4 l0 10) fun a9 =>
      ck (hK h4 a9 = 12) <|
      ck (0 < hN h4 a9) <|
      if l2 < ((3 : Int32) + (hI h4 a9 0)) then
        if (3 : Int32) ≤ l2 then
          rq (hR h4 l0 49) fun a14 =>
          ck (hK h4 a14 = 12) <|
          ck (inb ((((9 : Int32) + ((5 : Int32) * l1)) + l2) - (3 : Int32)) (hN h4 a14)) <|
          some ((hI h4 a14 (ix ((((9 : Int32) + ((5 : Int32) * l1)) + l2) - (3 : Int32)))), h4)
        else
          if l2 = 0 then
            rq (hR h4 l0 15) fun a25 =>
            ck (hK h4 a25 = 12) <|
            ck (inb l1 (hN h4 a25)) <|
            some ((hI h4 a25 (ix l1)), h4)
          else
            if l2 = (1 : Int32) then
              rq (hR h4 l0 49) fun a22 =>
              ck (hK h4 a22 = 12) <|
              ck (inb ((1 : Int32) + l1) (hN h4 a22)) <|
              some ((hI h4 a22 (ix ((1 : Int32) + l1))), h4)
            else
              rq (hR h4 l0 49) fun a19 =>
              ck (hK h4 a19 = 12) <|
              ck (inb ((5 : Int32) + l1) (hN h4 a19)) <|
              some ((hI h4 a19 (ix ((5 : Int32) + l1))), h4)
      else
        some ((-2 : Int32), h4)
/-! X11_housesOf -/
def f_X11_housesOf_32 (N : Nat) (K_4 : Nat → Int32 → Int32 → Int32 → PH → Option (Int32 × PH)) (s0 : Int32) (s1 : Int32) (l0 : Nat) (l1 : Int32) (l3 : Int32) (h : PH) : Option (Int32 × PH) :=
  bd ((s1 ||| s0)) fun v1 =>
  bd (l3 + (1 : Int32)) fun v2 =>
  K_4 l0 l1 v1 v2 h
def f_X11_housesOf_4_b (N : Nat) (K_4 : Nat → Int32 → Int32 → Int32 → PH → Option (Int32 × PH)) (l0 : Nat) (l1 : Int32) (l2 : Int32) (l3 : Int32) (h : PH) : Option (Int32 × PH) :=
  ck (hK h l0 = 10) <|
  rq (hR h l0 10) fun a2 =>
  ck (hK h a2 = 12) <|
  ck (2 < hN h a2) <|
  if (hI h a2 2) ≤ l3 then
    some (l2, h)
  else
    rq (hR h l0 15) fun a6 =>
    ck (hK h a6 = 12) <|
    ck (inb l3 (hN h a6)) <|
    if (hI h a6 (ix l3)) = l1 then
      f_X11_housesOf_32 N K_4 ((1 : Int32) <<< (l3 &&& 31)) l2 l0 l1 l3 h
    else
      f_X11_housesOf_32 N K_4 (0 : Int32) l2 l0 l1 l3 h
def f_X11_housesOf_4 (N : Nat) : Nat → Nat → Int32 → Int32 → Int32 → PH → Option (Int32 × PH)
  | 0 => fun _ _ _ _ _ => none
  | n + 1 => fun l0 l1 l2 l3 h => f_X11_housesOf_4_b N (f_X11_housesOf_4 N n) l0 l1 l2 l3 h
def f_X11_housesOf (N : Nat) (l0 : Nat) (l1 : Int32) (h : PH) : Option (Int32 × PH) :=
  f_X11_housesOf_4 N N l0 l1 (0 : Int32) (0 : Int32) h
/-! X11_flue -/
def f_X11_flue (N : Nat) (l0 : Nat) (l1 : Int32) (l2 : Int32) (h : PH) : Option (Int32 × PH) :=
  ck (hK h l0 = 10) <|
  bd (sI h l0 0 (0 : Int32)) fun h2 =>
  ck (hK h2 l0 = 10) <|
  cl (f_X11_isFlue N l0 l1 h2) fun r3 h4 =>
  if r3 = 0 then
    some ((-2 : Int32), h4)
  else
    cl (f_X11_within N l2 (0 : Int32) (4 : Int32) h4) fun r7 h8 =>
    if r7 = 0 then
      some ((-2 : Int32), h8)
    else
      if (2 : Int32) ≤ l2 then
        if l2 = (2 : Int32) then
          ck (hK h8 l0 = 10) <|
          cl (f_X11_smokeOf N l0 l1 (0 : Int32) h8) fun r20 h21 =>
          ck (hK h21 l0 = 10) <|
          cl (f_X11_smokeOf N l0 l1 (1 : Int32) h21) fun r23 h24 =>
          ck (hK h24 l0 = 10) <|
          cl (f_X11_signOf N l0 r20 r23 h24) fun r26 h27 =>
          some (r26, h27)
        else
          if l2 = (3 : Int32) then
            ck (hK h8 l0 = 10) <|
            rq (hR h8 l0 49) fun a17 =>
            ck (hK h8 a17 = 12) <|
            ck (inb ((29 : Int32) + l1) (hN h8 a17)) <|
            some ((hI h8 a17 (ix ((29 : Int32) + l1))), h8)
          else
            ck (hK h8 l0 = 10) <|
            cl (f_X11_housesOf N l0 l1 h8) fun r13 h14 =>
            some (r13, h14)
      else
        ck (hK h8 l0 = 10) <|
        cl (f_X11_smokeOf N l0 l1 l2 h8) fun r29 h30 =>
        some (r29, h30)
/-! X11_keeps -/
def f_X11_keeps_49 (N : Nat) (l0 : Nat) (h : PH) : Option (Unit × PH) :=
  ck (hK h l0 = 10) <|
  rq (hR h l0 49) fun a2 =>
  rq (hR h l0 52) fun a3 =>
  cl (f_X11_copies N a2 (0 : Int32) a3 ((32 : Int32) * (hI h l0 54)) h) fun r4 h5 =>
  ck (hK h5 l0 = 10) <|
  bd (sI h5 l0 54 ((hI h5 l0 54) + (1 : Int32))) fun h7 =>
  some ((), h7)
def f_X11_keeps_11_b (N : Nat) (K_11 : Nat → Int32 → PH → Option (Unit × PH)) (l0 : Nat) (l1 : Int32) (h : PH) : Option (Unit × PH) :=
  if (480 : Int32) ≤ l1 then
    ck (hK h l0 = 10) <|
    bd (sI h l0 54 ((hI h l0 54) - (1 : Int32))) fun h3 =>
    f_X11_keeps_49 N l0 h3
  else
    ck (hK h l0 = 10) <|
    rq (hR h l0 52) fun a5 =>
    rq (hR h l0 52) fun a6 =>
    ck (hK h a6 = 12) <|
    ck (inb (l1 + (32 : Int32)) (hN h a6)) <|
    ck (hK h a5 = 12) <|
    ck (inb l1 (hN h a5)) <|
    bd (sI h a5 (ix l1) (hI h a6 (ix (l1 + (32 : Int32))))) fun h11 =>
    bd (l1 + (1 : Int32)) fun v12 =>
    K_11 l0 v12 h11
def f_X11_keeps_11 (N : Nat) : Nat → Nat → Int32 → PH → Option (Unit × PH)
  | 0 => fun _ _ _ => none
  | n + 1 => fun l0 l1 h => f_X11_keeps_11_b N (f_X11_keeps_11 N n) l0 l1 h
def f_X11_keeps (N : Nat) (l0 : Nat) (h : PH) : Option (Unit × PH) :=
  ck (hK h l0 = 10) <|
  if (hI h l0 54) = (16 : Int32) then
    f_X11_keeps_11 N N l0 (0 : Int32) h
  else
    f_X11_keeps_49 N l0 h
/-! X11_burn -/
def f_X11_burn (N : Nat) (l0 : Nat) (l1 : Int32) (l2 : Int32) (h : PH) : Option (Int32 × PH) :=
  ck (hK h l0 = 10) <|
  bd (sI h l0 0 (0 : Int32)) fun h2 =>
  ck (hK h2 l0 = 10) <|
  cl (f_X11_isHouse N l0 l1 h2) fun r3 h4 =>
  if r3 = 0 then
    some ((0 : Int32), h4)
  else
    ck (hK h4 l0 = 10) <|
    cl (f_X11_isFuel N l0 l2 h4) fun r7 h8 =>
    if r7 = 0 then
      some ((0 : Int32), h8)
    else
      ck (hK h8 l0 = 10) <|
      cl (f_X11_canBurn N l0 l1 l2 h8) fun r11 h12 =>
      if r11 = 0 then
        some ((0 : Int32), h12)
      else
        ck (hK h12 l0 = 10) <|
        cl (f_X11_keeps N l0 h12) fun r15 h16 =>
        ck (hK h16 l0 = 10) <|
        cl (f_X11_lights N l0 l1 l2 h16) fun r18 h19 =>
        some ((1 : Int32), h19)
/-! X11_lend -/
def f_X11_lend (N : Nat) (l0 : Nat) (l1 : Int32) (l2 : Int32) (l3 : Int32) (l4 : Int32) (h : PH) : Option (Int32 × PH) :=
  ck (hK h l0 = 10) <|
  bd (sI h l0 0 (0 : Int32)) fun h2 =>
  ck (hK h2 l0 = 10) <|
  cl (f_X11_isHouse N l0 l1 h2) fun r3 h4 =>
  if r3 = 0 then
    some ((-1 : Int32), h4)
  else
    ck (hK h4 l0 = 10) <|
    cl (f_X11_isHouse N l0 l2 h4) fun r7 h8 =>
    if r7 = 0 then
      some ((-1 : Int32), h8)
    else
      if l1 = l2 then
        some ((-1 : Int32), h8)
      else
        ck (hK h8 l0 = 10) <|
        cl (f_X11_isFuel N l0 l3 h8) fun r12 h13 =>
        if r12 = 0 then
          some ((-1 : Int32), h13)
        else
          cl (f_X11_within N l4 (1 : Int32) (99 : Int32) h13) fun r16 h17 =>
          if r16 = 0 then
            some ((-1 : Int32), h17)
          else
            ck (hK h17 l0 = 10) <|
            rq (hR h17 l0 49) fun a20 =>
            ck (hK h17 a20 = 12) <|
            ck (inb (((9 : Int32) + ((5 : Int32) * l1)) + l3) (hN h17 a20)) <|
            if l4 ≤ (hI h17 a20 (ix (((9 : Int32) + ((5 : Int32) * l1)) + l3))) then
              cl (f_X11_keeps N l0 h17) fun r24 h25 =>
              ck (hK h25 l0 = 10) <|
              cl (f_X11_lends N l0 l1 l2 l3 l4 h25) fun r26 h27 =>
              ck (hK h27 l0 = 10) <|
              rq (hR h27 l0 49) fun a30 =>
              ck (hK h27 a30 = 12) <|
              ck (inb (((9 : Int32) + ((5 : Int32) * l2)) + l3) (hN h27 a30)) <|
              some ((hI h27 a30 (ix (((9 : Int32) + ((5 : Int32) * l2)) + l3))), h27)
            else
              some ((-1 : Int32), h17)
/-! X11_hour -/
def f_X11_hour (N : Nat) (l0 : Nat) (h : PH) : Option (Int32 × PH) :=
  ck (hK h l0 = 10) <|
  bd (sI h l0 0 (0 : Int32)) fun h2 =>
  ck (hK h2 l0 = 10) <|
  cl (f_X11_keeps N l0 h2) fun r3 h4 =>
  ck (hK h4 l0 = 10) <|
  rq (hR h4 l0 45) fun a7 =>
  ck (hK h4 a7 = 12) <|
  ck (0 < hN h4 a7) <|
  bd (sI h4 a7 0 (0 : Int32)) fun h10 =>
  ck (hK h10 l0 = 10) <|
  cl (f_X11_passes N l0 h10) fun r11 h12 =>
  some (r11, h12)
/-! X11_undo -/
def f_X11_undo (N : Nat) (l0 : Nat) (h : PH) : Option (Int32 × PH) :=
  ck (hK h l0 = 10) <|
  bd (sI h l0 0 (0 : Int32)) fun h2 =>
  ck (hK h2 l0 = 10) <|
  if (hI h2 l0 54) = 0 then
    some ((0 : Int32), h2)
  else
    bd (sI h2 l0 54 ((hI h2 l0 54) - (1 : Int32))) fun h5 =>
    ck (hK h5 l0 = 10) <|
    rq (hR h5 l0 52) fun a7 =>
    rq (hR h5 l0 49) fun a8 =>
    cl (f_X11_copies N a7 ((32 : Int32) * (hI h5 l0 54)) a8 (0 : Int32) h5) fun r9 h10 =>
    ck (hK h10 l0 = 10) <|
    rq (hR h10 l0 45) fun a12 =>
    ck (hK h10 a12 = 12) <|
    ck (0 < hN h10 a12) <|
    bd (sI h10 a12 0 (0 : Int32)) fun h15 =>
    some ((1 : Int32), h15)
/-! X11_goes -/
def f_X11_goes (N : Nat) (l0 : Nat) (l1 : Int32) (h : PH) : Option (Int32 × PH) :=
  ck (hK h l0 = 10) <|
  rq (hR h l0 41) fun a2 =>
  ck (hK h a2 = 12) <|
  ck (inb l1 (hN h a2)) <|
  bd ((hI h a2 (ix l1))) fun v5 =>
  rq (hR h l0 40) fun a6 =>
  ck (hK h a6 = 12) <|
  ck (inb l1 (hN h a6)) <|
  if (hI h a6 (ix l1)) = 0 then
    rq (hR h l0 42) fun a31 =>
    ck (hK h a31 = 12) <|
    ck (inb l1 (hN h a31)) <|
    cl (f_X11_canBurn N l0 v5 (hI h a31 (ix l1)) h) fun r34 h35 =>
    if r34 = 0 then
      some ((0 : Int32), h35)
    else
      ck (hK h35 l0 = 10) <|
      rq (hR h35 l0 42) fun a38 =>
      ck (hK h35 a38 = 12) <|
      ck (inb l1 (hN h35 a38)) <|
      cl (f_X11_lights N l0 v5 (hI h35 a38 (ix l1)) h35) fun r41 h42 =>
      some ((1 : Int32), h42)
  else
    rq (hR h l0 49) fun a10 =>
    rq (hR h l0 43) fun a11 =>
    ck (hK h a11 = 12) <|
    ck (inb l1 (hN h a11)) <|
    ck (hK h a10 = 12) <|
    ck (inb (((9 : Int32) + ((5 : Int32) * v5)) + (hI h a11 (ix l1))) (hN h a10)) <|
    rq (hR h l0 44) fun a16 =>
    ck (hK h a16 = 12) <|
    ck (inb l1 (hN h a16)) <|
    if (hI h a16 (ix l1)) ≤ (hI h a10 (ix (((9 : Int32) + ((5 : Int32) * v5)) + (hI h a11 (ix l1))))) then
      rq (hR h l0 42) fun a20 =>
      ck (hK h a20 = 12) <|
      ck (inb l1 (hN h a20)) <|
      rq (hR h l0 43) fun a23 =>
      ck (hK h a23 = 12) <|
      ck (inb l1 (hN h a23)) <|
      rq (hR h l0 44) fun a26 =>
      ck (hK h a26 = 12) <|
      ck (inb l1 (hN h a26)) <|
      cl (f_X11_lends N l0 v5 (hI h a20 (ix l1)) (hI h a23 (ix l1)) (hI h a26 (ix l1)) h) fun r29 h30 =>
      some ((1 : Int32), h30)
    else
      some ((0 : Int32), h)
/-! X11_sootOfAll -/
def f_X11_sootOfAll (N : Nat) (l0 : Nat) (h : PH) : Option (Int32 × PH) :=
  ck (hK h l0 = 10) <|
  rq (hR h l0 49) fun a2 =>
  ck (hK h a2 = 12) <|
  ck (29 < hN h a2) <|
  rq (hR h l0 49) fun a5 =>
  ck (hK h a5 = 12) <|
  ck (30 < hN h a5) <|
  rq (hR h l0 49) fun a8 =>
  ck (hK h a8 = 12) <|
  ck (31 < hN h a8) <|
  some ((((hI h a2 29) + (hI h a5 30)) + (hI h a8 31)), h)
/-! X11_judged -/
def f_X11_judged_94 (N : Nat) (K_41 : Nat → Int32 → Int32 → Int32 → Int32 → PH → Option (Int32 × PH)) (l0 : Nat) (l1 : Int32) (l2 : Int32) (l3 : Int32) (l4 : Int32) (h : PH) : Option (Int32 × PH) :=
  bd (l4 + (1 : Int32)) fun v1 =>
  K_41 l0 l1 l2 l3 v1 h
def f_X11_judged_41_b (N : Nat) (K_41 : Nat → Int32 → Int32 → Int32 → Int32 → PH → Option (Int32 × PH)) (l0 : Nat) (l1 : Int32) (l2 : Int32) (l3 : Int32) (l4 : Int32) (h : PH) : Option (Int32 × PH) :=
  ck (hK h l0 = 10) <|
  rq (hR h l0 39) fun a2 =>
  ck (hK h a2 = 12) <|
  ck (0 < hN h a2) <|
  if (hI h a2 0) ≤ l4 then
    cl (f_X11_sootOfAll N l0 h) fun r6 h7 =>
    ck (hK h7 l0 = 10) <|
    rq (hR h7 l0 50) fun a9 =>
    rq (hR h7 l0 49) fun a10 =>
    cl (f_X11_copies N a9 (0 : Int32) a10 (0 : Int32) h7) fun r11 h12 =>
    if l1 = 0 then
      some (l2, h12)
    else
      if l1 = (1 : Int32) then
        some (l3, h12)
      else
        some (r6, h12)
  else
    rq (hR h l0 40) fun a15 =>
    ck (hK h a15 = 12) <|
    ck (inb l4 (hN h a15)) <|
    if (hI h a15 (ix l4)) = (2 : Int32) then
      cl (f_X11_passes N l0 h) fun r23 h24 =>
      ck (hK h24 l0 = 10) <|
      bd ((l3 + (hI h24 l0 55))) fun v26 =>
      f_X11_judged_94 N K_41 l0 l1 l2 v26 l4 h24
    else
      cl (f_X11_goes N l0 l4 h) fun r19 h20 =>
      if r19 = 0 then
        if 0 ≤ l2 then
          f_X11_judged_94 N K_41 l0 l1 l2 l3 l4 h20
        else
          f_X11_judged_94 N K_41 l0 l1 l4 l3 l4 h20
      else
        f_X11_judged_94 N K_41 l0 l1 l2 l3 l4 h20
def f_X11_judged_41 (N : Nat) : Nat → Nat → Int32 → Int32 → Int32 → Int32 → PH → Option (Int32 × PH)
  | 0 => fun _ _ _ _ _ _ => none
  | n + 1 => fun l0 l1 l2 l3 l4 h => f_X11_judged_41_b N (f_X11_judged_41 N n) l0 l1 l2 l3 l4 h
def f_X11_judged (N : Nat) (l0 : Nat) (l1 : Int32) (h : PH) : Option (Int32 × PH) :=
  ck (hK h l0 = 10) <|
  bd (sI h l0 0 (0 : Int32)) fun h2 =>
  cl (f_X11_within N l1 (0 : Int32) (2 : Int32) h2) fun r3 h4 =>
  if r3 = 0 then
    some ((-2 : Int32), h4)
  else
    ck (hK h4 l0 = 10) <|
    rq (hR h4 l0 49) fun a7 =>
    rq (hR h4 l0 50) fun a8 =>
    cl (f_X11_copies N a7 (0 : Int32) a8 (0 : Int32) h4) fun r9 h10 =>
    ck (hK h10 l0 = 10) <|
    cl (f_X11_fresh N l0 h10) fun r11 h12 =>
    f_X11_judged_41 N N l0 l1 (-1 : Int32) (0 : Int32) (0 : Int32) h12
/-! X11_mayBurn -/
def f_X11_mayBurn (N : Nat) (l0 : Nat) (l1 : Int32) (l2 : Int32) (h : PH) : Option (Int32 × PH) :=
  if l2 = (5 : Int32) then
    some ((1 : Int32), h)
  else
    ck (hK h l0 = 10) <|
    cl (f_X11_isFuel N l0 l2 h) fun r2 h3 =>
    if r2 = 0 then
      some ((0 : Int32), h3)
    else
      ck (hK h3 l0 = 10) <|
      cl (f_X11_canBurn N l0 l1 l2 h3) fun r6 h7 =>
      if r6 = 0 then
        some ((0 : Int32), h7)
      else
        some ((1 : Int32), h7)
/-! X11_givesBy -/
def f_X11_givesBy_18 (N : Nat) (l0 : Nat) (l1 : Int32) (l2 : Int32) (h : PH) : Option (Int32 × PH) :=
  ck (hK h l0 = 10) <|
  cl (f_X11_fireGives N l0 l1 l2 h) fun r1 h2 =>
  some (r1, h2)
def f_X11_givesBy (N : Nat) (l0 : Nat) (l1 : Int32) (l2 : Int32) (h : PH) : Option (Int32 × PH) :=
  ck (hK h l0 = 10) <|
  cl (f_X11_isFire N l0 l1 h) fun r1 h2 =>
  if r1 = 0 then
    ck (hK h2 l0 = 10) <|
    rq (hR h2 l0 57) fun a6 =>
    ck (hK h2 a6 = 12) <|
    ck (inb l1 (hN h2 a6)) <|
    if (hI h2 a6 (ix l1)) = (5 : Int32) then
      f_X11_givesBy_18 N l0 l1 l2 h2
    else
      rq (hR h2 l0 57) fun a10 =>
      ck (hK h2 a10 = 12) <|
      ck (inb l1 (hN h2 a10)) <|
      rq (hR h2 l0 14) fun a13 =>
      rq (hR h2 l0 57) fun a14 =>
      ck (hK h2 a14 = 12) <|
      ck (inb l1 (hN h2 a14)) <|
      ck (hK h2 a13 = 12) <|
      ck (inb (hI h2 a14 (ix l1)) (hN h2 a13)) <|
      rq (hR h2 l0 49) fun a19 =>
      ck (hK h2 a19 = 12) <|
      ck (0 < hN h2 a19) <|
      cl (f_X11_givesIn N l0 (hI h2 a10 (ix l1)) (hI h2 a13 (ix (hI h2 a14 (ix l1)))) (hI h2 a19 0) l2 h2) fun r22 h23 =>
      some (r22, h23)
  else
    f_X11_givesBy_18 N l0 l1 l2 h2
/-! X11_smokeBy -/
def f_X11_smokeBy_39 (N : Nat) (K_5 : Nat → Int32 → Int32 → Int32 → Int32 → PH → Option (Int32 × PH)) (s0 : Int32) (s1 : Int32) (l0 : Nat) (l1 : Int32) (l2 : Int32) (l4 : Int32) (h : PH) : Option (Int32 × PH) :=
  bd ((s1 + s0)) fun v1 =>
  bd (l4 + (1 : Int32)) fun v2 =>
  K_5 l0 l1 l2 v1 v2 h
def f_X11_smokeBy_5_b (N : Nat) (K_5 : Nat → Int32 → Int32 → Int32 → Int32 → PH → Option (Int32 × PH)) (l0 : Nat) (l1 : Int32) (l2 : Int32) (l3 : Int32) (l4 : Int32) (h : PH) : Option (Int32 × PH) :=
  ck (hK h l0 = 10) <|
  rq (hR h l0 10) fun a2 =>
  ck (hK h a2 = 12) <|
  ck (2 < hN h a2) <|
  if (hI h a2 2) ≤ l4 then
    some ((if l3 < (999 : Int32) then l3 else (999 : Int32)), h)
  else
    rq (hR h l0 15) fun a6 =>
    ck (hK h a6 = 12) <|
    ck (inb l4 (hN h a6)) <|
    if (hI h a6 (ix l4)) = l1 then
      cl (f_X11_givesBy N l0 l4 l2 h) fun r10 h11 =>
      f_X11_smokeBy_39 N K_5 r10 l3 l0 l1 l2 l4 h11
    else
      f_X11_smokeBy_39 N K_5 (0 : Int32) l3 l0 l1 l2 l4 h
def f_X11_smokeBy_5 (N : Nat) : Nat → Nat → Int32 → Int32 → Int32 → Int32 → PH → Option (Int32 × PH)
  | 0 => fun _ _ _ _ _ _ => none
  | n + 1 => fun l0 l1 l2 l3 l4 h => f_X11_smokeBy_5_b N (f_X11_smokeBy_5 N n) l0 l1 l2 l3 l4 h
def f_X11_smokeBy (N : Nat) (l0 : Nat) (l1 : Int32) (l2 : Int32) (h : PH) : Option (Int32 × PH) :=
  f_X11_smokeBy_5 N N l0 l1 l2 (0 : Int32) (0 : Int32) h
/-! X11_signBy -/
def f_X11_signBy (N : Nat) (l0 : Nat) (l1 : Int32) (h : PH) : Option (Int32 × PH) :=
  ck (hK h l0 = 10) <|
  cl (f_X11_smokeBy N l0 l1 (0 : Int32) h) fun r1 h2 =>
  ck (hK h2 l0 = 10) <|
  cl (f_X11_smokeBy N l0 l1 (1 : Int32) h2) fun r4 h5 =>
  ck (hK h5 l0 = 10) <|
  cl (f_X11_signOf N l0 r1 r4 h5) fun r7 h8 =>
  some (r7, h8)
/-! X11_noneBurns -/
def f_X11_noneBurns_2_b (N : Nat) (K_2 : Nat → Int32 → PH → Option (Unit × PH)) (l0 : Nat) (l1 : Int32) (h : PH) : Option (Unit × PH) :=
  if (4 : Int32) ≤ l1 then
    some ((), h)
  else
    ck (hK h l0 = 10) <|
    rq (hR h l0 57) fun a3 =>
    ck (hK h a3 = 12) <|
    ck (inb l1 (hN h a3)) <|
    bd (sI h a3 (ix l1) (5 : Int32)) fun h6 =>
    bd (l1 + (1 : Int32)) fun v7 =>
    K_2 l0 v7 h6
def f_X11_noneBurns_2 (N : Nat) : Nat → Nat → Int32 → PH → Option (Unit × PH)
  | 0 => fun _ _ _ => none
  | n + 1 => fun l0 l1 h => f_X11_noneBurns_2_b N (f_X11_noneBurns_2 N n) l0 l1 h
def f_X11_noneBurns (N : Nat) (l0 : Nat) (h : PH) : Option (Unit × PH) :=
  f_X11_noneBurns_2 N N l0 (0 : Int32) h
/-! X11_firstOf -/
def f_X11_firstOf_2_b (N : Nat) (K_2 : Nat → Int32 → Int32 → PH → Option (Int32 × PH)) (l0 : Nat) (l1 : Int32) (l2 : Int32) (h : PH) : Option (Int32 × PH) :=
  ck (hK h l0 = 10) <|
  cl (f_X11_mayBurn N l0 l1 l2 h) fun r1 h2 =>
  if r1 = 0 then
    bd (l2 + (1 : Int32)) fun v5 =>
    K_2 l0 l1 v5 h2
  else
    some (l2, h2)
def f_X11_firstOf_2 (N : Nat) : Nat → Nat → Int32 → Int32 → PH → Option (Int32 × PH)
  | 0 => fun _ _ _ _ => none
  | n + 1 => fun l0 l1 l2 h => f_X11_firstOf_2_b N (f_X11_firstOf_2 N n) l0 l1 l2 h
def f_X11_firstOf (N : Nat) (l0 : Nat) (l1 : Int32) (h : PH) : Option (Int32 × PH) :=
  f_X11_firstOf_2 N N l0 l1 (0 : Int32) h
/-! X11_nextWay -/
def f_X11_nextWay_74 (N : Nat) (K_2 : Nat → Int32 → Int32 → PH → Option (Int32 × PH)) (l0 : Nat) (l1 : Int32) (l2 : Int32) (h : PH) : Option (Int32 × PH) :=
  bd (l2 + (-1 : Int32)) fun v1 =>
  K_2 l0 l1 v1 h
def f_X11_nextWay_51 (N : Nat) (K_2 : Nat → Int32 → Int32 → PH → Option (Int32 × PH)) (l0 : Nat) (l1 : Int32) (l2 : Int32) (h : PH) : Option (Int32 × PH) :=
  ck (hK h l0 = 10) <|
  rq (hR h l0 57) fun a2 =>
  ck (hK h a2 = 12) <|
  ck (inb l2 (hN h a2)) <|
  if (5 : Int32) < (hI h a2 (ix l2)) then
    rq (hR h l0 57) fun a6 =>
    cl (f_X11_firstOf N l0 l2 h) fun r7 h8 =>
    ck (hK h8 a6 = 12) <|
    ck (inb l2 (hN h8 a6)) <|
    bd (sI h8 a6 (ix l2) r7) fun h11 =>
    f_X11_nextWay_74 N K_2 l0 l1 l2 h11
  else
    some ((1 : Int32), h)
def f_X11_nextWay_17_b (N : Nat) (K_2 : Nat → Int32 → Int32 → PH → Option (Int32 × PH)) (K_17 : Nat → Int32 → Int32 → PH → Option (Int32 × PH)) (l0 : Nat) (l1 : Int32) (l2 : Int32) (h : PH) : Option (Int32 × PH) :=
  ck (hK h l0 = 10) <|
  rq (hR h l0 57) fun a2 =>
  ck (hK h a2 = 12) <|
  ck (inb l2 (hN h a2)) <|
  bd (sI h a2 (ix l2) ((hI h a2 (ix l2)) + (1 : Int32))) fun h5 =>
  ck (hK h5 l0 = 10) <|
  rq (hR h5 l0 57) fun a7 =>
  ck (hK h5 a7 = 12) <|
  ck (inb l2 (hN h5 a7)) <|
  if (5 : Int32) ≤ (hI h5 a7 (ix l2)) then
    f_X11_nextWay_51 N K_2 l0 l1 l2 h5
  else
    rq (hR h5 l0 57) fun a11 =>
    ck (hK h5 a11 = 12) <|
    ck (inb l2 (hN h5 a11)) <|
    cl (f_X11_mayBurn N l0 l2 (hI h5 a11 (ix l2)) h5) fun r14 h15 =>
    if r14 = 0 then
      K_17 l0 l1 l2 h15
    else
      f_X11_nextWay_51 N K_2 l0 l1 l2 h15
def f_X11_nextWay_17 (N : Nat) (K_2 : Nat → Int32 → Int32 → PH → Option (Int32 × PH)) : Nat → Nat → Int32 → Int32 → PH → Option (Int32 × PH)
  | 0 => fun _ _ _ _ => none
  | n + 1 => fun l0 l1 l2 h => f_X11_nextWay_17_b N K_2 (f_X11_nextWay_17 N K_2 n) l0 l1 l2 h
def f_X11_nextWay_2_b (N : Nat) (K_2 : Nat → Int32 → Int32 → PH → Option (Int32 × PH)) (l0 : Nat) (l1 : Int32) (l2 : Int32) (h : PH) : Option (Int32 × PH) :=
  if l2 < 0 then
    some ((0 : Int32), h)
  else
    if ((l1 >>> (l2 &&& 31)) &&& (1 : Int32)) = 0 then
      f_X11_nextWay_74 N K_2 l0 l1 l2 h
    else
      f_X11_nextWay_17 N K_2 N l0 l1 l2 h
def f_X11_nextWay_2 (N : Nat) : Nat → Nat → Int32 → Int32 → PH → Option (Int32 × PH)
  | 0 => fun _ _ _ _ => none
  | n + 1 => fun l0 l1 l2 h => f_X11_nextWay_2_b N (f_X11_nextWay_2 N n) l0 l1 l2 h
def f_X11_nextWay (N : Nat) (l0 : Nat) (l1 : Int32) (h : PH) : Option (Int32 × PH) :=
  f_X11_nextWay_2 N N l0 l1 (3 : Int32) h
/-! X11_firstWay -/
def f_X11_firstWay_30 (N : Nat) (K_2 : Nat → Int32 → Int32 → PH → Option (Unit × PH)) (s0 : Int32) (s1 : Int32) (s2 : Nat) (l0 : Nat) (l1 : Int32) (l2 : Int32) (h : PH) : Option (Unit × PH) :=
  ck (hK h s2 = 12) <|
  ck (inb s1 (hN h s2)) <|
  bd (sI h s2 (ix s1) s0) fun h3 =>
  bd (l2 + (1 : Int32)) fun v4 =>
  K_2 l0 l1 v4 h3
def f_X11_firstWay_2_b (N : Nat) (K_2 : Nat → Int32 → Int32 → PH → Option (Unit × PH)) (l0 : Nat) (l1 : Int32) (l2 : Int32) (h : PH) : Option (Unit × PH) :=
  if (4 : Int32) ≤ l2 then
    some ((), h)
  else
    ck (hK h l0 = 10) <|
    rq (hR h l0 57) fun a3 =>
    if ((l1 >>> (l2 &&& 31)) &&& (1 : Int32)) = (1 : Int32) then
      cl (f_X11_firstOf N l0 l2 h) fun r5 h6 =>
      f_X11_firstWay_30 N K_2 r5 l2 a3 l0 l1 l2 h6
    else
      f_X11_firstWay_30 N K_2 (5 : Int32) l2 a3 l0 l1 l2 h
def f_X11_firstWay_2 (N : Nat) : Nat → Nat → Int32 → Int32 → PH → Option (Unit × PH)
  | 0 => fun _ _ _ _ => none
  | n + 1 => fun l0 l1 l2 h => f_X11_firstWay_2_b N (f_X11_firstWay_2 N n) l0 l1 l2 h
def f_X11_firstWay (N : Nat) (l0 : Nat) (l1 : Int32) (h : PH) : Option (Unit × PH) :=
  f_X11_firstWay_2 N N l0 l1 (0 : Int32) h
/-! X11_withoutFire -/
def f_X11_withoutFire_39 (N : Nat) (K_4 : Nat → Int32 → Int32 → Int32 → PH → Option (Int32 × PH)) (s0 : Int32) (s1 : Int32) (l0 : Nat) (l1 : Int32) (l3 : Int32) (h : PH) : Option (Int32 × PH) :=
  bd ((s1 ||| s0)) fun v1 =>
  bd (l3 + (1 : Int32)) fun v2 =>
  K_4 l0 l1 v1 v2 h
def f_X11_withoutFire_38 (N : Nat) (K_4 : Nat → Int32 → Int32 → Int32 → PH → Option (Int32 × PH)) (s0 : Int32) (l0 : Nat) (l1 : Int32) (l3 : Int32) (h : PH) : Option (Int32 × PH) :=
  f_X11_withoutFire_39 N K_4 (0 : Int32) s0 l0 l1 l3 h
def f_X11_withoutFire_4_b (N : Nat) (K_4 : Nat → Int32 → Int32 → Int32 → PH → Option (Int32 × PH)) (l0 : Nat) (l1 : Int32) (l2 : Int32) (l3 : Int32) (h : PH) : Option (Int32 × PH) :=
  ck (hK h l0 = 10) <|
  rq (hR h l0 10) fun a2 =>
  ck (hK h a2 = 12) <|
  ck (2 < hN h a2) <|
  if (hI h a2 2) ≤ l3 then
    some (l2, h)
  else
    if ((l1 >>> (l3 &&& 31)) &&& (1 : Int32)) = (1 : Int32) then
      cl (f_X11_isFire N l0 l3 h) fun r7 h8 =>
      if r7 = 0 then
        f_X11_withoutFire_39 N K_4 ((1 : Int32) <<< (l3 &&& 31)) l2 l0 l1 l3 h8
      else
        f_X11_withoutFire_38 N K_4 l2 l0 l1 l3 h8
    else
      f_X11_withoutFire_38 N K_4 l2 l0 l1 l3 h
def f_X11_withoutFire_4 (N : Nat) : Nat → Nat → Int32 → Int32 → Int32 → PH → Option (Int32 × PH)
  | 0 => fun _ _ _ _ _ => none
  | n + 1 => fun l0 l1 l2 l3 h => f_X11_withoutFire_4_b N (f_X11_withoutFire_4 N n) l0 l1 l2 l3 h
def f_X11_withoutFire (N : Nat) (l0 : Nat) (l1 : Int32) (h : PH) : Option (Int32 × PH) :=
  f_X11_withoutFire_4 N N l0 l1 (0 : Int32) (0 : Int32) h
/-! X11_burnt -/
def f_X11_burnt_25 (N : Nat) (K_4 : Nat → Int32 → Int32 → PH → Option (Int32 × PH)) (s0 : Int32) (s1 : Int32) (l0 : Nat) (l2 : Int32) (h : PH) : Option (Int32 × PH) :=
  bd ((s1 + s0)) fun v1 =>
  bd (l2 + (1 : Int32)) fun v2 =>
  K_4 l0 v1 v2 h
def f_X11_burnt_4_b (N : Nat) (K_4 : Nat → Int32 → Int32 → PH → Option (Int32 × PH)) (l0 : Nat) (l1 : Int32) (l2 : Int32) (h : PH) : Option (Int32 × PH) :=
  if (4 : Int32) ≤ l2 then
    some (l1, h)
  else
    ck (hK h l0 = 10) <|
    rq (hR h l0 57) fun a3 =>
    ck (hK h a3 = 12) <|
    ck (inb l2 (hN h a3)) <|
    if (hI h a3 (ix l2)) = (5 : Int32) then
      f_X11_burnt_25 N K_4 (0 : Int32) l1 l0 l2 h
    else
      f_X11_burnt_25 N K_4 (1 : Int32) l1 l0 l2 h
def f_X11_burnt_4 (N : Nat) : Nat → Nat → Int32 → Int32 → PH → Option (Int32 × PH)
  | 0 => fun _ _ _ _ => none
  | n + 1 => fun l0 l1 l2 h => f_X11_burnt_4_b N (f_X11_burnt_4 N n) l0 l1 l2 h
def f_X11_burnt (N : Nat) (l0 : Nat) (h : PH) : Option (Int32 × PH) :=
  f_X11_burnt_4 N N l0 (0 : Int32) (0 : Int32) h
/-! X11_laysWay -/
def f_X11_laysWay_28 (N : Nat) (K_2 : Nat → Int32 → PH → Option (Unit × PH)) (l0 : Nat) (l1 : Int32) (h : PH) : Option (Unit × PH) :=
  bd (l1 + (1 : Int32)) fun v1 =>
  K_2 l0 v1 h
def f_X11_laysWay_2_b (N : Nat) (K_2 : Nat → Int32 → PH → Option (Unit × PH)) (l0 : Nat) (l1 : Int32) (h : PH) : Option (Unit × PH) :=
  if (4 : Int32) ≤ l1 then
    some ((), h)
  else
    ck (hK h l0 = 10) <|
    rq (hR h l0 57) fun a3 =>
    ck (hK h a3 = 12) <|
    ck (inb l1 (hN h a3)) <|
    if (5 : Int32) ≤ (hI h a3 (ix l1)) then
      f_X11_laysWay_28 N K_2 l0 l1 h
    else
      rq (hR h l0 57) fun a7 =>
      ck (hK h a7 = 12) <|
      ck (inb l1 (hN h a7)) <|
      cl (f_X11_lights N l0 l1 (hI h a7 (ix l1)) h) fun r10 h11 =>
      f_X11_laysWay_28 N K_2 l0 l1 h11
def f_X11_laysWay_2 (N : Nat) : Nat → Nat → Int32 → PH → Option (Unit × PH)
  | 0 => fun _ _ _ => none
  | n + 1 => fun l0 l1 h => f_X11_laysWay_2_b N (f_X11_laysWay_2 N n) l0 l1 h
def f_X11_laysWay (N : Nat) (l0 : Nat) (h : PH) : Option (Unit × PH) :=
  f_X11_laysWay_2 N N l0 (0 : Int32) h
/-! X11_fewest -/
def f_X11_fewest_57 (N : Nat) (K_21 : Nat → Int32 → Int32 → Int32 → Int32 → Int32 → PH → Option (Int32 × PH)) (l0 : Nat) (l1 : Int32) (l2 : Int32) (l3 : Int32) (l4 : Int32) (h : PH) : Option (Int32 × PH) :=
  ck (hK h l0 = 10) <|
  cl (f_X11_nextWay N l0 l3 h) fun r1 h2 =>
  K_21 l0 l1 l2 l3 l4 r1 h2
def f_X11_fewest_44 (N : Nat) (K_21 : Nat → Int32 → Int32 → Int32 → Int32 → Int32 → PH → Option (Int32 × PH)) (l0 : Nat) (l1 : Int32) (l2 : Int32) (l3 : Int32) (l4 : Int32) (l6 : Int32) (h : PH) : Option (Int32 × PH) :=
  ck (hK h l0 = 10) <|
  cl (f_X11_signBy N l0 l1 h) fun r1 h2 =>
  if r1 = l2 then
    f_X11_fewest_57 N K_21 l0 l1 l2 l3 l6 h2
  else
    f_X11_fewest_57 N K_21 l0 l1 l2 l3 l4 h2
def f_X11_fewest_21_b (N : Nat) (K_21 : Nat → Int32 → Int32 → Int32 → Int32 → Int32 → PH → Option (Int32 × PH)) (l0 : Nat) (l1 : Int32) (l2 : Int32) (l3 : Int32) (l4 : Int32) (l5 : Int32) (h : PH) : Option (Int32 × PH) :=
  if l5 = 0 then
    some (l4, h)
  else
    ck (hK h l0 = 10) <|
    cl (f_X11_burnt N l0 h) fun r2 h3 =>
    if l4 < 0 then
      f_X11_fewest_44 N K_21 l0 l1 l2 l3 l4 r2 h3
    else
      if l4 ≤ r2 then
        f_X11_fewest_57 N K_21 l0 l1 l2 l3 l4 h3
      else
        f_X11_fewest_44 N K_21 l0 l1 l2 l3 l4 r2 h3
def f_X11_fewest_21 (N : Nat) : Nat → Nat → Int32 → Int32 → Int32 → Int32 → Int32 → PH → Option (Int32 × PH)
  | 0 => fun _ _ _ _ _ _ _ => none
  | n + 1 => fun l0 l1 l2 l3 l4 l5 h => f_X11_fewest_21_b N (f_X11_fewest_21 N n) l0 l1 l2 l3 l4 l5 h
def f_X11_fewest (N : Nat) (l0 : Nat) (l1 : Int32) (l2 : Int32) (h : PH) : Option (Int32 × PH) :=
  ck (hK h l0 = 10) <|
  cl (f_X11_housesOf N l0 l1 h) fun r1 h2 =>
  ck (hK h2 l0 = 10) <|
  cl (f_X11_withoutFire N l0 r1 h2) fun r4 h5 =>
  ck (hK h5 l0 = 10) <|
  cl (f_X11_firstWay N l0 r4 h5) fun r7 h8 =>
  f_X11_fewest_21 N N l0 l1 l2 r4 (-1 : Int32) (1 : Int32) h8
/-! X11_spell -/
def f_X11_spell_285 (N : Nat) (K_100 : Nat → Int32 → Int32 → Int32 → Int32 → Int32 → Int32 → Int32 → PH → Option (Int32 × PH)) (l0 : Nat) (l1 : Int32) (l2 : Int32) (l3 : Int32) (l4 : Int32) (l5 : Int32) (l6 : Int32) (h : PH) : Option (Int32 × PH) :=
  ck (hK h l0 = 10) <|
  cl (f_X11_nextWay N l0 l5 h) fun r1 h2 =>
  K_100 l0 l1 l2 l3 l4 l5 l6 r1 h2
def f_X11_spell_259_b (N : Nat) (K_100 : Nat → Int32 → Int32 → Int32 → Int32 → Int32 → Int32 → Int32 → PH → Option (Int32 × PH)) (K_259 : Nat → Int32 → Int32 → Int32 → Int32 → Int32 → Int32 → Int32 → PH → Option (Int32 × PH)) (l0 : Nat) (l1 : Int32) (l2 : Int32) (l3 : Int32) (l4 : Int32) (l5 : Int32) (l6 : Int32) (l10 : Int32) (h : PH) : Option (Int32 × PH) :=
  if (4 : Int32) ≤ l10 then
    f_X11_spell_285 N K_100 l0 l1 l2 l3 l4 l5 l6 h
  else
    ck (hK h l0 = 10) <|
    rq (hR h l0 59) fun a3 =>
    rq (hR h l0 57) fun a4 =>
    ck (hK h a4 = 12) <|
    ck (inb l10 (hN h a4)) <|
    ck (hK h a3 = 12) <|
    ck (inb l10 (hN h a3)) <|
    bd (sI h a3 (ix l10) (hI h a4 (ix l10))) fun h9 =>
    bd (l10 + (1 : Int32)) fun v10 =>
    K_259 l0 l1 l2 l3 l4 l5 l6 v10 h9
def f_X11_spell_259 (N : Nat) (K_100 : Nat → Int32 → Int32 → Int32 → Int32 → Int32 → Int32 → Int32 → PH → Option (Int32 × PH)) : Nat → Nat → Int32 → Int32 → Int32 → Int32 → Int32 → Int32 → Int32 → PH → Option (Int32 × PH)
  | 0 => fun _ _ _ _ _ _ _ _ _ => none
  | n + 1 => fun l0 l1 l2 l3 l4 l5 l6 l10 h => f_X11_spell_259_b N K_100 (f_X11_spell_259 N K_100 n) l0 l1 l2 l3 l4 l5 l6 l10 h
def f_X11_spell_249 (N : Nat) (K_100 : Nat → Int32 → Int32 → Int32 → Int32 → Int32 → Int32 → Int32 → PH → Option (Int32 × PH)) (l0 : Nat) (l1 : Int32) (l2 : Int32) (l3 : Int32) (l4 : Int32) (l5 : Int32) (l8 : Int32) (l9 : Int32) (h : PH) : Option (Int32 × PH) :=
  bd ((l8 + l9)) fun v1 =>
  f_X11_spell_259 N K_100 N l0 l1 l2 l3 l4 l5 v1 (0 : Int32) h
def f_X11_spell_229 (N : Nat) (K_100 : Nat → Int32 → Int32 → Int32 → Int32 → Int32 → Int32 → Int32 → PH → Option (Int32 × PH)) (l0 : Nat) (l1 : Int32) (l2 : Int32) (l3 : Int32) (l4 : Int32) (l5 : Int32) (l6 : Int32) (l8 : Int32) (l9 : Int32) (h : PH) : Option (Int32 × PH) :=
  if l9 < 0 then
    f_X11_spell_285 N K_100 l0 l1 l2 l3 l4 l5 l6 h
  else
    if l6 < 0 then
      f_X11_spell_249 N K_100 l0 l1 l2 l3 l4 l5 l8 l9 h
    else
      if l6 ≤ (l8 + l9) then
        f_X11_spell_285 N K_100 l0 l1 l2 l3 l4 l5 l6 h
      else
        f_X11_spell_249 N K_100 l0 l1 l2 l3 l4 l5 l8 l9 h
def f_X11_spell_203_b (N : Nat) (K_100 : Nat → Int32 → Int32 → Int32 → Int32 → Int32 → Int32 → Int32 → PH → Option (Int32 × PH)) (K_203 : Nat → Int32 → Int32 → Int32 → Int32 → Int32 → Int32 → Int32 → Int32 → Int32 → PH → Option (Int32 × PH)) (l0 : Nat) (l1 : Int32) (l2 : Int32) (l3 : Int32) (l4 : Int32) (l5 : Int32) (l6 : Int32) (l8 : Int32) (l9 : Int32) (l10 : Int32) (h : PH) : Option (Int32 × PH) :=
  if (4 : Int32) ≤ l10 then
    f_X11_spell_229 N K_100 l0 l1 l2 l3 l4 l5 l6 l8 l9 h
  else
    ck (hK h l0 = 10) <|
    rq (hR h l0 57) fun a3 =>
    rq (hR h l0 58) fun a4 =>
    ck (hK h a4 = 12) <|
    ck (inb l10 (hN h a4)) <|
    ck (hK h a3 = 12) <|
    ck (inb l10 (hN h a3)) <|
    bd (sI h a3 (ix l10) (hI h a4 (ix l10))) fun h9 =>
    bd (l10 + (1 : Int32)) fun v10 =>
    K_203 l0 l1 l2 l3 l4 l5 l6 l8 l9 v10 h9
def f_X11_spell_203 (N : Nat) (K_100 : Nat → Int32 → Int32 → Int32 → Int32 → Int32 → Int32 → Int32 → PH → Option (Int32 × PH)) : Nat → Nat → Int32 → Int32 → Int32 → Int32 → Int32 → Int32 → Int32 → Int32 → Int32 → PH → Option (Int32 × PH)
  | 0 => fun _ _ _ _ _ _ _ _ _ _ _ => none
  | n + 1 => fun l0 l1 l2 l3 l4 l5 l6 l8 l9 l10 h => f_X11_spell_203_b N K_100 (f_X11_spell_203 N K_100 n) l0 l1 l2 l3 l4 l5 l6 l8 l9 l10 h
def f_X11_spell_135_b (N : Nat) (K_100 : Nat → Int32 → Int32 → Int32 → Int32 → Int32 → Int32 → Int32 → PH → Option (Int32 × PH)) (K_135 : Nat → Int32 → Int32 → Int32 → Int32 → Int32 → Int32 → Int32 → Int32 → PH → Option (Int32 × PH)) (l0 : Nat) (l1 : Int32) (l2 : Int32) (l3 : Int32) (l4 : Int32) (l5 : Int32) (l6 : Int32) (l8 : Int32) (l9 : Int32) (h : PH) : Option (Int32 × PH) :=
  if (4 : Int32) ≤ l9 then
    if l3 = (-2 : Int32) then
      f_X11_spell_229 N K_100 l0 l1 l2 l3 l4 l5 l6 l8 (0 : Int32) h
    else
      ck (hK h l0 = 10) <|
      cl (f_X11_laysWay N l0 h) fun r3 h4 =>
      ck (hK h4 l0 = 10) <|
      cl (f_X11_passes N l0 h4) fun r6 h7 =>
      ck (hK h7 l0 = 10) <|
      cl (f_X11_fewest N l0 l1 l3 h7) fun r9 h10 =>
      ck (hK h10 l0 = 10) <|
      rq (hR h10 l0 60) fun a13 =>
      rq (hR h10 l0 49) fun a14 =>
      cl (f_X11_copies N a13 (0 : Int32) a14 (0 : Int32) h10) fun r15 h16 =>
      f_X11_spell_203 N K_100 N l0 l1 l2 l3 l4 l5 l6 l8 r9 (0 : Int32) h16
  else
    ck (hK h l0 = 10) <|
    rq (hR h l0 58) fun a18 =>
    rq (hR h l0 57) fun a19 =>
    ck (hK h a19 = 12) <|
    ck (inb l9 (hN h a19)) <|
    ck (hK h a18 = 12) <|
    ck (inb l9 (hN h a18)) <|
    bd (sI h a18 (ix l9) (hI h a19 (ix l9))) fun h24 =>
    bd (l9 + (1 : Int32)) fun v25 =>
    K_135 l0 l1 l2 l3 l4 l5 l6 l8 v25 h24
def f_X11_spell_135 (N : Nat) (K_100 : Nat → Int32 → Int32 → Int32 → Int32 → Int32 → Int32 → Int32 → PH → Option (Int32 × PH)) : Nat → Nat → Int32 → Int32 → Int32 → Int32 → Int32 → Int32 → Int32 → Int32 → PH → Option (Int32 × PH)
  | 0 => fun _ _ _ _ _ _ _ _ _ _ => none
  | n + 1 => fun l0 l1 l2 l3 l4 l5 l6 l8 l9 h => f_X11_spell_135_b N K_100 (f_X11_spell_135 N K_100 n) l0 l1 l2 l3 l4 l5 l6 l8 l9 h
def f_X11_spell_123 (N : Nat) (K_100 : Nat → Int32 → Int32 → Int32 → Int32 → Int32 → Int32 → Int32 → PH → Option (Int32 × PH)) (l0 : Nat) (l1 : Int32) (l2 : Int32) (l3 : Int32) (l4 : Int32) (l5 : Int32) (l6 : Int32) (l8 : Int32) (h : PH) : Option (Int32 × PH) :=
  ck (hK h l0 = 10) <|
  cl (f_X11_signBy N l0 l1 h) fun r1 h2 =>
  if r1 = l2 then
    f_X11_spell_135 N K_100 N l0 l1 l2 l3 l4 l5 l6 l8 (0 : Int32) h2
  else
    f_X11_spell_285 N K_100 l0 l1 l2 l3 l4 l5 l6 h2
def f_X11_spell_100_b (N : Nat) (K_100 : Nat → Int32 → Int32 → Int32 → Int32 → Int32 → Int32 → Int32 → PH → Option (Int32 × PH)) (l0 : Nat) (l1 : Int32) (l2 : Int32) (l3 : Int32) (l4 : Int32) (l5 : Int32) (l6 : Int32) (l7 : Int32) (h : PH) : Option (Int32 × PH) :=
  if l7 = 0 then
    if 0 ≤ l6 then
      if l4 = (-1 : Int32) then
        some (l6, h)
      else
        ck (hK h l0 = 10) <|
        rq (hR h l0 59) fun a5 =>
        ck (hK h a5 = 12) <|
        ck (inb l4 (hN h a5)) <|
        if (hI h a5 (ix l4)) = (5 : Int32) then
          some ((-1 : Int32), h)
        else
          rq (hR h l0 59) fun a9 =>
          ck (hK h a9 = 12) <|
          ck (inb l4 (hN h a9)) <|
          some ((hI h a9 (ix l4)), h)
    else
      some ((-2 : Int32), h)
  else
    ck (hK h l0 = 10) <|
    cl (f_X11_burnt N l0 h) fun r12 h13 =>
    if l6 < 0 then
      f_X11_spell_123 N K_100 l0 l1 l2 l3 l4 l5 l6 r12 h13
    else
      if l6 ≤ r12 then
        f_X11_spell_285 N K_100 l0 l1 l2 l3 l4 l5 l6 h13
      else
        f_X11_spell_123 N K_100 l0 l1 l2 l3 l4 l5 l6 r12 h13
def f_X11_spell_100 (N : Nat) : Nat → Nat → Int32 → Int32 → Int32 → Int32 → Int32 → Int32 → Int32 → PH → Option (Int32 × PH)
  | 0 => fun _ _ _ _ _ _ _ _ _ => none
  | n + 1 => fun l0 l1 l2 l3 l4 l5 l6 l7 h => f_X11_spell_100_b N (f_X11_spell_100 N n) l0 l1 l2 l3 l4 l5 l6 l7 h
def f_X11_spell_64 (N : Nat) (l0 : Nat) (l1 : Int32) (l2 : Int32) (l3 : Int32) (l4 : Int32) (h : PH) : Option (Int32 × PH) :=
  ck (hK h l0 = 10) <|
  cl (f_X11_housesOf N l0 l1 h) fun r1 h2 =>
  ck (hK h2 l0 = 10) <|
  cl (f_X11_withoutFire N l0 r1 h2) fun r4 h5 =>
  ck (hK h5 l0 = 10) <|
  rq (hR h5 l0 49) fun a8 =>
  rq (hR h5 l0 60) fun a9 =>
  cl (f_X11_copies N a8 (0 : Int32) a9 (0 : Int32) h5) fun r10 h11 =>
  ck (hK h11 l0 = 10) <|
  cl (f_X11_firstWay N l0 r4 h11) fun r12 h13 =>
  f_X11_spell_100 N N l0 l1 l2 l3 l4 r4 (-1 : Int32) (1 : Int32) h13
def f_X11_spell (N : Nat) (l0 : Nat) (l1 : Int32) (l2 : Int32) (l3 : Int32) (l4 : Int32) (h : PH) : Option (Int32 × PH) :=
  ck (hK h l0 = 10) <|
  bd (sI h l0 0 (0 : Int32)) fun h2 =>
  ck (hK h2 l0 = 10) <|
  cl (f_X11_isFlue N l0 l1 h2) fun r3 h4 =>
  if r3 = 0 then
    some ((-2 : Int32), h4)
  else
    ck (hK h4 l0 = 10) <|
    rq (hR h4 l0 10) fun a8 =>
    ck (hK h4 a8 = 12) <|
    ck (3 < hN h4 a8) <|
    cl (f_X11_within N l2 (-1 : Int32) ((hI h4 a8 3) - (1 : Int32)) h4) fun r11 h12 =>
    if r11 = 0 then
      some ((-2 : Int32), h12)
    else
      ck (hK h12 l0 = 10) <|
      rq (hR h12 l0 10) fun a15 =>
      ck (hK h12 a15 = 12) <|
      ck (3 < hN h12 a15) <|
      cl (f_X11_within N l3 (-2 : Int32) ((hI h12 a15 3) - (1 : Int32)) h12) fun r18 h19 =>
      if r18 = 0 then
        some ((-2 : Int32), h19)
      else
        if l4 = (-1 : Int32) then
          f_X11_spell_64 N l0 l1 l2 l3 l4 h19
        else
          ck (hK h19 l0 = 10) <|
          cl (f_X11_isHouse N l0 l4 h19) fun r22 h23 =>
          if r22 = 0 then
            some ((-2 : Int32), h23)
          else
            f_X11_spell_64 N l0 l1 l2 l3 l4 h23
/-! X11_hopes -/
def f_X11_hopes_87 (N : Nat) (K_48 : Nat → Int32 → Int32 → Int32 → Int32 → PH → Option (Unit × PH)) (s0 : Int32) (s1 : Int32) (s2 : Nat) (l0 : Nat) (l1 : Int32) (l3 : Int32) (l4 : Int32) (h : PH) : Option (Unit × PH) :=
  ck (hK h s2 = 10) <|
  bd (sI h s2 61 (s1 + s0)) fun h2 =>
  ck (hK h2 l0 = 10) <|
  cl (f_X11_nextWay N l0 l4 h2) fun r3 h4 =>
  K_48 l0 l1 l3 l4 r3 h4
def f_X11_hopes_48_b (N : Nat) (K_48 : Nat → Int32 → Int32 → Int32 → Int32 → PH → Option (Unit × PH)) (l0 : Nat) (l1 : Int32) (l3 : Int32) (l4 : Int32) (l5 : Int32) (h : PH) : Option (Unit × PH) :=
  if l5 = 0 then
    some ((), h)
  else
    ck (hK h l0 = 10) <|
    bd (sI h l0 62 ((hI h l0 62) + (1 : Int32))) fun h3 =>
    ck (hK h3 l0 = 10) <|
    rq (hR h3 l0 15) fun a5 =>
    ck (hK h3 a5 = 12) <|
    ck (inb l1 (hN h3 a5)) <|
    cl (f_X11_signBy N l0 (hI h3 a5 (ix l1)) h3) fun r8 h9 =>
    if r8 = l3 then
      f_X11_hopes_87 N K_48 (1 : Int32) (hI h3 l0 61) l0 l0 l1 l3 l4 h9
    else
      f_X11_hopes_87 N K_48 (0 : Int32) (hI h3 l0 61) l0 l0 l1 l3 l4 h9
def f_X11_hopes_48 (N : Nat) : Nat → Nat → Int32 → Int32 → Int32 → Int32 → PH → Option (Unit × PH)
  | 0 => fun _ _ _ _ _ _ => none
  | n + 1 => fun l0 l1 l3 l4 l5 h => f_X11_hopes_48_b N (f_X11_hopes_48 N n) l0 l1 l3 l4 l5 h
def f_X11_hopes (N : Nat) (l0 : Nat) (l1 : Int32) (l2 : Int32) (l3 : Int32) (h : PH) : Option (Unit × PH) :=
  ck (hK h l0 = 10) <|
  rq (hR h l0 15) fun a2 =>
  ck (hK h a2 = 12) <|
  ck (inb l1 (hN h a2)) <|
  cl (f_X11_housesOf N l0 (hI h a2 (ix l1)) h) fun r5 h6 =>
  ck (hK h6 l0 = 10) <|
  cl (f_X11_withoutFire N l0 r5 h6) fun r7 h8 =>
  bd ((r7 &&& (((1 : Int32) <<< (l1 &&& 31)) ^^^ (-1 : Int32)))) fun v10 =>
  ck (hK h8 l0 = 10) <|
  bd (sI h8 l0 61 (0 : Int32)) fun h12 =>
  ck (hK h12 l0 = 10) <|
  bd (sI h12 l0 62 (0 : Int32)) fun h14 =>
  ck (hK h14 l0 = 10) <|
  cl (f_X11_firstWay N l0 v10 h14) fun r15 h16 =>
  ck (hK h16 l0 = 10) <|
  rq (hR h16 l0 57) fun a19 =>
  ck (hK h16 a19 = 12) <|
  ck (inb l1 (hN h16 a19)) <|
  bd (sI h16 a19 (ix l1) l2) fun h22 =>
  f_X11_hopes_48 N N l0 l1 l3 v10 (1 : Int32) h22
/-! X11_sure -/
def f_X11_sure_75 (N : Nat) (K_33 : Nat → Int32 → Int32 → Int32 → PH → Option (Int32 × PH)) (l0 : Nat) (l1 : Int32) (l2 : Int32) (l3 : Int32) (h : PH) : Option (Int32 × PH) :=
  bd (l3 + (1 : Int32)) fun v1 =>
  K_33 l0 l1 l2 v1 h
def f_X11_sure_33_b (N : Nat) (K_33 : Nat → Int32 → Int32 → Int32 → PH → Option (Int32 × PH)) (l0 : Nat) (l1 : Int32) (l2 : Int32) (l3 : Int32) (h : PH) : Option (Int32 × PH) :=
  ck (hK h l0 = 10) <|
  rq (hR h l0 10) fun a2 =>
  ck (hK h a2 = 12) <|
  ck (0 < hN h a2) <|
  if (hI h a2 0) ≤ l3 then
    some ((-1 : Int32), h)
  else
    cl (f_X11_canBurn N l0 l1 l3 h) fun r6 h7 =>
    if r6 = 0 then
      f_X11_sure_75 N K_33 l0 l1 l2 l3 h7
    else
      ck (hK h7 l0 = 10) <|
      cl (f_X11_hopes N l0 l1 l3 l2 h7) fun r9 h10 =>
      ck (hK h10 l0 = 10) <|
      if (hI h10 l0 61) = (hI h10 l0 62) then
        some (l3, h10)
      else
        f_X11_sure_75 N K_33 l0 l1 l2 l3 h10
def f_X11_sure_33 (N : Nat) : Nat → Nat → Int32 → Int32 → Int32 → PH → Option (Int32 × PH)
  | 0 => fun _ _ _ _ _ => none
  | n + 1 => fun l0 l1 l2 l3 h => f_X11_sure_33_b N (f_X11_sure_33 N n) l0 l1 l2 l3 h
def f_X11_sure (N : Nat) (l0 : Nat) (l1 : Int32) (l2 : Int32) (h : PH) : Option (Int32 × PH) :=
  ck (hK h l0 = 10) <|
  bd (sI h l0 0 (0 : Int32)) fun h2 =>
  ck (hK h2 l0 = 10) <|
  cl (f_X11_isHouse N l0 l1 h2) fun r3 h4 =>
  if r3 = 0 then
    some ((-1 : Int32), h4)
  else
    ck (hK h4 l0 = 10) <|
    cl (f_X11_isTold N l0 l2 h4) fun r7 h8 =>
    if r7 = 0 then
      some ((-1 : Int32), h8)
    else
      ck (hK h8 l0 = 10) <|
      cl (f_X11_isFire N l0 l1 h8) fun r11 h12 =>
      if r11 = 0 then
        f_X11_sure_33 N N l0 l1 l2 (0 : Int32) h12
      else
        some ((-1 : Int32), h12)
/-! X11_hope -/
def f_X11_hope (N : Nat) (l0 : Nat) (l1 : Int32) (l2 : Int32) (l3 : Int32) (h : PH) : Option (Int32 × PH) :=
  ck (hK h l0 = 10) <|
  bd (sI h l0 0 (0 : Int32)) fun h2 =>
  ck (hK h2 l0 = 10) <|
  cl (f_X11_isHouse N l0 l1 h2) fun r3 h4 =>
  if r3 = 0 then
    some ((-1 : Int32), h4)
  else
    ck (hK h4 l0 = 10) <|
    cl (f_X11_isFuel N l0 l2 h4) fun r7 h8 =>
    if r7 = 0 then
      some ((-1 : Int32), h8)
    else
      ck (hK h8 l0 = 10) <|
      cl (f_X11_isTold N l0 l3 h8) fun r11 h12 =>
      if r11 = 0 then
        some ((-1 : Int32), h12)
      else
        ck (hK h12 l0 = 10) <|
        cl (f_X11_canBurn N l0 l1 l2 h12) fun r15 h16 =>
        if r15 = 0 then
          some ((-1 : Int32), h16)
        else
          ck (hK h16 l0 = 10) <|
          cl (f_X11_hopes N l0 l1 l2 l3 h16) fun r19 h20 =>
          ck (hK h20 l0 = 10) <|
          ck (¬ ((hI h20 l0 62).toInt64) = 0) <|
          some (((((hI h20 l0 61).toInt64) * (1000000 : Int64)) / ((hI h20 l0 62).toInt64)).toInt32, h20)
/-! X11_read -/
def f_X11_read (N : Nat) (l0 : Nat) (l1 : Int32) (l2 : Int32) (l3 : Int32) (h : PH) : Option (Int32 × PH) :=
  ck (hK h l0 = 10) <|
  bd (sI h l0 0 (0 : Int32)) fun h2 =>
  if l1 < 0 then
    some ((0 : Int32), h2)
  else
    ck (hK h2 l0 = 10) <|
    rq (hR h2 l0 10) fun a5 =>
    ck (hK h2 a5 = 12) <|
    ck (4 < hN h2 a5) <|
    if (hI h2 a5 4) ≤ l1 then
      some ((0 : Int32), h2)
    else
      cl (f_X11_isFlue N l0 l2 h2) fun r9 h10 =>
      if r9 = 0 then
        some ((0 : Int32), h10)
      else
        ck (hK h10 l0 = 10) <|
        rq (hR h10 l0 10) fun a13 =>
        ck (hK h10 a13 = 12) <|
        ck (3 < hN h10 a13) <|
        cl (f_X11_within N l3 (-1 : Int32) ((hI h10 a13 3) - (1 : Int32)) h10) fun r16 h17 =>
        if r16 = 0 then
          some ((0 : Int32), h17)
        else
          ck (hK h17 l0 = 10) <|
          rq (hR h17 l0 45) fun a20 =>
          ck (hK h17 a20 = 12) <|
          ck (0 < hN h17 a20) <|
          if (hI h17 a20 0) = (8 : Int32) then
            some ((0 : Int32), h17)
          else
            rq (hR h17 l0 46) fun a24 =>
            rq (hR h17 l0 45) fun a25 =>
            ck (hK h17 a25 = 12) <|
            ck (0 < hN h17 a25) <|
            ck (hK h17 a24 = 12) <|
            ck (inb (hI h17 a25 0) (hN h17 a24)) <|
            bd (sI h17 a24 (ix (hI h17 a25 0)) l1) fun h30 =>
            ck (hK h30 l0 = 10) <|
            rq (hR h30 l0 47) fun a32 =>
            rq (hR h30 l0 45) fun a33 =>
            ck (hK h30 a33 = 12) <|
            ck (0 < hN h30 a33) <|
            ck (hK h30 a32 = 12) <|
            ck (inb (hI h30 a33 0) (hN h30 a32)) <|
            bd (sI h30 a32 (ix (hI h30 a33 0)) l2) fun h38 =>
            ck (hK h38 l0 = 10) <|
            rq (hR h38 l0 48) fun a40 =>
            rq (hR h38 l0 45) fun a41 =>
            ck (hK h38 a41 = 12) <|
            ck (0 < hN h38 a41) <|
            ck (hK h38 a40 = 12) <|
            ck (inb (hI h38 a41 0) (hN h38 a40)) <|
            bd (sI h38 a40 (ix (hI h38 a41 0)) l3) fun h46 =>
            ck (hK h46 l0 = 10) <|
            rq (hR h46 l0 45) fun a48 =>
            ck (hK h46 a48 = 12) <|
            ck (0 < hN h46 a48) <|
            bd (sI h46 a48 0 ((hI h46 a48 0) + (1 : Int32))) fun h51 =>
            some ((1 : Int32), h51)
/-! X11_isWithin -/
def f_X11_isWithin (N : Nat) (l0 : Nat) (l1 : Int32) (l2 : Int32) (l3 : Int32) (h : PH) : Option (Int32 × PH) :=
  ck (hK h l0 = 10) <|
  rq (hR h l0 17) fun a2 =>
  ck (hK h a2 = 12) <|
  ck (inb (((4 : Int32) * l1) + ((2 : Int32) * l3)) (hN h a2)) <|
  rq (hR h l0 17) fun a5 =>
  ck (hK h a5 = 12) <|
  ck (inb ((((4 : Int32) * l1) + ((2 : Int32) * l3)) + (1 : Int32)) (hN h a5)) <|
  cl (f_X11_within N l2 (hI h a2 (ix (((4 : Int32) * l1) + ((2 : Int32) * l3)))) (hI h a5 (ix ((((4 : Int32) * l1) + ((2 : Int32) * l3)) + (1 : Int32)))) h) fun r8 h9 =>
  ck (r8 = 0 ∨ r8 = 1) <|
  some (r8, h9)
/-! X11_isAsSeen -/
def f_X11_isAsSeen_79_b (N : Nat) (K_79 : Nat → Int32 → Int32 → Int32 → PH → Option (Int32 × PH)) (l0 : Nat) (l2 : Int32) (l3 : Int32) (l4 : Int32) (h : PH) : Option (Int32 × PH) :=
  ck (hK h l0 = 10) <|
  rq (hR h l0 10) fun a2 =>
  ck (hK h a2 = 12) <|
  ck (3 < hN h a2) <|
  if (hI h a2 3) ≤ l4 then
    some ((1 : Int32), h)
  else
    cl (f_X11_isWithin N l0 l4 l3 l2 h) fun r6 h7 =>
    if r6 = 0 then
      bd (l4 + (1 : Int32)) fun v9 =>
      K_79 l0 l2 l3 v9 h7
    else
      some ((0 : Int32), h7)
def f_X11_isAsSeen_79 (N : Nat) : Nat → Nat → Int32 → Int32 → Int32 → PH → Option (Int32 × PH)
  | 0 => fun _ _ _ _ _ => none
  | n + 1 => fun l0 l2 l3 l4 h => f_X11_isAsSeen_79_b N (f_X11_isAsSeen_79 N n) l0 l2 l3 l4 h
def f_X11_isAsSeen (N : Nat) (l0 : Nat) (l1 : Int32) (h : PH) : Option (Int32 × PH) :=
  ck (hK h l0 = 10) <|
  rq (hR h l0 18) fun a2 =>
  rq (hR h l0 46) fun a3 =>
  ck (hK h a3 = 12) <|
  ck (inb l1 (hN h a3)) <|
  ck (hK h a2 = 12) <|
  ck (inb (hI h a3 (ix l1)) (hN h a2)) <|
  bd ((hI h a2 (ix (hI h a3 (ix l1))))) fun v8 =>
  if v8 = (2 : Int32) then
    rq (hR h l0 47) fun a26 =>
    ck (hK h a26 = 12) <|
    ck (inb l1 (hN h a26)) <|
    cl (f_X11_signBy N l0 (hI h a26 (ix l1)) h) fun r29 h30 =>
    ck (hK h30 l0 = 10) <|
    rq (hR h30 l0 48) fun a32 =>
    ck (hK h30 a32 = 12) <|
    ck (inb l1 (hN h30 a32)) <|
    if r29 = (hI h30 a32 (ix l1)) then
      some ((1 : Int32), h30)
    else
      some ((0 : Int32), h30)
  else
    rq (hR h l0 47) fun a10 =>
    ck (hK h a10 = 12) <|
    ck (inb l1 (hN h a10)) <|
    cl (f_X11_smokeBy N l0 (hI h a10 (ix l1)) v8 h) fun r13 h14 =>
    ck (hK h14 l0 = 10) <|
    rq (hR h14 l0 48) fun a16 =>
    ck (hK h14 a16 = 12) <|
    ck (inb l1 (hN h14 a16)) <|
    if (hI h14 a16 (ix l1)) < 0 then
      f_X11_isAsSeen_79 N N l0 v8 r13 (0 : Int32) h14
    else
      rq (hR h14 l0 48) fun a20 =>
      ck (hK h14 a20 = 12) <|
      ck (inb l1 (hN h14 a20)) <|
      cl (f_X11_isWithin N l0 (hI h14 a20 (ix l1)) r13 v8 h14) fun r23 h24 =>
      ck (r23 = 0 ∨ r23 = 1) <|
      some (r23, h24)
/-! X11_isAllSeen -/
def f_X11_isAllSeen_2_b (N : Nat) (K_2 : Nat → Int32 → PH → Option (Int32 × PH)) (l0 : Nat) (l1 : Int32) (h : PH) : Option (Int32 × PH) :=
  ck (hK h l0 = 10) <|
  rq (hR h l0 45) fun a2 =>
  ck (hK h a2 = 12) <|
  ck (0 < hN h a2) <|
  if (hI h a2 0) ≤ l1 then
    some ((1 : Int32), h)
  else
    cl (f_X11_isAsSeen N l0 l1 h) fun r6 h7 =>
    if r6 = 0 then
      some ((0 : Int32), h7)
    else
      bd (l1 + (1 : Int32)) fun v9 =>
      K_2 l0 v9 h7
def f_X11_isAllSeen_2 (N : Nat) : Nat → Nat → Int32 → PH → Option (Int32 × PH)
  | 0 => fun _ _ _ => none
  | n + 1 => fun l0 l1 h => f_X11_isAllSeen_2_b N (f_X11_isAllSeen_2 N n) l0 l1 h
def f_X11_isAllSeen (N : Nat) (l0 : Nat) (h : PH) : Option (Int32 × PH) :=
  f_X11_isAllSeen_2 N N l0 (0 : Int32) h
/-! X11_allHouses -/
def f_X11_allHouses (N : Nat) (l0 : Nat) (h : PH) : Option (Int32 × PH) :=
  ck (hK h l0 = 10) <|
  rq (hR h l0 10) fun a2 =>
  ck (hK h a2 = 12) <|
  ck (2 < hN h a2) <|
  some ((((1 : Int32) <<< ((hI h a2 2) &&& 31)) - (1 : Int32)), h)
/-! X11_laysWays -/
def f_X11_laysWays_77 (N : Nat) (K_18 : Nat → Int32 → Int32 → Int32 → PH → Option (Int32 × PH)) (K_32 : Nat → Int32 → Int32 → Int32 → PH → Option (Int32 × PH)) (s0 : Int32) (s1 : Int32) (s2 : Nat) (l0 : Nat) (l1 : Int32) (l2 : Int32) (l4 : Int32) (h : PH) : Option (Int32 × PH) :=
  ck (hK h s2 = 12) <|
  ck (inb s1 (hN h s2)) <|
  bd (sI h s2 (ix s1) s0) fun h3 =>
  bd (l4 + (1 : Int32)) fun v4 =>
  K_32 l0 l1 l2 v4 h3
def f_X11_laysWays_65 (N : Nat) (K_18 : Nat → Int32 → Int32 → Int32 → PH → Option (Int32 × PH)) (K_32 : Nat → Int32 → Int32 → Int32 → PH → Option (Int32 × PH)) (s0 : Int32) (s1 : Nat) (l0 : Nat) (l1 : Int32) (l2 : Int32) (l4 : Int32) (h : PH) : Option (Int32 × PH) :=
  ck (hK h l0 = 10) <|
  rq (hR h l0 57) fun a2 =>
  ck (hK h a2 = 12) <|
  ck (inb l4 (hN h a2)) <|
  f_X11_laysWays_77 N K_18 K_32 (hI h a2 (ix l4)) s0 s1 l0 l1 l2 l4 h
def f_X11_laysWays_87 (N : Nat) (K_18 : Nat → Int32 → Int32 → Int32 → PH → Option (Int32 × PH)) (l0 : Nat) (l1 : Int32) (l2 : Int32) (h : PH) : Option (Int32 × PH) :=
  ck (hK h l0 = 10) <|
  cl (f_X11_nextWay N l0 l1 h) fun r1 h2 =>
  K_18 l0 l1 l2 r1 h2
def f_X11_laysWays_32_b (N : Nat) (K_18 : Nat → Int32 → Int32 → Int32 → PH → Option (Int32 × PH)) (K_32 : Nat → Int32 → Int32 → Int32 → PH → Option (Int32 × PH)) (l0 : Nat) (l1 : Int32) (l2 : Int32) (l4 : Int32) (h : PH) : Option (Int32 × PH) :=
  if (4 : Int32) ≤ l4 then
    bd (l2 + (1 : Int32)) fun v2 =>
    f_X11_laysWays_87 N K_18 l0 l1 v2 h
  else
    ck (hK h l0 = 10) <|
    rq (hR h l0 63) fun a4 =>
    if l2 = 0 then
      f_X11_laysWays_65 N K_18 K_32 l4 a4 l0 l1 l2 l4 h
    else
      rq (hR h l0 63) fun a6 =>
      ck (hK h a6 = 12) <|
      ck (inb l4 (hN h a6)) <|
      rq (hR h l0 57) fun a9 =>
      ck (hK h a9 = 12) <|
      ck (inb l4 (hN h a9)) <|
      if (hI h a6 (ix l4)) = (hI h a9 (ix l4)) then
        f_X11_laysWays_65 N K_18 K_32 l4 a4 l0 l1 l2 l4 h
      else
        f_X11_laysWays_77 N K_18 K_32 (6 : Int32) l4 a4 l0 l1 l2 l4 h
def f_X11_laysWays_32 (N : Nat) (K_18 : Nat → Int32 → Int32 → Int32 → PH → Option (Int32 × PH)) : Nat → Nat → Int32 → Int32 → Int32 → PH → Option (Int32 × PH)
  | 0 => fun _ _ _ _ _ => none
  | n + 1 => fun l0 l1 l2 l4 h => f_X11_laysWays_32_b N K_18 (f_X11_laysWays_32 N K_18 n) l0 l1 l2 l4 h
def f_X11_laysWays_18_b (N : Nat) (K_18 : Nat → Int32 → Int32 → Int32 → PH → Option (Int32 × PH)) (l0 : Nat) (l1 : Int32) (l2 : Int32) (l3 : Int32) (h : PH) : Option (Int32 × PH) :=
  if l3 = 0 then
    some (l2, h)
  else
    ck (hK h l0 = 10) <|
    cl (f_X11_isAllSeen N l0 h) fun r2 h3 =>
    if r2 = 0 then
      f_X11_laysWays_87 N K_18 l0 l1 l2 h3
    else
      f_X11_laysWays_32 N K_18 N l0 l1 l2 (0 : Int32) h3
def f_X11_laysWays_18 (N : Nat) : Nat → Nat → Int32 → Int32 → Int32 → PH → Option (Int32 × PH)
  | 0 => fun _ _ _ _ _ => none
  | n + 1 => fun l0 l1 l2 l3 h => f_X11_laysWays_18_b N (f_X11_laysWays_18 N n) l0 l1 l2 l3 h
def f_X11_laysWays (N : Nat) (l0 : Nat) (h : PH) : Option (Int32 × PH) :=
  ck (hK h l0 = 10) <|
  cl (f_X11_allHouses N l0 h) fun r1 h2 =>
  ck (hK h2 l0 = 10) <|
  cl (f_X11_withoutFire N l0 r1 h2) fun r4 h5 =>
  ck (hK h5 l0 = 10) <|
  cl (f_X11_firstWay N l0 r4 h5) fun r7 h8 =>
  f_X11_laysWays_18 N N l0 r4 (0 : Int32) (1 : Int32) h8
/-! X11_ways -/
def f_X11_ways_29 (N : Nat) (l0 : Nat) (l1 : Int32) (h : PH) : Option (Int32 × PH) :=
  ck (hK h l0 = 10) <|
  cl (f_X11_laysWays N l0 h) fun r1 h2 =>
  if l1 = (-1 : Int32) then
    some (r1, h2)
  else
    if r1 = 0 then
      some ((-1 : Int32), h2)
    else
      ck (hK h2 l0 = 10) <|
      rq (hR h2 l0 63) fun a7 =>
      ck (hK h2 a7 = 12) <|
      ck (inb l1 (hN h2 a7)) <|
      if (hI h2 a7 (ix l1)) = (6 : Int32) then
        some ((-1 : Int32), h2)
      else
        rq (hR h2 l0 63) fun a11 =>
        ck (hK h2 a11 = 12) <|
        ck (inb l1 (hN h2 a11)) <|
        rq (hR h2 l0 10) fun a14 =>
        ck (hK h2 a14 = 12) <|
        ck (0 < hN h2 a14) <|
        some ((if (hI h2 a14 0) < (hI h2 a11 (ix l1)) then (hI h2 a14 0) else (hI h2 a11 (ix l1))), h2)
def f_X11_ways (N : Nat) (l0 : Nat) (l1 : Int32) (h : PH) : Option (Int32 × PH) :=
  ck (hK h l0 = 10) <|
  bd (sI h l0 0 (0 : Int32)) fun h2 =>
  if l1 = (-1 : Int32) then
    f_X11_ways_29 N l0 l1 h2
  else
    ck (hK h2 l0 = 10) <|
    cl (f_X11_isHouse N l0 l1 h2) fun r4 h5 =>
    if r4 = 0 then
      some ((-2 : Int32), h5)
    else
      ck (hK h5 l0 = 10) <|
      cl (f_X11_isFire N l0 l1 h5) fun r8 h9 =>
      if r8 = 0 then
        f_X11_ways_29 N l0 l1 h9
      else
        some ((-2 : Int32), h9)
/-! X11_mostAlike -/
def f_X11_mostAlike_115 (N : Nat) (K_45 : Nat → Int32 → Int32 → Int32 → Int32 → Int32 → PH → Option (Int32 × PH)) (l0 : Nat) (l1 : Int32) (l2 : Int32) (l3 : Int32) (l4 : Int32) (h : PH) : Option (Int32 × PH) :=
  ck (hK h l0 = 10) <|
  cl (f_X11_nextWay N l0 l3 h) fun r1 h2 =>
  K_45 l0 l1 l2 l3 l4 r1 h2
def f_X11_mostAlike_88 (N : Nat) (K_45 : Nat → Int32 → Int32 → Int32 → Int32 → Int32 → PH → Option (Int32 × PH)) (s0 : Int32) (l0 : Nat) (l1 : Int32) (l2 : Int32) (l3 : Int32) (l4 : Int32) (h : PH) : Option (Int32 × PH) :=
  ck (hK h l0 = 10) <|
  rq (hR h l0 64) fun a2 =>
  ck (hK h a2 = 12) <|
  ck (inb s0 (hN h a2)) <|
  bd (sI h a2 (ix s0) ((hI h a2 (ix s0)) + (1 : Int32))) fun h5 =>
  ck (hK h5 l0 = 10) <|
  rq (hR h5 l0 64) fun a7 =>
  ck (hK h5 a7 = 12) <|
  ck (inb s0 (hN h5 a7)) <|
  bd ((if l4 < (hI h5 a7 (ix s0)) then (hI h5 a7 (ix s0)) else l4)) fun v10 =>
  f_X11_mostAlike_115 N K_45 l0 l1 l2 l3 v10 h5
def f_X11_mostAlike_45_b (N : Nat) (K_45 : Nat → Int32 → Int32 → Int32 → Int32 → Int32 → PH → Option (Int32 × PH)) (l0 : Nat) (l1 : Int32) (l2 : Int32) (l3 : Int32) (l4 : Int32) (l5 : Int32) (h : PH) : Option (Int32 × PH) :=
  if l5 = 0 then
    some (l4, h)
  else
    ck (hK h l0 = 10) <|
    cl (f_X11_isAllSeen N l0 h) fun r2 h3 =>
    if r2 = 0 then
      f_X11_mostAlike_115 N K_45 l0 l1 l2 l3 l4 h3
    else
      ck (hK h3 l0 = 10) <|
      rq (hR h3 l0 18) fun a7 =>
      ck (hK h3 a7 = 12) <|
      ck (inb l1 (hN h3 a7)) <|
      if (hI h3 a7 (ix l1)) = (2 : Int32) then
        cl (f_X11_signBy N l0 l2 h3) fun r16 h17 =>
        f_X11_mostAlike_88 N K_45 ((1 : Int32) + r16) l0 l1 l2 l3 l4 h17
      else
        rq (hR h3 l0 18) fun a11 =>
        ck (hK h3 a11 = 12) <|
        ck (inb l1 (hN h3 a11)) <|
        cl (f_X11_smokeBy N l0 l2 (hI h3 a11 (ix l1)) h3) fun r14 h15 =>
        f_X11_mostAlike_88 N K_45 r14 l0 l1 l2 l3 l4 h15
def f_X11_mostAlike_45 (N : Nat) : Nat → Nat → Int32 → Int32 → Int32 → Int32 → Int32 → PH → Option (Int32 × PH)
  | 0 => fun _ _ _ _ _ _ _ => none
  | n + 1 => fun l0 l1 l2 l3 l4 l5 h => f_X11_mostAlike_45_b N (f_X11_mostAlike_45 N n) l0 l1 l2 l3 l4 l5 h
def f_X11_mostAlike_15_b (N : Nat) (K_15 : Nat → Int32 → Int32 → Int32 → Int32 → Int32 → PH → Option (Int32 × PH)) (l0 : Nat) (l1 : Int32) (l2 : Int32) (l3 : Int32) (l4 : Int32) (l5 : Int32) (h : PH) : Option (Int32 × PH) :=
  if (1001 : Int32) ≤ l5 then
    ck (hK h l0 = 10) <|
    cl (f_X11_firstWay N l0 l3 h) fun r2 h3 =>
    f_X11_mostAlike_45 N N l0 l1 l2 l3 l4 (1 : Int32) h3
  else
    ck (hK h l0 = 10) <|
    rq (hR h l0 64) fun a6 =>
    ck (hK h a6 = 12) <|
    ck (inb l5 (hN h a6)) <|
    bd (sI h a6 (ix l5) (0 : Int32)) fun h9 =>
    bd (l5 + (1 : Int32)) fun v10 =>
    K_15 l0 l1 l2 l3 l4 v10 h9
def f_X11_mostAlike_15 (N : Nat) : Nat → Nat → Int32 → Int32 → Int32 → Int32 → Int32 → PH → Option (Int32 × PH)
  | 0 => fun _ _ _ _ _ _ _ => none
  | n + 1 => fun l0 l1 l2 l3 l4 l5 h => f_X11_mostAlike_15_b N (f_X11_mostAlike_15 N n) l0 l1 l2 l3 l4 l5 h
def f_X11_mostAlike (N : Nat) (l0 : Nat) (l1 : Int32) (l2 : Int32) (h : PH) : Option (Int32 × PH) :=
  ck (hK h l0 = 10) <|
  cl (f_X11_allHouses N l0 h) fun r1 h2 =>
  ck (hK h2 l0 = 10) <|
  cl (f_X11_withoutFire N l0 r1 h2) fun r4 h5 =>
  f_X11_mostAlike_15 N N l0 l1 l2 r4 (0 : Int32) (0 : Int32) h5
/-! X11_ask -/
def f_X11_ask_66 (N : Nat) (K_14 : Nat → Int32 → Int32 → Int32 → PH → Option (Int32 × PH)) (K_27 : Nat → Int32 → Int32 → Int32 → Int32 → PH → Option (Int32 × PH)) (l0 : Nat) (l1 : Int32) (l2 : Int32) (l3 : Int32) (l4 : Int32) (h : PH) : Option (Int32 × PH) :=
  bd (l4 + (1 : Int32)) fun v1 =>
  K_27 l0 l1 l2 l3 v1 h
def f_X11_ask_27_b (N : Nat) (K_14 : Nat → Int32 → Int32 → Int32 → PH → Option (Int32 × PH)) (K_27 : Nat → Int32 → Int32 → Int32 → Int32 → PH → Option (Int32 × PH)) (l0 : Nat) (l1 : Int32) (l2 : Int32) (l3 : Int32) (l4 : Int32) (h : PH) : Option (Int32 × PH) :=
  ck (hK h l0 = 10) <|
  rq (hR h l0 10) fun a2 =>
  ck (hK h a2 = 12) <|
  ck (1 < hN h a2) <|
  if (hI h a2 1) ≤ l4 then
    bd (l3 + (1 : Int32)) fun v6 =>
    K_14 l0 l1 l2 v6 h
  else
    cl (f_X11_mostAlike N l0 l3 l4 h) fun r7 h8 =>
    if r7 < l1 then
      bd ((((3 : Int32) * l3) + l4)) fun v10 =>
      f_X11_ask_66 N K_14 K_27 l0 r7 v10 l3 l4 h8
    else
      f_X11_ask_66 N K_14 K_27 l0 l1 l2 l3 l4 h8
def f_X11_ask_27 (N : Nat) (K_14 : Nat → Int32 → Int32 → Int32 → PH → Option (Int32 × PH)) : Nat → Nat → Int32 → Int32 → Int32 → Int32 → PH → Option (Int32 × PH)
  | 0 => fun _ _ _ _ _ _ => none
  | n + 1 => fun l0 l1 l2 l3 l4 h => f_X11_ask_27_b N K_14 (f_X11_ask_27 N K_14 n) l0 l1 l2 l3 l4 h
def f_X11_ask_14_b (N : Nat) (K_14 : Nat → Int32 → Int32 → Int32 → PH → Option (Int32 × PH)) (l0 : Nat) (l1 : Int32) (l2 : Int32) (l3 : Int32) (h : PH) : Option (Int32 × PH) :=
  ck (hK h l0 = 10) <|
  rq (hR h l0 10) fun a2 =>
  ck (hK h a2 = 12) <|
  ck (4 < hN h a2) <|
  if (hI h a2 4) ≤ l3 then
    some (l2, h)
  else
    f_X11_ask_27 N K_14 N l0 l1 l2 l3 (0 : Int32) h
def f_X11_ask_14 (N : Nat) : Nat → Nat → Int32 → Int32 → Int32 → PH → Option (Int32 × PH)
  | 0 => fun _ _ _ _ _ => none
  | n + 1 => fun l0 l1 l2 l3 h => f_X11_ask_14_b N (f_X11_ask_14 N n) l0 l1 l2 l3 h
def f_X11_ask (N : Nat) (l0 : Nat) (h : PH) : Option (Int32 × PH) :=
  ck (hK h l0 = 10) <|
  bd (sI h l0 0 (0 : Int32)) fun h2 =>
  ck (hK h2 l0 = 10) <|
  cl (f_X11_laysWays N l0 h2) fun r3 h4 =>
  f_X11_ask_14 N N l0 r3 (-1 : Int32) (0 : Int32) h4
/-! X11_areMet -/
def f_X11_areMet (N : Nat) (l0 : Nat) (l1 : Int32) (l2 : Int32) (l3 : Int32) (h : PH) : Option (Int32 × PH) :=
  ck (hK h l0 = 10) <|
  rq (hR h l0 17) fun a2 =>
  ck (hK h a2 = 12) <|
  ck (inb (((4 : Int32) * l1) + ((2 : Int32) * l3)) (hN h a2)) <|
  rq (hR h l0 17) fun a5 =>
  ck (hK h a5 = 12) <|
  ck (inb (((4 : Int32) * l2) + ((2 : Int32) * l3)) (hN h a5)) <|
  rq (hR h l0 17) fun a8 =>
  ck (hK h a8 = 12) <|
  ck (inb ((((4 : Int32) * l1) + ((2 : Int32) * l3)) + (1 : Int32)) (hN h a8)) <|
  rq (hR h l0 17) fun a11 =>
  ck (hK h a11 = 12) <|
  ck (inb ((((4 : Int32) * l2) + ((2 : Int32) * l3)) + (1 : Int32)) (hN h a11)) <|
  if (if (hI h a11 (ix ((((4 : Int32) * l2) + ((2 : Int32) * l3)) + (1 : Int32)))) < (hI h a8 (ix ((((4 : Int32) * l1) + ((2 : Int32) * l3)) + (1 : Int32)))) then (hI h a11 (ix ((((4 : Int32) * l2) + ((2 : Int32) * l3)) + (1 : Int32)))) else (hI h a8 (ix ((((4 : Int32) * l1) + ((2 : Int32) * l3)) + (1 : Int32))))) < (if (hI h a2 (ix (((4 : Int32) * l1) + ((2 : Int32) * l3)))) < (hI h a5 (ix (((4 : Int32) * l2) + ((2 : Int32) * l3)))) then (hI h a5 (ix (((4 : Int32) * l2) + ((2 : Int32) * l3)))) else (hI h a2 (ix (((4 : Int32) * l1) + ((2 : Int32) * l3))))) then
    some ((0 : Int32), h)
  else
    some ((1 : Int32), h)
/-! X11_blur -/
def f_X11_blur_112 (N : Nat) (K_33 : Nat → Int32 → Int32 → Int32 → Int32 → PH → Option (Int32 × PH)) (s0 : Int32) (s1 : Int32) (l0 : Nat) (l1 : Int32) (l2 : Int32) (l4 : Int32) (h : PH) : Option (Int32 × PH) :=
  bd ((s1 ||| s0)) fun v1 =>
  bd (l4 + (1 : Int32)) fun v2 =>
  K_33 l0 l1 l2 v1 v2 h
def f_X11_blur_96 (N : Nat) (K_33 : Nat → Int32 → Int32 → Int32 → Int32 → PH → Option (Int32 × PH)) (s0 : Int32) (l0 : Nat) (l1 : Int32) (l2 : Int32) (l3 : Int32) (l4 : Int32) (h : PH) : Option (Int32 × PH) :=
  if s0 = 0 then
    f_X11_blur_112 N K_33 (0 : Int32) l3 l0 l1 l2 l4 h
  else
    f_X11_blur_112 N K_33 ((1 : Int32) <<< (l4 &&& 31)) l3 l0 l1 l2 l4 h
def f_X11_blur_79 (N : Nat) (K_33 : Nat → Int32 → Int32 → Int32 → Int32 → PH → Option (Int32 × PH)) (l0 : Nat) (l1 : Int32) (l2 : Int32) (l3 : Int32) (l4 : Int32) (h : PH) : Option (Int32 × PH) :=
  f_X11_blur_96 N K_33 (0 : Int32) l0 l1 l2 l3 l4 h
def f_X11_blur_33_b (N : Nat) (K_33 : Nat → Int32 → Int32 → Int32 → Int32 → PH → Option (Int32 × PH)) (l0 : Nat) (l1 : Int32) (l2 : Int32) (l3 : Int32) (l4 : Int32) (h : PH) : Option (Int32 × PH) :=
  ck (hK h l0 = 10) <|
  rq (hR h l0 10) fun a2 =>
  ck (hK h a2 = 12) <|
  ck (4 < hN h a2) <|
  if (hI h a2 4) ≤ l4 then
    some (l3, h)
  else
    rq (hR h l0 18) fun a6 =>
    ck (hK h a6 = 12) <|
    ck (inb l4 (hN h a6)) <|
    if (hI h a6 (ix l4)) = (2 : Int32) then
      cl (f_X11_areMet N l0 l1 l2 (0 : Int32) h) fun r15 h16 =>
      if r15 = 0 then
        f_X11_blur_79 N K_33 l0 l1 l2 l3 l4 h16
      else
        ck (hK h16 l0 = 10) <|
        cl (f_X11_areMet N l0 l1 l2 (1 : Int32) h16) fun r18 h19 =>
        if r18 = 0 then
          f_X11_blur_79 N K_33 l0 l1 l2 l3 l4 h19
        else
          f_X11_blur_96 N K_33 (1 : Int32) l0 l1 l2 l3 l4 h19
    else
      rq (hR h l0 18) fun a10 =>
      ck (hK h a10 = 12) <|
      ck (inb l4 (hN h a10)) <|
      cl (f_X11_areMet N l0 l1 l2 (hI h a10 (ix l4)) h) fun r13 h14 =>
      f_X11_blur_96 N K_33 r13 l0 l1 l2 l3 l4 h14
def f_X11_blur_33 (N : Nat) : Nat → Nat → Int32 → Int32 → Int32 → Int32 → PH → Option (Int32 × PH)
  | 0 => fun _ _ _ _ _ _ => none
  | n + 1 => fun l0 l1 l2 l3 l4 h => f_X11_blur_33_b N (f_X11_blur_33 N n) l0 l1 l2 l3 l4 h
def f_X11_blur (N : Nat) (l0 : Nat) (l1 : Int32) (l2 : Int32) (h : PH) : Option (Int32 × PH) :=
  ck (hK h l0 = 10) <|
  bd (sI h l0 0 (0 : Int32)) fun h2 =>
  ck (hK h2 l0 = 10) <|
  cl (f_X11_isTold N l0 l1 h2) fun r3 h4 =>
  if r3 = 0 then
    some ((-1 : Int32), h4)
  else
    ck (hK h4 l0 = 10) <|
    cl (f_X11_isTold N l0 l2 h4) fun r7 h8 =>
    if r7 = 0 then
      some ((-1 : Int32), h8)
    else
      if l1 = l2 then
        some ((-1 : Int32), h8)
      else
        f_X11_blur_33 N N l0 l1 l2 (0 : Int32) (0 : Int32) h8
/-! X11_sootOf -/
def f_X11_sootOf_64 (N : Nat) (K_7 : Nat → Int32 → Int32 → Int32 → Int32 → PH → Option (Int32 × PH)) (s0 : Int32) (s1 : Int32) (l0 : Nat) (l1 : Int32) (l2 : Int32) (l4 : Int32) (h : PH) : Option (Int32 × PH) :=
  bd ((s1 + s0)) fun v1 =>
  bd (l4 + (1 : Int32)) fun v2 =>
  K_7 l0 l1 l2 v1 v2 h
def f_X11_sootOf_40 (N : Nat) (K_7 : Nat → Int32 → Int32 → Int32 → Int32 → PH → Option (Int32 × PH)) (s0 : Int32) (s1 : Int32) (l0 : Nat) (l1 : Int32) (l3 : Int32) (l4 : Int32) (h : PH) : Option (Int32 × PH) :=
  bd ((s1 + s0)) fun v1 =>
  if ((l1 >>> (l4 &&& 31)) &&& (1 : Int32)) = (1 : Int32) then
    ck (hK h l0 = 10) <|
    cl (f_X11_fireGives N l0 l4 (1 : Int32) h) fun r3 h4 =>
    f_X11_sootOf_64 N K_7 r3 l3 l0 l1 v1 l4 h4
  else
    f_X11_sootOf_64 N K_7 (0 : Int32) l3 l0 l1 v1 l4 h
def f_X11_sootOf_7_b (N : Nat) (K_7 : Nat → Int32 → Int32 → Int32 → Int32 → PH → Option (Int32 × PH)) (l0 : Nat) (l1 : Int32) (l2 : Int32) (l3 : Int32) (l4 : Int32) (h : PH) : Option (Int32 × PH) :=
  ck (hK h l0 = 10) <|
  rq (hR h l0 10) fun a2 =>
  ck (hK h a2 = 12) <|
  ck (2 < hN h a2) <|
  if (hI h a2 2) ≤ l4 then
    cl (f_X11_sootBy N l0 (if l2 < (999 : Int32) then l2 else (999 : Int32)) (if l3 < (999 : Int32) then l3 else (999 : Int32)) h) fun r6 h7 =>
    some (r6, h7)
  else
    if ((l1 >>> (l4 &&& 31)) &&& (1 : Int32)) = (1 : Int32) then
      cl (f_X11_fireGives N l0 l4 (0 : Int32) h) fun r9 h10 =>
      f_X11_sootOf_40 N K_7 r9 l2 l0 l1 l3 l4 h10
    else
      f_X11_sootOf_40 N K_7 (0 : Int32) l2 l0 l1 l3 l4 h
def f_X11_sootOf_7 (N : Nat) : Nat → Nat → Int32 → Int32 → Int32 → Int32 → PH → Option (Int32 × PH)
  | 0 => fun _ _ _ _ _ _ => none
  | n + 1 => fun l0 l1 l2 l3 l4 h => f_X11_sootOf_7_b N (f_X11_sootOf_7 N n) l0 l1 l2 l3 l4 h
def f_X11_sootOf (N : Nat) (l0 : Nat) (l1 : Int32) (h : PH) : Option (Int32 × PH) :=
  f_X11_sootOf_7 N N l0 l1 (0 : Int32) (0 : Int32) (0 : Int32) h
/-! X11_orders -/
def f_X11_orders_4_b (N : Nat) (K_4 : Int32 → Int32 → Int32 → PH → Option (Int32 × PH)) (l0 : Int32) (l1 : Int32) (l2 : Int32) (h : PH) : Option (Int32 × PH) :=
  if l0 < l2 then
    some (l1, h)
  else
    bd ((l1 * l2)) fun v2 =>
    bd (l2 + (1 : Int32)) fun v3 =>
    K_4 l0 v2 v3 h
def f_X11_orders_4 (N : Nat) : Nat → Int32 → Int32 → Int32 → PH → Option (Int32 × PH)
  | 0 => fun _ _ _ _ => none
  | n + 1 => fun l0 l1 l2 h => f_X11_orders_4_b N (f_X11_orders_4 N n) l0 l1 l2 h
def f_X11_orders (N : Nat) (l0 : Int32) (h : PH) : Option (Int32 × PH) :=
  f_X11_orders_4 N N l0 (1 : Int32) (2 : Int32) h
/-! X11_bits -/
def f_X11_bits (N : Nat) (l0 : Int32) (h : PH) : Option (Int32 × PH) :=
  some (((((l0 &&& (1 : Int32)) + ((l0 >>> ((1 : Int32) &&& 31)) &&& (1 : Int32))) + ((l0 >>> ((2 : Int32) &&& 31)) &&& (1 : Int32))) + ((l0 >>> ((3 : Int32) &&& 31)) &&& (1 : Int32))), h)
/-! X11_share -/
def f_X11_share_116 (N : Nat) (K_37 : Nat → Int32 → Int32 → Int32 → Int64 → Int32 → PH → Option (Int32 × PH)) (l0 : Nat) (l1 : Int32) (l2 : Int32) (l3 : Int32) (l4 : Int64) (l6 : Int32) (h : PH) : Option (Int32 × PH) :=
  bd (l6 + (1 : Int32)) fun v1 =>
  K_37 l0 l1 l2 l3 l4 v1 h
def f_X11_share_37_b (N : Nat) (K_37 : Nat → Int32 → Int32 → Int32 → Int64 → Int32 → PH → Option (Int32 × PH)) (l0 : Nat) (l1 : Int32) (l2 : Int32) (l3 : Int32) (l4 : Int64) (l6 : Int32) (h : PH) : Option (Int32 × PH) :=
  if l2 < l6 then
    cl (f_X11_orders N l3 h) fun r2 h3 =>
    ck (¬ r2.toInt64 = 0) <|
    some (((l4 * (1000 : Int64)) / r2.toInt64).toInt32, h3)
  else
    if (l6 &&& (l2 ^^^ (-1 : Int32))) = 0 then
      if ((l6 >>> (l1 &&& 31)) &&& (1 : Int32)) = (1 : Int32) then
        f_X11_share_116 N K_37 l0 l1 l2 l3 l4 l6 h
      else
        ck (hK h l0 = 10) <|
        cl (f_X11_sootOf N l0 (l6 ||| ((1 : Int32) <<< (l1 &&& 31))) h) fun r7 h8 =>
        ck (hK h8 l0 = 10) <|
        cl (f_X11_sootOf N l0 l6 h8) fun r10 h11 =>
        bd ((r7 - r10).toInt64) fun v13 =>
        cl (f_X11_bits N l6 h11) fun r14 h15 =>
        cl (f_X11_orders N r14 h15) fun r16 h17 =>
        cl (f_X11_bits N l6 h17) fun r18 h19 =>
        cl (f_X11_orders N ((l3 - (1 : Int32)) - r18) h19) fun r20 h21 =>
        bd ((l4 + ((v13 * r16.toInt64) * r20.toInt64))) fun v22 =>
        f_X11_share_116 N K_37 l0 l1 l2 l3 v22 l6 h21
    else
      f_X11_share_116 N K_37 l0 l1 l2 l3 l4 l6 h
def f_X11_share_37 (N : Nat) : Nat → Nat → Int32 → Int32 → Int32 → Int64 → Int32 → PH → Option (Int32 × PH)
  | 0 => fun _ _ _ _ _ _ _ => none
  | n + 1 => fun l0 l1 l2 l3 l4 l6 h => f_X11_share_37_b N (f_X11_share_37 N n) l0 l1 l2 l3 l4 l6 h
def f_X11_share (N : Nat) (l0 : Nat) (l1 : Int32) (h : PH) : Option (Int32 × PH) :=
  ck (hK h l0 = 10) <|
  bd (sI h l0 0 (0 : Int32)) fun h2 =>
  ck (hK h2 l0 = 10) <|
  cl (f_X11_isHouse N l0 l1 h2) fun r3 h4 =>
  if r3 = 0 then
    some ((-1 : Int32), h4)
  else
    ck (hK h4 l0 = 10) <|
    rq (hR h4 l0 15) fun a8 =>
    ck (hK h4 a8 = 12) <|
    ck (inb l1 (hN h4 a8)) <|
    cl (f_X11_housesOf N l0 (hI h4 a8 (ix l1)) h4) fun r11 h12 =>
    cl (f_X11_bits N r11 h12) fun r13 h14 =>
    f_X11_share_37 N N l0 l1 r11 r13 (0 : Int64) (0 : Int32) h14
/-! X11_given -/
def f_X11_given_110 (N : Nat) (K_43 : Nat → Int32 → Int32 → Int32 → Int32 → Int32 → Int32 → PH → Option (Int32 × PH)) (s0 : Int32) (s1 : Int32) (l0 : Nat) (l1 : Int32) (l2 : Int32) (l3 : Int32) (l4 : Int32) (l6 : Int32) (h : PH) : Option (Int32 × PH) :=
  bd ((s1 + s0)) fun v1 =>
  bd (l6 + (1 : Int32)) fun v2 =>
  K_43 l0 l1 l2 l3 l4 v1 v2 h
def f_X11_given_109 (N : Nat) (K_43 : Nat → Int32 → Int32 → Int32 → Int32 → Int32 → Int32 → PH → Option (Int32 × PH)) (s0 : Int32) (l0 : Nat) (l1 : Int32) (l2 : Int32) (l3 : Int32) (l4 : Int32) (l6 : Int32) (h : PH) : Option (Int32 × PH) :=
  f_X11_given_110 N K_43 (0 : Int32) s0 l0 l1 l2 l3 l4 l6 h
def f_X11_given_84 (N : Nat) (K_43 : Nat → Int32 → Int32 → Int32 → Int32 → Int32 → Int32 → PH → Option (Int32 × PH)) (s0 : Int32) (s1 : Int32) (l0 : Nat) (l1 : Int32) (l2 : Int32) (l3 : Int32) (l5 : Int32) (l6 : Int32) (h : PH) : Option (Int32 × PH) :=
  bd ((s1 + s0)) fun v1 =>
  if ((l3 >>> (l6 &&& 31)) &&& (1 : Int32)) = (1 : Int32) then
    if l1 ≤ l6 then
      f_X11_given_109 N K_43 l5 l0 l1 l2 l3 v1 l6 h
    else
      f_X11_given_110 N K_43 (1 : Int32) l5 l0 l1 l2 l3 v1 l6 h
  else
    f_X11_given_109 N K_43 l5 l0 l1 l2 l3 v1 l6 h
def f_X11_given_143 (N : Nat) (s0 : Int32) (s1 : Int32) (h : PH) : Option (Int32 × PH) :=
  some ((s1 + s0), h)
def f_X11_given_43_b (N : Nat) (K_43 : Nat → Int32 → Int32 → Int32 → Int32 → Int32 → Int32 → PH → Option (Int32 × PH)) (l0 : Nat) (l1 : Int32) (l2 : Int32) (l3 : Int32) (l4 : Int32) (l5 : Int32) (l6 : Int32) (h : PH) : Option (Int32 × PH) :=
  ck (hK h l0 = 10) <|
  rq (hR h l0 10) fun a2 =>
  ck (hK h a2 = 12) <|
  ck (2 < hN h a2) <|
  if (hI h a2 2) ≤ l6 then
    cl (f_X11_bits N l3 h) fun r6 h7 =>
    ck (¬ r6 = 0) <|
    cl (f_X11_bits N l3 h7) fun r9 h10 =>
    ck (¬ r9 = 0) <|
    if (l4 - l4 / r9 * r9) ≤ l5 then
      f_X11_given_143 N (0 : Int32) (l4 / r6) h10
    else
      f_X11_given_143 N (1 : Int32) (l4 / r6) h10
  else
    if ((l3 >>> (l6 &&& 31)) &&& (1 : Int32)) = (1 : Int32) then
      rq (hR h l0 49) fun a14 =>
      ck (hK h a14 = 12) <|
      ck (inb (((9 : Int32) + ((5 : Int32) * l6)) + l2) (hN h a14)) <|
      f_X11_given_84 N K_43 (hI h a14 (ix (((9 : Int32) + ((5 : Int32) * l6)) + l2))) l4 l0 l1 l2 l3 l5 l6 h
    else
      f_X11_given_84 N K_43 (0 : Int32) l4 l0 l1 l2 l3 l5 l6 h
def f_X11_given_43 (N : Nat) : Nat → Nat → Int32 → Int32 → Int32 → Int32 → Int32 → Int32 → PH → Option (Int32 × PH)
  | 0 => fun _ _ _ _ _ _ _ _ => none
  | n + 1 => fun l0 l1 l2 l3 l4 l5 l6 h => f_X11_given_43_b N (f_X11_given_43 N n) l0 l1 l2 l3 l4 l5 l6 h
def f_X11_given (N : Nat) (l0 : Nat) (l1 : Int32) (l2 : Int32) (h : PH) : Option (Int32 × PH) :=
  ck (hK h l0 = 10) <|
  bd (sI h l0 0 (0 : Int32)) fun h2 =>
  ck (hK h2 l0 = 10) <|
  cl (f_X11_isHouse N l0 l1 h2) fun r3 h4 =>
  if r3 = 0 then
    some ((-1 : Int32), h4)
  else
    ck (hK h4 l0 = 10) <|
    cl (f_X11_isFuel N l0 l2 h4) fun r7 h8 =>
    if r7 = 0 then
      some ((-1 : Int32), h8)
    else
      ck (hK h8 l0 = 10) <|
      rq (hR h8 l0 15) fun a12 =>
      ck (hK h8 a12 = 12) <|
      ck (inb l1 (hN h8 a12)) <|
      cl (f_X11_housesOf N l0 (hI h8 a12 (ix l1)) h8) fun r15 h16 =>
      f_X11_given_43 N N l0 l1 l2 r15 (0 : Int32) (0 : Int32) (0 : Int32) h16
/-! X11_getsBy -/
def f_X11_getsBy_34 (N : Nat) (s0 : Int32) (s1 : Int32) (h : PH) : Option (Int32 × PH) :=
  some ((s1 - s0), h)
def f_X11_getsBy_19 (N : Nat) (s0 : Int32) (l0 : Nat) (l1 : Int32) (h : PH) : Option (Int32 × PH) :=
  ck (hK h l0 = 10) <|
  rq (hR h l0 57) fun a2 =>
  ck (hK h a2 = 12) <|
  ck (inb l1 (hN h a2)) <|
  if (5 : Int32) ≤ (hI h a2 (ix l1)) then
    f_X11_getsBy_34 N (0 : Int32) s0 h
  else
    f_X11_getsBy_34 N (1 : Int32) s0 h
def f_X11_getsBy (N : Nat) (l0 : Nat) (l1 : Int32) (l2 : Int32) (l3 : Int32) (h : PH) : Option (Int32 × PH) :=
  ck (hK h l0 = 10) <|
  rq (hR h l0 15) fun a2 =>
  ck (hK h a2 = 12) <|
  ck (inb l1 (hN h a2)) <|
  cl (f_X11_signBy N l0 (hI h a2 (ix l1)) h) fun r5 h6 =>
  if r5 = l2 then
    f_X11_getsBy_19 N l3 l0 l1 h6
  else
    f_X11_getsBy_19 N (0 : Int32) l0 l1 h6
/-! X11_isContent -/
def f_X11_isContent_74 (N : Nat) (K_23 : Nat → Int32 → Int32 → Int32 → Int32 → Int32 → Int32 → Int32 → PH → Option (Int32 × PH)) (l0 : Nat) (l1 : Int32) (l2 : Int32) (l3 : Int32) (l4 : Int32) (l5 : Int32) (l6 : Int32) (l7 : Int32) (h : PH) : Option (Int32 × PH) :=
  bd (l7 + (1 : Int32)) fun v1 =>
  K_23 l0 l1 l2 l3 l4 l5 l6 v1 h
def f_X11_isContent_72 (N : Nat) (K_23 : Nat → Int32 → Int32 → Int32 → Int32 → Int32 → Int32 → Int32 → PH → Option (Int32 × PH)) (s0 : Int32) (l0 : Nat) (l1 : Int32) (l2 : Int32) (l3 : Int32) (l4 : Int32) (l5 : Int32) (l7 : Int32) (h : PH) : Option (Int32 × PH) :=
  f_X11_isContent_74 N K_23 l0 l1 l2 l3 l4 l5 s0 l7 h
def f_X11_isContent_80 (N : Nat) (l0 : Nat) (l1 : Int32) (l4 : Int32) (l6 : Int32) (h : PH) : Option (Int32 × PH) :=
  ck (hK h l0 = 10) <|
  rq (hR h l0 57) fun a2 =>
  ck (hK h a2 = 12) <|
  ck (inb l1 (hN h a2)) <|
  bd (sI h a2 (ix l1) l4) fun h5 =>
  ck (l6 = 0 ∨ l6 = 1) <|
  some (l6, h5)
def f_X11_isContent_23_b (N : Nat) (K_23 : Nat → Int32 → Int32 → Int32 → Int32 → Int32 → Int32 → Int32 → PH → Option (Int32 × PH)) (l0 : Nat) (l1 : Int32) (l2 : Int32) (l3 : Int32) (l4 : Int32) (l5 : Int32) (l6 : Int32) (l7 : Int32) (h : PH) : Option (Int32 × PH) :=
  if (5 : Int32) < l7 then
    f_X11_isContent_80 N l0 l1 l4 l6 h
  else
    if l6 = 0 then
      f_X11_isContent_80 N l0 l1 l4 l6 h
    else
      ck (hK h l0 = 10) <|
      cl (f_X11_mayBurn N l0 l1 l7 h) fun r3 h4 =>
      if r3 = 0 then
        f_X11_isContent_74 N K_23 l0 l1 l2 l3 l4 l5 l6 l7 h4
      else
        ck (hK h4 l0 = 10) <|
        rq (hR h4 l0 57) fun a8 =>
        ck (hK h4 a8 = 12) <|
        ck (inb l1 (hN h4 a8)) <|
        bd (sI h4 a8 (ix l1) l7) fun h11 =>
        ck (hK h11 l0 = 10) <|
        cl (f_X11_getsBy N l0 l1 l2 l3 h11) fun r12 h13 =>
        if l5 < r12 then
          f_X11_isContent_72 N K_23 (0 : Int32) l0 l1 l2 l3 l4 l5 l7 h13
        else
          f_X11_isContent_72 N K_23 (1 : Int32) l0 l1 l2 l3 l4 l5 l7 h13
def f_X11_isContent_23 (N : Nat) : Nat → Nat → Int32 → Int32 → Int32 → Int32 → Int32 → Int32 → Int32 → PH → Option (Int32 × PH)
  | 0 => fun _ _ _ _ _ _ _ _ _ => none
  | n + 1 => fun l0 l1 l2 l3 l4 l5 l6 l7 h => f_X11_isContent_23_b N (f_X11_isContent_23 N n) l0 l1 l2 l3 l4 l5 l6 l7 h
def f_X11_isContent (N : Nat) (l0 : Nat) (l1 : Int32) (l2 : Int32) (l3 : Int32) (h : PH) : Option (Int32 × PH) :=
  ck (hK h l0 = 10) <|
  rq (hR h l0 57) fun a2 =>
  ck (hK h a2 = 12) <|
  ck (inb l1 (hN h a2)) <|
  bd ((hI h a2 (ix l1))) fun v5 =>
  cl (f_X11_getsBy N l0 l1 l2 l3 h) fun r6 h7 =>
  f_X11_isContent_23 N N l0 l1 l2 l3 v5 r6 (1 : Int32) (0 : Int32) h7
/-! X11_rests -/
def f_X11_rests_242 (N : Nat) (K_115 : Nat → Int32 → Int32 → Int32 → Int32 → Int32 → Int32 → Int32 → Int32 → PH → Option (Int32 × PH)) (l0 : Nat) (l1 : Int32) (l2 : Int32) (l3 : Int32) (l4 : Int32) (l5 : Int32) (l6 : Int32) (l7 : Int32) (l8 : Int32) (h : PH) : Option (Int32 × PH) :=
  bd (l8 + (1 : Int32)) fun v1 =>
  K_115 l0 l1 l2 l3 l4 l5 l6 l7 v1 h
def f_X11_rests_260 (N : Nat) (s0 : Int32) (s1 : Nat) (l6 : Int32) (l7 : Int32) (h : PH) : Option (Int32 × PH) :=
  ck (hK h s1 = 10) <|
  bd (sI h s1 0 s0) fun h2 =>
  if l6 = (-1 : Int32) then
    some (l7, h2)
  else
    some ((0 : Int32), h2)
def f_X11_rests_115_b (N : Nat) (K_115 : Nat → Int32 → Int32 → Int32 → Int32 → Int32 → Int32 → Int32 → Int32 → PH → Option (Int32 × PH)) (l0 : Nat) (l1 : Int32) (l2 : Int32) (l3 : Int32) (l4 : Int32) (l5 : Int32) (l6 : Int32) (l7 : Int32) (l8 : Int32) (h : PH) : Option (Int32 × PH) :=
  if (36 : Int32) ≤ l8 then
    if l6 = (-1 : Int32) then
      f_X11_rests_260 N (0 : Int32) l0 l6 l7 h
    else
      f_X11_rests_260 N (1 : Int32) l0 l6 l7 h
  else
    ck (hK h l0 = 10) <|
    cl (f_X11_mayBurn N l0 l1 (l8 / (6 : Int32)) h) fun r3 h4 =>
    if r3 = 0 then
      f_X11_rests_242 N K_115 l0 l1 l2 l3 l4 l5 l6 l7 l8 h4
    else
      ck (hK h4 l0 = 10) <|
      cl (f_X11_mayBurn N l0 l2 (l8 - l8 / (6 : Int32) * (6 : Int32)) h4) fun r7 h8 =>
      if r7 = 0 then
        f_X11_rests_242 N K_115 l0 l1 l2 l3 l4 l5 l6 l7 l8 h8
      else
        ck (hK h8 l0 = 10) <|
        rq (hR h8 l0 57) fun a12 =>
        ck (hK h8 a12 = 12) <|
        ck (inb l1 (hN h8 a12)) <|
        bd (sI h8 a12 (ix l1) (l8 / (6 : Int32))) fun h15 =>
        ck (hK h15 l0 = 10) <|
        rq (hR h15 l0 57) fun a17 =>
        ck (hK h15 a17 = 12) <|
        ck (inb l2 (hN h15 a17)) <|
        bd (sI h15 a17 (ix l2) (l8 - l8 / (6 : Int32) * (6 : Int32))) fun h20 =>
        ck (hK h20 l0 = 10) <|
        cl (f_X11_isContent N l0 l1 l3 l5 h20) fun r21 h22 =>
        if r21 = 0 then
          f_X11_rests_242 N K_115 l0 l1 l2 l3 l4 l5 l6 l7 l8 h22
        else
          ck (hK h22 l0 = 10) <|
          cl (f_X11_isContent N l0 l2 l4 l5 h22) fun r25 h26 =>
          if r25 = 0 then
            f_X11_rests_242 N K_115 l0 l1 l2 l3 l4 l5 l6 l7 l8 h26
          else
            if l7 = l6 then
              ck (hK h26 l0 = 10) <|
              rq (hR h26 l0 10) fun a32 =>
              ck (hK h26 a32 = 12) <|
              ck (0 < hN h26 a32) <|
              rq (hR h26 l0 10) fun a35 =>
              ck (hK h26 a35 = 12) <|
              ck (0 < hN h26 a35) <|
              some ((((10 : Int32) * (if (hI h26 a32 0) < (l8 / (6 : Int32)) then (hI h26 a32 0) else (l8 / (6 : Int32)))) + (if (hI h26 a35 0) < (l8 - l8 / (6 : Int32) * (6 : Int32)) then (hI h26 a35 0) else (l8 - l8 / (6 : Int32) * (6 : Int32)))), h26)
            else
              bd (l7 + (1 : Int32)) fun v30 =>
              f_X11_rests_242 N K_115 l0 l1 l2 l3 l4 l5 l6 v30 l8 h26
def f_X11_rests_115 (N : Nat) : Nat → Nat → Int32 → Int32 → Int32 → Int32 → Int32 → Int32 → Int32 → Int32 → PH → Option (Int32 × PH)
  | 0 => fun _ _ _ _ _ _ _ _ _ _ => none
  | n + 1 => fun l0 l1 l2 l3 l4 l5 l6 l7 l8 h => f_X11_rests_115_b N (f_X11_rests_115 N n) l0 l1 l2 l3 l4 l5 l6 l7 l8 h
def f_X11_rests_92 (N : Nat) (s0 : Int32) (s1 : Nat) (l0 : Nat) (l1 : Int32) (l2 : Int32) (l3 : Int32) (l4 : Int32) (l5 : Int32) (l6 : Int32) (h : PH) : Option (Int32 × PH) :=
  ck (hK h s1 = 10) <|
  bd (sI h s1 0 s0) fun h2 =>
  ck (hK h2 l0 = 10) <|
  if (hI h2 l0 0) = (1 : Int32) then
    some ((0 : Int32), h2)
  else
    cl (f_X11_noneBurns N l0 h2) fun r5 h6 =>
    f_X11_rests_115 N N l0 l1 l2 l3 l4 l5 l6 (0 : Int32) (0 : Int32) h6
def f_X11_rests_91 (N : Nat) (s0 : Nat) (l0 : Nat) (l1 : Int32) (l2 : Int32) (l3 : Int32) (l4 : Int32) (l5 : Int32) (l6 : Int32) (h : PH) : Option (Int32 × PH) :=
  f_X11_rests_92 N (1 : Int32) s0 l0 l1 l2 l3 l4 l5 l6 h
def f_X11_rests (N : Nat) (l0 : Nat) (l1 : Int32) (l2 : Int32) (l3 : Int32) (l4 : Int32) (l5 : Int32) (l6 : Int32) (h : PH) : Option (Int32 × PH) :=
  ck (hK h l0 = 10) <|
  cl (f_X11_isHouse N l0 l1 h) fun r1 h2 =>
  if r1 = 0 then
    f_X11_rests_91 N l0 l0 l1 l2 l3 l4 l5 l6 h2
  else
    ck (hK h2 l0 = 10) <|
    cl (f_X11_isHouse N l0 l2 h2) fun r5 h6 =>
    if r5 = 0 then
      f_X11_rests_91 N l0 l0 l1 l2 l3 l4 l5 l6 h6
    else
      if l1 = l2 then
        f_X11_rests_91 N l0 l0 l1 l2 l3 l4 l5 l6 h6
      else
        ck (hK h6 l0 = 10) <|
        rq (hR h6 l0 15) fun a11 =>
        ck (hK h6 a11 = 12) <|
        ck (inb l1 (hN h6 a11)) <|
        rq (hR h6 l0 15) fun a14 =>
        ck (hK h6 a14 = 12) <|
        ck (inb l2 (hN h6 a14)) <|
        if (hI h6 a11 (ix l1)) = (hI h6 a14 (ix l2)) then
          cl (f_X11_isFire N l0 l1 h6) fun r18 h19 =>
          if r18 = 0 then
            ck (hK h19 l0 = 10) <|
            cl (f_X11_isFire N l0 l2 h19) fun r21 h22 =>
            if r21 = 0 then
              ck (hK h22 l0 = 10) <|
              cl (f_X11_isTold N l0 l3 h22) fun r25 h26 =>
              if r25 = 0 then
                f_X11_rests_91 N l0 l0 l1 l2 l3 l4 l5 l6 h26
              else
                ck (hK h26 l0 = 10) <|
                cl (f_X11_isTold N l0 l4 h26) fun r29 h30 =>
                if r29 = 0 then
                  f_X11_rests_91 N l0 l0 l1 l2 l3 l4 l5 l6 h30
                else
                  cl (f_X11_within N l5 (0 : Int32) (99 : Int32) h30) fun r33 h34 =>
                  if r33 = 0 then
                    f_X11_rests_91 N l0 l0 l1 l2 l3 l4 l5 l6 h34
                  else
                    if l6 < (-1 : Int32) then
                      f_X11_rests_91 N l0 l0 l1 l2 l3 l4 l5 l6 h34
                    else
                      f_X11_rests_92 N (0 : Int32) l0 l0 l1 l2 l3 l4 l5 l6 h34
            else
              f_X11_rests_91 N l0 l0 l1 l2 l3 l4 l5 l6 h22
          else
            f_X11_rests_91 N l0 l0 l1 l2 l3 l4 l5 l6 h19
        else
          f_X11_rests_91 N l0 l0 l1 l2 l3 l4 l5 l6 h6
/-! X11_draws -/
def f_X11_draws (N : Nat) (l0 : Nat) (l1 : Int32) (h : PH) : Option (Int32 × PH) :=
  ck (hK h l0 = 10) <|
  bd (sJ h l0 65 ((((hJ h l0 65) * (1103515245 : Int64)) + (12345 : Int64)) - (((hJ h l0 65) * (1103515245 : Int64)) + (12345 : Int64)) / (2147483648 : Int64) * (2147483648 : Int64))) fun h2 =>
  ck (hK h2 l0 = 10) <|
  ck (¬ l1.toInt64 = 0) <|
  some ((((hJ h2 l0 65) / (65536 : Int64)) - ((hJ h2 l0 65) / (65536 : Int64)) / l1.toInt64 * l1.toInt64).toInt32, h2)
/-! X11_stocks -/
def f_X11_stocks_4_b (N : Nat) (K_4 : Nat → Int32 → Int32 → PH → Option (Int32 × PH)) (l0 : Nat) (l1 : Int32) (l2 : Int32) (h : PH) : Option (Int32 × PH) :=
  if (20 : Int32) ≤ l2 then
    some (l1, h)
  else
    ck (hK h l0 = 10) <|
    rq (hR h l0 49) fun a3 =>
    ck (hK h a3 = 12) <|
    ck (inb ((9 : Int32) + l2) (hN h a3)) <|
    bd ((l1 + (hI h a3 (ix ((9 : Int32) + l2))))) fun v6 =>
    bd (l2 + (1 : Int32)) fun v7 =>
    K_4 l0 v6 v7 h
def f_X11_stocks_4 (N : Nat) : Nat → Nat → Int32 → Int32 → PH → Option (Int32 × PH)
  | 0 => fun _ _ _ _ => none
  | n + 1 => fun l0 l1 l2 h => f_X11_stocks_4_b N (f_X11_stocks_4 N n) l0 l1 l2 h
def f_X11_stocks (N : Nat) (l0 : Nat) (h : PH) : Option (Int32 × PH) :=
  f_X11_stocks_4 N N l0 (0 : Int32) (0 : Int32) h
/-! X11_years -/
def f_X11_years_136 (N : Nat) (K_65 : Nat → Int32 → Int32 → Int32 → Int32 → Int32 → PH → Option (Int32 × PH)) (K_74 : Nat → Int32 → Int32 → Int32 → Int32 → Int32 → Int32 → PH → Option (Int32 × PH)) (l0 : Nat) (l2 : Int32) (l3 : Int32) (l4 : Int32) (l5 : Int32) (l6 : Int32) (l7 : Int32) (h : PH) : Option (Int32 × PH) :=
  bd (l7 + (1 : Int32)) fun v1 =>
  K_74 l0 l2 l3 l4 l5 l6 v1 h
def f_X11_years_142 (N : Nat) (K_65 : Nat → Int32 → Int32 → Int32 → Int32 → Int32 → PH → Option (Int32 × PH)) (l0 : Nat) (l2 : Int32) (l3 : Int32) (l4 : Int32) (l5 : Int32) (l6 : Int32) (h : PH) : Option (Int32 × PH) :=
  ck (hK h l0 = 10) <|
  cl (f_X11_passes N l0 h) fun r1 h2 =>
  ck (hK h2 l0 = 10) <|
  bd ((l4 + (hI h2 l0 55))) fun v5 =>
  bd ((l5 + (hI h2 l0 56))) fun v6 =>
  bd (l6 + (1 : Int32)) fun v7 =>
  K_65 l0 l2 l3 v5 v6 v7 h2
def f_X11_years_74_b (N : Nat) (K_65 : Nat → Int32 → Int32 → Int32 → Int32 → Int32 → PH → Option (Int32 × PH)) (K_74 : Nat → Int32 → Int32 → Int32 → Int32 → Int32 → Int32 → PH → Option (Int32 × PH)) (l0 : Nat) (l2 : Int32) (l3 : Int32) (l4 : Int32) (l5 : Int32) (l6 : Int32) (l7 : Int32) (h : PH) : Option (Int32 × PH) :=
  ck (hK h l0 = 10) <|
  rq (hR h l0 10) fun a2 =>
  ck (hK h a2 = 12) <|
  ck (2 < hN h a2) <|
  if (hI h a2 2) ≤ l7 then
    f_X11_years_142 N K_65 l0 l2 l3 l4 l5 l6 h
  else
    rq (hR h l0 10) fun a6 =>
    ck (hK h a6 = 12) <|
    ck (0 < hN h a6) <|
    if (hI h a6 0) ≤ 0 then
      f_X11_years_142 N K_65 l0 l2 l3 l4 l5 l6 h
    else
      rq (hR h l0 10) fun a10 =>
      ck (hK h a10 = 12) <|
      ck (0 < hN h a10) <|
      cl (f_X11_draws N l0 ((hI h a10 0) + (1 : Int32)) h) fun r13 h14 =>
      ck (hK h14 l0 = 10) <|
      cl (f_X11_isFuel N l0 r13 h14) fun r15 h16 =>
      if r15 = 0 then
        f_X11_years_136 N K_65 K_74 l0 l2 l3 l4 l5 l6 l7 h16
      else
        ck (hK h16 l0 = 10) <|
        cl (f_X11_canBurn N l0 l7 r13 h16) fun r19 h20 =>
        if r19 = 0 then
          f_X11_years_136 N K_65 K_74 l0 l2 l3 l4 l5 l6 l7 h20
        else
          ck (hK h20 l0 = 10) <|
          cl (f_X11_lights N l0 l7 r13 h20) fun r23 h24 =>
          f_X11_years_136 N K_65 K_74 l0 l2 l3 l4 l5 l6 l7 h24
def f_X11_years_74 (N : Nat) (K_65 : Nat → Int32 → Int32 → Int32 → Int32 → Int32 → PH → Option (Int32 × PH)) : Nat → Nat → Int32 → Int32 → Int32 → Int32 → Int32 → Int32 → PH → Option (Int32 × PH)
  | 0 => fun _ _ _ _ _ _ _ _ => none
  | n + 1 => fun l0 l2 l3 l4 l5 l6 l7 h => f_X11_years_74_b N K_65 (f_X11_years_74 N K_65 n) l0 l2 l3 l4 l5 l6 l7 h
def f_X11_years_65_b (N : Nat) (K_65 : Nat → Int32 → Int32 → Int32 → Int32 → Int32 → PH → Option (Int32 × PH)) (l0 : Nat) (l2 : Int32) (l3 : Int32) (l4 : Int32) (l5 : Int32) (l6 : Int32) (h : PH) : Option (Int32 × PH) :=
  if l2 ≤ l6 then
    ck (hK h l0 = 10) <|
    cl (f_X11_stocks N l0 h) fun r2 h3 =>
    ck (hK h3 l0 = 10) <|
    rq (hR h3 l0 50) fun a6 =>
    rq (hR h3 l0 49) fun a7 =>
    cl (f_X11_copies N a6 (0 : Int32) a7 (0 : Int32) h3) fun r8 h9 =>
    if l3 = 0 then
      some (l4, h9)
    else
      if l3 = (1 : Int32) then
        some (l5, h9)
      else
        some (r2, h9)
  else
    f_X11_years_74 N K_65 N l0 l2 l3 l4 l5 l6 (0 : Int32) h
def f_X11_years_65 (N : Nat) : Nat → Nat → Int32 → Int32 → Int32 → Int32 → Int32 → PH → Option (Int32 × PH)
  | 0 => fun _ _ _ _ _ _ _ => none
  | n + 1 => fun l0 l2 l3 l4 l5 l6 h => f_X11_years_65_b N (f_X11_years_65 N n) l0 l2 l3 l4 l5 l6 h
def f_X11_years (N : Nat) (l0 : Nat) (l1 : Int32) (l2 : Int32) (l3 : Int32) (h : PH) : Option (Int32 × PH) :=
  ck (hK h l0 = 10) <|
  bd (sI h l0 0 (0 : Int32)) fun h2 =>
  cl (f_X11_within N l1 (0 : Int32) (9999 : Int32) h2) fun r3 h4 =>
  if r3 = 0 then
    some ((-1 : Int32), h4)
  else
    cl (f_X11_within N l2 (1 : Int32) (99 : Int32) h4) fun r6 h7 =>
    if r6 = 0 then
      some ((-1 : Int32), h7)
    else
      cl (f_X11_within N l3 (0 : Int32) (2 : Int32) h7) fun r9 h10 =>
      if r9 = 0 then
        some ((-1 : Int32), h10)
      else
        ck (hK h10 l0 = 10) <|
        bd (sJ h10 l0 65 l1.toInt64) fun h13 =>
        ck (hK h13 l0 = 10) <|
        rq (hR h13 l0 49) fun a15 =>
        rq (hR h13 l0 50) fun a16 =>
        cl (f_X11_copies N a15 (0 : Int32) a16 (0 : Int32) h13) fun r17 h18 =>
        f_X11_years_65 N N l0 l2 l3 (0 : Int32) (0 : Int32) (0 : Int32) h18
/-! X11_mark -/
def f_X11_mark_59 (N : Nat) (s0 : Int32) (l0 : Nat) (l1 : Int32) (l2 : Int32) (l3 : Int32) (h : PH) : Option (Int32 × PH) :=
  ck (hK h l0 = 10) <|
  cl (f_X11_laysLines N l0 l3 s0 h) fun r1 h2 =>
  ck (hK h2 l0 = 10) <|
  cl (f_X11_laysSeen N l0 l3 s0 h2) fun r4 h5 =>
  if l2 = 0 then
    ck (hK h5 l0 = 10) <|
    rq (hR h5 l0 49) fun a9 =>
    rq (hR h5 l0 51) fun a10 =>
    cl (f_X11_copies N a9 (0 : Int32) a10 ((32 : Int32) * l1) h5) fun r11 h12 =>
    some ((1 : Int32), h12)
  else
    ck (hK h5 l0 = 10) <|
    rq (hR h5 l0 51) fun a14 =>
    rq (hR h5 l0 49) fun a15 =>
    cl (f_X11_copies N a14 ((32 : Int32) * l1) a15 (0 : Int32) h5) fun r16 h17 =>
    ck (hK h17 l0 = 10) <|
    bd (sI h17 l0 54 (0 : Int32)) fun h19 =>
    some ((1 : Int32), h19)
def f_X11_mark_47 (N : Nat) (s0 : Int32) (l0 : Nat) (l1 : Int32) (l2 : Int32) (h : PH) : Option (Int32 × PH) :=
  if l2 = 0 then
    f_X11_mark_59 N ((1 : Int32) + l1) l0 l1 l2 s0 h
  else
    f_X11_mark_59 N (0 : Int32) l0 l1 l2 s0 h
def f_X11_mark_29 (N : Nat) (l0 : Nat) (l1 : Int32) (l2 : Int32) (h : PH) : Option (Int32 × PH) :=
  ck (hK h l0 = 10) <|
  rq (hR h l0 53) fun a2 =>
  ck (hK h a2 = 13) <|
  ck (inb l1 (hN h a2)) <|
  bd (sI h a2 (ix l1) ((1 : Int32) &&& 1)) fun h5 =>
  if l2 = 0 then
    f_X11_mark_47 N (0 : Int32) l0 l1 l2 h5
  else
    f_X11_mark_47 N ((1 : Int32) + l1) l0 l1 l2 h5
def f_X11_mark (N : Nat) (l0 : Nat) (l1 : Int32) (l2 : Int32) (h : PH) : Option (Int32 × PH) :=
  ck (hK h l0 = 10) <|
  bd (sI h l0 0 (0 : Int32)) fun h2 =>
  cl (f_X11_within N l1 (0 : Int32) (3 : Int32) h2) fun r3 h4 =>
  if r3 = 0 then
    some ((0 : Int32), h4)
  else
    if l2 = 0 then
      f_X11_mark_29 N l0 l1 l2 h4
    else
      ck (hK h4 l0 = 10) <|
      rq (hR h4 l0 53) fun a8 =>
      ck (hK h4 a8 = 13) <|
      ck (inb l1 (hN h4 a8)) <|
      if (hI h4 a8 (ix l1)) = 0 then
        some ((0 : Int32), h4)
      else
        f_X11_mark_29 N l0 l1 l2 h4
/-! X11_fires -/
def f_X11_fires_30 (N : Nat) (K_4 : Nat → Int32 → Int32 → PH → Option (Int32 × PH)) (s0 : Int32) (s1 : Int32) (l0 : Nat) (l2 : Int32) (h : PH) : Option (Int32 × PH) :=
  bd ((s1 ||| s0)) fun v1 =>
  bd (l2 + (1 : Int32)) fun v2 =>
  K_4 l0 v1 v2 h
def f_X11_fires_4_b (N : Nat) (K_4 : Nat → Int32 → Int32 → PH → Option (Int32 × PH)) (l0 : Nat) (l1 : Int32) (l2 : Int32) (h : PH) : Option (Int32 × PH) :=
  ck (hK h l0 = 10) <|
  rq (hR h l0 10) fun a2 =>
  ck (hK h a2 = 12) <|
  ck (2 < hN h a2) <|
  if (hI h a2 2) ≤ l2 then
    some (l1, h)
  else
    cl (f_X11_isFire N l0 l2 h) fun r6 h7 =>
    if r6 = 0 then
      f_X11_fires_30 N K_4 (0 : Int32) l1 l0 l2 h7
    else
      f_X11_fires_30 N K_4 ((1 : Int32) <<< (l2 &&& 31)) l1 l0 l2 h7
def f_X11_fires_4 (N : Nat) : Nat → Nat → Int32 → Int32 → PH → Option (Int32 × PH)
  | 0 => fun _ _ _ _ => none
  | n + 1 => fun l0 l1 l2 h => f_X11_fires_4_b N (f_X11_fires_4 N n) l0 l1 l2 h
def f_X11_fires (N : Nat) (l0 : Nat) (h : PH) : Option (Int32 × PH) :=
  f_X11_fires_4 N N l0 (0 : Int32) (0 : Int32) h
/-! X11_count -/
def f_X11_count (N : Nat) (l0 : Nat) (l1 : Int32) (h : PH) : Option (Int32 × PH) :=
  ck (hK h l0 = 10) <|
  bd (sI h l0 0 (0 : Int32)) fun h2 =>
  cl (f_X11_within N l1 (0 : Int32) (13 : Int32) h2) fun r3 h4 =>
  if r3 = 0 then
    some ((-1 : Int32), h4)
  else
    if (5 : Int32) ≤ l1 then
      if (8 : Int32) ≤ l1 then
        if (10 : Int32) ≤ l1 then
          if (12 : Int32) ≤ l1 then
            if l1 = (12 : Int32) then
              ck (hK h4 l0 = 10) <|
              some ((hI h4 l0 54), h4)
            else
              ck (hK h4 l0 = 10) <|
              some ((hI h4 l0 1), h4)
          else
            if l1 = (10 : Int32) then
              ck (hK h4 l0 = 10) <|
              rq (hR h4 l0 39) fun a19 =>
              ck (hK h4 a19 = 12) <|
              ck (0 < hN h4 a19) <|
              some ((hI h4 a19 0), h4)
            else
              ck (hK h4 l0 = 10) <|
              rq (hR h4 l0 45) fun a15 =>
              ck (hK h4 a15 = 12) <|
              ck (0 < hN h4 a15) <|
              some ((hI h4 a15 0), h4)
        else
          if l1 = (8 : Int32) then
            ck (hK h4 l0 = 10) <|
            cl (f_X11_stocks N l0 h4) fun r26 h27 =>
            some (r26, h27)
          else
            ck (hK h4 l0 = 10) <|
            cl (f_X11_sootOfAll N l0 h4) fun r23 h24 =>
            some (r23, h24)
      else
        if l1 = (5 : Int32) then
          ck (hK h4 l0 = 10) <|
          rq (hR h4 l0 49) fun a41 =>
          ck (hK h4 a41 = 12) <|
          ck (0 < hN h4 a41) <|
          some ((hI h4 a41 0), h4)
        else
          if l1 = (6 : Int32) then
            ck (hK h4 l0 = 10) <|
            rq (hR h4 l0 49) fun a35 =>
            ck (hK h4 a35 = 12) <|
            ck (0 < hN h4 a35) <|
            cl (f_X11_windIn N l0 (hI h4 a35 0) h4) fun r38 h39 =>
            some (r38, h39)
          else
            ck (hK h4 l0 = 10) <|
            cl (f_X11_fires N l0 h4) fun r31 h32 =>
            some (r31, h32)
    else
      ck (hK h4 l0 = 10) <|
      rq (hR h4 l0 10) fun a45 =>
      ck (hK h4 a45 = 12) <|
      ck (inb l1 (hN h4 a45)) <|
      some ((hI h4 a45 (ix l1)), h4)
