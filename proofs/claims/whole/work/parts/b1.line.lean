/-! A line of a valley: both read it. -/
/-- one line, as the class's loop has it inside -/
def zLn (N : Nat) (l0 : Nat) (h : PH) : Option (Unit × PH) :=
  ck (hK h l0 = 7) <|
  rq (hR h l0 0) fun a2 =>
  ck (hK h a2 = 5) <|
  cl (f_X5_isAt N a2 (hW h 0) h) fun r3 h4 =>
  if r3 = 0 then
    ck (hK h4 l0 = 7) <|
    rq (hR h4 l0 0) fun a8 =>
    ck (hK h4 a8 = 5) <|
    cl (f_X5_isAt N a8 (hW h4 4) h4) fun r9 h10 =>
    if r9 = 0 then
      ck (hK h10 l0 = 7) <|
      rq (hR h10 l0 0) fun a14 =>
      ck (hK h10 a14 = 5) <|
      cl (f_X5_isAt N a14 (hW h10 5) h10) fun r15 h16 =>
      if r15 = 0 then
        ck (hK h16 l0 = 7) <|
        rq (hR h16 l0 0) fun a20 =>
        ck (hK h16 a20 = 5) <|
        cl (f_X5_isAt N a20 (hW h16 7) h16) fun r21 h22 =>
        if r21 = 0 then
          ck (hK h22 l0 = 7) <|
          rq (hR h22 l0 0) fun a26 =>
          ck (hK h22 a26 = 5) <|
          cl (f_X5_isAt N a26 (hW h22 8) h22) fun r27 h28 =>
          if r27 = 0 then
            ck (hK h28 l0 = 7) <|
            rq (hR h28 l0 0) fun a32 =>
            ck (hK h28 a32 = 5) <|
            cl (f_X5_isAt N a32 (hW h28 10) h28) fun r33 h34 =>
            if r33 = 0 then
              ck (hK h34 l0 = 7) <|
              rq (hR h34 l0 0) fun a38 =>
              ck (hK h34 a38 = 5) <|
              cl (f_X5_isAt N a38 (hW h34 13) h34) fun r39 h40 =>
              if r39 = 0 then
                ck (hK h40 l0 = 7) <|
                rq (hR h40 l0 0) fun a44 =>
                ck (hK h40 a44 = 5) <|
                cl (f_X5_isAt N a44 (hW h40 14) h40) fun r45 h46 =>
                if r45 = 0 then
                  ck (hK h46 l0 = 7) <|
                  rq (hR h46 l0 0) fun a50 =>
                  ck (hK h46 a50 = 5) <|
                  cl (f_X5_isAt N a50 (hW h46 15) h46) fun r51 h52 =>
                  if r51 = 0 then
                    ck (hK h52 l0 = 7) <|
                    rq (hR h52 l0 0) fun a56 =>
                    ck (hK h52 a56 = 5) <|
                    cl (f_X5_fail N a56 (1 : Int32) h52) fun r57 h58 =>
                    some ((), h58)
                  else
                    ck (hK h52 l0 = 7) <|
                    rq (hR h52 l0 1) fun a61 =>
                    ck (hK h52 a61 = 6) <|
                    rq (hR h52 a61 13) fun a63 =>
                    cl (f_X7_readLaw N l0 a63 h52) fun r64 h65 =>
                    some ((), h65)
                else
                  ck (hK h46 l0 = 7) <|
                  rq (hR h46 l0 1) fun a67 =>
                  ck (hK h46 a67 = 6) <|
                  rq (hR h46 a67 12) fun a69 =>
                  cl (f_X7_readLaw N l0 a69 h46) fun r70 h71 =>
                  some ((), h71)
              else
                ck (hK h40 l0 = 7) <|
                cl (f_X7_readWinds N l0 h40) fun r72 h73 =>
                some ((), h73)
            else
              ck (hK h34 l0 = 7) <|
              cl (f_X7_readWatcher N l0 h34) fun r75 h76 =>
              some ((), h76)
          else
            ck (hK h28 l0 = 7) <|
            cl (f_X7_readSign N l0 h28) fun r78 h79 =>
            some ((), h79)
        else
          ck (hK h22 l0 = 7) <|
          cl (f_X7_readStock N l0 h22) fun r81 h82 =>
          some ((), h82)
      else
        ck (hK h16 l0 = 7) <|
        cl (f_X7_readHouse N l0 h16) fun r84 h85 =>
        some ((), h85)
    else
      ck (hK h10 l0 = 7) <|
      cl (f_X7_readFlue N l0 h10) fun r87 h88 =>
      some ((), h88)
  else
    ck (hK h4 l0 = 7) <|
    cl (f_X7_readFuel N l0 h4) fun r90 h91 =>
    some ((), h91)
theorem zLn_at {N a : Nat} {K : Nat → Int32 → PH → Option (Unit × PH)} {i : Int32} {h : PH} : f_X7_readLines_16_b N K a i h = if (1000 : Int32) ≤ i then some ((), h) else ck (hK h a = 7) <| rq (hR h a 0) fun a3 => ck (hK h a3 = 5) <| cl (f_X5_isOver N a3 h) fun r4 h5 => if r4 = 0 then cl (zLn N a h5) fun _ h9 => f_X7_readLines_235 N K a i h9 else some ((), h5) := by
  unfold f_X7_readLines_16_b zLn
  simp only [cl_ck, cl_rq, cl_cl, cl_if, cl_s]
def lnF (X : TX) (D : DV) (s : ZS) : ZS × DV := if sWd X s 0 = true then (fu9 X D s, uFu X D s) else if sWd X s 4 = true then (lu3 X D s, uLu X D s) else if sWd X s 5 = true then (ho6 X D s, uHo X D s) else if sWd X s 7 = true then (sk8 X D s, uSk X D s) else if sWd X s 8 = true then (si7 X D s, uSi X D s) else if sWd X s 10 = true then (wa6 X D s, uWa X D s) else if sWd X s 13 = true then (wi4 X D s, (wi3 X D s).2) else if sWd X s 14 = true then (lwS X (lwO 0) (lwT D 0) s, lwD X (lwO 0) (lwT D 0) 0 D s) else if sWd X s 15 = true then (lwS X (lwO 1) (lwT D 1) s, lwD X (lwO 1) (lwT D 1) 1 D s) else (flt X 1 s, D)
def GD (D : DV) (s : ZS) : Prop := DW D ∧ DLw D ∧ (s.1 = 0 → tlL D ≤ s.2)
section LNF
variable {N x y w a l : Nat} {X : TX} {D D' : DV} {s t : ZS} {h : PH}
theorem DLw.e (e : vL D' = vL D) (p : DLw D) : DLw D' := fun l hl => by rw [e]; exact p l hl
theorem GD.e (p : GD D s) (hs : s.1 = 0) (lt : s.2 < t.2) (dw : DW D') (e : vL D' = vL D) : s.2 < t.2 ∧ GD D' t := ⟨lt, dw, p.2.1.e e, fun _ => by
  have := p.2.2 hs
  unfold tlL at this ⊢
  rw [e]
  omega⟩
theorem k_Lw (hl : l < 2) (p : GD D s) (hs : s.1 = 0) (hX : s.2 ≤ X.1) (h : (lwS X (lwO l) (lwT D l) s).1 = 0) : s.2 < (lwS X (lwO l) (lwT D l) s).2 ∧ GD (lwD X (lwO l) (lwT D l) l D s) (lwS X (lwO l) (lwT D l) s) := by
  obtain ⟨dw, dl, tl⟩ := p
  have tl := tl hs
  obtain ⟨p1, q1⟩ : (lwQ X (lwO l) (lwT D l) s).1.1 = 0 ∧ (lwQ X (lwO l) (lwT D l) s).1.2 < (lwS X (lwO l) (lwT D l) s).2 := xSn_p h
  have ht : lwT D l = false := by
    by_cases c : lwT D l = true
    · exfalso
      rw [c] at p1
      unfold lwQ at p1
      rw [if_pos rfl, gTests_z (show (stp X (flt X 3 s)).1 ≠ 0 from fun w => flt_n (by decide) (stp_n.mp w))] at p1
      exact flt_n (by decide) (stp_n.mp p1)
    · exact sF_of c
  rw [ht] at p1 q1 ⊢
  have eQ : lwQ X (lwO l) false s = gTests X (gPart X (lwO l) 5) (stp X s, [], []) := rfl
  obtain ⟨-, b1, b2, b3, b4, b5, b6⟩ := lwQ_g X (lwO l) s hX p1
  rw [← eQ] at b1 b2 b3 b4 b5 b6
  have hb : HB 0 (lwQ X (lwO l) false s).2.2 := by
    have sl : (stp X s).2 ≤ X.1 := by rw [stp_0 hs]; exact xnx_le hX
    obtain ⟨a1, C, R, a2, a3, a4, a5, a6, a7, a8, a9⟩ := gTests_h (fun q l => gPart_h 5 0 q (by decide) l) (q := (stp X s, [], [])) sl (show (gTests X (gPart X (lwO l) 5) (stp X s, [], [])).1.1 = 0 from p1)
    have e3 : (lwQ X (lwO l) false s).2.2 = R := by rw [eQ, a3]; rfl
    rw [e3]
    exact a9
  have gt : s.2 ≤ xnx X s.2 := Nat.le_trans xbg_ge xnx_ge
  have c0 : (vL D l).1 = [] := by
    by_cases c : (vL D l).1 = []
    · exact c
    · have : lwT D l = true := decide_eq_true c
      rw [ht] at this
      exact absurd this (by decide)
  have r0 : (vL D l).2.length = 0 := by rw [(dl l hl).1.mp c0]; rfl
  refine ⟨by omega, dw, fun k hk => ?_, fun _ => ?_⟩
  · show ((va_up (vL D) l (lwQ X (lwO l) false s).2 k).1 = [] ↔ (va_up (vL D) l (lwQ X (lwO l) false s).2 k).2 = []) ∧ ((va_up (vL D) l (lwQ X (lwO l) false s).2 k).1 ≠ [] → GTs (lwO k) 5 0 (va_up (vL D) l (lwQ X (lwO l) false s).2 k).1 (va_up (vL D) l (lwQ X (lwO l) false s).2 k).2 ∧ HB 0 (va_up (vL D) l (lwQ X (lwO l) false s).2 k).2)
    by_cases e : k = l
    · rw [e, va_eq]
      exact ⟨⟨fun z => absurd z b4, fun z => absurd z b5⟩, fun _ => ⟨b6, hb⟩⟩
    · rw [va_ne e]
      exact dl k hk
  · unfold tlL at tl ⊢
    show (va_up (vL D) l (lwQ X (lwO l) false s).2 0).2.length + (va_up (vL D) l (lwQ X (lwO l) false s).2 1).2.length ≤ _
    rcases (show l = 0 ∨ l = 1 by omega) with rfl | rfl
    · rw [va_eq, va_ne (by decide)]; omega
    · rw [va_eq, va_ne (by decide)]; omega
theorem ln_1 {S : ZS} {U : DV} (e : lnF X D s = (S, U)) (k : S.1 = 0 → s.2 < S.2 ∧ GD U S) (h : (lnF X D s).1.1 = 0) : s.2 < (lnF X D s).1.2 ∧ GD (lnF X D s).2 (lnF X D s).1 := by
  rw [e] at h ⊢
  exact k h
theorem ln_2 {S : ZS} {U : DV} {F : Option (Unit × PH)} (e : lnF X D s = (S, U)) (k : ∃ h', F = some ((), h') ∧ Kw x w h h' ∧ CZ X x h' S ∧ (S.1 = 0 → DC h' w U)) : ∃ h', F = some ((), h') ∧ Kw x w h h' ∧ CZ X x h' (lnF X D s).1 ∧ ((lnF X D s).1.1 = 0 → DC h' w (lnF X D s).2) := by
  rw [e]
  exact k
theorem ln_3 {S : ZS} {U : DV} {F : (Nat → PH → Option (Int32 × PH)) → Option (Int32 × PH)} (e : lnF X D s = (S, U)) (k : ∃ h', (∀ K, F K = f_X11_readsAll_231 N K (yb (decide (S.1 = 0))) y h') ∧ Pf y h h' ∧ MRs X y h' S ∧ (S.1 = 0 → DM h' y U)) : ∃ h', (∀ K, F K = f_X11_readsAll_231 N K (yb (decide ((lnF X D s).1.1 = 0))) y h') ∧ Pf y h h' ∧ MRs X y h' (lnF X D s).1 ∧ ((lnF X D s).1.1 = 0 → DM h' y (lnF X D s).2) := by
  rw [e]
  exact k
theorem k_ln (p : GD D s) (hs : s.1 = 0) (hX : s.2 ≤ X.1) : (lnF X D s).1.1 = 0 → s.2 < (lnF X D s).1.2 ∧ GD (lnF X D s).2 (lnF X D s).1 := by
  by_cases c0 : sWd X s 0 = true
  · refine ln_1 (S := fu9 X D s) (U := uFu X D s) (by unfold lnF; rw [if_pos c0]) (fun h => ?_)
    obtain ⟨a1, a2⟩ := k_Fu p.1 h
    exact p.e hs a1 a2 rfl
  by_cases c4 : sWd X s 4 = true
  · refine ln_1 (S := lu3 X D s) (U := uLu X D s) (by unfold lnF; rw [if_neg c0, if_pos c4]) (fun h => ?_)
    obtain ⟨a1, a2⟩ := k_Lu p.1 h
    exact p.e hs a1 a2 rfl
  by_cases c5 : sWd X s 5 = true
  · refine ln_1 (S := ho6 X D s) (U := uHo X D s) (by unfold lnF; rw [if_neg c0, if_neg c4, if_pos c5]) (fun h => ?_)
    obtain ⟨a1, a2⟩ := k_Ho p.1 h
    exact p.e hs a1 a2 rfl
  by_cases c7 : sWd X s 7 = true
  · refine ln_1 (S := sk8 X D s) (U := uSk X D s) (by unfold lnF; rw [if_neg c0, if_neg c4, if_neg c5, if_pos c7]) (fun h => ?_)
    obtain ⟨a1, a2⟩ := k_Sk p.1 h
    exact p.e hs a1 a2 rfl
  by_cases c8 : sWd X s 8 = true
  · refine ln_1 (S := si7 X D s) (U := uSi X D s) (by unfold lnF; rw [if_neg c0, if_neg c4, if_neg c5, if_neg c7, if_pos c8]) (fun h => ?_)
    obtain ⟨a1, a2⟩ := k_Si p.1 h
    exact p.e hs a1 a2 rfl
  by_cases c10 : sWd X s 10 = true
  · refine ln_1 (S := wa6 X D s) (U := uWa X D s) (by unfold lnF; rw [if_neg c0, if_neg c4, if_neg c5, if_neg c7, if_neg c8, if_pos c10]) (fun h => ?_)
    obtain ⟨a1, a2⟩ := k_Wa p.1 h
    exact p.e hs a1 a2 rfl
  by_cases c13 : sWd X s 13 = true
  · refine ln_1 (S := wi4 X D s) (U := (wi3 X D s).2) (by unfold lnF; rw [if_neg c0, if_neg c4, if_neg c5, if_neg c7, if_neg c8, if_neg c10, if_pos c13]) (fun h => ?_)
    obtain ⟨a1, a2, a3⟩ := k_Wi p.1 h
    exact p.e hs a1 a2 a3
  by_cases c14 : sWd X s 14 = true
  · refine ln_1 (S := lwS X (lwO 0) (lwT D 0) s) (U := lwD X (lwO 0) (lwT D 0) 0 D s) (by unfold lnF; rw [if_neg c0, if_neg c4, if_neg c5, if_neg c7, if_neg c8, if_neg c10, if_neg c13, if_pos c14]) (fun h => ?_)
    exact k_Lw (by decide) p hs hX h
  by_cases c15 : sWd X s 15 = true
  · refine ln_1 (S := lwS X (lwO 1) (lwT D 1) s) (U := lwD X (lwO 1) (lwT D 1) 1 D s) (by unfold lnF; rw [if_neg c0, if_neg c4, if_neg c5, if_neg c7, if_neg c8, if_neg c10, if_neg c13, if_neg c14, if_pos c15]) (fun h => ?_)
    exact k_Lw (by decide) p hs hX h
  exact ln_1 (S := flt X 1 s) (U := D) (by unfold lnF; rw [if_neg c0, if_neg c4, if_neg c5, if_neg c7, if_neg c8, if_neg c10, if_neg c13, if_neg c14, if_neg c15]) (fun h => absurd h (flt_n (Nat.le_refl 1)))
theorem z_readLine (hN : 2000 ≤ N) (hw : x + 43 ≤ w) (hl : w + 18 ≤ hz h) (z : CZ X x h s) (rd : Rdr h a x w) (q : DC h w D) (dw : DW D) : ∃ h', zLn N a h = some ((), h') ∧ Kw x w h h' ∧ CZ X x h' (lnF X D s).1 ∧ ((lnF X D s).1.1 = 0 → DC h' w (lnF X D s).2) := by
  have T := z.1.1.1
  have V := q.1.1
  have V12 : hR h w 12 = some (w + 11) := by unfold VL at V; exact V.2.1.2.2.2.2.2.2.2.2.2.2.1
  have V13 : hR h w 13 = some (w + 14) := by unfold VL at V; exact V.2.1.2.2.2.2.2.2.2.2.2.2.2.1
  unfold zLn
  rw [ck_p rd.1, rd.2.1, rq_s, ck_p T, z_isAt (by decide) z, cl_s, ite_i yb0]
  by_cases c0 : sWd X s 0 = true
  · refine ln_2 (S := fu9 X D s) (U := uFu X D s) (by unfold lnF; rw [if_pos c0]) ?_
    obtain ⟨h', a1, a2, a3, a4⟩ := z_readFuel hN hw hl z rd q dw
    rw [if_neg (by rw [c0]; decide), ck_p rd.1, a1, cl_s]
    exact ⟨h', rfl, a2, a3, a4⟩
  rw [if_pos (sF_of c0)]
  rw [ck_p rd.1, rd.2.1, rq_s, ck_p T, z_isAt (by decide) z, cl_s, ite_i yb0]
  by_cases c4 : sWd X s 4 = true
  · refine ln_2 (S := lu3 X D s) (U := uLu X D s) (by unfold lnF; rw [if_neg c0, if_pos c4]) ?_
    obtain ⟨h', a1, a2, a3, a4⟩ := z_readFlue hN hw hl z rd q dw
    rw [if_neg (by rw [c4]; decide), ck_p rd.1, a1, cl_s]
    exact ⟨h', rfl, a2, a3, a4⟩
  rw [if_pos (sF_of c4)]
  rw [ck_p rd.1, rd.2.1, rq_s, ck_p T, z_isAt (by decide) z, cl_s, ite_i yb0]
  by_cases c5 : sWd X s 5 = true
  · refine ln_2 (S := ho6 X D s) (U := uHo X D s) (by unfold lnF; rw [if_neg c0, if_neg c4, if_pos c5]) ?_
    obtain ⟨h', a1, a2, a3, a4⟩ := z_readHouse hN hw hl z rd q dw
    rw [if_neg (by rw [c5]; decide), ck_p rd.1, a1, cl_s]
    exact ⟨h', rfl, a2, a3, a4⟩
  rw [if_pos (sF_of c5)]
  rw [ck_p rd.1, rd.2.1, rq_s, ck_p T, z_isAt (by decide) z, cl_s, ite_i yb0]
  by_cases c7 : sWd X s 7 = true
  · refine ln_2 (S := sk8 X D s) (U := uSk X D s) (by unfold lnF; rw [if_neg c0, if_neg c4, if_neg c5, if_pos c7]) ?_
    obtain ⟨h', a1, a2, a3, a4⟩ := z_readStock hN hw hl z rd q dw
    rw [if_neg (by rw [c7]; decide), ck_p rd.1, a1, cl_s]
    exact ⟨h', rfl, a2, a3, a4⟩
  rw [if_pos (sF_of c7)]
  rw [ck_p rd.1, rd.2.1, rq_s, ck_p T, z_isAt (by decide) z, cl_s, ite_i yb0]
  by_cases c8 : sWd X s 8 = true
  · refine ln_2 (S := si7 X D s) (U := uSi X D s) (by unfold lnF; rw [if_neg c0, if_neg c4, if_neg c5, if_neg c7, if_pos c8]) ?_
    obtain ⟨h', a1, a2, a3, a4⟩ := z_readSign hN hw hl z rd q dw
    rw [if_neg (by rw [c8]; decide), ck_p rd.1, a1, cl_s]
    exact ⟨h', rfl, a2, a3, a4⟩
  rw [if_pos (sF_of c8)]
  rw [ck_p rd.1, rd.2.1, rq_s, ck_p T, z_isAt (by decide) z, cl_s, ite_i yb0]
  by_cases c10 : sWd X s 10 = true
  · refine ln_2 (S := wa6 X D s) (U := uWa X D s) (by unfold lnF; rw [if_neg c0, if_neg c4, if_neg c5, if_neg c7, if_neg c8, if_pos c10]) ?_
    obtain ⟨h', a1, a2, a3, a4⟩ := z_readWatcher hN hw hl z rd q dw
    rw [if_neg (by rw [c10]; decide), ck_p rd.1, a1, cl_s]
    exact ⟨h', rfl, a2, a3, a4⟩
  rw [if_pos (sF_of c10)]
  rw [ck_p rd.1, rd.2.1, rq_s, ck_p T, z_isAt (by decide) z, cl_s, ite_i yb0]
  by_cases c13 : sWd X s 13 = true
  · refine ln_2 (S := wi4 X D s) (U := (wi3 X D s).2) (by unfold lnF; rw [if_neg c0, if_neg c4, if_neg c5, if_neg c7, if_neg c8, if_neg c10, if_pos c13]) ?_
    obtain ⟨h', a1, a2, a3, a4⟩ := z_readWinds hN hw hl z rd q dw
    rw [if_neg (by rw [c13]; decide), ck_p rd.1, a1, cl_s]
    exact ⟨h', rfl, a2, a3, a4⟩
  rw [if_pos (sF_of c13)]
  rw [ck_p rd.1, rd.2.1, rq_s, ck_p T, z_isAt (by decide) z, cl_s, ite_i yb0]
  by_cases c14 : sWd X s 14 = true
  · refine ln_2 (S := lwS X (lwO 0) (lwT D 0) s) (U := lwD X (lwO 0) (lwT D 0) 0 D s) (by unfold lnF; rw [if_neg c0, if_neg c4, if_neg c5, if_neg c7, if_neg c8, if_neg c10, if_neg c13, if_pos c14]) ?_
    obtain ⟨h', a1, a2, a3, a4⟩ := z_readLaw (l := 0) (b := w + 11) hN hw hl z rd q (by decide) rfl
    rw [if_neg (by rw [c14]; decide), ck_p rd.1, rd.2.2.1, rq_s, ck_p V.1, V12, rq_s, a1, cl_s]
    exact ⟨h', rfl, a2, a3, a4⟩
  rw [if_pos (sF_of c14)]
  rw [ck_p rd.1, rd.2.1, rq_s, ck_p T, z_isAt (by decide) z, cl_s, ite_i yb0]
  by_cases c15 : sWd X s 15 = true
  · refine ln_2 (S := lwS X (lwO 1) (lwT D 1) s) (U := lwD X (lwO 1) (lwT D 1) 1 D s) (by unfold lnF; rw [if_neg c0, if_neg c4, if_neg c5, if_neg c7, if_neg c8, if_neg c10, if_neg c13, if_neg c14, if_pos c15]) ?_
    obtain ⟨h', a1, a2, a3, a4⟩ := z_readLaw (l := 1) (b := w + 14) hN hw hl z rd q (by decide) rfl
    rw [if_neg (by rw [c15]; decide), ck_p rd.1, rd.2.2.1, rq_s, ck_p V.1, V13, rq_s, a1, cl_s]
    exact ⟨h', rfl, a2, a3, a4⟩
  rw [if_pos (sF_of c15)]
  refine ln_2 (S := flt X 1 s) (U := D) (by unfold lnF; rw [if_neg c0, if_neg c4, if_neg c5, if_neg c7, if_neg c8, if_neg c10, if_neg c13, if_neg c14, if_neg c15]) ?_
  obtain ⟨h', a1, a2, a3⟩ := z_fail (N := N) (k := 1) ⟨by decide, by decide⟩ z
  have a1 : f_X5_fail N (x + 1) 1 h = _ := a1
  rw [ck_p rd.1, rd.2.1, rq_s, ck_p T, a1, cl_s]
  exact ⟨h', rfl, a2.kw, a3, fun z => absurd z (flt_n (Nat.le_refl 1))⟩
theorem m_line (hN : 2000 ≤ N) (hs : s.1 = 0) (ht : xty X s.2 ≠ 0) (z : RZ X y h s.2) (q : DM h y D) (g : GD D s) : ∃ h', (∀ K, f_X11_readsAll_64_b N K y h = f_X11_readsAll_231 N K (yb (decide ((lnF X D s).1.1 = 0))) y h') ∧ Pf y h h' ∧ MRs X y h' (lnF X D s).1 ∧ ((lnF X D s).1.1 = 0 → DM h' y (lnF X D s).2) := by
  have K0 := z.1.1.1
  have tl := xty_le (X := X) (p := s.2)
  have dw := g.1
  have wd : ∀ i (v : Int64), i < 27 → v = lN (k27 i) → f_X11_isWord N y v h = some (yb (sWd X s i), h) := fun i v hi hv => by
    rw [ZS.e hs]
    exact m_isWord hi hv z
  have pre : ∀ K, f_X11_readsAll_64_b N K y h = _ := fun K => by
    unfold f_X11_readsAll_64_b
    rw [ck_p K0, z.2.2.2.2.1, if_neg (show ¬ nI (xty X s.2) = 0 from fun e => ht ((nI_eq (b := 0) (by omega) (by decide)).mp e))]

  by_cases c0 : sWd X s 0 = true
  · refine ln_3 (S := fu9 X D s) (U := uFu X D s) (by unfold lnF; rw [if_pos c0]) ?_
    obtain ⟨h', a1, a2, a3, a4⟩ := m_readsFuel hN hs z q dw
    exact ⟨h', fun K => by rw [pre, wd 0 133554 (by decide) kL0, cl_s, ite_i yb0, if_neg (by rw [c0]; decide), ck_p K0, a1, cl_s], a2, a3, a4⟩
  by_cases c4 : sWd X s 4 = true
  · refine ln_3 (S := lu3 X D s) (U := uLu X D s) (by unfold lnF; rw [if_neg c0, if_pos c4]) ?_
    obtain ⟨h', a1, a2, a3, a4⟩ := m_readsFlue hN hs z q dw
    exact ⟨h', fun K => by rw [pre, wd 0 133554 (by decide) kL0, cl_s, ite_i yb0, if_pos (sF_of c0), ck_p K0, wd 4 127418 (by decide) kL4, cl_s, ite_i yb0, if_neg (by rw [c4]; decide), ck_p K0, a1, cl_s], a2, a3, a4⟩
  by_cases c5 : sWd X s 5 = true
  · refine ln_3 (S := ho6 X D s) (U := uHo X D s) (by unfold lnF; rw [if_neg c0, if_neg c4, if_pos c5]) ?_
    obtain ⟨h', a1, a2, a3, a4⟩ := m_readsHouse hN hs z q dw
    exact ⟨h', fun K => by rw [pre, wd 0 133554 (by decide) kL0, cl_s, ite_i yb0, if_pos (sF_of c0), ck_p K0, wd 4 127418 (by decide) kL4, cl_s, ite_i yb0, if_pos (sF_of c4), ck_p K0, wd 5 4562600 (by decide) kL5, cl_s, ite_i yb0, if_neg (by rw [c5]; decide), ck_p K0, a1, cl_s], a2, a3, a4⟩
  by_cases c7 : sWd X s 7 = true
  · refine ln_3 (S := sk8 X D s) (U := uSk X D s) (by unfold lnF; rw [if_neg c0, if_neg c4, if_neg c5, if_pos c7]) ?_
    obtain ⟨h', a1, a2, a3, a4⟩ := m_readsStock hN hs z q dw
    exact ⟨h', fun K => by rw [pre, wd 0 133554 (by decide) kL0, cl_s, ite_i yb0, if_pos (sF_of c0), ck_p K0, wd 4 127418 (by decide) kL4, cl_s, ite_i yb0, if_pos (sF_of c4), ck_p K0, wd 5 4562600 (by decide) kL5, cl_s, ite_i yb0, if_pos (sF_of c5), ck_p K0, wd 7 10502066 (by decide) kL7, cl_s, ite_i yb0, if_neg (by rw [c7]; decide), ck_p K0, a1, cl_s], a2, a3, a4⟩
  by_cases c8 : sWd X s 8 = true
  · refine ln_3 (S := si7 X D s) (U := uSi X D s) (by unfold lnF; rw [if_neg c0, if_neg c4, if_neg c5, if_neg c7, if_pos c8]) ?_
    obtain ⟨h', a1, a2, a3, a4⟩ := m_readsSign hN hs z q dw
    exact ⟨h', fun K => by rw [pre, wd 0 133554 (by decide) kL0, cl_s, ite_i yb0, if_pos (sF_of c0), ck_p K0, wd 4 127418 (by decide) kL4, cl_s, ite_i yb0, if_pos (sF_of c4), ck_p K0, wd 5 4562600 (by decide) kL5, cl_s, ite_i yb0, if_pos (sF_of c5), ck_p K0, wd 7 10502066 (by decide) kL7, cl_s, ite_i yb0, if_pos (sF_of c7), ck_p K0, wd 8 380741 (by decide) kL8, cl_s, ite_i yb0, if_neg (by rw [c8]; decide), ck_p K0, a1, cl_s], a2, a3, a4⟩
  by_cases c10 : sWd X s 10 = true
  · refine ln_3 (S := wa6 X D s) (U := uWa X D s) (by unfold lnF; rw [if_neg c0, if_neg c4, if_neg c5, if_neg c7, if_neg c8, if_pos c10]) ?_
    obtain ⟨h', a1, a2, a3, a4⟩ := m_readsWatcher hN hs z q dw
    exact ⟨h', fun K => by rw [pre, wd 0 133554 (by decide) kL0, cl_s, ite_i yb0, if_pos (sF_of c0), ck_p K0, wd 4 127418 (by decide) kL4, cl_s, ite_i yb0, if_pos (sF_of c4), ck_p K0, wd 5 4562600 (by decide) kL5, cl_s, ite_i yb0, if_pos (sF_of c5), ck_p K0, wd 7 10502066 (by decide) kL7, cl_s, ite_i yb0, if_pos (sF_of c7), ck_p K0, wd 8 380741 (by decide) kL8, cl_s, ite_i yb0, if_pos (sF_of c8), ck_p K0, wd 10 8935714008 (by decide) kL10, cl_s, ite_i yb0, if_neg (by rw [c10]; decide), ck_p K0, a1, cl_s], a2, a3, a4⟩
  by_cases c13 : sWd X s 13 = true
  · refine ln_3 (S := wi4 X D s) (U := (wi3 X D s).2) (by unfold lnF; rw [if_neg c0, if_neg c4, if_neg c5, if_neg c7, if_neg c8, if_neg c10, if_pos c13]) ?_
    obtain ⟨h', a1, a2, a3, a4⟩ := m_readsWinds hN hs z q dw
    exact ⟨h', fun K => by rw [pre, wd 0 133554 (by decide) kL0, cl_s, ite_i yb0, if_pos (sF_of c0), ck_p K0, wd 4 127418 (by decide) kL4, cl_s, ite_i yb0, if_pos (sF_of c4), ck_p K0, wd 5 4562600 (by decide) kL5, cl_s, ite_i yb0, if_pos (sF_of c5), ck_p K0, wd 7 10502066 (by decide) kL7, cl_s, ite_i yb0, if_pos (sF_of c7), ck_p K0, wd 8 380741 (by decide) kL8, cl_s, ite_i yb0, if_pos (sF_of c8), ck_p K0, wd 10 8935714008 (by decide) kL10, cl_s, ite_i yb0, if_pos (sF_of c10), ck_p K0, wd 13 12410623 (by decide) kL13, cl_s, ite_i yb0, if_neg (by rw [c13]; decide), ck_p K0, a1, cl_s], a2, a3, a4⟩
  by_cases c14 : sWd X s 14 = true
  · refine ln_3 (S := lwS X (lwO 0) (lwT D 0) s) (U := lwD X (lwO 0) (lwT D 0) 0 D s) (by unfold lnF; rw [if_neg c0, if_neg c4, if_neg c5, if_neg c7, if_neg c8, if_neg c10, if_neg c13, if_pos c14]) ?_
    obtain ⟨h', a1, a2, a3, a4⟩ := m_readsLaw (l := 0) hN (by decide) hs z q (g.2.1 0 (by decide)).1 (g.2.2 hs)
    have a1 : f_X11_readsLaw N y 0 h = _ := a1
    exact ⟨h', fun K => by rw [pre, wd 0 133554 (by decide) kL0, cl_s, ite_i yb0, if_pos (sF_of c0), ck_p K0, wd 4 127418 (by decide) kL4, cl_s, ite_i yb0, if_pos (sF_of c4), ck_p K0, wd 5 4562600 (by decide) kL5, cl_s, ite_i yb0, if_pos (sF_of c5), ck_p K0, wd 7 10502066 (by decide) kL7, cl_s, ite_i yb0, if_pos (sF_of c7), ck_p K0, wd 8 380741 (by decide) kL8, cl_s, ite_i yb0, if_pos (sF_of c8), ck_p K0, wd 10 8935714008 (by decide) kL10, cl_s, ite_i yb0, if_pos (sF_of c10), ck_p K0, wd 13 12410623 (by decide) kL13, cl_s, ite_i yb0, if_pos (sF_of c13), ck_p K0, wd 14 3913426 (by decide) kL14, cl_s, ite_i yb0, if_neg (by rw [c14]; decide), ck_p K0, a1, cl_s], a2, a3, a4⟩
  by_cases c15 : sWd X s 15 = true
  · refine ln_3 (S := lwS X (lwO 1) (lwT D 1) s) (U := lwD X (lwO 1) (lwT D 1) 1 D s) (by unfold lnF; rw [if_neg c0, if_neg c4, if_neg c5, if_neg c7, if_neg c8, if_neg c10, if_neg c13, if_neg c14, if_pos c15]) ?_
    obtain ⟨h', a1, a2, a3, a4⟩ := m_readsLaw (l := 1) hN (by decide) hs z q (g.2.1 1 (by decide)).1 (g.2.2 hs)
    have a1 : f_X11_readsLaw N y 1 h = _ := a1
    exact ⟨h', fun K => by rw [pre, wd 0 133554 (by decide) kL0, cl_s, ite_i yb0, if_pos (sF_of c0), ck_p K0, wd 4 127418 (by decide) kL4, cl_s, ite_i yb0, if_pos (sF_of c4), ck_p K0, wd 5 4562600 (by decide) kL5, cl_s, ite_i yb0, if_pos (sF_of c5), ck_p K0, wd 7 10502066 (by decide) kL7, cl_s, ite_i yb0, if_pos (sF_of c7), ck_p K0, wd 8 380741 (by decide) kL8, cl_s, ite_i yb0, if_pos (sF_of c8), ck_p K0, wd 10 8935714008 (by decide) kL10, cl_s, ite_i yb0, if_pos (sF_of c10), ck_p K0, wd 13 12410623 (by decide) kL13, cl_s, ite_i yb0, if_pos (sF_of c13), ck_p K0, wd 14 3913426 (by decide) kL14, cl_s, ite_i yb0, if_pos (sF_of c14), ck_p K0, wd 15 10404118 (by decide) kL15, cl_s, ite_i yb0, if_neg (by rw [c15]; decide), ck_p K0, a1, cl_s], a2, a3, a4⟩
  refine ln_3 (S := flt X 1 s) (U := D) (by unfold lnF; rw [if_neg c0, if_neg c4, if_neg c5, if_neg c7, if_neg c8, if_neg c10, if_neg c13, if_neg c14, if_neg c15]) ?_
  obtain ⟨h', a1, a2, a3⟩ := m_fails (N := N) (k := 1) z
  have a1 : f_X11_fails N y 1 h = _ := a1
  refine ⟨h', fun K => ?_, a2.rj.pf, ?_, fun z => absurd z (flt_n (Nat.le_refl 1))⟩
  · rw [pre, wd 0 133554 (by decide) kL0, cl_s, ite_i yb0, if_pos (sF_of c0), ck_p K0, wd 4 127418 (by decide) kL4, cl_s, ite_i yb0, if_pos (sF_of c4), ck_p K0, wd 5 4562600 (by decide) kL5, cl_s, ite_i yb0, if_pos (sF_of c5), ck_p K0, wd 7 10502066 (by decide) kL7, cl_s, ite_i yb0, if_pos (sF_of c7), ck_p K0, wd 8 380741 (by decide) kL8, cl_s, ite_i yb0, if_pos (sF_of c8), ck_p K0, wd 10 8935714008 (by decide) kL10, cl_s, ite_i yb0, if_pos (sF_of c10), ck_p K0, wd 13 12410623 (by decide) kL13, cl_s, ite_i yb0, if_pos (sF_of c13), ck_p K0, wd 14 3913426 (by decide) kL14, cl_s, ite_i yb0, if_pos (sF_of c14), ck_p K0, wd 15 10404118 (by decide) kL15, cl_s, ite_i yb0, if_pos (sF_of c15), ck_p K0, a1, cl_s, decide_eq_false (show ¬ (flt X 1 s).1 = 0 from flt_n (Nat.le_refl 1))]
    rfl
  · show MRs X y h' (flt X 1 s)
    rw [flt_0 hs]
    exact MRs.f (Nat.le_refl 1) a3
end LNF
