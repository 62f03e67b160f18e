/-! The lines of a valley, as they are read: where the reader is behind each, and what is told by it. -/
section LNS
variable (X : TX) (D : DV) (s : ZS)
def fu1 : ZS := xMor X (vC D 0) 5 s
def fu2 : ZS := xNew X (vC D) (vN D) (fu1 X D s)
def fu3 : ZS := xEx X 1 (fu2 X D s)
def fu4 : ZS := xNu X 0 99 (fu3 X D s)
def fu5 : ZS := xEx X 2 (fu4 X D s)
def fu6 : ZS := xNu X 0 99 (fu5 X D s)
def fu7 : ZS := xEx X 3 (fu6 X D s)
def fu8 : ZS := xNu X 1 9 (fu7 X D s)
def fu9 : ZS := xSn X 59 (fu8 X D s)
def uFu : DV := (cUp D 0, nUp D 0 (xwv X (fu1 X D s).2), va_up (vD D) (vC D 0) (xnv X (fu3 X D s).2), va_up (vS D) (vC D 0) (xnv X (fu5 X D s).2), va_up (vB D) (vC D 0) (xnv X (fu7 X D s).2), vF D, vT D, vR D, vG D, vW D, vL D)
def lu1 : ZS := xMor X (vC D 1) 3 s
def lu2 : ZS := xNew X (vC D) (vN D) (lu1 X D s)
def lu3 : ZS := xSn X 59 (lu2 X D s)
def uLu : DV := (cUp D 1, nUp D 1 (xwv X (lu1 X D s).2), vD D, vS D, vB D, vF D, vT D, vR D, vG D, vW D, vL D)
def ho1 : ZS := xMor X (vC D 2) 4 s
def ho2 : ZS := xNew X (vC D) (vN D) (ho1 X D s)
def ho3 : ZS := xEx X 6 (ho2 X D s)
def ho4 : ZS := xTld X (vC D) (vN D) 1 (ho3 X D s)
def ho5 : ZS := stp X (ho4 X D s)
def ho6 : ZS := xSn X 59 (ho5 X D s)
def uHo : DV := (cUp D 2, nUp D 2 (xwv X (ho1 X D s).2), vD D, vS D, vB D, va_up (vF D) (vC D 2) (nfi (vC D) (vN D) 1 (xwv X (ho3 X D s).2)), vT D, vR D, vG D, vW D, vL D)
def sk1 : ZS := stp X s
def sk2 : ZS := xTld X (vC D) (vN D) 2 (sk1 X s)
def sk3 : ZS := stp X (sk2 X D s)
def sk4 : ZS := xTld X (vC D) (vN D) 0 (sk3 X D s)
def skA : Nat := 5 * nfi (vC D) (vN D) 2 (xwv X (sk1 X s).2) + nfi (vC D) (vN D) 0 (xwv X (sk3 X D s).2)
def sk5 : ZS := if (sk4 X D s).1 = 0 ∧ vT D (skA X D s) ≠ 0 then flt X 3 (sk4 X D s) else sk4 X D s
def sk6 : ZS := stp X (sk5 X D s)
def sk7 : ZS := xNu X 0 99 (sk6 X D s)
def sk8 : ZS := xSn X 59 (sk7 X D s)
def uSk : DV := (vC D, vN D, vD D, vS D, vB D, vF D, va_up (vT D) (skA X D s) (xnv X (sk6 X D s).2 + 1), vR D, vG D, vW D, vL D)
def ra1 : ZS := xNu X 0 999 s
def ra2 : ZS := xEx X 9 (ra1 X s)
def ra3 : ZS := xNu X (xnv X s.2) 999 (ra2 X s)
def si1 : ZS := xMor X (vC D 3) 6 s
def si2 : ZS := xNew X (vC D) (vN D) (si1 X D s)
def si3 : ZS := xEx X 1 (si2 X D s)
def si4 : ZS := ra3 X (si3 X D s)
def si5 : ZS := xEx X 2 (si4 X D s)
def si6 : ZS := ra3 X (si5 X D s)
def si7 : ZS := xSn X 59 (si6 X D s)
def uSi : DV := (cUp D 3, nUp D 3 (xwv X (si1 X D s).2), vD D, vS D, vB D, vF D, vT D, va_up (va_up (va_up (va_up (vR D) (4 * vC D 3) (xnv X (si3 X D s).2)) (4 * vC D 3 + 1) (xnv X (ra2 X (si3 X D s)).2)) (4 * vC D 3 + 2) (xnv X (si5 X D s).2)) (4 * vC D 3 + 3) (xnv X (ra2 X (si5 X D s)).2), vG D, vW D, vL D)
def wa1 : ZS := xMor X (vC D 4) 4 s
def wa2 : ZS := xNew X (vC D) (vN D) (wa1 X D s)
def wa3 : ZS := xEx X 11 (wa2 X D s)
def wa4 : ZS := if sWd X (wa3 X D s) 1 = true ∨ sWd X (wa3 X D s) 2 = true ∨ sWd X (wa3 X D s) 12 = true then wa3 X D s else flt X 1 (wa3 X D s)
def wa5 : ZS := stp X (wa4 X D s)
def wa6 : ZS := xSn X 59 (wa5 X D s)
def waV : Nat := if sWd X (wa3 X D s) 1 = true then 0 else if sWd X (wa3 X D s) 2 = true then 1 else 2
def uWa : DV := (cUp D 4, nUp D 4 (xwv X (wa1 X D s).2), vD D, vS D, vB D, vF D, vT D, vR D, va_up (vG D) (vC D 4) (waV X D s), vW D, vL D)
/-- one wind; the winds -/
def wnS : ZS := xNu X 0 9 (if 12 ≤ vC D 5 ∧ sNu X s = true ∧ xnv X s.2 ≤ 9 then flt X 5 s else s)
def wnD : DV := if (wnS X D s).1 = 0 ∧ vC D 5 < 12 then (va_up (vC D) 5 (vC D 5 + 1), vN D, vD D, vS D, vB D, vF D, vT D, vR D, vG D, va_up (vW D) (vC D 5) (xnv X s.2), vL D) else D
end LNS
def wnL (X : TX) : Nat → ZS → DV → ZS × DV
  | 0, s, D => (s, D)
  | n + 1, s, D => if sNu X s = true then wnL X n (wnS X D s) (wnD X D s) else (s, D)
def wi1 (X : TX) (D : DV) (s : ZS) : ZS := if vC D 5 = 0 then s else flt X 3 s
def wi2 (X : TX) (D : DV) (s : ZS) : ZS := stp X (wi1 X D s)
def wi3 (X : TX) (D : DV) (s : ZS) : ZS × DV := wnL X 12 (wnS X D (wi2 X D s)) (wnD X D (wi2 X D s))
def wi4 (X : TX) (D : DV) (s : ZS) : ZS := xSn X 59 (wi3 X D s).1
section LN2
variable {X : TX} {D : DV} {s : ZS}
theorem xMor_s {c m : Nat} (h : (xMor X c m s).1 = 0) : c < m ∧ s.1 = 0 := by
  unfold xMor at h
  have h := stp_n.mp h
  by_cases q : c < m
  · rw [if_pos q] at h
    exact ⟨q, h⟩
  · rw [if_neg q] at h
    exact absurd h (flt_n (by decide))
theorem xNew_z {cnt : Nat → Nat} {nm : Nat → Nat → Nat} (h : s.1 ≠ 0) : xNew X cnt nm s = s := by
  unfold xNew
  rw [if_neg (fun z => h (sNm_i.mp z).1), flt_z h, stp_z h]
theorem xTld_a {cnt : Nat → Nat} {nm : Nat → Nat → Nat} {k : Nat} (h : (xTld X cnt nm k s).1 = 0) : s.1 = 0 := (sNm_i.mp (xTld_s h).1).1
theorem NmC.e {h h' : PH} {w : Nat} {cnt : Nat → Nat} {nm : Nat → Nat → Nat} (g : Sm h h') (e1 : hI h' (w + 1) = hI h (w + 1)) (e2 : hJ h' (w + 2) = hJ h (w + 2)) (q : NmC h w cnt nm) : NmC h' w cnt nm := ⟨q.1.sm g, fun k hk => by rw [e1, e2]; exact q.2 k hk⟩
theorem Rdr.vw {h h' : PH} {a x w b : Nat} (g : Vw b h h') (q : Rdr h a x w) : Rdr h' a x w := q.shp (g.1.shp g.2.1)
end LN2
