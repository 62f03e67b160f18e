/-! The class's constructors. -/
section CTR
variable {N : Nat}
theorem Gr.ex {n b : Nat} {h h1 h' : PH} (g : Gr n h h1) (e : Ex (fun z => z = b) h1 h') (hb : hz h ≤ b) : Gr n h h' := ⟨⟨by rw [e.2.1]; exact g.1.1, by rw [e.1.2.2.2]; exact g.1.2⟩, fun z hz => by
  have a := g.2 z hz
  exact ⟨by rw [e.1.1]; exact a.1, by rw [e.1.2.1]; exact a.2.1, (e.2.2.2 z (by omega)).trans a.2.2.1, by rw [e.1.2.2.1]; exact a.2.2.2⟩⟩
theorem i_X5 : InS 4 5 (f_X5_init N) := fun h0 => by
  have p0 : Alc h0 5 0 [] [] [] (nwh h0 5 0) := Alc.new
  obtain ⟨h1, e1, p1⟩ := p0.arr (α := Unit × PH) 11 1000 0 (by decide)
  refine ⟨h1, ?_, p1.1.1, ⟨p1.1.2.1, (p1.2.1 (0, 0, 1) (by decide)), (p1.2.2.1 (1, 11, 1000) (by decide)).2.1, (p1.2.2.1 (1, 11, 1000) (by decide)).2.2.1⟩, by rw [p1.1.2.2]⟩
  · unfold f_X5_init
    refine (e1 _).trans ?_
    rfl
theorem i_X0 : InS 0 0 (f_X0_init N) := fun h0 => by
  have p0 : Alc h0 0 0 [] [] [] (nwh h0 0 0) := Alc.new
  obtain ⟨h1, e1, p1⟩ := p0.arr (α := Unit × PH) 12 200 0 (by decide)
  refine ⟨h1, ?_, p1.1.1, ⟨p1.1.2.1, (p1.2.1 (0, 0, 1) (by decide)), ⟨(p1.2.2.1 (1, 12, 200) (by decide)).2.1, (p1.2.2.1 (1, 12, 200) (by decide)).2.2.1⟩⟩, by rw [p1.1.2.2]⟩
  · unfold f_X0_init
    refine (e1 _).trans ?_
    rfl
theorem i_X4 (hB : 2001 ≤ N) : InS 3 4 (f_X4_init N) := fun h0 => by
  have p0 : Alc h0 4 0 [] [] [] (nwh h0 4 0) := Alc.new
  obtain ⟨h1, e1, p1⟩ := p0.arr (α := Unit × PH) 12 20 1 (by decide)
  obtain ⟨h2, e2, p2⟩ := p1.arr (α := Unit × PH) 12 4 2 (by decide)
  obtain ⟨h3, e3, p3⟩ := p2.arr (α := Unit × PH) 12 4 3 (by decide)
  obtain ⟨h4, e4, p4⟩ := p3.arr (α := Unit × PH) 12 3 4 (by decide)
  have st : ST h4 (hz h0) := ⟨p4.1.2.1, ⟨(p4.2.1 (0, 1, 1) (by decide)), (p4.2.1 (0, 2, 2) (by decide)), (p4.2.1 (0, 3, 3) (by decide)), (p4.2.1 (0, 4, 4) (by decide))⟩, ⟨(p4.2.2.1 (1, 12, 20) (by decide)).2.1, (p4.2.2.1 (1, 12, 20) (by decide)).2.2.1⟩, ⟨(p4.2.2.1 (2, 12, 4) (by decide)).2.1, (p4.2.2.1 (2, 12, 4) (by decide)).2.2.1⟩, ⟨(p4.2.2.1 (3, 12, 4) (by decide)).2.1, (p4.2.2.1 (3, 12, 4) (by decide)).2.2.1⟩, ⟨(p4.2.2.1 (4, 12, 3) (by decide)).2.1, (p4.2.2.1 (4, 12, 3) (by decide)).2.2.1⟩⟩
  obtain ⟨g, f1, f2, f3⟩ := c_fill hB (by decide) st.2.2.2.1 (-1)
  have z1 : hI h4 (hz h0 + 1) = fun _ => 0 := (p4.2.2.1 (1, 12, 20) (by decide)).2.2.2
  have z3 : hI h4 (hz h0 + 3) = fun _ => 0 := (p4.2.2.1 (3, 12, 4) (by decide)).2.2.2
  have z4 : hI h4 (hz h0 + 4) = fun _ => 0 := (p4.2.2.1 (4, 12, 3) (by decide)).2.2.2
  refine ⟨g, ?_, Gr.ex p4.1.1 f2 (by omega), st.sm f2.1, ?_, fun k hk => ?_, fun k hk => ?_, fun k hk => ?_, fun k hk => ?_⟩
  · unfold f_X4_init
    refine (e1 _).trans ?_
    refine (e2 _).trans ?_
    refine (e3 _).trans ?_
    refine (e4 _).trans ?_
    rw [ck_p st.1, st.2.1.2.1, rq_s, f1, cl_s]
  · rw [f2.2.2.2 _ (by omega), p4.1.2.2]; rfl
  · rw [f2.2.2.2 _ (by omega), z1]; rfl
  · rw [f3 k hk]; show (-1 : Int32) = nI 0 + (-1); decide
  · rw [f2.2.2.2 _ (by omega), z3]; rfl
  · rw [f2.2.2.2 _ (by omega), z4]; rfl
theorem i_X2 (hB : 2001 ≤ N) : InS 1 2 (f_X2_init N) := fun h0 => by
  have p0 : Alc h0 2 0 [] [] [] (nwh h0 2 0) := Alc.new
  obtain ⟨h1, e1, p1⟩ := p0.ob (α := Unit × PH) 0 (i_X4 hB) (by decide)
  obtain ⟨h2, e2, p2⟩ := p1.ob (α := Unit × PH) 1 (i_X0 (N := N)) (by decide)
  obtain ⟨h3, e3, p3⟩ := p2.arr (α := Unit × PH) 12 8 2 (by decide)
  obtain ⟨h4, e4, p4⟩ := p3.arr (α := Unit × PH) 12 8 3 (by decide)
  obtain ⟨h5, e5, p5⟩ := p4.arr (α := Unit × PH) 12 8 4 (by decide)
  have s3 := (p5.2.2.2.1 (3, 1) (by decide)).2
  have s0 := (p5.2.2.2.1 (0, 6) (by decide)).2
  refine ⟨h5, ?_, p5.1.1, ⟨p5.1.2.1, ⟨(p5.2.1 (0, 0, 1) (by decide)), (p5.2.1 (0, 1, 6) (by decide)), (p5.2.1 (0, 2, 8) (by decide)), (p5.2.1 (0, 3, 9) (by decide)), (p5.2.1 (0, 4, 10) (by decide))⟩, s3.1, s0.1, ⟨(p5.2.2.1 (8, 12, 8) (by decide)).2.1, (p5.2.2.1 (8, 12, 8) (by decide)).2.2.1⟩, ⟨(p5.2.2.1 (9, 12, 8) (by decide)).2.1, (p5.2.2.1 (9, 12, 8) (by decide)).2.2.1⟩, ⟨(p5.2.2.1 (10, 12, 8) (by decide)).2.1, (p5.2.2.1 (10, 12, 8) (by decide)).2.2.1⟩⟩, s3.2, s0.2, by rw [p5.1.2.2]⟩
  · unfold f_X2_init
    refine (e1 _).trans ?_
    refine (e2 _).trans ?_
    refine (e3 _).trans ?_
    refine (e4 _).trans ?_
    refine (e5 _).trans ?_
    rfl
theorem i_X8 : InS 6 8 (f_X8_init N) := fun h0 => by
  have p0 : Alc h0 8 0 [] [] [] (nwh h0 8 0) := Alc.new
  obtain ⟨h1, e1, p1⟩ := p0.arr (α := Unit × PH) 12 4 0 (by decide)
  obtain ⟨h2, e2, p2⟩ := p1.arr (α := Unit × PH) 12 4 1 (by decide)
  obtain ⟨h3, e3, p3⟩ := p2.arr (α := Unit × PH) 12 4 2 (by decide)
  obtain ⟨h4, e4, p4⟩ := p3.arr (α := Unit × PH) 12 4 3 (by decide)
  obtain ⟨h5, e5, p5⟩ := p4.arr (α := Unit × PH) 12 1000 4 (by decide)
  obtain ⟨h6, e6, p6⟩ := p5.arr (α := Unit × PH) 12 1000 5 (by decide)
  obtain ⟨h7, e7, p7⟩ := p6.arr (α := Unit × PH) 12 7 6 (by decide)
  refine ⟨h7, ?_, p7.1.1, p7.1.2.1, ⟨(p7.2.1 (0, 0, 1) (by decide)), (p7.2.1 (0, 1, 2) (by decide)), (p7.2.1 (0, 2, 3) (by decide)), (p7.2.1 (0, 3, 4) (by decide)), (p7.2.1 (0, 4, 5) (by decide)), (p7.2.1 (0, 5, 6) (by decide)), (p7.2.1 (0, 6, 7) (by decide))⟩, ⟨(p7.2.2.1 (1, 12, 4) (by decide)).2.1, (p7.2.2.1 (1, 12, 4) (by decide)).2.2.1⟩, ⟨(p7.2.2.1 (2, 12, 4) (by decide)).2.1, (p7.2.2.1 (2, 12, 4) (by decide)).2.2.1⟩, ⟨(p7.2.2.1 (3, 12, 4) (by decide)).2.1, (p7.2.2.1 (3, 12, 4) (by decide)).2.2.1⟩, ⟨(p7.2.2.1 (4, 12, 4) (by decide)).2.1, (p7.2.2.1 (4, 12, 4) (by decide)).2.2.1⟩, ⟨(p7.2.2.1 (5, 12, 1000) (by decide)).2.1, (p7.2.2.1 (5, 12, 1000) (by decide)).2.2.1⟩, ⟨(p7.2.2.1 (6, 12, 1000) (by decide)).2.1, (p7.2.2.1 (6, 12, 1000) (by decide)).2.2.1⟩, ⟨(p7.2.2.1 (7, 12, 7) (by decide)).2.1, (p7.2.2.1 (7, 12, 7) (by decide)).2.2.1⟩⟩
  · unfold f_X8_init
    refine (e1 _).trans ?_
    refine (e2 _).trans ?_
    refine (e3 _).trans ?_
    refine (e4 _).trans ?_
    refine (e5 _).trans ?_
    refine (e6 _).trans ?_
    refine (e7 _).trans ?_
    rfl
theorem i_X3 : InS 2 3 (f_X3_init N) := fun h0 => by
  have p0 : Alc h0 3 0 [] [] [] (nwh h0 3 0) := Alc.new
  obtain ⟨h1, e1, p1⟩ := p0.arr (α := Unit × PH) 12 4 0 (by decide)
  obtain ⟨h2, e2, p2⟩ := p1.arr (α := Unit × PH) 12 4 1 (by decide)
  obtain ⟨h3, e3, p3⟩ := p2.arr (α := Unit × PH) 12 4 2 (by decide)
  obtain ⟨h4, e4, p4⟩ := p3.arr (α := Unit × PH) 12 4 3 (by decide)
  obtain ⟨h5, e5, p5⟩ := p4.arr (α := Unit × PH) 12 44 4 (by decide)
  obtain ⟨h6, e6, p6⟩ := p5.arr (α := Unit × PH) 12 44 5 (by decide)
  obtain ⟨h7, e7, p7⟩ := p6.arr (α := Unit × PH) 12 24 6 (by decide)
  obtain ⟨h8, e8, p8⟩ := p7.arr (α := Unit × PH) 12 24 7 (by decide)
  obtain ⟨h9, e9, p9⟩ := p8.arr (α := Unit × PH) 12 1331 8 (by decide)
  refine ⟨h9, ?_, p9.1.1, ⟨p9.1.2.1, ⟨(p9.2.1 (0, 0, 1) (by decide)), (p9.2.1 (0, 1, 2) (by decide)), (p9.2.1 (0, 2, 3) (by decide)), (p9.2.1 (0, 3, 4) (by decide)), (p9.2.1 (0, 4, 5) (by decide)), (p9.2.1 (0, 5, 6) (by decide)), (p9.2.1 (0, 6, 7) (by decide)), (p9.2.1 (0, 7, 8) (by decide)), (p9.2.1 (0, 8, 9) (by decide))⟩, ⟨(p9.2.2.1 (1, 12, 4) (by decide)).2.1, (p9.2.2.1 (1, 12, 4) (by decide)).2.2.1⟩, ⟨(p9.2.2.1 (2, 12, 4) (by decide)).2.1, (p9.2.2.1 (2, 12, 4) (by decide)).2.2.1⟩, ⟨(p9.2.2.1 (3, 12, 4) (by decide)).2.1, (p9.2.2.1 (3, 12, 4) (by decide)).2.2.1⟩, ⟨(p9.2.2.1 (4, 12, 4) (by decide)).2.1, (p9.2.2.1 (4, 12, 4) (by decide)).2.2.1⟩, ⟨(p9.2.2.1 (5, 12, 44) (by decide)).2.1, (p9.2.2.1 (5, 12, 44) (by decide)).2.2.1⟩, ⟨(p9.2.2.1 (6, 12, 44) (by decide)).2.1, (p9.2.2.1 (6, 12, 44) (by decide)).2.2.1⟩, ⟨(p9.2.2.1 (7, 12, 24) (by decide)).2.1, (p9.2.2.1 (7, 12, 24) (by decide)).2.2.1⟩, ⟨(p9.2.2.1 (8, 12, 24) (by decide)).2.1, (p9.2.2.1 (8, 12, 24) (by decide)).2.2.1⟩, ⟨(p9.2.2.1 (9, 12, 1331) (by decide)).2.1, (p9.2.2.1 (9, 12, 1331) (by decide)).2.2.1⟩⟩, (p9.2.2.1 (5, 12, 44) (by decide)).2.2.2, (p9.2.2.1 (6, 12, 44) (by decide)).2.2.2⟩
  · unfold f_X3_init
    refine (e1 _).trans ?_
    refine (e2 _).trans ?_
    refine (e3 _).trans ?_
    refine (e4 _).trans ?_
    refine (e5 _).trans ?_
    refine (e6 _).trans ?_
    refine (e7 _).trans ?_
    refine (e8 _).trans ?_
    refine (e9 _).trans ?_
    rfl
theorem i_X1a : InS 7 1 (fun a h => f_X1_init N a 1 h) := fun h0 => by
  have p0 : Alc h0 1 0 [] [] [] (nwh h0 1 0) := Alc.new
  obtain ⟨h1, e1, p1⟩ := p0.arr (α := Unit × PH) 12 1000 1 (by decide)
  obtain ⟨h2, e2, p2⟩ := p1.arr (α := Unit × PH) 12 32 2 (by decide)
  have x1 : Ex (fun z => z = hz h0) h2 (sI h2 (hz h0) 0 1) := Ex.sI rfl
  refine ⟨sI h2 (hz h0) 0 1, ?_, Gr.ex p2.1.1 x1 (Nat.le_refl _), p2.1.2.1, ⟨(p2.2.1 (0, 1, 1) (by decide)), (p2.2.1 (0, 2, 2) (by decide))⟩, ⟨(p2.2.2.1 (1, 12, 1000) (by decide)).2.1, (p2.2.2.1 (1, 12, 1000) (by decide)).2.2.1⟩, ⟨(p2.2.2.1 (2, 12, 32) (by decide)).2.1, (p2.2.2.1 (2, 12, 32) (by decide)).2.2.1⟩, ?_, ?_⟩
  · show f_X1_init N (hz h0) 1 (nwh h0 1 0) = _
    unfold f_X1_init
    refine (e1 _).trans ?_
    refine (e2 _).trans ?_
    rw [ck_p p2.1.2.1, ck_p (by decide), bd_e]
  · rw [hI_sI_eq, va_eq]
  · rw [hI_sI_eq, va_ne (by decide), p2.1.2.2]
theorem i_X1b : InS 8 1 (fun a h => f_X1_init N a 0 h) := fun h0 => by
  have p0 : Alc h0 1 0 [] [] [] (nwh h0 1 0) := Alc.new
  obtain ⟨h1, e1, p1⟩ := p0.arr (α := Unit × PH) 12 1000 1 (by decide)
  obtain ⟨h2, e2, p2⟩ := p1.arr (α := Unit × PH) 12 32 2 (by decide)
  have x1 : Ex (fun z => z = hz h0) h2 (sI h2 (hz h0) 0 0) := Ex.sI rfl
  refine ⟨sI h2 (hz h0) 0 0, ?_, Gr.ex p2.1.1 x1 (Nat.le_refl _), p2.1.2.1, ⟨(p2.2.1 (0, 1, 1) (by decide)), (p2.2.1 (0, 2, 2) (by decide))⟩, ⟨(p2.2.2.1 (1, 12, 1000) (by decide)).2.1, (p2.2.2.1 (1, 12, 1000) (by decide)).2.2.1⟩, ⟨(p2.2.2.1 (2, 12, 32) (by decide)).2.1, (p2.2.2.1 (2, 12, 32) (by decide)).2.2.1⟩, ?_, ?_⟩
  · show f_X1_init N (hz h0) 0 (nwh h0 1 0) = _
    unfold f_X1_init
    refine (e1 _).trans ?_
    refine (e2 _).trans ?_
    rw [ck_p p2.1.2.1, ck_p (by decide), bd_e]
  · rw [hI_sI_eq, va_eq]
  · rw [hI_sI_eq, va_ne (by decide), p2.1.2.2]
theorem i_X6 : InS 5 6 (f_X6_init N) := fun h0 => by
  have p0 : Alc h0 6 0 [] [] [] (nwh h0 6 0) := Alc.new
  obtain ⟨h1, e1, p1⟩ := p0.arr (α := Unit × PH) 12 5 0 (by decide)
  obtain ⟨h2, e2, p2⟩ := p1.arr (α := Unit × PH) 14 30 1 (by decide)
  obtain ⟨h3, e3, p3⟩ := p2.arr (α := Unit × PH) 12 5 2 (by decide)
  obtain ⟨h4, e4, p4⟩ := p3.arr (α := Unit × PH) 12 5 3 (by decide)
  obtain ⟨h5, e5, p5⟩ := p4.arr (α := Unit × PH) 12 5 4 (by decide)
  obtain ⟨h6, e6, p6⟩ := p5.arr (α := Unit × PH) 12 4 5 (by decide)
  obtain ⟨h7, e7, p7⟩ := p6.arr (α := Unit × PH) 12 20 6 (by decide)
  obtain ⟨h8, e8, p8⟩ := p7.arr (α := Unit × PH) 12 24 8 (by decide)
  obtain ⟨h9, e9, p9⟩ := p8.arr (α := Unit × PH) 12 4 9 (by decide)
  obtain ⟨h10, e10, p10⟩ := p9.arr (α := Unit × PH) 12 12 10 (by decide)
  obtain ⟨h11, e11, p11⟩ := p10.ob (α := Unit × PH) 12 (i_X1a (N := N)) (by decide)
  obtain ⟨h12, e12, p12⟩ := p11.ob (α := Unit × PH) 13 (i_X1b (N := N)) (by decide)
  obtain ⟨h13, e13, p13⟩ := p12.arr (α := Unit × PH) 12 1000 14 (by decide)
  have w1 : LWs h13 (hz h0 + 11) 1 := (p13.2.2.2.1 (7, 11) (by decide)).2
  have w2 : LWs h13 (hz h0 + 14) 0 := (p13.2.2.2.1 (8, 14) (by decide)).2
  have vl : VL h13 (hz h0) := ⟨p13.1.2.1, ⟨(p13.2.1 (0, 0, 1) (by decide)), (p13.2.1 (0, 1, 2) (by decide)), (p13.2.1 (0, 2, 3) (by decide)), (p13.2.1 (0, 3, 4) (by decide)), (p13.2.1 (0, 4, 5) (by decide)), (p13.2.1 (0, 5, 6) (by decide)), (p13.2.1 (0, 6, 7) (by decide)), (p13.2.1 (0, 8, 8) (by decide)), (p13.2.1 (0, 9, 9) (by decide)), (p13.2.1 (0, 10, 10) (by decide)), (p13.2.1 (0, 12, 11) (by decide)), (p13.2.1 (0, 13, 14) (by decide)), (p13.2.1 (0, 14, 17) (by decide))⟩, ⟨⟨(p13.2.2.1 (1, 12, 5) (by decide)).2.1, (p13.2.2.1 (1, 12, 5) (by decide)).2.2.1⟩, ⟨(p13.2.2.1 (2, 14, 30) (by decide)).2.1, (p13.2.2.1 (2, 14, 30) (by decide)).2.2.1⟩, ⟨(p13.2.2.1 (3, 12, 5) (by decide)).2.1, (p13.2.2.1 (3, 12, 5) (by decide)).2.2.1⟩, ⟨(p13.2.2.1 (4, 12, 5) (by decide)).2.1, (p13.2.2.1 (4, 12, 5) (by decide)).2.2.1⟩, ⟨(p13.2.2.1 (5, 12, 5) (by decide)).2.1, (p13.2.2.1 (5, 12, 5) (by decide)).2.2.1⟩, ⟨(p13.2.2.1 (6, 12, 4) (by decide)).2.1, (p13.2.2.1 (6, 12, 4) (by decide)).2.2.1⟩, ⟨(p13.2.2.1 (7, 12, 20) (by decide)).2.1, (p13.2.2.1 (7, 12, 20) (by decide)).2.2.1⟩, ⟨(p13.2.2.1 (8, 12, 24) (by decide)).2.1, (p13.2.2.1 (8, 12, 24) (by decide)).2.2.1⟩, ⟨(p13.2.2.1 (9, 12, 4) (by decide)).2.1, (p13.2.2.1 (9, 12, 4) (by decide)).2.2.1⟩, ⟨(p13.2.2.1 (10, 12, 12) (by decide)).2.1, (p13.2.2.1 (10, 12, 12) (by decide)).2.2.1⟩, ⟨(p13.2.2.1 (17, 12, 1000) (by decide)).2.1, (p13.2.2.1 (17, 12, 1000) (by decide)).2.2.1⟩⟩, ⟨w1.1, w1.2.1.1, w1.2.1.2, w1.2.2.1, w1.2.2.2.1⟩, ⟨w2.1, w2.2.1.1, w2.2.1.2, w2.2.2.1, w2.2.2.2.1⟩⟩
  have z1 : hI h13 (hz h0 + 1) = fun _ => 0 := (p13.2.2.1 (1, 12, 5) (by decide)).2.2.2
  have z2 : hI h13 (hz h0 + 2) = fun _ => 0 := (p13.2.2.1 (2, 14, 30) (by decide)).2.2.2
  have z3 : hI h13 (hz h0 + 3) = fun _ => 0 := (p13.2.2.1 (3, 12, 5) (by decide)).2.2.2
  have z4 : hI h13 (hz h0 + 4) = fun _ => 0 := (p13.2.2.1 (4, 12, 5) (by decide)).2.2.2
  have z5 : hI h13 (hz h0 + 5) = fun _ => 0 := (p13.2.2.1 (5, 12, 5) (by decide)).2.2.2
  have z6 : hI h13 (hz h0 + 6) = fun _ => 0 := (p13.2.2.1 (6, 12, 4) (by decide)).2.2.2
  have z7 : hI h13 (hz h0 + 7) = fun _ => 0 := (p13.2.2.1 (7, 12, 20) (by decide)).2.2.2
  have z8 : hI h13 (hz h0 + 8) = fun _ => 0 := (p13.2.2.1 (8, 12, 24) (by decide)).2.2.2
  have z9 : hI h13 (hz h0 + 9) = fun _ => 0 := (p13.2.2.1 (9, 12, 4) (by decide)).2.2.2
  have z10 : hI h13 (hz h0 + 10) = fun _ => 0 := (p13.2.2.1 (10, 12, 12) (by decide)).2.2.2
  refine ⟨h13, ?_, p13.1.1, vl, fun k hk => ?_, ⟨w1.2.2.2.2.1, w1.2.2.2.2.2⟩, w2.2.2.2.2.1, w2.2.2.2.2.2⟩
  · unfold f_X6_init
    refine (e1 _).trans ?_
    refine (e2 _).trans ?_
    refine (e3 _).trans ?_
    refine (e4 _).trans ?_
    refine (e5 _).trans ?_
    refine (e6 _).trans ?_
    refine (e7 _).trans ?_
    refine (e8 _).trans ?_
    refine (e9 _).trans ?_
    refine (e10 _).trans ?_
    refine (e11 _).trans ?_
    refine (e12 _).trans ?_
    refine (e13 _).trans ?_
    rfl
  · rcases (show k = 0 ∨ k = 1 ∨ k = 2 ∨ k = 3 ∨ k = 4 ∨ k = 5 ∨ k = 6 ∨ k = 7 ∨ k = 8 ∨ k = 9 ∨ k = 10 by omega) with rfl | rfl | rfl | rfl | rfl | rfl | rfl | rfl | rfl | rfl | rfl
    · exact p13.1.2.2
    · exact z1
    · exact z2
    · exact z3
    · exact z4
    · exact z5
    · exact z6
    · exact z7
    · exact z8
    · exact z9
    · exact z10
/-- a new object of the class -/
def NewX (h : PH) (x : Nat) : Prop := OB h x (x + 43) (x + 61) ∧ (hI h x = fun _ => 0) ∧ hI h (x + 1) 1 = 0 ∧ CS h (x + 3 + 1) S0 ∧ hI h (x + 3 + 6) 1 = 0 ∧ hI h (x + 3) 5 = 0 ∧ OT 5 h (x + 43) ∧ OT 5 h (x + 61) ∧ Z11 h x
theorem i_X10 (hB : 2001 ≤ N) : ∀ h0, ∃ h', f_X10_init N (hz h0) (nwh h0 9 0) = some ((), h') ∧ Gr 203 h0 h' ∧ NewX h' (hz h0) := fun h0 => by
  have p0 : Alc h0 9 0 [] [] [] (nwh h0 9 0) := Alc.new
  obtain ⟨h1, e1, p1⟩ := p0.ob (α := Unit × PH) 0 (i_X5 (N := N)) (by decide)
  obtain ⟨h2, e2, p2⟩ := p1.ob (α := Unit × PH) 1 (i_X2 hB) (by decide)
  obtain ⟨h3, e3, p3⟩ := p2.arr (α := Unit × PH) 15 4 2 (by decide)
  obtain ⟨h4, e4, p4⟩ := p3.arr (α := Unit × PH) 16 16 3 (by decide)
  obtain ⟨h5, e5, p5⟩ := p4.ob (α := Unit × PH) 4 (i_X4 hB) (by decide)
  obtain ⟨h6, e6, p6⟩ := p5.ob (α := Unit × PH) 5 (i_X0 (N := N)) (by decide)
  obtain ⟨h7, e7, p7⟩ := p6.ob (α := Unit × PH) 6 (i_X8 (N := N)) (by decide)
  obtain ⟨h8, e8, p8⟩ := p7.ob (α := Unit × PH) 7 (i_X3 (N := N)) (by decide)
  obtain ⟨h9, e9, p9⟩ := p8.arr (α := Unit × PH) 12 3 8 (by decide)
  obtain ⟨h10, e10, p10⟩ := p9.arr (α := Unit × PH) 12 9 9 (by decide)
  obtain ⟨h11, e11, p11⟩ := p10.ob (α := Unit × PH) 10 (i_X6 (N := N)) (by decide)
  obtain ⟨h12, e12, p12⟩ := p11.ob (α := Unit × PH) 11 (i_X6 (N := N)) (by decide)
  obtain ⟨h13, e13, p13⟩ := p12.el (α := Unit × PH) 2 14 0 15 4 (i_X2 hB) (fun _ _ w => w.1.1) (by decide) (by decide) (by decide) (by decide) (by decide)
  obtain ⟨h14, e14, p14⟩ := p13.el (α := Unit × PH) 2 14 1 15 4 (i_X2 hB) (fun _ _ w => w.1.1) (by decide) (by decide) (by decide) (by decide) (by decide)
  obtain ⟨h15, e15, p15⟩ := p14.el (α := Unit × PH) 2 14 2 15 4 (i_X2 hB) (fun _ _ w => w.1.1) (by decide) (by decide) (by decide) (by decide) (by decide)
  obtain ⟨h16, e16, p16⟩ := p15.el (α := Unit × PH) 2 14 3 15 4 (i_X2 hB) (fun _ _ w => w.1.1) (by decide) (by decide) (by decide) (by decide) (by decide)
  obtain ⟨h17, e17, p17⟩ := p16.el (α := Unit × PH) 3 15 0 16 16 (i_X4 hB) (fun _ _ w => w.1.1) (by decide) (by decide) (by decide) (by decide) (by decide)
  obtain ⟨h18, e18, p18⟩ := p17.el (α := Unit × PH) 3 15 1 16 16 (i_X4 hB) (fun _ _ w => w.1.1) (by decide) (by decide) (by decide) (by decide) (by decide)
  obtain ⟨h19, e19, p19⟩ := p18.el (α := Unit × PH) 3 15 2 16 16 (i_X4 hB) (fun _ _ w => w.1.1) (by decide) (by decide) (by decide) (by decide) (by decide)
  obtain ⟨h20, e20, p20⟩ := p19.el (α := Unit × PH) 3 15 3 16 16 (i_X4 hB) (fun _ _ w => w.1.1) (by decide) (by decide) (by decide) (by decide) (by decide)
  obtain ⟨h21, e21, p21⟩ := p20.el (α := Unit × PH) 3 15 4 16 16 (i_X4 hB) (fun _ _ w => w.1.1) (by decide) (by decide) (by decide) (by decide) (by decide)
  obtain ⟨h22, e22, p22⟩ := p21.el (α := Unit × PH) 3 15 5 16 16 (i_X4 hB) (fun _ _ w => w.1.1) (by decide) (by decide) (by decide) (by decide) (by decide)
  obtain ⟨h23, e23, p23⟩ := p22.el (α := Unit × PH) 3 15 6 16 16 (i_X4 hB) (fun _ _ w => w.1.1) (by decide) (by decide) (by decide) (by decide) (by decide)
  obtain ⟨h24, e24, p24⟩ := p23.el (α := Unit × PH) 3 15 7 16 16 (i_X4 hB) (fun _ _ w => w.1.1) (by decide) (by decide) (by decide) (by decide) (by decide)
  obtain ⟨h25, e25, p25⟩ := p24.el (α := Unit × PH) 3 15 8 16 16 (i_X4 hB) (fun _ _ w => w.1.1) (by decide) (by decide) (by decide) (by decide) (by decide)
  obtain ⟨h26, e26, p26⟩ := p25.el (α := Unit × PH) 3 15 9 16 16 (i_X4 hB) (fun _ _ w => w.1.1) (by decide) (by decide) (by decide) (by decide) (by decide)
  obtain ⟨h27, e27, p27⟩ := p26.el (α := Unit × PH) 3 15 10 16 16 (i_X4 hB) (fun _ _ w => w.1.1) (by decide) (by decide) (by decide) (by decide) (by decide)
  obtain ⟨h28, e28, p28⟩ := p27.el (α := Unit × PH) 3 15 11 16 16 (i_X4 hB) (fun _ _ w => w.1.1) (by decide) (by decide) (by decide) (by decide) (by decide)
  obtain ⟨h29, e29, p29⟩ := p28.el (α := Unit × PH) 3 15 12 16 16 (i_X4 hB) (fun _ _ w => w.1.1) (by decide) (by decide) (by decide) (by decide) (by decide)
  obtain ⟨h30, e30, p30⟩ := p29.el (α := Unit × PH) 3 15 13 16 16 (i_X4 hB) (fun _ _ w => w.1.1) (by decide) (by decide) (by decide) (by decide) (by decide)
  obtain ⟨h31, e31, p31⟩ := p30.el (α := Unit × PH) 3 15 14 16 16 (i_X4 hB) (fun _ _ w => w.1.1) (by decide) (by decide) (by decide) (by decide) (by decide)
  obtain ⟨h32, e32, p32⟩ := p31.el (α := Unit × PH) 3 15 15 16 16 (i_X4 hB) (fun _ _ w => w.1.1) (by decide) (by decide) (by decide) (by decide) (by decide)
  have m15 : hK h32 (hz h0 + 14) = 15 ∧ hN h32 (hz h0 + 14) = 4 := ⟨(p32.2.2.1 (14, 15, 4) (by decide)).2.1, (p32.2.2.1 (14, 15, 4) (by decide)).2.2.1⟩
  have m16 : hK h32 (hz h0 + 15) = 16 ∧ hN h32 (hz h0 + 15) = 16 := ⟨(p32.2.2.1 (15, 16, 16) (by decide)).2.1, (p32.2.2.1 (15, 16, 16) (by decide)).2.2.1⟩
  have tp := (p32.2.2.2.1 (4, 1) (by decide)).2
  have mt := (p32.2.2.2.1 (1, 3) (by decide)).2
  have v1 := (p32.2.2.2.1 (5, 43) (by decide)).2
  have v2 := (p32.2.2.2.1 (5, 61) (by decide)).2
  have sp := (p32.2.2.2.1 (2, 31) (by decide)).2
  refine ⟨h32, ?_, p32.1.1, ⟨Or.inl ⟨rfl, rfl⟩, ?_, p32.1.2.1, ⟨(p32.2.1 (0, 0, 1) (by decide)), (p32.2.1 (0, 1, 3) (by decide)), (p32.2.1 (0, 2, 14) (by decide)), (p32.2.1 (0, 3, 15) (by decide)), (p32.2.1 (0, 4, 16) (by decide)), (p32.2.1 (0, 5, 21) (by decide)), (p32.2.1 (0, 6, 23) (by decide)), (p32.2.1 (0, 7, 31) (by decide)), (p32.2.1 (0, 10, 43) (by decide)), (p32.2.1 (0, 11, 61) (by decide))⟩, tp.1, mt.1, ⟨m15, fun i hi => ?_⟩, ⟨m16, fun i hi => ?_⟩, ((p32.2.2.2.1 (3, 16) (by decide)).2).1, ((p32.2.2.2.1 (0, 21) (by decide)).2).1, (p32.2.2.2.1 (6, 23) (by decide)).2, sp.1, v1.1, v2.1, ⟨(p32.2.1 (0, 8, 41) (by decide)), (p32.2.1 (0, 9, 42) (by decide))⟩, ⟨(p32.2.2.1 (41, 12, 3) (by decide)).2.1, (p32.2.2.1 (41, 12, 3) (by decide)).2.2.1⟩, ⟨(p32.2.2.1 (42, 12, 9) (by decide)).2.1, (p32.2.2.1 (42, 12, 9) (by decide)).2.2.1⟩⟩, p32.1.2.2, tp.2, mt.2.1, mt.2.2.1, mt.2.2.2, v1, v2, fun k hk => ⟨?_, ?_⟩⟩
  · unfold f_X10_init
    refine (e1 _).trans ?_
    refine (e2 _).trans ?_
    refine (e3 _).trans ?_
    refine (e4 _).trans ?_
    refine (e5 _).trans ?_
    refine (e6 _).trans ?_
    refine (e7 _).trans ?_
    refine (e8 _).trans ?_
    refine (e9 _).trans ?_
    refine (e10 _).trans ?_
    refine (e11 _).trans ?_
    refine (e12 _).trans ?_
    refine (e13 _).trans ?_
    refine (e14 _).trans ?_
    refine (e15 _).trans ?_
    refine (e16 _).trans ?_
    refine (e17 _).trans ?_
    refine (e18 _).trans ?_
    refine (e19 _).trans ?_
    refine (e20 _).trans ?_
    refine (e21 _).trans ?_
    refine (e22 _).trans ?_
    refine (e23 _).trans ?_
    refine (e24 _).trans ?_
    refine (e25 _).trans ?_
    refine (e26 _).trans ?_
    refine (e27 _).trans ?_
    refine (e28 _).trans ?_
    refine (e29 _).trans ?_
    refine (e30 _).trans ?_
    refine (e31 _).trans ?_
    refine (e32 _).trans ?_
    rfl
  · rw [p32.1.1.1.1]; exact Nat.le_refl _
  · rcases (show i = 0 ∨ i = 1 ∨ i = 2 ∨ i = 3 by omega) with rfl | rfl | rfl | rfl
    · exact ⟨(p32.2.1 (14, 0, 79) (by decide)), ((p32.2.2.2.1 (1, 79) (by decide)).2).1⟩
    · exact ⟨(p32.2.1 (14, 1, 90) (by decide)), ((p32.2.2.2.1 (1, 90) (by decide)).2).1⟩
    · exact ⟨(p32.2.1 (14, 2, 101) (by decide)), ((p32.2.2.2.1 (1, 101) (by decide)).2).1⟩
    · exact ⟨(p32.2.1 (14, 3, 112) (by decide)), ((p32.2.2.2.1 (1, 112) (by decide)).2).1⟩
  · rcases (show i = 0 ∨ i = 1 ∨ i = 2 ∨ i = 3 ∨ i = 4 ∨ i = 5 ∨ i = 6 ∨ i = 7 ∨ i = 8 ∨ i = 9 ∨ i = 10 ∨ i = 11 ∨ i = 12 ∨ i = 13 ∨ i = 14 ∨ i = 15 by omega) with rfl | rfl | rfl | rfl | rfl | rfl | rfl | rfl | rfl | rfl | rfl | rfl | rfl | rfl | rfl | rfl
    · exact ⟨(p32.2.1 (15, 0, 123) (by decide)), ((p32.2.2.2.1 (3, 123) (by decide)).2).1⟩
    · exact ⟨(p32.2.1 (15, 1, 128) (by decide)), ((p32.2.2.2.1 (3, 128) (by decide)).2).1⟩
    · exact ⟨(p32.2.1 (15, 2, 133) (by decide)), ((p32.2.2.2.1 (3, 133) (by decide)).2).1⟩
    · exact ⟨(p32.2.1 (15, 3, 138) (by decide)), ((p32.2.2.2.1 (3, 138) (by decide)).2).1⟩
    · exact ⟨(p32.2.1 (15, 4, 143) (by decide)), ((p32.2.2.2.1 (3, 143) (by decide)).2).1⟩
    · exact ⟨(p32.2.1 (15, 5, 148) (by decide)), ((p32.2.2.2.1 (3, 148) (by decide)).2).1⟩
    · exact ⟨(p32.2.1 (15, 6, 153) (by decide)), ((p32.2.2.2.1 (3, 153) (by decide)).2).1⟩
    · exact ⟨(p32.2.1 (15, 7, 158) (by decide)), ((p32.2.2.2.1 (3, 158) (by decide)).2).1⟩
    · exact ⟨(p32.2.1 (15, 8, 163) (by decide)), ((p32.2.2.2.1 (3, 163) (by decide)).2).1⟩
    · exact ⟨(p32.2.1 (15, 9, 168) (by decide)), ((p32.2.2.2.1 (3, 168) (by decide)).2).1⟩
    · exact ⟨(p32.2.1 (15, 10, 173) (by decide)), ((p32.2.2.2.1 (3, 173) (by decide)).2).1⟩
    · exact ⟨(p32.2.1 (15, 11, 178) (by decide)), ((p32.2.2.2.1 (3, 178) (by decide)).2).1⟩
    · exact ⟨(p32.2.1 (15, 12, 183) (by decide)), ((p32.2.2.2.1 (3, 183) (by decide)).2).1⟩
    · exact ⟨(p32.2.1 (15, 13, 188) (by decide)), ((p32.2.2.2.1 (3, 188) (by decide)).2).1⟩
    · exact ⟨(p32.2.1 (15, 14, 193) (by decide)), ((p32.2.2.2.1 (3, 193) (by decide)).2).1⟩
    · exact ⟨(p32.2.1 (15, 15, 198) (by decide)), ((p32.2.2.2.1 (3, 198) (by decide)).2).1⟩
  · exact congrFun sp.2.1 (11 * k)
  · exact congrFun sp.2.2 (11 * k)
end CTR
