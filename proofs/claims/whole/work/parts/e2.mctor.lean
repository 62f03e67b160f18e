/-! The reference's constructor. -/
section CTM
variable {N : Nat}
/-- a new object of the reference -/
def NewM (N : Nat) (h : PH) (y : Nat) : Prop := MA N h y A0 ∧ RS (hI h (y + 37)) 0 S0 ∧ (hI h y = fun _ => 0) ∧ (hI h (y + 27) = fun _ => 0) ∧ (hI h (y + 33) = fun _ => 0) ∧ hI h (y + 41) = fun _ => 0
theorem i_X11 (hB : 2001 ≤ N) : ∀ h0, ∃ h', f_X11_init N (hz h0) (nwh h0 10 0) = some ((), h') ∧ Gr 48 h0 h' ∧ NewM N h' (hz h0) := fun h0 => by
  have p0 : Alc h0 10 0 [] [] [] (nwh h0 10 0) := Alc.new
  obtain ⟨h1, e1, p1⟩ := p0.arr (α := Unit × PH) 12 1000 2 (by decide)
  obtain ⟨h2, e2, p2⟩ := p1.arr (α := Unit × PH) 12 12 10 (by decide)
  obtain ⟨h3, e3, p3⟩ := p2.arr (α := Unit × PH) 14 44 11 (by decide)
  obtain ⟨h4, e4, p4⟩ := p3.arr (α := Unit × PH) 12 10 12 (by decide)
  obtain ⟨h5, e5, p5⟩ := p4.arr (α := Unit × PH) 12 10 13 (by decide)
  obtain ⟨h6, e6, p6⟩ := p5.arr (α := Unit × PH) 12 10 14 (by decide)
  obtain ⟨h7, e7, p7⟩ := p6.arr (α := Unit × PH) 12 8 15 (by decide)
  obtain ⟨h8, e8, p8⟩ := p7.arr (α := Unit × PH) 12 40 16 (by decide)
  obtain ⟨h9, e9, p9⟩ := p8.arr (α := Unit × PH) 12 48 17 (by decide)
  obtain ⟨h10, e10, p10⟩ := p9.arr (α := Unit × PH) 12 8 18 (by decide)
  obtain ⟨h11, e11, p11⟩ := p10.arr (α := Unit × PH) 12 24 19 (by decide)
  obtain ⟨h12, e12, p12⟩ := p11.arr (α := Unit × PH) 12 4 20 (by decide)
  obtain ⟨h13, e13, p13⟩ := p12.arr (α := Unit × PH) 12 4 21 (by decide)
  obtain ⟨h14, e14, p14⟩ := p13.arr (α := Unit × PH) 12 2000 22 (by decide)
  obtain ⟨h15, e15, p15⟩ := p14.arr (α := Unit × PH) 12 7 25 (by decide)
  obtain ⟨h16, e16, p16⟩ := p15.arr (α := Unit × PH) 13 7 26 (by decide)
  obtain ⟨h17, e17, p17⟩ := p16.arr (α := Unit × PH) 12 7 27 (by decide)
  obtain ⟨h18, e18, p18⟩ := p17.arr (α := Unit × PH) 12 7 28 (by decide)
  obtain ⟨h19, e19, p19⟩ := p18.arr (α := Unit × PH) 12 7 29 (by decide)
  obtain ⟨h20, e20, p20⟩ := p19.arr (α := Unit × PH) 12 7 30 (by decide)
  obtain ⟨h21, e21, p21⟩ := p20.arr (α := Unit × PH) 12 7 31 (by decide)
  obtain ⟨h22, e22, p22⟩ := p21.arr (α := Unit × PH) 12 7 32 (by decide)
  obtain ⟨h23, e23, p23⟩ := p22.arr (α := Unit × PH) 12 7 33 (by decide)
  obtain ⟨h24, e24, p24⟩ := p23.arr (α := Unit × PH) 12 7 34 (by decide)
  obtain ⟨h25, e25, p25⟩ := p24.arr (α := Unit × PH) 12 7 35 (by decide)
  obtain ⟨h26, e26, p26⟩ := p25.arr (α := Unit × PH) 12 20 36 (by decide)
  obtain ⟨h27, e27, p27⟩ := p26.arr (α := Unit × PH) 12 6 39 (by decide)
  obtain ⟨h28, e28, p28⟩ := p27.arr (α := Unit × PH) 12 240 40 (by decide)
  obtain ⟨h29, e29, p29⟩ := p28.arr (α := Unit × PH) 12 240 41 (by decide)
  obtain ⟨h30, e30, p30⟩ := p29.arr (α := Unit × PH) 12 240 42 (by decide)
  obtain ⟨h31, e31, p31⟩ := p30.arr (α := Unit × PH) 12 240 43 (by decide)
  obtain ⟨h32, e32, p32⟩ := p31.arr (α := Unit × PH) 12 240 44 (by decide)
  obtain ⟨h33, e33, p33⟩ := p32.arr (α := Unit × PH) 12 5 45 (by decide)
  obtain ⟨h34, e34, p34⟩ := p33.arr (α := Unit × PH) 12 40 46 (by decide)
  obtain ⟨h35, e35, p35⟩ := p34.arr (α := Unit × PH) 12 40 47 (by decide)
  obtain ⟨h36, e36, p36⟩ := p35.arr (α := Unit × PH) 12 40 48 (by decide)
  obtain ⟨h37, e37, p37⟩ := p36.arr (α := Unit × PH) 12 32 49 (by decide)
  obtain ⟨h38, e38, p38⟩ := p37.arr (α := Unit × PH) 12 32 50 (by decide)
  obtain ⟨h39, e39, p39⟩ := p38.arr (α := Unit × PH) 12 128 51 (by decide)
  obtain ⟨h40, e40, p40⟩ := p39.arr (α := Unit × PH) 12 512 52 (by decide)
  obtain ⟨h41, e41, p41⟩ := p40.arr (α := Unit × PH) 13 4 53 (by decide)
  obtain ⟨h42, e42, p42⟩ := p41.arr (α := Unit × PH) 12 4 57 (by decide)
  obtain ⟨h43, e43, p43⟩ := p42.arr (α := Unit × PH) 12 4 58 (by decide)
  obtain ⟨h44, e44, p44⟩ := p43.arr (α := Unit × PH) 12 4 59 (by decide)
  obtain ⟨h45, e45, p45⟩ := p44.arr (α := Unit × PH) 12 32 60 (by decide)
  obtain ⟨h46, e46, p46⟩ := p45.arr (α := Unit × PH) 12 4 63 (by decide)
  obtain ⟨h47, e47, p47⟩ := p46.arr (α := Unit × PH) 12 1001 64 (by decide)
  obtain ⟨⟨q1, q2, q3⟩, q4, q5, -, -⟩ := p47
  have ml : ∀ q ∈ mdT, (0, q.1, q.2.1) ∈ [(0, 64, 47), (0, 63, 46), (0, 60, 45), (0, 59, 44), (0, 58, 43), (0, 57, 42), (0, 53, 41), (0, 52, 40), (0, 51, 39), (0, 50, 38), (0, 49, 37), (0, 48, 36), (0, 47, 35), (0, 46, 34), (0, 45, 33), (0, 44, 32), (0, 43, 31), (0, 42, 30), (0, 41, 29), (0, 40, 28), (0, 39, 27), (0, 36, 26), (0, 35, 25), (0, 34, 24), (0, 33, 23), (0, 32, 22), (0, 31, 21), (0, 30, 20), (0, 29, 19), (0, 28, 18), (0, 27, 17), (0, 26, 16), (0, 25, 15), (0, 22, 14), (0, 21, 13), (0, 20, 12), (0, 19, 11), (0, 18, 10), (0, 17, 9), (0, 16, 8), (0, 15, 7), (0, 14, 6), (0, 13, 5), (0, 12, 4), (0, 11, 3), (0, 10, 2), (0, 2, 1)] ∧ (q.2.1, q.2.2.1, q.2.2.2) ∈ [(47, 12, 1001), (46, 12, 4), (45, 12, 32), (44, 12, 4), (43, 12, 4), (42, 12, 4), (41, 13, 4), (40, 12, 512), (39, 12, 128), (38, 12, 32), (37, 12, 32), (36, 12, 40), (35, 12, 40), (34, 12, 40), (33, 12, 5), (32, 12, 240), (31, 12, 240), (30, 12, 240), (29, 12, 240), (28, 12, 240), (27, 12, 6), (26, 12, 20), (25, 12, 7), (24, 12, 7), (23, 12, 7), (22, 12, 7), (21, 12, 7), (20, 12, 7), (19, 12, 7), (18, 12, 7), (17, 12, 7), (16, 13, 7), (15, 12, 7), (14, 12, 2000), (13, 12, 4), (12, 12, 4), (11, 12, 24), (10, 12, 8), (9, 12, 48), (8, 12, 40), (7, 12, 8), (6, 12, 10), (5, 12, 10), (4, 12, 10), (3, 14, 44), (2, 12, 12), (1, 12, 1000)] := by decide +kernel
  have M : MD h47 (hz h0) := ⟨q2, fun q hq => by
    obtain ⟨l1, l2⟩ := ml q hq
    exact ⟨q4 _ l1, (q5 _ l2).2.1, (q5 _ l2).2.2.1⟩⟩
  have z2 : hI h47 (hz h0 + 2) = fun _ => 0 := (q5 (2, 12, 12) (by decide)).2.2.2
  have z12 : hI h47 (hz h0 + 12) = fun _ => 0 := (q5 (12, 12, 4) (by decide)).2.2.2
  have z13 : hI h47 (hz h0 + 13) = fun _ => 0 := (q5 (13, 12, 4) (by decide)).2.2.2
  have z27 : hI h47 (hz h0 + 27) = fun _ => 0 := (q5 (27, 12, 6) (by decide)).2.2.2
  have z33 : hI h47 (hz h0 + 33) = fun _ => 0 := (q5 (33, 12, 5) (by decide)).2.2.2
  have z41 : hI h47 (hz h0 + 41) = fun _ => 0 := (q5 (41, 13, 4) (by decide)).2.2.2
  have mv : MV h47 (hz h0) A0 := ⟨fun k hk => by rw [z2]; rfl, fun k hk => absurd hk (Nat.not_lt_zero k), fun k hk => absurd hk (Nat.not_lt_zero k), fun i f hi _ => absurd hi (Nat.not_lt_zero i), fun k hk => absurd hk (Nat.not_lt_zero k), fun k hk => absurd hk (Nat.not_lt_zero k), fun k hk => absurd hk (Nat.not_lt_zero k)⟩
  obtain ⟨g, f1, f2, f3⟩ := m_fresh (N := N) (by omega) A0_W M mv
  have ma : MA N h47 (hz h0) A0 := ⟨M, mv, A0_W, 0, 0, 0, 0, fun _ _ _ _ _ => 0, fun _ _ _ _ _ => 0, ⟨by decide, by decide, by decide, by decide⟩, by rw [z12]; rfl, by rw [z13]; rfl, by rw [z12]; rfl, by rw [z13]; rfl, fun w => absurd w (Nat.lt_irrefl 0), fun w => absurd w (Nat.lt_irrefl 0), fun f l w b hf _ _ _ => absurd hf (Nat.not_lt_zero f), fun d s w x4 x5 _ _ _ => congrArg clp ((if_pos rfl).trans (if_pos (Nat.le_refl 0)).symm)⟩
  refine ⟨g, ?_, Gr.ex q1 f2 (by omega), ma.ex f2 (fun z z1 z2 => by omega), f3, ?_, ?_, ?_, ?_⟩
  · unfold f_X11_init
    refine (e1 _).trans ?_
    refine (e2 _).trans ?_
    refine (e3 _).trans ?_
    refine (e4 _).trans ?_
    refine (e5 _).trans ?_
    refine (e6 _).trans ?_
    refine (e7 _).trans ?_
    refine (e8 _).trans ?_
    refine (e9 _).trans ?_
    refine (e10 _).trans ?_
    refine (e11 _).trans ?_
    refine (e12 _).trans ?_
    refine (e13 _).trans ?_
    refine (e14 _).trans ?_
    refine (e15 _).trans ?_
    refine (e16 _).trans ?_
    refine (e17 _).trans ?_
    refine (e18 _).trans ?_
    refine (e19 _).trans ?_
    refine (e20 _).trans ?_
    refine (e21 _).trans ?_
    refine (e22 _).trans ?_
    refine (e23 _).trans ?_
    refine (e24 _).trans ?_
    refine (e25 _).trans ?_
    refine (e26 _).trans ?_
    refine (e27 _).trans ?_
    refine (e28 _).trans ?_
    refine (e29 _).trans ?_
    refine (e30 _).trans ?_
    refine (e31 _).trans ?_
    refine (e32 _).trans ?_
    refine (e33 _).trans ?_
    refine (e34 _).trans ?_
    refine (e35 _).trans ?_
    refine (e36 _).trans ?_
    refine (e37 _).trans ?_
    refine (e38 _).trans ?_
    refine (e39 _).trans ?_
    refine (e40 _).trans ?_
    refine (e41 _).trans ?_
    refine (e42 _).trans ?_
    refine (e43 _).trans ?_
    refine (e44 _).trans ?_
    refine (e45 _).trans ?_
    refine (e46 _).trans ?_
    refine (e47 _).trans ?_
    rw [ck_p M.1, f1, cl_s]
  · rw [f2.2.2.2 _ (by omega)]; exact q3
  · rw [f2.2.2.2 _ (by omega)]; exact z27
  · rw [f2.2.2.2 _ (by omega)]; exact z33
  · rw [f2.2.2.2 _ (by omega)]; exact z41
end CTM
