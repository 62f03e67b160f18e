/-! What holds between the two objects holds from the start, and every call keeps it. -/
section STA
variable {N x y o : Nat} {h : PH}
theorem new_VA {a : Nat} (p : OT 5 h a) : VA h a A0 := by
  obtain ⟨p1, p2, ⟨p3, p4⟩, p5, p6⟩ := p
  refine ⟨p1, ⟨fun k hk => ?_, ?_, fun k hk => absurd hk (Nat.not_lt_zero k), fun k hk => absurd hk (Nat.not_lt_zero k), fun k hk => ?_, fun k hk => absurd hk (Nat.not_lt_zero k), fun k hk => absurd hk (Nat.not_lt_zero k), fun k hk => absurd hk (Nat.not_lt_zero k)⟩, A0_W, ⟨0, 0, Nat.zero_le _, Nat.zero_le _, p4, p6, fun f l w b hf _ _ _ => absurd hf (Nat.not_lt_zero f), fun d s w _ _ _ => congrArg clp ((if_pos rfl).trans (if_pos rfl).symm)⟩, fun f l w b hf _ _ _ _ => absurd hf (Nat.not_lt_zero f)⟩
  · rw [p2 1 (by decide)]; rfl
  · rw [show hI h a = fun _ => 0 from p2 0 (by decide)]; rfl
  · rw [p2 7 (by decide)]; rfl
theorem i_init (hB : 2001 ≤ N) {z : Nat} {ad : Nat → Nat} (inj : ∀ i j, i < 27 → j < 27 → ad i = ad j → i = j) : D_init (INV N) N (ph0 z ad) := by
  obtain ⟨h1, a1, a2, a3⟩ := i_X10 hB (ph0 z ad)
  obtain ⟨h2, b1, b2, b3⟩ := i_X11 hB h1
  refine ⟨_, h1, a1, _, h2, b1, ?_⟩
  obtain ⟨x, ex⟩ : ∃ x, x = hz (ph0 z ad) := ⟨_, rfl⟩
  have z1 : hz h1 = x + 203 := by rw [a2.1.1, ex]
  have z2 : hz h2 = x + 203 + 48 := by rw [b2.1.1, z1]
  have w2 : hW h2 = ad := by rw [b2.1.2, a2.1.2]; rfl
  rw [← ex] at a3 ⊢
  rw [z1] at b3 ⊢
  have k3 : Kx x (fun z => z < hz h2) h2 (nwh h2 14 1) := ⟨Shp.nw, fun z hz' => ⟨va_ne (Nat.ne_of_lt hz'), va_ne (Nat.ne_of_lt hz')⟩⟩
  have e3 : ∀ z, z < hz h2 → hI (nwh h2 14 1) z = hI h2 z := fun z hz' => (k3.2 z hz').1
  have e2 : ∀ z, z < hz h1 → hI (nwh h2 14 1) z = hI h1 z := fun z hz' => (e3 z (by omega)).trans (b2.2 z hz').2.2.1
  have g3 : Gr 1 h2 (nwh h2 14 1) := Gr.nw
  have sm : ∀ b m, b + m ≤ hz h1 → Sam b m h1 (nwh h2 14 1) := fun b m l => (b2.trans g3).sam l
  obtain ⟨ob, c1, c2, c3, c4, c5, c6, c7, c8⟩ := a3
  obtain ⟨d1, d2, d3, d4, d5, d6⟩ := b3
  have v6 : OT 5 (nwh h2 14 1) (x + 43) := OT.sam 5 (sm (x + 43) 18 (by omega)) c6
  have v7 : OT 5 (nwh h2 14 1) (x + 61) := OT.sam 5 (sm (x + 61) 18 (by omega)) c7
  refine ⟨x + 43, x + 61, A0, mkM A0, 0, 0, fun _ => S0, fun _ => false, fun _ => mkM A0, 0, fun _ => 0, ⟨rfl, z2, ?_, va_eq, va_eq, ?_, ⟨v6.2.2.1.1, v6.2.2.2.1, v7.2.2.1.1, v7.2.2.2.1⟩, c8.eq (fun z hz' => e2 z (by omega))⟩, (ob.shp b2.shp).shp k3.1, new_VA v6, d1.kx k3 (fun z z1 z2 => by omega) (by omega) (by omega), fun k i _ hi => absurd hi (Nat.not_lt_zero i), ⟨⟨c3.sam (sm _ 5 (by omega)), ⟨?_, fun k hk => absurd hk (Nat.not_lt_zero k)⟩, ⟨?_, fun k hk => absurd hk (Nat.not_lt_zero k)⟩⟩, ?_, ⟨?_, fun k hk => absurd hk (Nat.not_lt_zero k)⟩, ⟨?_, fun k hk => absurd hk (Nat.not_lt_zero k)⟩, mkM_W A0_W⟩, ⟨⟨by decide, by decide, ?_, ?_, ?_⟩, fun i hi => absurd hi (Nat.not_lt_zero i)⟩, ⟨?_, fun i hi => ⟨?_, fun l => absurd l Bool.false_ne_true⟩⟩, Nat.zero_le _, ?_, ?_, fun k hk => absurd hk (Nat.not_lt_zero k)⟩
  · show hz h2 < hz h2 + 1
    exact Nat.lt_succ_self _
  · show ∀ i j, i < 27 → j < 27 → hW h2 i = hW h2 j → i = j
    rw [w2]; exact inj
  · rw [e2 _ (by omega)]; exact c4
  · rw [e2 _ (by omega)]; exact c5
  · rw [e3 _ (by omega)]; exact d2
  · rw [e3 _ (by omega), d4]; rfl
  · rw [e3 _ (by omega), d5]; rfl
  · rw [e2 _ (by omega), c1]; rfl
  · rw [e2 _ (by omega), c1]; rfl
  · rw [e3 _ (by omega), d3]; rfl
  · rw [e2 _ (by omega), c1]; rfl
  · rw [e3 _ (by omega), d6]; rfl
  · rw [e2 _ (by omega)]; exact c2
  · rw [e3 _ (by omega), d3]; rfl
theorem i_ok : INVok (INV 5000) 5000 := by
  refine ⟨fun x y o J h p => ?_, fun x y o J hJ5 => ⟨fun h p => p.up (Nat.le_succ J), d_feed (by decide), d_valley (by decide), d_day (by decide), d_house, d_flue (by decide) hJ5, d_burn (by decide), d_lend (by decide), d_hour (by decide) hJ5, d_undo (by decide), d_judged (by decide), d_spell (by decide) hJ5, d_sure (by decide) hJ5, d_hope (by decide) hJ5, d_read (by decide), d_ways (by decide) hJ5, d_ask (by decide) hJ5, d_blur (by decide), d_share (by decide) hJ5, d_given (by decide), d_rests (by decide) hJ5, d_years (by decide) hJ5, d_mark (by decide), d_count (by decide) hJ5⟩, fun z ad inj => i_init (by decide) inj⟩
  obtain ⟨v, w, A, M, pn, pc, P, lb, K, tn, tb, p0, ob, pv, pm, -⟩ := p
  exact ⟨ob.k9, pm.1.1⟩
end STA
