/-! The duty of spell, the reference's side: the answer. -/
def spR (st : Nat × (Nat → Nat)) (who : Int32) : Int32 := if st.1 = 9 then -2 else if who = -1 then nI st.1 else if st.2 (ix who) = 5 then -1 else nI (st.2 (ix who))
def spQ (y z : Nat) : Prop := spP y z ∨ z = y + 45
theorem spS_ok {A : AV} {S : AS} {f : Nat} {w1 w2 : Int32} {st : Nat × (Nat → Nat)} {u : Nat → Nat} (hu : okU A u) (h : st.1 ≠ 9 → okU A st.2) : (spS A S f w1 w2 st u).1 ≠ 9 → okU A (spS A S f w1 w2 st u).2 := by
  unfold spS
  split
  · exact fun _ => hu
  · exact h
theorem spL_st {A : AV} {S : AS} {f : Nat} {w1 w2 : Int32} : ∀ l st, st.1 ≤ 9 → (st.1 ≠ 9 → okU A st.2) → okL A l → (spL A S f w1 w2 l st).1 ≤ 9 ∧ ((spL A S f w1 w2 l st).1 ≠ 9 → okU A (spL A S f w1 w2 l st).2)
  | [], _, h1, h2, _ => ⟨h1, h2⟩
  | u :: us, st, h1, h2, h3 => spL_st us (spS A S f w1 w2 st u) (spS_le h1) (spS_ok (h3 u List.mem_cons_self) h2) (fun z hz => h3 z (List.mem_cons_of_mem _ hz))
section SP4
variable {N y J : Nat} {A : AV} {S : AS}
theorem m_spend {h : PH} (m : MD h y) (hW : WV A) {l1 l2 l3 l5 who : Int32} {st : Nat × (Nat → Nat)} (hb : st.1 ≤ 9) (ok : st.1 ≠ 9 → okU A st.2) (bw : BW h y st) (hw : who = -1 ∨ ∃ i, i < 4 ∧ who = nI i) (n : Nat) : f_X11_spell_100 N (n + 1) y l1 l2 l3 who l5 (bI st.1) 0 h = some (spR st who, h) := by
  have h5 := hW.1.1
  show f_X11_spell_100_b N (f_X11_spell_100 N n) y _ _ _ _ _ _ _ h = _
  unfold f_X11_spell_100_b spR
  rw [if_pos rfl]
  by_cases e : st.1 = 9
  · have e9 : bI st.1 = -1 := by unfold bI; rw [if_pos e]
    rw [e9, if_neg (by decide), if_pos e]
  · have e9 : bI st.1 = nI st.1 := by unfold bI; rw [if_neg e]
    rw [e9, if_pos (show (0 : Int32) ≤ nI st.1 from nI_le (a := 0) (Nat.zero_le _) (by omega)), if_neg e]
    rcases hw with hw | ⟨i, hi, rfl⟩
    · rw [if_pos hw, if_pos hw]
    · have ne : ¬ nI i = -1 := fun z => by
        have := congrArg Int32.toInt z
        rw [nI_toInt (by omega), show (-1 : Int32).toInt = -1 by decide] at this
        omega
      have oi := ok e i hi
      have bi := bw e i hi
      rw [if_neg ne, if_neg ne, ix_nI (by omega), ck_p m.1, mR_bestWay m, rq_s, ck_p (mK_bestWay m), mN_bestWay m, ck_p (nI_ix (by omega) (by decide)), bi, ite_i (show nI (st.2 i) = 5 ↔ st.2 i = 5 from nI_eq (b := 5) (by omega) (by decide))]
      by_cases z : st.2 i = 5
      · rw [if_pos z, if_pos z]
      · rw [if_neg z, if_neg z, rq_s, ck_p (mK_bestWay m), mN_bestWay m, ck_p (nI_ix (by omega) (by decide)), bi]
theorem m_sp100 (hN2 : 5000 ≤ N) (hT : WS A J S) (hJ : J + 1 < 2 ^ 30) {X f : Nat} {w1 w2 who : Int32} (hX : X < 16) (hf : f < 1000) (hW : WV A) (hw : who = -1 ∨ ∃ i, i < 4 ∧ who = nI i) : ∀ (L : List (Nat → Nat)) (u : Nat → Nat) (st : Nat × (Nat → Nat)) (n : Nat) (h : PH), Chn (nf X (al A S) 4) (fun e => (nf X (al A S) 4 e).1 = false) (u :: L) → L.length + 1 < n → okL A (u :: L) → (∀ z, z ∈ u :: L → LU A S z) → st.1 ≤ 9 → (st.1 ≠ 9 → okU A st.2) → MA N h y A → RS (hI h (y + 37)) 0 S → RS (hI h (y + 45)) 0 S → WY h y u → BW h y st → ∃ h', f_X11_spell_100 N n y (nI f) w1 w2 who (nI X) (bI st.1) 1 h = some (spR (spL A S f w1 w2 (u :: L) st) who, h') ∧ Ex (spP y) h h' ∧ RS (hI h' (y + 37)) 0 S ∧ ∀ k, k ≠ 55 → k ≠ 56 → hI h' y k = hI h y k
  | [], u, st, n, h, hc, hn, ok, lu, hb, hst, p, rS, rK, wy, bw => by
    obtain ⟨n, rfl⟩ : ∃ k, n = k + 1 + 1 := ⟨n - 2, by rw [List.length_nil] at hn; omega⟩
    obtain ⟨g, g1, g2, g3, g4, g5, g6, g7, g8⟩ := m_spb hN2 hT hJ hX hf hb hW (w1 := w1) (w2 := w2) (who := who) u h (ok u List.mem_cons_self) (lu u List.mem_cons_self) p rS rK wy bw
    have hc : (nf X (al A S) 4 u).1 = false := hc
    rw [hc] at g1
    refine ⟨g, ?_, g2, g5, g8⟩
    rw [g1 (n + 1)]
    exact m_spend (N := N) g4.1 hW (spS_le hb) (spS_ok (ok u List.mem_cons_self) hst) g7 hw n
  | v :: L, u, st, n, h, hc, hn, ok, lu, hb, hst, p, rS, rK, wy, bw => by
    obtain ⟨n, rfl⟩ : ∃ k, n = k + 1 := ⟨n - 1, by omega⟩
    rw [List.length_cons] at hn
    obtain ⟨g, g1, g2, g3, g4, g5, g6, g7, g8⟩ := m_spb hN2 hT hJ hX hf hb hW (w1 := w1) (w2 := w2) (who := who) u h (ok u List.mem_cons_self) (lu u List.mem_cons_self) p rS rK wy bw
    have hc1 : nf X (al A S) 4 u = (true, v) := hc.1
    rw [hc1] at g1 g3
    obtain ⟨h', t1, t2, t3, t4⟩ := m_sp100 hN2 hT hJ hX hf hW hw L v (spS A S f w1 w2 st u) n g hc.2 (by omega) (fun z hz => ok z (List.mem_cons_of_mem _ hz)) (fun z hz => lu z (List.mem_cons_of_mem _ hz)) (spS_le hb) (spS_ok (ok u List.mem_cons_self) hst) g4 g5 g6 g3 g7
    exact ⟨h', by rw [g1 n]; exact t1, g2.trans t2, t3, fun k k1 k2 => (t4 k k1 k2).trans (g8 k k1 k2)⟩
theorem m_sp64 (hN2 : 5000 ≤ N) (hT : WS A J S) (hJ : J + 1 < 2 ^ 30) {f : Nat} {w1 w2 who : Int32} (hf : f < 1000) (hw : who = -1 ∨ ∃ i, i < 4 ∧ who = nI i) {h : PH} (p : MA N h y A) (rS : RS (hI h (y + 37)) 0 S) : ∃ h', f_X11_spell_64 N y (nI f) w1 w2 who h = some (spR (spL A S f w1 w2 (ws (noF A S f) (al A S) 4 0 u5) (9, u5)) who, h') ∧ Ex (spQ y) h h' ∧ RS (hI h' (y + 37)) 0 S ∧ ∀ k, k ≠ 55 → k ≠ 56 → hI h' y k = hI h y k := by
  have m := p.1
  have hW := p.2.2.1
  have nl := noF_lt hW S f
  obtain ⟨l, el, cl⟩ := FWc A S f
  have ll := ws_len (X := noF A S f) (p := al A S) 4 0 u5
  have lo : okL A (ws (noF A S f) (al A S) 4 0 u5) := ws_ok hW 4 0 _ rfl (fun j _ => Or.inl rfl)
  have lu : ∀ z, z ∈ ws (noF A S f) (al A S) 4 0 u5 → LU A S z := fun z hz => LU_ws hz
  have e6 : (6 : Nat) ^ 4 = 1296 := rfl
  obtain ⟨g0, i1, i2, i3, -⟩ := m_copies (N := N) (h := h) (a := y + 37) (c := y + 45) (b := 0) (e := 0) (na := 32) (nc := 32) (by omega) (by omega) (by omega) (by omega) (by omega) (by omega) ⟨mK_s m, mN_s m⟩ ⟨mK_spelt m, mN_spelt m⟩
  have i1 : f_X11_copies N (y + 37) 0 (y + 45) 0 h = _ := i1
  have p0 := p.ex i2 (fun z z1 z2 z3 => by omega)
  have rS0 := rS.ex i2 (by omega)
  have rK0 : RS (hI g0 (y + 45)) 0 S := rS.c32 i3
  obtain ⟨g, r1, r2, r3⟩ := m_firstWay (N := N) (by omega) p0.1 p0.2.1 hW rS0 hT nl
  have pg := p0.ex r2 (fun z z1 z2 z3 => by omega)
  rw [el] at ll lo lu ⊢
  rw [List.length_cons] at ll
  obtain ⟨h', t1, t2, t3, t4⟩ := m_sp100 (N := N) (y := y) (f := f) (w1 := w1) (w2 := w2) (who := who) hN2 hT hJ nl hf hW hw l _ (9, u5) N g cl (by omega) lo lu (Nat.le_refl 9) (fun z => absurd rfl z) pg (rS0.ex r2 (by omega)) (rK0.ex r2 (by omega)) r3 (fun z => absurd rfl z)
  refine ⟨h', ?_, ((Ex.mono (Q := spQ y) i2 (fun z hz => Or.inr hz)).trans (Ex.mono (Q := spQ y) r2 (fun z hz => Or.inl (Or.inr (by omega))))).trans (Ex.mono (Q := spQ y) t2 (fun z hz => Or.inl hz)), t3, fun k k1 k2 => by rw [t4 k k1 k2, r2.2.2.2 y (by omega), i2.2.2.2 y (by omega)]⟩
  unfold f_X11_spell_64
  rw [ck_p m.1, m_housesOf (by omega) m p.2.1 hW hf, cl_s, ck_p m.1, m_withoutFire (by omega) m p.2.1 hW rS hT (aHs_lt hW f), cl_s, wf_flue, ck_p m.1, mR_s m, rq_s, mR_spelt m, rq_s, i1, cl_s, ck_p p0.1.1, r1, cl_s]
  exact t1
end SP4
