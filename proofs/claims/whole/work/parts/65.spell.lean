/-! The duty of spell, the reference's side: how many fires a way lights, the fewest. -/
def bn (u : Nat → Nat) : Nat := fb_sm (fun j => if u j = 5 then 0 else 1) 4
/-- the fewest so far (9: none) -/
def bI (b : Nat) : Int32 := if b = 9 then -1 else nI b
def fw1 (A : AV) (S : AS) (f : Nat) (want : Int32) (b : Nat) (u : Nat → Nat) : Nat := if bn u < b ∧ sbs A S u f = want then bn u else b
def fwL (A : AV) (S : AS) (f : Nat) (want : Int32) : List (Nat → Nat) → Nat → Nat
  | [], b => b
  | u :: us, b => fwL A S f want us (fw1 A S f want b u)
theorem bn_le (u : Nat → Nat) : bn u ≤ 4 := by
  have : bn u ≤ 4 * 1 := fb_sm_bound (fun k _ => by split <;> omega)
  omega
theorem fw1_le {A : AV} {S : AS} {f b : Nat} {want : Int32} {u : Nat → Nat} (h : b ≤ 9) : fw1 A S f want b u ≤ 9 := by
  have := bn_le u
  unfold fw1
  split <;> omega
section SP1
variable {N y J : Nat} {A : AV} {S : AS}
theorem m_bnl {h : PH} (m : MD h y) {u : Nat → Nat} (hw : WY h y u) (h5 : ∀ j, j < 4 → u j ≤ 5) : ∀ (n i : Nat), 4 < n + i → i ≤ 4 → f_X11_burnt_4 N n y (nI (fb_sm (fun j => if u j = 5 then 0 else 1) i)) (nI i) h = some (nI (bn u), h)
  | 0, i, h1, h2 => by omega
  | n + 1, i, h1, h2 => by
    have stp : fb_sm (fun j => if u j = 5 then 0 else 1) (i + 1) = fb_sm (fun j => if u j = 5 then 0 else 1) i + (if u i = 5 then 0 else 1) := rfl
    have ih := m_bnl m hw h5 n (i + 1)
    rw [stp] at ih
    show f_X11_burnt_4_b N (f_X11_burnt_4 N n) y _ _ h = _
    unfold f_X11_burnt_4_b
    rw [ite_i (show (4 : Int32) ≤ nI i ↔ 4 ≤ i from nI_leI (a := 4) (by decide) (by omega))]
    by_cases c : 4 ≤ i
    · rw [if_pos c, show i = 4 by omega]
      rfl
    · have l5 := h5 i (by omega)
      rw [if_neg c, ck_p m.1, mR_way m, rq_s, ck_p (mK_way m), mN_way m, ck_p (nI_ix (by omega) (by decide)), ix_nI (by omega), hw i (by omega), ite_i (show nI (u i) = 5 ↔ u i = 5 from nI_eq (b := 5) (by omega) (by decide))]
      unfold f_X11_burnt_25
      by_cases e : u i = 5
      · rw [if_pos e] at ih ⊢
        rw [show ∀ v : Nat, nI v + (0 : Int32) = nI v from fun v => nI_add v 0, bd_e, bd_e, nI_1]
        exact ih (by omega) (by omega)
      · rw [if_neg e] at ih ⊢
        rw [nI_1, bd_e, bd_e, nI_1]
        exact ih (by omega) (by omega)
theorem m_burnt (hN2 : 10 ≤ N) {h : PH} (m : MD h y) {u : Nat → Nat} (hw : WY h y u) (h5 : ∀ j, j < 4 → u j ≤ 5) : f_X11_burnt N y h = some (nI (bn u), h) := m_bnl m hw h5 N 0 (by omega) (by omega)
theorem okU5 (hW : WV A) {u : Nat → Nat} (ok : okU A u) : ∀ j, j < 4 → u j ≤ 5 := fun j hj => by
  have := ok j hj
  have := hW.1.1
  omega
theorem m_fwb (hN2 : 100 ≤ N) (hT : WS A J S) (hJ : J < 2 ^ 30) {X f b : Nat} {want : Int32} (hX : X < 16) (hf : f < 1000) (hb : b ≤ 9) (hW : WV A) (u : Nat → Nat) (h : PH) (oku : okU A u) (p : MA N h y A) (rS : RS (hI h (y + 37)) 0 S) (hw : WY h y u) : ∃ g, (∀ n, f_X11_fewest_21 N (n + 1) y (nI f) want (nI X) (bI b) 1 h = f_X11_fewest_21 N n y (nI f) want (nI X) (bI (fw1 A S f want b u)) (yb (nf X (al A S) 4 u).1) g) ∧ Ex (rsP y) h g ∧ WY g y (nf X (al A S) 4 u).2 ∧ MA N g y A ∧ RS (hI g (y + 37)) 0 S := by
  have m := p.1
  have u5 := okU5 hW oku
  have bl := bn_le u
  have un1 : ∀ n, f_X11_fewest_21 N (n + 1) y (nI f) want (nI X) (bI b) 1 h = if bn u < b then f_X11_fewest_44 N (f_X11_fewest_21 N n) y (nI f) want (nI X) (bI b) (nI (bn u)) h else f_X11_fewest_57 N (f_X11_fewest_21 N n) y (nI f) want (nI X) (bI b) h := fun n => by
    show f_X11_fewest_21_b N (f_X11_fewest_21 N n) y _ _ _ _ _ h = _
    unfold f_X11_fewest_21_b
    rw [if_neg one0, ck_p m.1, m_burnt (by omega) m hw u5, cl_s]
    by_cases e : b = 9
    · have e9 : bI b = -1 := by unfold bI; rw [if_pos e]
      rw [if_pos (show bI b < 0 by rw [e9]; decide), if_pos (by omega)]
    · have e9 : bI b = nI b := by unfold bI; rw [if_neg e]
      rw [if_neg (show ¬ bI b < 0 by rw [e9]; exact nI_pos (by omega)), ite_i (show bI b ≤ nI (bn u) ↔ b ≤ bn u by rw [e9]; exact nI_leI (by omega) (by omega))]
      by_cases c : b ≤ bn u
      · rw [if_pos c, if_neg (by omega)]
      · rw [if_neg c, if_pos (by omega)]
  have nxt : ∀ (b' : Nat) (g2 : PH), Ex (rsP y) h g2 → WY g2 y u → MA N g2 y A → RS (hI g2 (y + 37)) 0 S → (∀ n, f_X11_fewest_21 N (n + 1) y (nI f) want (nI X) (bI b) 1 h = f_X11_fewest_57 N (f_X11_fewest_21 N n) y (nI f) want (nI X) (bI b') g2) → ∃ g, (∀ n, f_X11_fewest_21 N (n + 1) y (nI f) want (nI X) (bI b) 1 h = f_X11_fewest_21 N n y (nI f) want (nI X) (bI b') (yb (nf X (al A S) 4 u).1) g) ∧ Ex (rsP y) h g ∧ WY g y (nf X (al A S) 4 u).2 ∧ MA N g y A ∧ RS (hI g (y + 37)) 0 S := fun b' g2 e2 w2 p2 rS2 hs => by
    obtain ⟨g3, s1, s2, s3⟩ := m_nextWay (N := N) (by omega) hW hT hX p2.1 p2.2.1 rS2 w2 u5
    refine ⟨g3, fun n => ?_, e2.trans (Ex.mono (Q := rsP y) s2 (fun z hz => Or.inl hz)), s3, p2.ex s2 (fun z z1 z2 z3 => by omega), rS2.ex s2 (by omega)⟩
    rw [hs n]
    unfold f_X11_fewest_57
    rw [ck_p p2.1.1, s1, cl_s]
  by_cases c : bn u < b
  · obtain ⟨g1, r1, r2⟩ := m_signBy (N := N) hN2 hT hJ oku (f := f) hf p rS hw
    have p1 := p.ex r2 (fun z z1 z2 z3 => by unfold inM at z3; omega)
    have rS1 := rS.ex r2 (by unfold inM; omega)
    have w1 : WY g1 y u := hw.ex r2 (by unfold inM; omega)
    have E1 : Ex (rsP y) h g1 := Ex.mono (Q := rsP y) r2 (fun z hz => Or.inr hz)
    have nb : bI (bn u) = nI (bn u) := by unfold bI; rw [if_neg (by omega)]
    by_cases q : sbs A S u f = want
    · have e : fw1 A S f want b u = bn u := by unfold fw1; rw [if_pos ⟨c, q⟩]
      rw [e]
      refine nxt (bn u) g1 E1 w1 p1 rS1 (fun n => ?_)
      rw [un1 n, if_pos c, nb]
      unfold f_X11_fewest_44
      rw [ck_p m.1, r1, cl_s, if_pos q]
    · have e : fw1 A S f want b u = b := by unfold fw1; rw [if_neg (fun z => q z.2)]
      rw [e]
      refine nxt b g1 E1 w1 p1 rS1 (fun n => ?_)
      rw [un1 n, if_pos c]
      unfold f_X11_fewest_44
      rw [ck_p m.1, r1, cl_s, if_neg q]
  · have e : fw1 A S f want b u = b := by unfold fw1; rw [if_neg (fun z => c z.1)]
    rw [e]
    exact nxt b h Ex.rf hw p rS (fun n => by rw [un1 n, if_neg c])
theorem m_fw21 (hN2 : 100 ≤ N) (hT : WS A J S) (hJ : J < 2 ^ 30) {X f : Nat} {want : Int32} (hX : X < 16) (hf : f < 1000) (hW : WV A) : ∀ (L : List (Nat → Nat)) (u : Nat → Nat) (b n : Nat) (h : PH), Chn (nf X (al A S) 4) (fun e => (nf X (al A S) 4 e).1 = false) (u :: L) → L.length + 1 < n → okL A (u :: L) → b ≤ 9 → MA N h y A → RS (hI h (y + 37)) 0 S → WY h y u → ∃ h', f_X11_fewest_21 N n y (nI f) want (nI X) (bI b) 1 h = some (bI (fwL A S f want (u :: L) b), h') ∧ Ex (rsP y) h h' ∧ MA N h' y A ∧ RS (hI h' (y + 37)) 0 S
  | [], u, b, n, h, hc, hn, ok, hb, p, rS, hw => by
    obtain ⟨n, rfl⟩ : ∃ k, n = k + 1 + 1 := ⟨n - 2, by rw [List.length_nil] at hn; omega⟩
    obtain ⟨g, g1, g2, g3, g4, g5⟩ := m_fwb hN2 hT hJ hX hf hb hW (want := want) u h (ok u List.mem_cons_self) p rS hw
    have hc : (nf X (al A S) 4 u).1 = false := hc
    rw [hc] at g1
    refine ⟨g, ?_, g2, g4, g5⟩
    rw [g1 (n + 1)]
    show f_X11_fewest_21_b N (f_X11_fewest_21 N n) y _ _ _ _ _ g = _
    unfold f_X11_fewest_21_b
    rw [if_pos (show yb false = 0 from rfl)]
    rfl
  | v :: L, u, b, n, h, hc, hn, ok, hb, p, rS, hw => by
    obtain ⟨n, rfl⟩ : ∃ k, n = k + 1 := ⟨n - 1, by omega⟩
    rw [List.length_cons] at hn
    obtain ⟨g, g1, g2, g3, g4, g5⟩ := m_fwb hN2 hT hJ hX hf hb hW (want := want) u h (ok u List.mem_cons_self) p rS hw
    have hc1 : nf X (al A S) 4 u = (true, v) := hc.1
    rw [hc1] at g1 g3
    obtain ⟨h', t1, t2, t3, t4⟩ := m_fw21 hN2 hT hJ hX hf hW L v (fw1 A S f want b u) n g hc.2 (by omega) (fun z hz => ok z (List.mem_cons_of_mem _ hz)) (fw1_le hb) g4 g5 g3
    exact ⟨h', by rw [g1 n]; exact t1, g2.trans t2, t3, t4⟩
/-- the ways of a flue's houses without a fire, and their chain -/
theorem FWc (A : AV) (S : AS) (f : Nat) : ∃ l, ws (noF A S f) (al A S) 4 0 u5 = hdw (noF A S f) (al A S) 0 u5 :: l ∧ Chn (nf (noF A S f) (al A S) 4) (fun e => (nf (noF A S f) (al A S) 4 e).1 = false) (hdw (noF A S f) (al A S) 0 u5 :: l) := by
  obtain ⟨⟨l, e⟩, c⟩ := ws_chn (X := noF A S f) (p := al A S) (al5 A S) 4 0 u5 rfl
  refine ⟨l, e, ?_⟩
  rw [e] at c
  exact c.mono (fun z hz => by rw [hz]; rfl)
theorem m_fewest (hN2 : 5000 ≤ N) (hT : WS A J S) (hJ : J < 2 ^ 30) {f : Nat} {want : Int32} (hf : f < 1000) {h : PH} (p : MA N h y A) (rS : RS (hI h (y + 37)) 0 S) : ∃ h', f_X11_fewest N y (nI f) want h = some (bI (fwL A S f want (ws (noF A S f) (al A S) 4 0 u5) 9), h') ∧ Ex (rsP y) h h' ∧ MA N h' y A ∧ RS (hI h' (y + 37)) 0 S := by
  have m := p.1
  have hW := p.2.2.1
  have nl := noF_lt hW S f
  obtain ⟨l, el, cl⟩ := FWc A S f
  have ll := ws_len (X := noF A S f) (p := al A S) 4 0 u5
  have lo : okL A (ws (noF A S f) (al A S) 4 0 u5) := ws_ok hW 4 0 _ rfl (fun j _ => Or.inl rfl)
  have e6 : (6 : Nat) ^ 4 = 1296 := rfl
  obtain ⟨g, r1, r2, r3⟩ := m_firstWay (N := N) (by omega) m p.2.1 hW rS hT nl
  have pg := p.ex r2 (fun z z1 z2 z3 => by omega)
  rw [el] at ll lo ⊢
  rw [List.length_cons] at ll
  obtain ⟨h', t1, t2, t3⟩ := m_fw21 (N := N) (y := y) (f := f) (want := want) (by omega) hT hJ nl hf hW l _ 9 N g cl (by omega) lo (by omega) pg (rS.ex r2 (by omega)) r3
  refine ⟨h', ?_, (Ex.mono (Q := rsP y) r2 (fun z hz => Or.inl hz)).trans t2, t3⟩
  unfold f_X11_fewest
  rw [ck_p m.1, m_housesOf (by omega) m p.2.1 hW hf, cl_s, ck_p m.1, m_withoutFire (by omega) m p.2.1 hW rS hT (aHs_lt hW f), cl_s, wf_flue, ck_p m.1, r1, cl_s]
  exact t1
end SP1
