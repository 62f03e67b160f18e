/-! The duty of spell, the reference's side: a way is laid. -/
theorem cl6_all {p : Nat → Bool} : ∀ n f g, g ∈ cl6 p n f → p g = true
  | 0, _, _, h => absurd h (by simp [cl6])
  | n + 1, f, g, h => by
    unfold cl6 at h
    by_cases c : p f = true
    · rw [if_pos c] at h
      rcases List.mem_cons.mp h with e | e
      · rw [e]; exact c
      · exact cl6_all n (f + 1) g e
    · rw [if_neg c] at h
      exact cl6_all n (f + 1) g h
theorem ws_all {X : Nat} {p : Nat → Nat → Bool} : ∀ n k u v, v ∈ ws X p n k u → ∀ j, v j = u j ∨ (X.testBit j = true ∧ p j (v j) = true)
  | 0, k, u, v, h, j => by
    have h : v ∈ [u] := h
    rw [List.mem_singleton.mp h]
    exact Or.inl rfl
  | n + 1, k, u, v, h, j => by
    unfold ws at h
    by_cases c : X.testBit k = true
    · rw [if_pos c] at h
      obtain ⟨f, hf, hv⟩ := List.mem_flatMap.mp h
      have pf := cl6_all _ _ _ hf
      rcases ws_all n (k + 1) _ v hv j with e | e
      · by_cases q : j = k
        · subst q
          rw [va_eq] at e
          exact Or.inr ⟨c, by rw [e]; exact pf⟩
        · rw [va_ne q] at e
          exact Or.inl e
      · exact Or.inr e
    · rw [if_neg c] at h
      exact ws_all n (k + 1) u v h j
/-- u lights only what may be lit -/
def LU (A : AV) (S : AS) (u : Nat → Nat) : Prop := ∀ k, k < 4 → u k = 5 ∨ (k < aC A 2 ∧ u k < aC A 0 ∧ tL S k = 0 ∧ 0 < tT S (5 * k + u k))
theorem LU_ws {A : AV} {S : AS} {f : Nat} {u : Nat → Nat} (h : u ∈ ws (noF A S f) (al A S) 4 0 u5) : LU A S u := fun k hk => by
  rcases ws_all 4 0 u5 u h k with e | ⟨e1, e2⟩
  · exact Or.inl e
  · obtain ⟨h1, -, -⟩ := noF_b.mp e1
    unfold al at e2
    by_cases c : u k = 5
    · exact Or.inl c
    · simp [c] at e2
      exact Or.inr ⟨h1, e2.1, e2.2.1, e2.2.2⟩
/-- the state when the first k houses have lit what u says -/
def lyS (A : AV) (S : AS) (u : Nat → Nat) : Nat → AS
  | 0 => S
  | k + 1 => if u k = 5 then lyS A S u k else sLight A (lyS A S u k) k (u k)
section SP2
variable {N y J : Nat} {A : AV} {S : AS}
theorem lyS_T {u : Nat → Nat} (h5 : aC A 0 ≤ 5) (lu : LU A S u) : ∀ k, k ≤ 4 → ∀ j g, k ≤ j → g < 5 → tT (lyS A S u k) (5 * j + g) = tT S (5 * j + g)
  | 0, _, _, _, _, _ => rfl
  | k + 1, hk, j, g, hj, hg => by
    have ih := lyS_T h5 lu k (by omega) j g (by omega) hg
    unfold lyS
    by_cases c : u k = 5
    · rw [if_pos c]; exact ih
    · have q := (lu k (by omega)).resolve_left c
      rw [if_neg c]
      show va_up (tT (lyS A S u k)) (5 * k + u k) _ (5 * j + g) = _
      rw [va_ne (by omega)]
      exact ih
theorem lyS_W {u : Nat → Nat} (hW : WV A) (lu : LU A S u) (hT : WS A J S) : ∀ k, k ≤ 4 → WS A J (lyS A S u k)
  | 0, _ => hT
  | k + 1, hk => by
    have ih := lyS_W hW lu hT k (by omega)
    unfold lyS
    by_cases c : u k = 5
    · rw [if_pos c]; exact ih
    · have q := (lu k (by omega)).resolve_left c
      rw [if_neg c]
      exact ih.light hW q.1 q.2.1
theorem m_lay2 (hT : WS A J S) {u : Nat → Nat} (lu : LU A S u) : ∀ (n k : Nat) (h : PH), 4 < n + k → k ≤ 4 → MA N h y A → RS (hI h (y + 37)) 0 (lyS A S u k) → WY h y u → ∃ h', f_X11_laysWay_2 N n y (nI k) h = some ((), h') ∧ Ex (fun z => z = y + 37) h h' ∧ RS (hI h' (y + 37)) 0 (lyS A S u 4)
  | 0, k, h, h1, h2, _, _, _ => by omega
  | n + 1, k, h, h1, h2, p, rS, hw => by
    have m := p.1
    have hW := p.2.2.1
    have h5 := hW.1.1
    show ∃ h', f_X11_laysWay_2_b N (f_X11_laysWay_2 N n) y _ h = _ ∧ _
    unfold f_X11_laysWay_2_b
    rw [ite_i (show (4 : Int32) ≤ nI k ↔ 4 ≤ k from nI_leI (a := 4) (by decide) (by omega))]
    by_cases c : 4 ≤ k
    · have e : k = 4 := by omega
      subst e
      rw [if_pos c]
      exact ⟨h, rfl, Ex.rf, rS⟩
    · have lk := lu k (by omega)
      have ly : lyS A S u (k + 1) = if u k = 5 then lyS A S u k else sLight A (lyS A S u k) k (u k) := rfl
      unfold f_X11_laysWay_28
      rw [if_neg c, ck_p m.1, mR_way m, rq_s, ck_p (mK_way m), mN_way m, ck_p (nI_ix (by omega) (by decide)), ix_nI (by omega), hw k (by omega), ite_i (show (5 : Int32) ≤ nI (u k) ↔ 5 ≤ u k from nI_leI (a := 5) (by decide) (by omega))]
      by_cases e : u k = 5
      · rw [if_pos (by omega), bd_e, nI_1]
        rw [if_pos e] at ly
        exact m_lay2 hT lu n (k + 1) h (by omega) (by omega) p (by rw [ly]; exact rS) hw
      · have q := lk.resolve_left e
        obtain ⟨g, r1, r2, r3⟩ := m_lights (N := N) p rS (lyS_W hW lu hT k (by omega)) (i := k) (f := u k) (by omega) q.2.1 (by rw [lyS_T h5 lu k (by omega) k (u k) (Nat.le_refl _) (by omega)]; exact q.2.2.2)
        rw [if_neg e] at ly
        obtain ⟨h', t1, t2, t3⟩ := m_lay2 hT lu n (k + 1) g (by omega) (by omega) (p.ex r2 (fun z z1 z2 z3 => by omega)) (by rw [ly]; exact r3) (hw.ex r2 (by omega))
        rw [if_neg (by omega), rq_s, ck_p (mK_way m), mN_way m, ck_p (nI_ix (by omega) (by decide)), hw k (by omega), r1, cl_s, bd_e, nI_1]
        exact ⟨h', t1, r2.trans t2, t3⟩
theorem m_laysWay (hN2 : 10 ≤ N) (hT : WS A J S) {u : Nat → Nat} (lu : LU A S u) {h : PH} (p : MA N h y A) (rS : RS (hI h (y + 37)) 0 S) (hw : WY h y u) : ∃ h', f_X11_laysWay N y h = some ((), h') ∧ Ex (fun z => z = y + 37) h h' ∧ RS (hI h' (y + 37)) 0 (lyS A S u 4) := m_lay2 hT lu N 0 h (by omega) (by omega) p rS hw
/-- way to wayKept, wayKept to way, way to bestWay -/
theorem m_135 {l1 l2 l3 l4 l5 l6 l8 : Int32} : ∀ (n i : Nat) (h : PH), 4 < n + i → i ≤ 4 → MD h y → (∀ j, j < i → hI h (y + 43) j = hI h (y + 42) j) → ∃ g, (∀ K, f_X11_spell_135 N K n y l1 l2 l3 l4 l5 l6 l8 (nI i) h = if l3 = (-2 : Int32) then f_X11_spell_229 N K y l1 l2 l3 l4 l5 l6 l8 0 g else (cl (f_X11_laysWay N y g) fun _ h4 => ck (hK h4 y = 10) <| cl (f_X11_passes N y h4) fun _ h7 => ck (hK h7 y = 10) <| cl (f_X11_fewest N y l1 l3 h7) fun r9 h10 => ck (hK h10 y = 10) <| rq (hR h10 y 60) fun a13 => rq (hR h10 y 49) fun a14 => cl (f_X11_copies N a13 0 a14 0 h10) fun _ h16 => f_X11_spell_203 N K N y l1 l2 l3 l4 l5 l6 l8 r9 0 h16)) ∧ Ex (fun z => z = y + 43) h g ∧ ∀ j, j < 4 → hI g (y + 43) j = hI h (y + 42) j
  | 0, i, h, h1, h2, _, _ => by omega
  | n + 1, i, h, h1, h2, m, ha => by
    have four := (show (4 : Int32) ≤ nI i ↔ 4 ≤ i from nI_leI (a := 4) (by decide) (by omega))
    by_cases c : 4 ≤ i
    · refine ⟨h, fun K => ?_, Ex.rf, fun j hj => ha j (by omega)⟩
      show f_X11_spell_135_b N K (f_X11_spell_135 N K n) y _ _ _ _ _ _ _ _ h = _
      unfold f_X11_spell_135_b
      rw [ite_i four, if_pos c, ck_p m.1]
    · have E1 : Ex (fun z => z = y + 43) h (sI h (y + 43) i (hI h (y + 42) i)) := Ex.sI rfl
      have e2 : hI (sI h (y + 43) i (hI h (y + 42) i)) (y + 42) = hI h (y + 42) := hI_sI_ne (by omega)
      obtain ⟨g, t1, t2, t3⟩ := m_135 (l1 := l1) (l2 := l2) (l3 := l3) (l4 := l4) (l5 := l5) (l6 := l6) (l8 := l8) n (i + 1) (sI h (y + 43) i (hI h (y + 42) i)) (by omega) (by omega) (m.sm Sm.sI) (fun j hj => by
        rw [e2, hI_sI_eq]
        by_cases e : j = i
        · rw [e, va_eq]
        · rw [va_ne e]; exact ha j (by omega))
      refine ⟨g, fun K => ?_, E1.trans t2, fun j hj => by rw [t3 j hj, e2]⟩
      show f_X11_spell_135_b N K (f_X11_spell_135 N K n) y _ _ _ _ _ _ _ _ h = _
      unfold f_X11_spell_135_b
      rw [ite_i four, if_neg c, ck_p m.1, mR_wayKept m, rq_s, mR_way m, rq_s, ck_p (mK_way m), mN_way m, ck_p (nI_ix (by omega) (by decide)), ck_p (mK_wayKept m), mN_wayKept m, ck_p (nI_ix (by omega) (by decide)), ix_nI (by omega), bd_e, bd_e, nI_1]
      exact t1 K
theorem m_203 {l1 l2 l3 l4 l5 l6 l8 l9 : Int32} : ∀ (n i : Nat) (h : PH), 4 < n + i → i ≤ 4 → MD h y → (∀ j, j < i → hI h (y + 42) j = hI h (y + 43) j) → ∃ g, (∀ K, f_X11_spell_203 N K n y l1 l2 l3 l4 l5 l6 l8 l9 (nI i) h = f_X11_spell_229 N K y l1 l2 l3 l4 l5 l6 l8 l9 g) ∧ Ex (fun z => z = y + 42) h g ∧ ∀ j, j < 4 → hI g (y + 42) j = hI h (y + 43) j
  | 0, i, h, h1, h2, _, _ => by omega
  | n + 1, i, h, h1, h2, m, ha => by
    have four := (show (4 : Int32) ≤ nI i ↔ 4 ≤ i from nI_leI (a := 4) (by decide) (by omega))
    by_cases c : 4 ≤ i
    · refine ⟨h, fun K => ?_, Ex.rf, fun j hj => ha j (by omega)⟩
      show f_X11_spell_203_b N K (f_X11_spell_203 N K n) y _ _ _ _ _ _ _ _ _ h = _
      unfold f_X11_spell_203_b
      rw [ite_i four, if_pos c]
    · have E1 : Ex (fun z => z = y + 42) h (sI h (y + 42) i (hI h (y + 43) i)) := Ex.sI rfl
      have e2 : hI (sI h (y + 42) i (hI h (y + 43) i)) (y + 43) = hI h (y + 43) := hI_sI_ne (by omega)
      obtain ⟨g, t1, t2, t3⟩ := m_203 (l1 := l1) (l2 := l2) (l3 := l3) (l4 := l4) (l5 := l5) (l6 := l6) (l8 := l8) (l9 := l9) n (i + 1) (sI h (y + 42) i (hI h (y + 43) i)) (by omega) (by omega) (m.sm Sm.sI) (fun j hj => by
        rw [e2, hI_sI_eq]
        by_cases e : j = i
        · rw [e, va_eq]
        · rw [va_ne e]; exact ha j (by omega))
      refine ⟨g, fun K => ?_, E1.trans t2, fun j hj => by rw [t3 j hj, e2]⟩
      show f_X11_spell_203_b N K (f_X11_spell_203 N K n) y _ _ _ _ _ _ _ _ _ h = _
      unfold f_X11_spell_203_b
      rw [ite_i four, if_neg c, ck_p m.1, mR_way m, rq_s, mR_wayKept m, rq_s, ck_p (mK_wayKept m), mN_wayKept m, ck_p (nI_ix (by omega) (by decide)), ck_p (mK_way m), mN_way m, ck_p (nI_ix (by omega) (by decide)), ix_nI (by omega), bd_e, bd_e, nI_1]
      exact t1 K
theorem m_259 {l1 l2 l3 l4 l5 l6 : Int32} : ∀ (n i : Nat) (h : PH), 4 < n + i → i ≤ 4 → MD h y → (∀ j, j < i → hI h (y + 44) j = hI h (y + 42) j) → ∃ g, (∀ K, f_X11_spell_259 N K n y l1 l2 l3 l4 l5 l6 (nI i) h = f_X11_spell_285 N K y l1 l2 l3 l4 l5 l6 g) ∧ Ex (fun z => z = y + 44) h g ∧ ∀ j, j < 4 → hI g (y + 44) j = hI h (y + 42) j
  | 0, i, h, h1, h2, _, _ => by omega
  | n + 1, i, h, h1, h2, m, ha => by
    have four := (show (4 : Int32) ≤ nI i ↔ 4 ≤ i from nI_leI (a := 4) (by decide) (by omega))
    by_cases c : 4 ≤ i
    · refine ⟨h, fun K => ?_, Ex.rf, fun j hj => ha j (by omega)⟩
      show f_X11_spell_259_b N K (f_X11_spell_259 N K n) y _ _ _ _ _ _ _ h = _
      unfold f_X11_spell_259_b
      rw [ite_i four, if_pos c]
    · have E1 : Ex (fun z => z = y + 44) h (sI h (y + 44) i (hI h (y + 42) i)) := Ex.sI rfl
      have e2 : hI (sI h (y + 44) i (hI h (y + 42) i)) (y + 42) = hI h (y + 42) := hI_sI_ne (by omega)
      obtain ⟨g, t1, t2, t3⟩ := m_259 (l1 := l1) (l2 := l2) (l3 := l3) (l4 := l4) (l5 := l5) (l6 := l6) n (i + 1) (sI h (y + 44) i (hI h (y + 42) i)) (by omega) (by omega) (m.sm Sm.sI) (fun j hj => by
        rw [e2, hI_sI_eq]
        by_cases e : j = i
        · rw [e, va_eq]
        · rw [va_ne e]; exact ha j (by omega))
      refine ⟨g, fun K => ?_, E1.trans t2, fun j hj => by rw [t3 j hj, e2]⟩
      show f_X11_spell_259_b N K (f_X11_spell_259 N K n) y _ _ _ _ _ _ _ h = _
      unfold f_X11_spell_259_b
      rw [ite_i four, if_neg c, ck_p m.1, mR_bestWay m, rq_s, mR_way m, rq_s, ck_p (mK_way m), mN_way m, ck_p (nI_ix (by omega) (by decide)), ck_p (mK_bestWay m), mN_bestWay m, ck_p (nI_ix (by omega) (by decide)), ix_nI (by omega), bd_e, bd_e, nI_1]
      exact t1 K
end SP2
