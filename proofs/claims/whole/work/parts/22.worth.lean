/-! What a law is worth, on the class's side: its code worked with a stack. -/
def LW (h : PH) (a : Nat) : Prop := hK h a = 1 ∧ hR h a 1 = some (a + 1) ∧ hR h a 2 = some (a + 2) ∧ IA h (a + 1) 1000 ∧ IA h (a + 2) 32
theorem LW.sm {h h' : PH} {a : Nat} (s : Sm h h') (p : LW h a) : LW h' a := by unfold LW IA at p ⊢; rw [s.1, s.2.1, s.2.2.1]; exact p
theorem VL.gives {h : PH} {a : Nat} (p : VL h a) : LW h (a + 11) := by unfold VL at p; exact p.2.2.2.1
theorem VL.soots {h : PH} {a : Nat} (p : VL h a) : LW h (a + 14) := by unfold VL at p; exact p.2.2.2.2
def jn (v a b : Int32) : Int32 := if v = -12 then a - b else if v = -11 then a + b else if v = -10 then (if a = b then 1 else 0) else if v = -9 then (if b ≤ a then 0 else 1) else if v = -8 then (if a = 0 then (if b = 0 then 0 else 1) else 1) else if v = -7 then (if a = 0 then 0 else if b = 0 then 0 else 1) else a * b
def evS (s c w l m : Int32) (st : List Int32) (v : Int32) : List Int32 :=
  if v < -5 then
    if v = -6 then (match st with
      | [] => []
      | t :: r => (if t = 0 then 1 else 0) :: r)
    else (match st with
      | b :: a :: r => jn v a b :: r
      | r => r)
  else if 32 ≤ st.length then st else (if v < 0 then (if v = -1 then s else if v = -2 then c else if v = -3 then w else if v = -4 then l else m) else v) :: st
def evL (code : Nat → Int32) (s c w l m : Int32) : Nat → Nat → List Int32 → List Int32
  | 0, _, st => st
  | n + 1, i, st => evL code s c w l m n (i + 1) (evS s c w l m st (code i))
/-- the worth of the first n cells of a law's code -/
def evC (code : Nat → Int32) (n : Nat) (s c w l m : Int32) : Int32 := (evL code s c w l m n 0 []).getLastD 0
/-- a row holds a stack: its bottom first -/
def SK (r : Nat → Int32) : List Int32 → Prop
  | [] => True
  | t :: st => r st.length = t ∧ SK r st
theorem SK_up {r : Nat → Int32} {j : Nat} {v : Int32} : ∀ {st : List Int32}, SK r st → st.length ≤ j → SK (va_up r j v) st
  | [], _, _ => trivial
  | t :: st, h, hj => by
    have hj : st.length + 1 ≤ j := hj
    refine ⟨?_, SK_up h.2 (by omega)⟩
    show (va_up r j v) st.length = t
    unfold va_up
    rw [if_neg (by omega)]
    exact h.1
theorem SK_push {r : Nat → Int32} {v : Int32} {st : List Int32} (h : SK r st) : SK (va_up r st.length v) (v :: st) := by
  refine ⟨?_, SK_up h (Nat.le_refl _)⟩
  show (va_up r st.length v) st.length = v
  unfold va_up
  rw [if_pos rfl]
theorem SK_bot {r : Nat → Int32} : ∀ {st : List Int32}, SK r st → st ≠ [] → r 0 = st.getLastD 0
  | [], _, h => absurd rfl h
  | [t], h, _ => h.1
  | t :: u :: st, h, _ => by
    have e := SK_bot (st := u :: st) h.2 (by simp)
    rw [e]
    simp
theorem sRow2 {h : PH} {b : Nat} {f g : Nat → Int32} : sRow (sRow h b f) b g = sRow h b g := by
  unfold sRow
  congr 1; congr 1; congr 1; congr 1
  funext z
  simp only [hI, va_up]
  by_cases c : z = b <;> simp [c]
theorem sI_row {h : PH} {b k : Nat} {v : Int32} : sI h b k v = sRow h b (va_up (hI h b) k v) := rfl
theorem sRow_self {h : PH} {b : Nat} : sRow h b (hI h b) = h := by
  unfold sRow
  have : va_up (hI h) b (hI h b) = hI h := by
    funext z
    unfold va_up
    by_cases c : z = b
    · rw [if_pos c, c]
    · rw [if_neg c]
  rw [this]
  rfl
theorem hI_row {h : PH} {b : Nat} {f : Nat → Int32} : hI (sRow h b f) b = f := by
  show va_up (hI h) b f b = f
  unfold va_up
  rw [if_pos rfl]
theorem hI_row_ne {h : PH} {b z : Nat} {f : Nat → Int32} (hz : z ≠ b) : hI (sRow h b f) z = hI h z := by
  show va_up (hI h) b f z = hI h z
  unfold va_up
  rw [if_neg hz]
section WL
variable {N : Nat}
theorem c_joined {h : PH} {v a b : Int32} : f_X1_joined N v a b h = some (jn v a b, h) := by
  unfold f_X1_joined jn
  split
  · rfl
  split
  · rfl
  split
  · split <;> rfl
  split
  · split <;> rfl
  split
  · split
    · split <;> rfl
    · rfl
  split
  · split
    · rfl
    · split <;> rfl
  · rfl
set_option maxHeartbeats 1000000 in
theorem c_wl {a len : Nat} {code : Nat → Int32} {s c w l m : Int32} (hlen : len ≤ 1000) : ∀ (n q i : Nat) (st : List Int32) (h : PH), q < n → q + i = len → LW h a → hI h a 3 = nI len → hI h (a + 1) = code → SK (hI h (a + 2)) st → st.length ≤ 32 → ∃ r, f_X1_worth_6 N n a s c w l m (nI st.length) (nI i) h = some ((evL code s c w l m q i st).getLastD 0, sRow h (a + 2) r)
  | 0, q, i, st, h, h1, _, _, _, _, _, _ => by omega
  | n + 1, q, i, st, h, h1, h2, hL, hl, hc, hk, h32 => by
    have goOn : ∀ (st' : List Int32) (r : Nat → Int32) (q' : Nat), q = q' + 1 → SK r st' → st'.length ≤ 32 → evS s c w l m st (code i) = st' → ∃ r', f_X1_worth_187 N (f_X1_worth_6 N n) a s c w l m (nI st'.length) (nI i) (sRow h (a + 2) r) = some ((evL code s c w l m q i st).getLastD 0, sRow h (a + 2) r') := by
      intro st' r q' hq hk' hl' he
      subst hq
      unfold f_X1_worth_187
      rw [bd_e, nI_1]
      obtain ⟨r', hr⟩ := c_wl (code := code) hlen n q' (i + 1) st' (sRow h (a + 2) r) (by omega) (by omega) (hL.sm Sm.sRow) (by rw [hI_row_ne (by omega)]; exact hl) (by rw [hI_row_ne (by omega)]; exact hc) (by rw [hI_row]; exact hk') hl'
      refine ⟨r', ?_⟩
      rw [hr, sRow2]
      show _ = some ((evL code s c w l m q' (i + 1) (evS s c w l m st (code i))).getLastD 0, _)
      rw [he]
    have stay : ∀ (q' : Nat), q = q' + 1 → evS s c w l m st (code i) = st → ∃ r', f_X1_worth_187 N (f_X1_worth_6 N n) a s c w l m (nI st.length) (nI i) h = some ((evL code s c w l m q i st).getLastD 0, sRow h (a + 2) r') := by
      intro q' hq he
      have := goOn st (hI h (a + 2)) q' hq hk h32 he
      rw [sRow_self] at this
      exact this
    obtain ⟨k0, r1, r2, ⟨k1, n1⟩, ⟨k2, n2⟩⟩ := id hL
    show ∃ r, f_X1_worth_6_b N (f_X1_worth_6 N n) a s c w l m _ _ h = _
    unfold f_X1_worth_6_b
    rw [ck_p k0, hl, ite_i (nI_leI (by omega) (by omega))]
    match q, h1, h2, goOn, stay with
    | 0, h1, h2, goOn, stay =>
      rw [if_pos (by omega)]
      refine ⟨hI h (a + 2), ?_⟩
      rw [sRow_self]
      cases st with
      | nil => rw [if_pos (by decide)]; rfl
      | cons t st =>
        rw [if_neg (nI_nle (by simp) (by simp at h32 ⊢; omega)), r2, rq_s, ck_p k2, n2, ck_p (by decide), SK_bot hk (by simp)]
        rfl
    | q + 1, h1, h2, goOn, stay =>
      rw [if_neg (by omega), r1, rq_s, ck_p k1, n1, ck_p (nI_ix (by omega) (by omega)), bd_e, ix_nI (by omega), hc]
      by_cases v5 : code i < -5
      · rw [if_pos v5]
        by_cases v6 : code i = -6
        · rw [if_pos v6]
          cases st with
          | nil =>
            rw [if_pos (by decide)]
            exact stay q rfl (by unfold evS; rw [if_pos v5, if_pos v6])
          | cons t st =>
            have hl2 : st.length + 1 ≤ 32 := h32
            have e1 : nI (t :: st).length - (1 : Int32) = nI st.length := nI_pred st.length
            rw [if_neg (nI_nle (by simp) (by simp at h32 ⊢; omega)), r2, rq_s, rq_s, ck_p k2, n2, e1, ck_p (nI_ix (by omega) (by omega)), ix_nI (by omega), hk.1]
            unfold f_X1_worth_144
            have nx : inb (nI st.length) 32 := nI_ix (by omega) (by omega)
            have ex : ix (nI st.length) = st.length := ix_nI (by omega)
            by_cases t0 : t = 0
            · rw [if_pos t0, ck_p k2, n2, ck_p nx, ex, bd_e, sI_row]
              exact goOn (1 :: st) _ q rfl (SK_push hk.2) h32 (by unfold evS; rw [if_pos v5, if_pos v6]; simp [t0])
            · rw [if_neg t0, ck_p k2, n2, ck_p nx, ex, bd_e, sI_row]
              exact goOn (0 :: st) _ q rfl (SK_push hk.2) h32 (by unfold evS; rw [if_pos v5, if_pos v6]; simp [t0])
        · rw [if_neg v6]
          match st, hk, h32, goOn, stay with
          | [], hk, h32, goOn, stay =>
            rw [if_pos (by decide)]
            exact stay q rfl (by unfold evS; rw [if_pos v5, if_neg v6])
          | [t], hk, h32, goOn, stay =>
            rw [if_pos (show nI [t].length ≤ (1 : Int32) from (by decide : nI 1 ≤ (1 : Int32)))]
            exact stay q rfl (by unfold evS; rw [if_pos v5, if_neg v6])
          | t :: u :: st, hk, h32, goOn, stay =>
            have hl2 : st.length + 1 + 1 ≤ 32 := h32
            have e1 : nI (t :: u :: st).length + (-1 : Int32) = nI (st.length + 1) := pk_m1 (st.length + 1)
            have e2 : nI (st.length + 1) - (1 : Int32) = nI st.length := nI_pred st.length
            have w1 : hI h (a + 2) (st.length + 1) = t := hk.1
            have w2 : hI h (a + 2) st.length = u := hk.2.1
            rw [if_neg (show ¬ nI (t :: u :: st).length ≤ (1 : Int32) from nI_ge (a := 1) (b := st.length + 1 + 1) (by omega) (by omega)), bd_e, e1, r2, rq_s, rq_s, ck_p k2, n2, e2, ck_p (nI_ix (by omega) (by omega)), rq_s, ck_p k2, n2, ck_p (nI_ix (by omega) (by omega)), ix_nI (by omega), ix_nI (by omega), w1, w2, c_joined, cl_s, ck_p k2, n2, ck_p (nI_ix (by omega) (by omega)), bd_e, sI_row]
            exact goOn (jn (code i) u t :: st) _ q rfl (SK_push hk.2.2) (by simp; omega) (by unfold evS; rw [if_pos v5, if_neg v6])
      · rw [if_neg v5]
        by_cases f32 : 32 ≤ st.length
        · rw [if_pos (show (32 : Int32) ≤ nI st.length from nI_le (a := 32) f32 (by omega))]
          exact stay q rfl (by unfold evS; rw [if_neg v5, if_pos f32])
        · have h31 : st.length < 32 := by omega
          have push : ∀ v : Int32, evS s c w l m st (code i) = v :: st → ∃ r', f_X1_worth_100 N (f_X1_worth_6 N n) v (nI st.length) (a + 2) a s c w l m (nI st.length) (nI i) h = some ((evL code s c w l m (q + 1) i st).getLastD 0, sRow h (a + 2) r') := by
            intro v he
            unfold f_X1_worth_100
            rw [ck_p k2, n2, ck_p (nI_ix (by omega) (by omega)), ix_nI (by omega), bd_e, bd_e, nI_1, sI_row]
            exact goOn (v :: st) _ q rfl (SK_push hk) (by simp; omega) he
          rw [if_neg (show ¬ (32 : Int32) ≤ nI st.length from nI_ge (b := 32) (by omega) (by decide)), r2, rq_s]
          by_cases v0 : code i < 0
          · rw [if_pos v0]
            by_cases g1 : code i = -1
            · rw [if_pos g1]; exact push s (by unfold evS; rw [if_neg v5, if_neg f32, if_pos v0, if_pos g1])
            · rw [if_neg g1]
              by_cases g2 : code i = -2
              · rw [if_pos g2]; exact push c (by unfold evS; rw [if_neg v5, if_neg f32, if_pos v0, if_neg g1, if_pos g2])
              · rw [if_neg g2]
                by_cases g3 : code i = -3
                · rw [if_pos g3]; exact push w (by unfold evS; rw [if_neg v5, if_neg f32, if_pos v0, if_neg g1, if_neg g2, if_pos g3])
                · rw [if_neg g3]
                  by_cases g4 : code i = -4
                  · rw [if_pos g4]; exact push l (by unfold evS; rw [if_neg v5, if_neg f32, if_pos v0, if_neg g1, if_neg g2, if_neg g3, if_pos g4])
                  · rw [if_neg g4]; exact push m (by unfold evS; rw [if_neg v5, if_neg f32, if_pos v0, if_neg g1, if_neg g2, if_neg g3, if_neg g4])
          · rw [if_neg v0]; exact push (code i) (by unfold evS; rw [if_neg v5, if_neg f32, if_neg v0])
theorem c_worth (hN : 2000 ≤ N) {h : PH} {a len : Nat} (hlen : len ≤ 1000) (hL : LW h a) (hl : hI h a 3 = nI len) (s c w l m : Int32) : ∃ r, f_X1_worth N a s c w l m h = some (evC (hI h (a + 1)) len s c w l m, sRow h (a + 2) r) := c_wl hlen N len 0 [] h (by omega) (by omega) hL hl rfl trivial (by simp)
end WL
