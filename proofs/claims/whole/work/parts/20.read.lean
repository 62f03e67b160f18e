/-- the reference's object at y: slot, place behind y, kind, length of its arrays -/
def mdT : List (Nat × Nat × Nat × Nat) := [(2, 1, 12, 1000), (10, 2, 12, 12), (11, 3, 14, 44), (12, 4, 12, 10), (13, 5, 12, 10), (14, 6, 12, 10), (15, 7, 12, 8), (16, 8, 12, 40), (17, 9, 12, 48), (18, 10, 12, 8), (19, 11, 12, 24), (20, 12, 12, 4), (21, 13, 12, 4), (22, 14, 12, 2000), (25, 15, 12, 7), (26, 16, 13, 7), (27, 17, 12, 7), (28, 18, 12, 7), (29, 19, 12, 7), (30, 20, 12, 7), (31, 21, 12, 7), (32, 22, 12, 7), (33, 23, 12, 7), (34, 24, 12, 7), (35, 25, 12, 7), (36, 26, 12, 20), (39, 27, 12, 6), (40, 28, 12, 240), (41, 29, 12, 240), (42, 30, 12, 240), (43, 31, 12, 240), (44, 32, 12, 240), (45, 33, 12, 5), (46, 34, 12, 40), (47, 35, 12, 40), (48, 36, 12, 40), (49, 37, 12, 32), (50, 38, 12, 32), (51, 39, 12, 128), (52, 40, 12, 512), (53, 41, 13, 4), (57, 42, 12, 4), (58, 43, 12, 4), (59, 44, 12, 4), (60, 45, 12, 32), (63, 46, 12, 4), (64, 47, 12, 1001)]
def MD (h : PH) (y : Nat) : Prop := hK h y = 10 ∧ ∀ q ∈ mdT, hR h y q.1 = some (y + q.2.1) ∧ hK h (y + q.2.1) = q.2.2.1 ∧ hN h (y + q.2.1) = q.2.2.2
theorem MD.sm {h h' : PH} {y : Nat} (s : Sm h h') (p : MD h y) : MD h' y := by unfold MD at p ⊢; rw [s.1, s.2.1, s.2.2.1]; exact p
section MDs
variable {h : PH} {y : Nat}
theorem mR_tape (m : MD h y) : hR h y 2 = some (y + 1) := (m.2 (2, 1, 12, 1000) (by decide)).1
theorem mK_tape (m : MD h y) : hK h (y + 1) = 12 := (m.2 (2, 1, 12, 1000) (by decide)).2.1
theorem mN_tape (m : MD h y) : hN h (y + 1) = 1000 := (m.2 (2, 1, 12, 1000) (by decide)).2.2
theorem mR_valley (m : MD h y) : hR h y 10 = some (y + 2) := (m.2 (10, 2, 12, 12) (by decide)).1
theorem mK_valley (m : MD h y) : hK h (y + 2) = 12 := (m.2 (10, 2, 12, 12) (by decide)).2.1
theorem mN_valley (m : MD h y) : hN h (y + 2) = 12 := (m.2 (10, 2, 12, 12) (by decide)).2.2
theorem mR_names (m : MD h y) : hR h y 11 = some (y + 3) := (m.2 (11, 3, 14, 44) (by decide)).1
theorem mK_names (m : MD h y) : hK h (y + 3) = 14 := (m.2 (11, 3, 14, 44) (by decide)).2.1
theorem mN_names (m : MD h y) : hN h (y + 3) = 44 := (m.2 (11, 3, 14, 44) (by decide)).2.2
theorem mR_fuelDark (m : MD h y) : hR h y 12 = some (y + 4) := (m.2 (12, 4, 12, 10) (by decide)).1
theorem mK_fuelDark (m : MD h y) : hK h (y + 4) = 12 := (m.2 (12, 4, 12, 10) (by decide)).2.1
theorem mN_fuelDark (m : MD h y) : hN h (y + 4) = 10 := (m.2 (12, 4, 12, 10) (by decide)).2.2
theorem mR_fuelSweet (m : MD h y) : hR h y 13 = some (y + 5) := (m.2 (13, 5, 12, 10) (by decide)).1
theorem mK_fuelSweet (m : MD h y) : hK h (y + 5) = 12 := (m.2 (13, 5, 12, 10) (by decide)).2.1
theorem mN_fuelSweet (m : MD h y) : hN h (y + 5) = 10 := (m.2 (13, 5, 12, 10) (by decide)).2.2
theorem mR_fuelLong (m : MD h y) : hR h y 14 = some (y + 6) := (m.2 (14, 6, 12, 10) (by decide)).1
theorem mK_fuelLong (m : MD h y) : hK h (y + 6) = 12 := (m.2 (14, 6, 12, 10) (by decide)).2.1
theorem mN_fuelLong (m : MD h y) : hN h (y + 6) = 10 := (m.2 (14, 6, 12, 10) (by decide)).2.2
theorem mR_houseAt (m : MD h y) : hR h y 15 = some (y + 7) := (m.2 (15, 7, 12, 8) (by decide)).1
theorem mK_houseAt (m : MD h y) : hK h (y + 7) = 12 := (m.2 (15, 7, 12, 8) (by decide)).2.1
theorem mN_houseAt (m : MD h y) : hN h (y + 7) = 8 := (m.2 (15, 7, 12, 8) (by decide)).2.2
theorem mR_stockTold (m : MD h y) : hR h y 16 = some (y + 8) := (m.2 (16, 8, 12, 40) (by decide)).1
theorem mK_stockTold (m : MD h y) : hK h (y + 8) = 12 := (m.2 (16, 8, 12, 40) (by decide)).2.1
theorem mN_stockTold (m : MD h y) : hN h (y + 8) = 40 := (m.2 (16, 8, 12, 40) (by decide)).2.2
theorem mR_signs (m : MD h y) : hR h y 17 = some (y + 9) := (m.2 (17, 9, 12, 48) (by decide)).1
theorem mK_signs (m : MD h y) : hK h (y + 9) = 12 := (m.2 (17, 9, 12, 48) (by decide)).2.1
theorem mN_signs (m : MD h y) : hN h (y + 9) = 48 := (m.2 (17, 9, 12, 48) (by decide)).2.2
theorem mR_sight (m : MD h y) : hR h y 18 = some (y + 10) := (m.2 (18, 10, 12, 8) (by decide)).1
theorem mK_sight (m : MD h y) : hK h (y + 10) = 12 := (m.2 (18, 10, 12, 8) (by decide)).2.1
theorem mN_sight (m : MD h y) : hN h (y + 10) = 8 := (m.2 (18, 10, 12, 8) (by decide)).2.2
theorem mR_wind (m : MD h y) : hR h y 19 = some (y + 11) := (m.2 (19, 11, 12, 24) (by decide)).1
theorem mK_wind (m : MD h y) : hK h (y + 11) = 12 := (m.2 (19, 11, 12, 24) (by decide)).2.1
theorem mN_wind (m : MD h y) : hN h (y + 11) = 24 := (m.2 (19, 11, 12, 24) (by decide)).2.2
theorem mR_lineFrom (m : MD h y) : hR h y 20 = some (y + 12) := (m.2 (20, 12, 12, 4) (by decide)).1
theorem mK_lineFrom (m : MD h y) : hK h (y + 12) = 12 := (m.2 (20, 12, 12, 4) (by decide)).2.1
theorem mN_lineFrom (m : MD h y) : hN h (y + 12) = 4 := (m.2 (20, 12, 12, 4) (by decide)).2.2
theorem mR_lineTo (m : MD h y) : hR h y 21 = some (y + 13) := (m.2 (21, 13, 12, 4) (by decide)).1
theorem mK_lineTo (m : MD h y) : hK h (y + 13) = 12 := (m.2 (21, 13, 12, 4) (by decide)).2.1
theorem mN_lineTo (m : MD h y) : hN h (y + 13) = 4 := (m.2 (21, 13, 12, 4) (by decide)).2.2
theorem mR_codes (m : MD h y) : hR h y 22 = some (y + 14) := (m.2 (22, 14, 12, 2000) (by decide)).1
theorem mK_codes (m : MD h y) : hK h (y + 14) = 12 := (m.2 (22, 14, 12, 2000) (by decide)).2.1
theorem mN_codes (m : MD h y) : hN h (y + 14) = 2000 := (m.2 (22, 14, 12, 2000) (by decide)).2.2
theorem mR_opened (m : MD h y) : hR h y 25 = some (y + 15) := (m.2 (25, 15, 12, 7) (by decide)).1
theorem mK_opened (m : MD h y) : hK h (y + 15) = 12 := (m.2 (25, 15, 12, 7) (by decide)).2.1
theorem mN_opened (m : MD h y) : hN h (y + 15) = 7 := (m.2 (25, 15, 12, 7) (by decide)).2.2
theorem mR_compared (m : MD h y) : hR h y 26 = some (y + 16) := (m.2 (26, 16, 13, 7) (by decide)).1
theorem mK_compared (m : MD h y) : hK h (y + 16) = 13 := (m.2 (26, 16, 13, 7) (by decide)).2.1
theorem mN_compared (m : MD h y) : hN h (y + 16) = 7 := (m.2 (26, 16, 13, 7) (by decide)).2.2
theorem mR_kept (m : MD h y) : hR h y 27 = some (y + 17) := (m.2 (27, 17, 12, 7) (by decide)).1
theorem mK_kept (m : MD h y) : hK h (y + 17) = 12 := (m.2 (27, 17, 12, 7) (by decide)).2.1
theorem mN_kept (m : MD h y) : hN h (y + 17) = 7 := (m.2 (27, 17, 12, 7) (by decide)).2.2
theorem mR_keptBy (m : MD h y) : hR h y 28 = some (y + 18) := (m.2 (28, 18, 12, 7) (by decide)).1
theorem mK_keptBy (m : MD h y) : hK h (y + 18) = 12 := (m.2 (28, 18, 12, 7) (by decide)).2.1
theorem mN_keptBy (m : MD h y) : hN h (y + 18) = 7 := (m.2 (28, 18, 12, 7) (by decide)).2.2
theorem mR_ahead (m : MD h y) : hR h y 29 = some (y + 19) := (m.2 (29, 19, 12, 7) (by decide)).1
theorem mK_ahead (m : MD h y) : hK h (y + 19) = 12 := (m.2 (29, 19, 12, 7) (by decide)).2.1
theorem mN_ahead (m : MD h y) : hN h (y + 19) = 7 := (m.2 (29, 19, 12, 7) (by decide)).2.2
theorem mR_against (m : MD h y) : hR h y 30 = some (y + 20) := (m.2 (30, 20, 12, 7) (by decide)).1
theorem mK_against (m : MD h y) : hK h (y + 20) = 12 := (m.2 (30, 20, 12, 7) (by decide)).2.1
theorem mN_against (m : MD h y) : hN h (y + 20) = 7 := (m.2 (30, 20, 12, 7) (by decide)).2.2
theorem mR_sum (m : MD h y) : hR h y 31 = some (y + 21) := (m.2 (31, 21, 12, 7) (by decide)).1
theorem mK_sum (m : MD h y) : hK h (y + 21) = 12 := (m.2 (31, 21, 12, 7) (by decide)).2.1
theorem mN_sum (m : MD h y) : hN h (y + 21) = 7 := (m.2 (31, 21, 12, 7) (by decide)).2.2
theorem mR_sumBy (m : MD h y) : hR h y 32 = some (y + 22) := (m.2 (32, 22, 12, 7) (by decide)).1
theorem mK_sumBy (m : MD h y) : hK h (y + 22) = 12 := (m.2 (32, 22, 12, 7) (by decide)).2.1
theorem mN_sumBy (m : MD h y) : hN h (y + 22) = 7 := (m.2 (32, 22, 12, 7) (by decide)).2.2
theorem mR_term (m : MD h y) : hR h y 33 = some (y + 23) := (m.2 (33, 23, 12, 7) (by decide)).1
theorem mK_term (m : MD h y) : hK h (y + 23) = 12 := (m.2 (33, 23, 12, 7) (by decide)).2.1
theorem mN_term (m : MD h y) : hN h (y + 23) = 7 := (m.2 (33, 23, 12, 7) (by decide)).2.2
theorem mR_termBy (m : MD h y) : hR h y 34 = some (y + 24) := (m.2 (34, 24, 12, 7) (by decide)).1
theorem mK_termBy (m : MD h y) : hK h (y + 24) = 12 := (m.2 (34, 24, 12, 7) (by decide)).2.1
theorem mN_termBy (m : MD h y) : hN h (y + 24) = 7 := (m.2 (34, 24, 12, 7) (by decide)).2.2
theorem mR_byNot (m : MD h y) : hR h y 35 = some (y + 25) := (m.2 (35, 25, 12, 7) (by decide)).1
theorem mK_byNot (m : MD h y) : hK h (y + 25) = 12 := (m.2 (35, 25, 12, 7) (by decide)).2.1
theorem mN_byNot (m : MD h y) : hN h (y + 25) = 7 := (m.2 (35, 25, 12, 7) (by decide)).2.2
theorem mR_valueOf (m : MD h y) : hR h y 36 = some (y + 26) := (m.2 (36, 26, 12, 20) (by decide)).1
theorem mK_valueOf (m : MD h y) : hK h (y + 26) = 12 := (m.2 (36, 26, 12, 20) (by decide)).2.1
theorem mN_valueOf (m : MD h y) : hN h (y + 26) = 20 := (m.2 (36, 26, 12, 20) (by decide)).2.2
theorem mR_lines (m : MD h y) : hR h y 39 = some (y + 27) := (m.2 (39, 27, 12, 6) (by decide)).1
theorem mK_lines (m : MD h y) : hK h (y + 27) = 12 := (m.2 (39, 27, 12, 6) (by decide)).2.1
theorem mN_lines (m : MD h y) : hN h (y + 27) = 6 := (m.2 (39, 27, 12, 6) (by decide)).2.2
theorem mR_lineWhat (m : MD h y) : hR h y 40 = some (y + 28) := (m.2 (40, 28, 12, 240) (by decide)).1
theorem mK_lineWhat (m : MD h y) : hK h (y + 28) = 12 := (m.2 (40, 28, 12, 240) (by decide)).2.1
theorem mN_lineWhat (m : MD h y) : hN h (y + 28) = 240 := (m.2 (40, 28, 12, 240) (by decide)).2.2
theorem mR_lineA (m : MD h y) : hR h y 41 = some (y + 29) := (m.2 (41, 29, 12, 240) (by decide)).1
theorem mK_lineA (m : MD h y) : hK h (y + 29) = 12 := (m.2 (41, 29, 12, 240) (by decide)).2.1
theorem mN_lineA (m : MD h y) : hN h (y + 29) = 240 := (m.2 (41, 29, 12, 240) (by decide)).2.2
theorem mR_lineB (m : MD h y) : hR h y 42 = some (y + 30) := (m.2 (42, 30, 12, 240) (by decide)).1
theorem mK_lineB (m : MD h y) : hK h (y + 30) = 12 := (m.2 (42, 30, 12, 240) (by decide)).2.1
theorem mN_lineB (m : MD h y) : hN h (y + 30) = 240 := (m.2 (42, 30, 12, 240) (by decide)).2.2
theorem mR_lineC (m : MD h y) : hR h y 43 = some (y + 31) := (m.2 (43, 31, 12, 240) (by decide)).1
theorem mK_lineC (m : MD h y) : hK h (y + 31) = 12 := (m.2 (43, 31, 12, 240) (by decide)).2.1
theorem mN_lineC (m : MD h y) : hN h (y + 31) = 240 := (m.2 (43, 31, 12, 240) (by decide)).2.2
theorem mR_lineN (m : MD h y) : hR h y 44 = some (y + 32) := (m.2 (44, 32, 12, 240) (by decide)).1
theorem mK_lineN (m : MD h y) : hK h (y + 32) = 12 := (m.2 (44, 32, 12, 240) (by decide)).2.1
theorem mN_lineN (m : MD h y) : hN h (y + 32) = 240 := (m.2 (44, 32, 12, 240) (by decide)).2.2
theorem mR_seens (m : MD h y) : hR h y 45 = some (y + 33) := (m.2 (45, 33, 12, 5) (by decide)).1
theorem mK_seens (m : MD h y) : hK h (y + 33) = 12 := (m.2 (45, 33, 12, 5) (by decide)).2.1
theorem mN_seens (m : MD h y) : hN h (y + 33) = 5 := (m.2 (45, 33, 12, 5) (by decide)).2.2
theorem mR_seenWho (m : MD h y) : hR h y 46 = some (y + 34) := (m.2 (46, 34, 12, 40) (by decide)).1
theorem mK_seenWho (m : MD h y) : hK h (y + 34) = 12 := (m.2 (46, 34, 12, 40) (by decide)).2.1
theorem mN_seenWho (m : MD h y) : hN h (y + 34) = 40 := (m.2 (46, 34, 12, 40) (by decide)).2.2
theorem mR_seenFlue (m : MD h y) : hR h y 47 = some (y + 35) := (m.2 (47, 35, 12, 40) (by decide)).1
theorem mK_seenFlue (m : MD h y) : hK h (y + 35) = 12 := (m.2 (47, 35, 12, 40) (by decide)).2.1
theorem mN_seenFlue (m : MD h y) : hN h (y + 35) = 40 := (m.2 (47, 35, 12, 40) (by decide)).2.2
theorem mR_seenSign (m : MD h y) : hR h y 48 = some (y + 36) := (m.2 (48, 36, 12, 40) (by decide)).1
theorem mK_seenSign (m : MD h y) : hK h (y + 36) = 12 := (m.2 (48, 36, 12, 40) (by decide)).2.1
theorem mN_seenSign (m : MD h y) : hN h (y + 36) = 40 := (m.2 (48, 36, 12, 40) (by decide)).2.2
theorem mR_s (m : MD h y) : hR h y 49 = some (y + 37) := (m.2 (49, 37, 12, 32) (by decide)).1
theorem mK_s (m : MD h y) : hK h (y + 37) = 12 := (m.2 (49, 37, 12, 32) (by decide)).2.1
theorem mN_s (m : MD h y) : hN h (y + 37) = 32 := (m.2 (49, 37, 12, 32) (by decide)).2.2
theorem mR_aside (m : MD h y) : hR h y 50 = some (y + 38) := (m.2 (50, 38, 12, 32) (by decide)).1
theorem mK_aside (m : MD h y) : hK h (y + 38) = 12 := (m.2 (50, 38, 12, 32) (by decide)).2.1
theorem mN_aside (m : MD h y) : hN h (y + 38) = 32 := (m.2 (50, 38, 12, 32) (by decide)).2.2
theorem mR_marked (m : MD h y) : hR h y 51 = some (y + 39) := (m.2 (51, 39, 12, 128) (by decide)).1
theorem mK_marked (m : MD h y) : hK h (y + 39) = 12 := (m.2 (51, 39, 12, 128) (by decide)).2.1
theorem mN_marked (m : MD h y) : hN h (y + 39) = 128 := (m.2 (51, 39, 12, 128) (by decide)).2.2
theorem mR_undone (m : MD h y) : hR h y 52 = some (y + 40) := (m.2 (52, 40, 12, 512) (by decide)).1
theorem mK_undone (m : MD h y) : hK h (y + 40) = 12 := (m.2 (52, 40, 12, 512) (by decide)).2.1
theorem mN_undone (m : MD h y) : hN h (y + 40) = 512 := (m.2 (52, 40, 12, 512) (by decide)).2.2
theorem mR_isLaid (m : MD h y) : hR h y 53 = some (y + 41) := (m.2 (53, 41, 13, 4) (by decide)).1
theorem mK_isLaid (m : MD h y) : hK h (y + 41) = 13 := (m.2 (53, 41, 13, 4) (by decide)).2.1
theorem mN_isLaid (m : MD h y) : hN h (y + 41) = 4 := (m.2 (53, 41, 13, 4) (by decide)).2.2
theorem mR_way (m : MD h y) : hR h y 57 = some (y + 42) := (m.2 (57, 42, 12, 4) (by decide)).1
theorem mK_way (m : MD h y) : hK h (y + 42) = 12 := (m.2 (57, 42, 12, 4) (by decide)).2.1
theorem mN_way (m : MD h y) : hN h (y + 42) = 4 := (m.2 (57, 42, 12, 4) (by decide)).2.2
theorem mR_wayKept (m : MD h y) : hR h y 58 = some (y + 43) := (m.2 (58, 43, 12, 4) (by decide)).1
theorem mK_wayKept (m : MD h y) : hK h (y + 43) = 12 := (m.2 (58, 43, 12, 4) (by decide)).2.1
theorem mN_wayKept (m : MD h y) : hN h (y + 43) = 4 := (m.2 (58, 43, 12, 4) (by decide)).2.2
theorem mR_bestWay (m : MD h y) : hR h y 59 = some (y + 44) := (m.2 (59, 44, 12, 4) (by decide)).1
theorem mK_bestWay (m : MD h y) : hK h (y + 44) = 12 := (m.2 (59, 44, 12, 4) (by decide)).2.1
theorem mN_bestWay (m : MD h y) : hN h (y + 44) = 4 := (m.2 (59, 44, 12, 4) (by decide)).2.2
theorem mR_spelt (m : MD h y) : hR h y 60 = some (y + 45) := (m.2 (60, 45, 12, 32) (by decide)).1
theorem mK_spelt (m : MD h y) : hK h (y + 45) = 12 := (m.2 (60, 45, 12, 32) (by decide)).2.1
theorem mN_spelt (m : MD h y) : hN h (y + 45) = 32 := (m.2 (60, 45, 12, 32) (by decide)).2.2
theorem mR_always (m : MD h y) : hR h y 63 = some (y + 46) := (m.2 (63, 46, 12, 4) (by decide)).1
theorem mK_always (m : MD h y) : hK h (y + 46) = 12 := (m.2 (63, 46, 12, 4) (by decide)).2.1
theorem mN_always (m : MD h y) : hN h (y + 46) = 4 := (m.2 (63, 46, 12, 4) (by decide)).2.2
theorem mR_alike (m : MD h y) : hR h y 64 = some (y + 47) := (m.2 (64, 47, 12, 1001) (by decide)).1
theorem mK_alike (m : MD h y) : hK h (y + 47) = 12 := (m.2 (64, 47, 12, 1001) (by decide)).2.1
theorem mN_alike (m : MD h y) : hN h (y + 47) = 1001 := (m.2 (64, 47, 12, 1001) (by decide)).2.2
end MDs
section VLs
variable {h : PH} {a : Nat}
theorem vR_many (hV : VL h a) : hR h a 0 = some (a + 1) := by unfold VL IA at hV; simp only [hV]
theorem vK_many (hV : VL h a) : hK h (a + 1) = 12 := by unfold VL IA at hV; simp only [hV]
theorem vN_many (hV : VL h a) : hN h (a + 1) = 5 := by unfold VL IA at hV; simp only [hV]
theorem vR_names (hV : VL h a) : hR h a 1 = some (a + 2) := by unfold VL IA at hV; simp only [hV]
theorem vK_names (hV : VL h a) : hK h (a + 2) = 14 := by unfold VL IA at hV; simp only [hV]
theorem vN_names (hV : VL h a) : hN h (a + 2) = 30 := by unfold VL IA at hV; simp only [hV]
theorem vR_dark (hV : VL h a) : hR h a 2 = some (a + 3) := by unfold VL IA at hV; simp only [hV]
theorem vK_dark (hV : VL h a) : hK h (a + 3) = 12 := by unfold VL IA at hV; simp only [hV]
theorem vN_dark (hV : VL h a) : hN h (a + 3) = 5 := by unfold VL IA at hV; simp only [hV]
theorem vR_sweet (hV : VL h a) : hR h a 3 = some (a + 4) := by unfold VL IA at hV; simp only [hV]
theorem vK_sweet (hV : VL h a) : hK h (a + 4) = 12 := by unfold VL IA at hV; simp only [hV]
theorem vN_sweet (hV : VL h a) : hN h (a + 4) = 5 := by unfold VL IA at hV; simp only [hV]
theorem vR_burns (hV : VL h a) : hR h a 4 = some (a + 5) := by unfold VL IA at hV; simp only [hV]
theorem vK_burns (hV : VL h a) : hK h (a + 5) = 12 := by unfold VL IA at hV; simp only [hV]
theorem vN_burns (hV : VL h a) : hN h (a + 5) = 5 := by unfold VL IA at hV; simp only [hV]
theorem vR_flue (hV : VL h a) : hR h a 5 = some (a + 6) := by unfold VL IA at hV; simp only [hV]
theorem vK_flue (hV : VL h a) : hK h (a + 6) = 12 := by unfold VL IA at hV; simp only [hV]
theorem vN_flue (hV : VL h a) : hN h (a + 6) = 4 := by unfold VL IA at hV; simp only [hV]
theorem vR_stock (hV : VL h a) : hR h a 6 = some (a + 7) := by unfold VL IA at hV; simp only [hV]
theorem vK_stock (hV : VL h a) : hK h (a + 7) = 12 := by unfold VL IA at hV; simp only [hV]
theorem vN_stock (hV : VL h a) : hN h (a + 7) = 20 := by unfold VL IA at hV; simp only [hV]
theorem vR_ranges (hV : VL h a) : hR h a 8 = some (a + 8) := by unfold VL IA at hV; simp only [hV]
theorem vK_ranges (hV : VL h a) : hK h (a + 8) = 12 := by unfold VL IA at hV; simp only [hV]
theorem vN_ranges (hV : VL h a) : hN h (a + 8) = 24 := by unfold VL IA at hV; simp only [hV]
theorem vR_sights (hV : VL h a) : hR h a 9 = some (a + 9) := by unfold VL IA at hV; simp only [hV]
theorem vK_sights (hV : VL h a) : hK h (a + 9) = 12 := by unfold VL IA at hV; simp only [hV]
theorem vN_sights (hV : VL h a) : hN h (a + 9) = 4 := by unfold VL IA at hV; simp only [hV]
theorem vR_winds (hV : VL h a) : hR h a 10 = some (a + 10) := by unfold VL IA at hV; simp only [hV]
theorem vK_winds (hV : VL h a) : hK h (a + 10) = 12 := by unfold VL IA at hV; simp only [hV]
theorem vN_winds (hV : VL h a) : hN h (a + 10) = 12 := by unfold VL IA at hV; simp only [hV]
theorem vR_gifts (hV : VL h a) : hR h a 14 = some (a + 17) := by unfold VL IA at hV; simp only [hV]
theorem vK_gifts (hV : VL h a) : hK h (a + 17) = 12 := by unfold VL IA at hV; simp only [hV]
theorem vN_gifts (hV : VL h a) : hN h (a + 17) = 1000 := by unfold VL IA at hV; simp only [hV]
end VLs
section STs
variable {h : PH} {a : Nat}
theorem sR_stock (hS : ST h a) : hR h a 1 = some (a + 1) := by unfold ST IA at hS; simp only [hS]
theorem sK_stock (hS : ST h a) : hK h (a + 1) = 12 := by unfold ST IA at hS; simp only [hS]
theorem sN_stock (hS : ST h a) : hN h (a + 1) = 20 := by unfold ST IA at hS; simp only [hS]
theorem sR_fuel (hS : ST h a) : hR h a 2 = some (a + 2) := by unfold ST IA at hS; simp only [hS]
theorem sK_fuel (hS : ST h a) : hK h (a + 2) = 12 := by unfold ST IA at hS; simp only [hS]
theorem sN_fuel (hS : ST h a) : hN h (a + 2) = 4 := by unfold ST IA at hS; simp only [hS]
theorem sR_left (hS : ST h a) : hR h a 3 = some (a + 3) := by unfold ST IA at hS; simp only [hS]
theorem sK_left (hS : ST h a) : hK h (a + 3) = 12 := by unfold ST IA at hS; simp only [hS]
theorem sN_left (hS : ST h a) : hN h (a + 3) = 4 := by unfold ST IA at hS; simp only [hS]
theorem sR_soot (hS : ST h a) : hR h a 4 = some (a + 4) := by unfold ST IA at hS; simp only [hS]
theorem sK_soot (hS : ST h a) : hK h (a + 4) = 12 := by unfold ST IA at hS; simp only [hS]
theorem sN_soot (hS : ST h a) : hN h (a + 4) = 3 := by unfold ST IA at hS; simp only [hS]
end STs
/-- a row that holds a state from b on, as the reference keeps it -/
def RS (r : Nat → Int32) (b : Nat) (S : AS) : Prop := r b = nI (tH S) ∧ (∀ k, k < 4 → r (b + 1 + k) = nI (tF S k) + (-1)) ∧ (∀ k, k < 4 → r (b + 5 + k) = nI (tL S k)) ∧ (∀ k, k < 20 → r (b + 9 + k) = nI (tT S k)) ∧ ∀ k, k < 3 → r (b + 29 + k) = nI (tS S k)
/-- the reference's valley (the told one), its laws aside -/
def MV (h : PH) (y : Nat) (A : AV) : Prop := (∀ k, k < 6 → hI h (y + 2) k = nI (aC A k)) ∧ (∀ k, k < aC A 0 → hI h (y + 4) k = nI (aD A k) ∧ hI h (y + 5) k = nI (aS A k) ∧ hI h (y + 6) k = nI (aB A k)) ∧ (∀ k, k < aC A 2 → hI h (y + 7) k = nI (aF A k)) ∧ (∀ i f, i < aC A 2 → f < 5 → hI h (y + 8) (5 * i + f) = nI (aT A (5 * i + f)) ∨ (hI h (y + 8) (5 * i + f) = -1 ∧ aT A (5 * i + f) = 0)) ∧ (∀ k, k < 4 * aC A 3 → hI h (y + 9) k = nI (aR A k)) ∧ (∀ k, k < aC A 4 → hI h (y + 10) k = nI (aG A k)) ∧ ∀ k, k < aC A 5 → hI h (y + 11) k = nI (aW A k)
section RC
variable {N : Nat} {h : PH} {a v : Nat} {A : AV} {S : AS} {J : Nat}
theorem c_stockOf (hS : ST h a) (hC : CS h a S) {i f : Nat} (hi : i < 4) (hf : f < 5) : f_X4_stockOf N a (nI i) (nI f) h = some (nI (tT S (5 * i + f)), h) := by
  unfold f_X4_stockOf
  have e : nI i * (5 : Int32) + nI f = nI (5 * i + f) := by
    rw [show (5 : Int32) = nI 5 from rfl, pk_mul, nI_add, Nat.mul_comm]
  rw [if_neg (nI_pos (by omega)), if_neg (show ¬ (4 : Int32) ≤ nI i from nI_ge (b := 4) hi (by decide)), if_neg (nI_pos (by omega)), if_pos (show nI f < (5 : Int32) from nI_lt (b := 5) hf (by decide)), e]
  simp only [rq_s, ck_t, bd_e, cl_s, hS.1, sR_stock hS, sK_stock hS, sN_stock hS]
  rw [ck_p (nI_ix (by omega) (by omega)), ix_nI (by omega), hC.2.1 _ (by omega)]
theorem c_stockOf_out {i f : Int32} (q : i < 0 ∨ (4 : Int32) ≤ i ∨ f < 0 ∨ ¬ f < (5 : Int32)) : f_X4_stockOf N a i f h = some (0, h) := by
  unfold f_X4_stockOf
  by_cases c1 : i < 0
  · rw [if_pos c1]
  · rw [if_neg c1]
    by_cases c2 : (4 : Int32) ≤ i
    · rw [if_pos c2]
    · rw [if_neg c2]
      by_cases c3 : f < 0
      · rw [if_pos c3]
      · rw [if_neg c3, if_neg (by rcases q with q | q | q | q <;> first | exact absurd q c1 | exact absurd q c2 | exact absurd q c3 | exact q)]
theorem c_burns (hS : ST h a) (hC : CS h a S) (hW : WS A J S) {i : Nat} (hi : i < 4) : f_X4_burns N a (nI i) h = some (yes (0 < tL S i), h) := by
  unfold f_X4_burns yes
  have hl := (hW.2.1 i hi).1
  rw [if_neg (nI_pos (by omega)), if_neg (show ¬ (4 : Int32) ≤ nI i from nI_ge (b := 4) hi (by decide))]
  simp only [rq_s, ck_t, bd_e, cl_s, hS.1, sR_left hS, sK_left hS, sN_left hS]
  rw [ck_p (nI_ix hi (by omega)), ix_nI (by omega), hC.2.2.2.1 i hi]
  by_cases c : 0 < tL S i
  · rw [if_neg (nI_nle c (by omega)), if_pos c]
  · rw [if_pos (nI_z c), if_neg c]
theorem yes0 {c : Prop} [Decidable c] : yes c = 0 ↔ ¬ c := by
  unfold yes
  by_cases h : c
  · rw [if_pos h]; exact ⟨fun q => absurd q (by decide), fun q => absurd h q⟩
  · rw [if_neg h]; exact ⟨fun _ => h, fun _ => rfl⟩
theorem c_canLight (hS : ST h a) (hC : CS h a S) (hW : WS A J S) {i f : Nat} (hi : i < 4) (hf : f < 5) : f_X4_canLight N a (nI i) (nI f) h = some (yes (tL S i = 0 ∧ 0 < tT S (5 * i + f)), h) := by
  unfold f_X4_canLight
  have ht := hW.2.2.1 (5 * i + f) (by omega)
  rw [ck_p hS.1, c_burns hS hC hW hi, cl_s, ite_i yes0, ck_p hS.1, c_stockOf hS hC hi hf, cl_s]
  unfold yes
  by_cases c : 0 < tL S i
  · rw [if_neg (fun q => q c), if_neg (by omega)]
  · rw [if_pos c]
    by_cases c2 : 0 < tT S (5 * i + f)
    · rw [if_neg (nI_nle c2 (by omega)), if_pos (by omega)]
    · rw [if_pos (nI_z c2), if_neg (by omega)]
/-- the houses with a fire -/
def tFires (S : AS) : Nat := bts (fun i => decide (0 < tL S i)) 4
theorem c_fr (hS : ST h a) (hC : CS h a S) (hW : WS A J S) : ∀ (n i : Nat), 4 < n + i → i ≤ 4 → f_X4_fires_4 N n a (nI (bts (fun i => decide (0 < tL S i)) i)) (nI i) h = some (nI (tFires S), h)
  | 0, i, h1, h2 => by omega
  | n + 1, i, h1, h2 => by
    show f_X4_fires_4_b N (f_X4_fires_4 N n) a _ _ h = _
    unfold f_X4_fires_4_b
    rw [show (4 : Int32) = nI 4 from rfl, ite_i (nI_leI (by omega) (by omega))]
    by_cases c : 4 ≤ i
    · rw [if_pos c, show i = 4 by omega]; rfl
    · rw [if_neg c, ck_p hS.1, c_burns hS hC hW (by omega), cl_s, ite_i yes0]
      have ih := c_fr hS hC hW n (i + 1) (by omega) (by omega)
      unfold f_X4_fires_23
      rw [bd_e, bd_e, nI_1, bts_or _ (by omega)]
      unfold bts at ih
      by_cases e : 0 < tL S i
      · rw [if_neg (fun q => q e)]
        rw [if_pos (by simpa using e)] at ih
        exact ih
      · rw [if_pos e]
        rw [if_neg (by simpa using e)] at ih
        exact ih
theorem c_fires (hN : 100 ≤ N) (hS : ST h a) (hC : CS h a S) (hW : WS A J S) : f_X4_fires N a h = some (nI (tFires S), h) := c_fr hS hC hW N 0 (by omega) (by omega)
theorem c_so (hS : ST h a) (hC : CS h a S) : ∀ (n i : Nat), 3 < n + i → i ≤ 3 → f_X4_sootOfAll_4 N n a (nI (fb_sm (tS S) i)) (nI i) h = some (nI (fb_sm (tS S) 3), h)
  | 0, i, h1, h2 => by omega
  | n + 1, i, h1, h2 => by
    show f_X4_sootOfAll_4_b N (f_X4_sootOfAll_4 N n) a _ _ h = _
    unfold f_X4_sootOfAll_4_b
    rw [show (3 : Int32) = nI 3 from rfl, ite_i (nI_leI (by omega) (by omega))]
    by_cases c : 3 ≤ i
    · rw [if_pos c, show i = 3 by omega]
    · rw [if_neg c]
      simp only [rq_s, ck_t, bd_e, cl_s, hS.1, sR_soot hS, sK_soot hS, sN_soot hS]
      rw [ck_p (nI_ix (by omega) (by omega)), ix_nI (by omega), hC.2.2.2.2 i (by omega), nI_add, nI_1]
      exact c_so hS hC n (i + 1) (by omega) (by omega)
theorem c_sootOfAll (hN : 100 ≤ N) (hS : ST h a) (hC : CS h a S) : f_X4_sootOfAll N a h = some (nI (fb_sm (tS S) 3), h) := c_so hS hC N 0 (by omega) (by omega)
theorem c_sk (hS : ST h a) (hC : CS h a S) : ∀ (n i : Nat), 20 < n + i → i ≤ 20 → f_X4_stockOfAll_4 N n a (nI (fb_sm (tT S) i)) (nI i) h = some (nI (fb_sm (tT S) 20), h)
  | 0, i, h1, h2 => by omega
  | n + 1, i, h1, h2 => by
    show f_X4_stockOfAll_4_b N (f_X4_stockOfAll_4 N n) a _ _ h = _
    unfold f_X4_stockOfAll_4_b
    simp only [rq_s, ck_t, bd_e, cl_s, hS.1, sR_stock hS, sK_stock hS, sN_stock hS]
    rw [ite_i (nI_leI (by omega) (by omega))]
    by_cases c : 20 ≤ i
    · rw [if_pos c, show i = 20 by omega]
    · rw [if_neg c, ck_p (nI_ix (by omega) (by omega)), ix_nI (by omega), hC.2.1 i (by omega), nI_add, nI_1]
      exact c_sk hS hC n (i + 1) (by omega) (by omega)
theorem c_stockOfAll (hN : 100 ≤ N) (hS : ST h a) (hC : CS h a S) : f_X4_stockOfAll N a h = some (nI (fb_sm (tT S) 20), h) := c_sk hS hC N 0 (by omega) (by omega)
theorem c_windAt (hV : VL h a) (hC : CV h a A) (hW : WV A) {t : Nat} (ht : t < 2 ^ 31) : f_X6_windAt N a (nI t) h = some (nI (aWind A t), h) := by
  unfold f_X6_windAt aWind
  have h12 := hW.1.2.2.2.2.2
  simp only [rq_s, ck_t, bd_e, cl_s, hV.1, vR_winds hV, vK_winds hV, vN_winds hV, hC.2.1]
  by_cases c : aC A 5 = 0
  · rw [c, if_pos (nI_z (by decide)), if_pos rfl]; rfl
  · have hm : t % aC A 5 < aC A 5 := Nat.mod_lt _ (by omega)
    rw [if_neg (nI_nle (by omega) (by omega)), if_neg (nI_pos ht), ck_p (nI_ne0 (by omega) (by omega)), pk_rem ht (by omega) (by omega), ck_p (nI_ix (by omega) (by omega)), ix_nI (by omega), hC.2.2.2.2.2.2.2 _ hm, if_neg c]
/-- v is within the range of a sign by dark (0) or sweet (1) -/
def aFit (A : AV) (k v b : Nat) : Prop := aR A (4 * k + 2 * b) ≤ v ∧ v ≤ aR A (4 * k + 2 * b + 1)
theorem aR_le (hW : WV A) {k j : Nat} (hk : k < aC A 3) (hj : j < 4) : aR A (4 * k + j) ≤ 999 := by
  have q := hW.2.2.2.2.2.1 k hk
  rcases (show j = 0 ∨ j = 1 ∨ j = 2 ∨ j = 3 by omega) with rfl | rfl | rfl | rfl
  · show aR A (4 * k) ≤ 999; omega
  · omega
  · omega
  · omega
/-- the sign of a dark and a sweet: the first whose ranges hold both, if any -/
def aSg (A : AV) (d s : Nat) : Nat → Nat → Nat
  | 0, i => aC A 3
  | n + 1, i => if (aR A (4 * i) ≤ d ∧ d ≤ aR A (4 * i + 1)) ∧ (aR A (4 * i + 2) ≤ s ∧ s ≤ aR A (4 * i + 3)) then i else aSg A d s n (i + 1)
/-- ... as an int: none is -1 -/
def aSign (A : AV) (d s : Nat) : Int32 := if aSg A d s (aC A 3) 0 = aC A 3 then -1 else nI (aSg A d s (aC A 3) 0)
theorem c_fits (hV : VL h a) (hC : CV h a A) (hW : WV A) {k b w : Nat} (hk : k < aC A 3) (hb : b < 2) (hw : w < 2 ^ 31) : f_X6_fits N a (nI k) (nI w) (nI b) h = some (yes (aR A (4 * k + 2 * b) ≤ w ∧ w ≤ aR A (4 * k + 2 * b + 1)), h) := by
  unfold f_X6_fits yes
  have h6 := hW.1.2.2.2.1
  have e : nI k * (4 : Int32) + nI b * (2 : Int32) = nI (4 * k + 2 * b) := by
    rw [show (4 : Int32) = nI 4 from rfl, show (2 : Int32) = nI 2 from rfl, pk_mul, pk_mul, nI_add, Nat.mul_comm k, Nat.mul_comm b]
  have r1 := aR_le hW hk (j := 2 * b) (by omega)
  have r2 := aR_le hW hk (j := 2 * b + 1) (by omega)
  rw [← Nat.add_assoc] at r2
  rw [e]
  simp only [rq_s, ck_t, bd_e, cl_s, hV.1, vR_ranges hV, vK_ranges hV, vN_ranges hV, nI_1]
  rw [ck_p (nI_ix (by omega) (by omega)), ix_nI (by omega), hC.2.2.2.2.2.1 _ (by omega), ite_i (nI_ltI (by omega) (by omega)), ck_p (nI_ix (by omega) (by omega)), ix_nI (by omega), hC.2.2.2.2.2.1 _ (by omega), ite_i (nI_ltI (by omega) (by omega))]
  by_cases c : w < aR A (4 * k + 2 * b)
  · rw [if_pos c, if_neg (by omega)]
  · rw [if_neg c]
    by_cases c2 : aR A (4 * k + 2 * b + 1) < w
    · rw [if_pos c2, if_neg (by omega)]
    · rw [if_neg c2, if_pos (by omega)]
theorem c_sg (hV : VL h a) (hC : CV h a A) (hW : WV A) {d s : Nat} (hd : d ≤ 999) (hs : s ≤ 999) : ∀ (n q i : Nat), q < n → q + i = aC A 3 → f_X6_signOf_20 N n a (nI d) (nI s) (nI i) h = some (if aSg A d s q i = aC A 3 then -1 else nI (aSg A d s q i), h)
  | 0, q, i, h1, h2 => by omega
  | n + 1, q, i, h1, h2 => by
    have h6 := hW.1.2.2.2.1
    show f_X6_signOf_20_b N (f_X6_signOf_20 N n) a _ _ _ h = _
    unfold f_X6_signOf_20_b
    simp only [rq_s, ck_t, bd_e, cl_s, hV.1, vR_many hV, vK_many hV, vN_many hV]
    rw [hC.1 3 (by decide), ck_p (by decide), ite_i (nI_leI (by omega) (by omega))]
    match q, h1, h2 with
    | 0, h1, h2 => rw [if_pos (by omega)]; unfold aSg; rw [if_pos rfl]
    | q + 1, h1, h2 =>
      have e0 : f_X6_fits N a (nI i) (nI d) 0 h = some (yes (aR A (4 * i) ≤ d ∧ d ≤ aR A (4 * i + 1)), h) := c_fits (N := N) hV hC hW (k := i) (b := 0) (w := d) (by omega) (by decide) (by omega)
      have e1 : f_X6_fits N a (nI i) (nI s) 1 h = some (yes (aR A (4 * i + 2) ≤ s ∧ s ≤ aR A (4 * i + 3)), h) := c_fits (N := N) hV hC hW (k := i) (b := 1) (w := s) (by omega) (by decide) (by omega)
      have ih := c_sg hV hC hW hd hs n q (i + 1) (by omega) (by omega)
      unfold f_X6_signOf_57
      rw [if_neg (by omega), e0, cl_s]
      simp only [bd_e, nI_1, ck_p hV.1, e1, cl_s]
      by_cases c : aR A (4 * i) ≤ d ∧ d ≤ aR A (4 * i + 1)
      · rw [if_neg (fun z => yes0.mp z c)]
        by_cases c2 : aR A (4 * i + 2) ≤ s ∧ s ≤ aR A (4 * i + 3)
        · rw [if_neg (fun z => yes0.mp z c2), show aSg A d s (q + 1) i = i from if_pos ⟨c, c2⟩, if_neg (by omega)]
        · rw [if_pos (yes0.mpr c2), ih, show aSg A d s (q + 1) i = aSg A d s q (i + 1) from if_neg (fun z => c2 z.2)]
      · rw [if_pos (yes0.mpr c), ih, show aSg A d s (q + 1) i = aSg A d s q (i + 1) from if_neg (fun z => c z.1)]
theorem c_signOf (hN : 100 ≤ N) (hV : VL h a) (hC : CV h a A) (hW : WV A) {d s : Nat} (hd : d < 2 ^ 31) (hs : s < 2 ^ 31) : f_X6_signOf N a (nI d) (nI s) h = some (aSign A (min d 999) (min s 999), h) := by
  have h6 := hW.1.2.2.2.1
  unfold f_X6_signOf
  have e : ∀ z, z < 2 ^ 31 → (if (999 : Int32) < nI z then (999 : Int32) else nI z) = nI (min z 999) := by
    intro z hz
    rw [show (999 : Int32) = nI 999 from rfl, ite_i (nI_ltI (by omega) hz)]
    by_cases c : 999 < z
    · rw [if_pos c, Nat.min_eq_right (by omega)]
    · rw [if_neg c, Nat.min_eq_left (by omega)]
  rw [e d hd, e s hs, bd_e, bd_e]
  exact c_sg hV hC hW (by omega) (by omega) N (aC A 3) 0 (by omega) (by omega)
end RC
