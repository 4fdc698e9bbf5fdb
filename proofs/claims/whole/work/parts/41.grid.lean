/-! ===== reads and writes, array by array ===== -/
theorem rdI_of {s : Mem} {k n : Nat} {i : Int} (hk : lenI k = n) (h0 : 0 ≤ i) (h1 : i < n) : rdI s k i = some (s k i.toNat) := by unfold rdI; rw [hk, if_pos ⟨h0, h1⟩]
theorem rdB_of {s : Mem} {k n : Nat} {i : Int} (hk : lenB k = n) (h0 : 0 ≤ i) (h1 : i < n) : rdB s k i = some (s k i.toNat) := by unfold rdB; rw [hk, if_pos ⟨h0, h1⟩]
theorem rdZ_of {s : Mem} {k n : Nat} {i : Int} (hk : lenZ k = n) (h0 : 0 ≤ i) (h1 : i < n) : rdZ s k i = some (s k i.toNat) := by unfold rdZ; rw [hk, if_pos ⟨h0, h1⟩]
theorem rdL_of {s : Mem} {k n : Nat} {i : Int} (hk : lenL k = n) (h0 : 0 ≤ i) (h1 : i < n) : rdL s k i = some (s k i.toNat) := by unfold rdL; rw [hk, if_pos ⟨h0, h1⟩]
theorem rdG_of {k n r : Nat} {i : Int} (hk : lenG k = n) (hr : rowG k = r) (h0 : 0 ≤ i) (h1 : i < n) : rdG k i = some (r + i.toNat) := by unfold rdG; rw [hk, hr, if_pos ⟨h0, h1⟩]
theorem wrI_of {s : Mem} {k n : Nat} {i x : Int} (hk : lenI k = n) (h0 : 0 ≤ i) (h1 : i < n) : wrI s k i x = some (mu s k i.toNat x) := by unfold wrI; rw [hk, if_pos ⟨h0, h1⟩]
theorem wrB_of {s : Mem} {k n : Nat} {i x : Int} (hk : lenB k = n) (h0 : 0 ≤ i) (h1 : i < n) : wrB s k i x = some (mu s k i.toNat (w8 x)) := by unfold wrB; rw [hk, if_pos ⟨h0, h1⟩]
theorem wrZ_of {s : Mem} {k n : Nat} {i x : Int} (hk : lenZ k = n) (h0 : 0 ≤ i) (h1 : i < n) (hx : x = 0 ∨ x = 1) : wrZ s k i x = some (mu s k i.toNat x) := by unfold wrZ; rw [hk, if_pos ⟨⟨h0, h1⟩, hx⟩]
theorem wrL_of {s : Mem} {k n : Nat} {i x : Int} (hk : lenL k = n) (h0 : 0 ≤ i) (h1 : i < n) : wrL s k i x = some (mu s k i.toNat x) := by unfold wrL; rw [hk, if_pos ⟨h0, h1⟩]
theorem rdG_sea_harbours {i : Int} (h0 : 0 ≤ i) (h1 : i < 4) : rdG 22 i = some (23 + i.toNat) := rdG_of (n := 4) (r := 23) (by decide +kernel) (by decide +kernel) h0 h1
theorem len_sea_harbours : ∀ j, j < 4 → lenI (23 + j) = 4 := by decide +kernel
theorem rd_sea_harbours {s : Mem} {j : Nat} {i : Int} (hj : j < 4) (h0 : 0 ≤ i) (h1 : i < 4) : rdI s (23 + j) i = some (s (23 + j) i.toNat) := rdI_of (n := 4) (len_sea_harbours j hj) h0 h1
theorem wr_sea_harbours {s : Mem} {j : Nat} {i x : Int} (hj : j < 4) (h0 : 0 ≤ i) (h1 : i < 4) : wrI s (23 + j) i x = some (mu s (23 + j) i.toNat x) := wrI_of (n := 4) (len_sea_harbours j hj) h0 h1
theorem rdG_sea_sorts {i : Int} (h0 : 0 ≤ i) (h1 : i < 4) : rdG 27 i = some (28 + i.toNat) := rdG_of (n := 4) (r := 28) (by decide +kernel) (by decide +kernel) h0 h1
theorem len_sea_sorts : ∀ j, j < 4 → lenI (28 + j) = 5 := by decide +kernel
theorem rd_sea_sorts {s : Mem} {j : Nat} {i : Int} (hj : j < 4) (h0 : 0 ≤ i) (h1 : i < 5) : rdI s (28 + j) i = some (s (28 + j) i.toNat) := rdI_of (n := 5) (len_sea_sorts j hj) h0 h1
theorem wr_sea_sorts {s : Mem} {j : Nat} {i x : Int} (hj : j < 4) (h0 : 0 ≤ i) (h1 : i < 5) : wrI s (28 + j) i x = some (mu s (28 + j) i.toNat x) := wrI_of (n := 5) (len_sea_sorts j hj) h0 h1
theorem rdG_sea_storms {i : Int} (h0 : 0 ≤ i) (h1 : i < 4) : rdG 32 i = some (33 + i.toNat) := rdG_of (n := 4) (r := 33) (by decide +kernel) (by decide +kernel) h0 h1
theorem len_sea_storms : ∀ j, j < 4 → lenI (33 + j) = 6 := by decide +kernel
theorem rd_sea_storms {s : Mem} {j : Nat} {i : Int} (hj : j < 4) (h0 : 0 ≤ i) (h1 : i < 6) : rdI s (33 + j) i = some (s (33 + j) i.toNat) := rdI_of (n := 6) (len_sea_storms j hj) h0 h1
theorem wr_sea_storms {s : Mem} {j : Nat} {i x : Int} (hj : j < 4) (h0 : 0 ≤ i) (h1 : i < 6) : wrI s (33 + j) i x = some (mu s (33 + j) i.toNat x) := wrI_of (n := 6) (len_sea_storms j hj) h0 h1
theorem rdG_sea_miles {i : Int} (h0 : 0 ≤ i) (h1 : i < 4) : rdG 37 i = some (38 + i.toNat) := rdG_of (n := 4) (r := 38) (by decide +kernel) (by decide +kernel) h0 h1
theorem len_sea_miles : ∀ j, j < 4 → lenI (38 + j) = 4 := by decide +kernel
theorem rd_sea_miles {s : Mem} {j : Nat} {i : Int} (hj : j < 4) (h0 : 0 ≤ i) (h1 : i < 4) : rdI s (38 + j) i = some (s (38 + j) i.toNat) := rdI_of (n := 4) (len_sea_miles j hj) h0 h1
theorem wr_sea_miles {s : Mem} {j : Nat} {i x : Int} (hj : j < 4) (h0 : 0 ≤ i) (h1 : i < 4) : wrI s (38 + j) i x = some (mu s (38 + j) i.toNat x) := wrI_of (n := 4) (len_sea_miles j hj) h0 h1
theorem rdG_sea_glass {i : Int} (h0 : 0 ≤ i) (h1 : i < 4) : rdG 42 i = some (43 + i.toNat) := rdG_of (n := 4) (r := 43) (by decide +kernel) (by decide +kernel) h0 h1
theorem len_sea_glass : ∀ j, j < 4 → lenI (43 + j) = 24 := by decide +kernel
theorem rd_sea_glass {s : Mem} {j : Nat} {i : Int} (hj : j < 4) (h0 : 0 ≤ i) (h1 : i < 24) : rdI s (43 + j) i = some (s (43 + j) i.toNat) := rdI_of (n := 24) (len_sea_glass j hj) h0 h1
theorem wr_sea_glass {s : Mem} {j : Nat} {i x : Int} (hj : j < 4) (h0 : 0 ≤ i) (h1 : i < 24) : wrI s (43 + j) i x = some (mu s (43 + j) i.toNat x) := wrI_of (n := 24) (len_sea_glass j hj) h0 h1
theorem rdG_sea_strength {i : Int} (h0 : 0 ≤ i) (h1 : i < 4) : rdG 48 i = some (49 + i.toNat) := rdG_of (n := 4) (r := 49) (by decide +kernel) (by decide +kernel) h0 h1
theorem len_sea_strength : ∀ j, j < 4 → lenI (49 + j) = 24 := by decide +kernel
theorem rd_sea_strength {s : Mem} {j : Nat} {i : Int} (hj : j < 4) (h0 : 0 ≤ i) (h1 : i < 24) : rdI s (49 + j) i = some (s (49 + j) i.toNat) := rdI_of (n := 24) (len_sea_strength j hj) h0 h1
theorem wr_sea_strength {s : Mem} {j : Nat} {i x : Int} (hj : j < 4) (h0 : 0 ≤ i) (h1 : i < 24) : wrI s (49 + j) i x = some (mu s (49 + j) i.toNat x) := wrI_of (n := 24) (len_sea_strength j hj) h0 h1
theorem rdG_sea_openHours {i : Int} (h0 : 0 ≤ i) (h1 : i < 4) : rdG 53 i = some (54 + i.toNat) := rdG_of (n := 4) (r := 54) (by decide +kernel) (by decide +kernel) h0 h1
theorem len_sea_openHours : ∀ j, j < 4 → lenI (54 + j) = 4 := by decide +kernel
theorem rd_sea_openHours {s : Mem} {j : Nat} {i : Int} (hj : j < 4) (h0 : 0 ≤ i) (h1 : i < 4) : rdI s (54 + j) i = some (s (54 + j) i.toNat) := rdI_of (n := 4) (len_sea_openHours j hj) h0 h1
theorem wr_sea_openHours {s : Mem} {j : Nat} {i x : Int} (hj : j < 4) (h0 : 0 ≤ i) (h1 : i < 4) : wrI s (54 + j) i x = some (mu s (54 + j) i.toNat x) := wrI_of (n := 4) (len_sea_openHours j hj) h0 h1
theorem rdG_sea_alive {i : Int} (h0 : 0 ≤ i) (h1 : i < 16) : rdG 58 i = some (59 + i.toNat) := rdG_of (n := 16) (r := 59) (by decide +kernel) (by decide +kernel) h0 h1
theorem len_sea_alive : ∀ j, j < 16 → lenI (59 + j) = 25 := by decide +kernel
theorem rd_sea_alive {s : Mem} {j : Nat} {i : Int} (hj : j < 16) (h0 : 0 ≤ i) (h1 : i < 25) : rdI s (59 + j) i = some (s (59 + j) i.toNat) := rdI_of (n := 25) (len_sea_alive j hj) h0 h1
theorem wr_sea_alive {s : Mem} {j : Nat} {i x : Int} (hj : j < 16) (h0 : 0 ≤ i) (h1 : i < 25) : wrI s (59 + j) i x = some (mu s (59 + j) i.toNat x) := wrI_of (n := 25) (len_sea_alive j hj) h0 h1
theorem rdG_sea_fished {i : Int} (h0 : 0 ≤ i) (h1 : i < 16) : rdG 75 i = some (76 + i.toNat) := rdG_of (n := 16) (r := 76) (by decide +kernel) (by decide +kernel) h0 h1
theorem len_sea_fished : ∀ j, j < 16 → lenL (76 + j) = 25 := by decide +kernel
theorem rd_sea_fished {s : Mem} {j : Nat} {i : Int} (hj : j < 16) (h0 : 0 ≤ i) (h1 : i < 25) : rdL s (76 + j) i = some (s (76 + j) i.toNat) := rdL_of (n := 25) (len_sea_fished j hj) h0 h1
theorem wr_sea_fished {s : Mem} {j : Nat} {i x : Int} (hj : j < 16) (h0 : 0 ≤ i) (h1 : i < 25) : wrL s (76 + j) i x = some (mu s (76 + j) i.toNat x) := wrL_of (n := 25) (len_sea_fished j hj) h0 h1
theorem rdG_sea_arrivals {i : Int} (h0 : 0 ≤ i) (h1 : i < 16) : rdG 92 i = some (93 + i.toNat) := rdG_of (n := 16) (r := 93) (by decide +kernel) (by decide +kernel) h0 h1
theorem len_sea_arrivals : ∀ j, j < 16 → lenI (93 + j) = 96 := by decide +kernel
theorem rd_sea_arrivals {s : Mem} {j : Nat} {i : Int} (hj : j < 16) (h0 : 0 ≤ i) (h1 : i < 96) : rdI s (93 + j) i = some (s (93 + j) i.toNat) := rdI_of (n := 96) (len_sea_arrivals j hj) h0 h1
theorem wr_sea_arrivals {s : Mem} {j : Nat} {i x : Int} (hj : j < 16) (h0 : 0 ≤ i) (h1 : i < 96) : wrI s (93 + j) i x = some (mu s (93 + j) i.toNat x) := wrI_of (n := 96) (len_sea_arrivals j hj) h0 h1
theorem rdG_kept {i : Int} (h0 : 0 ≤ i) (h1 : i < 2) : rdG 113 i = some (114 + i.toNat) := rdG_of (n := 2) (r := 114) (by decide +kernel) (by decide +kernel) h0 h1
theorem rdG_passage_entry {i : Int} (h0 : 0 ≤ i) (h1 : i < 4) : rdG 126 i = some (127 + i.toNat) := rdG_of (n := 4) (r := 127) (by decide +kernel) (by decide +kernel) h0 h1
theorem len_passage_entry : ∀ j, j < 4 → lenI (127 + j) = 8 := by decide +kernel
theorem rd_passage_entry {s : Mem} {j : Nat} {i : Int} (hj : j < 4) (h0 : 0 ≤ i) (h1 : i < 8) : rdI s (127 + j) i = some (s (127 + j) i.toNat) := rdI_of (n := 8) (len_passage_entry j hj) h0 h1
theorem wr_passage_entry {s : Mem} {j : Nat} {i x : Int} (hj : j < 4) (h0 : 0 ≤ i) (h1 : i < 8) : wrI s (127 + j) i x = some (mu s (127 + j) i.toNat x) := wrI_of (n := 8) (len_passage_entry j hj) h0 h1
theorem rd_m_sea {s : Mem} {i : Int} (h0 : 0 ≤ i) (h1 : i < 372) : rdI s 1 i = some (s 1 i.toNat) := rdI_of (n := 372) (by decide +kernel) h0 h1
theorem wr_m_sea {s : Mem} {i x : Int} (h0 : 0 ≤ i) (h1 : i < 372) : wrI s 1 i x = some (mu s 1 i.toNat x) := wrI_of (n := 372) (by decide +kernel) h0 h1
theorem rd_m_now {s : Mem} {i : Int} (h0 : 0 ≤ i) (h1 : i < 12) : rdI s 2 i = some (s 2 i.toNat) := rdI_of (n := 12) (by decide +kernel) h0 h1
theorem wr_m_now {s : Mem} {i x : Int} (h0 : 0 ≤ i) (h1 : i < 12) : wrI s 2 i x = some (mu s 2 i.toNat x) := wrI_of (n := 12) (by decide +kernel) h0 h1
theorem rd_m_kept {s : Mem} {i : Int} (h0 : 0 ≤ i) (h1 : i < 24) : rdI s 3 i = some (s 3 i.toNat) := rdI_of (n := 24) (by decide +kernel) h0 h1
theorem wr_m_kept {s : Mem} {i x : Int} (h0 : 0 ≤ i) (h1 : i < 24) : wrI s 3 i x = some (mu s 3 i.toNat x) := wrI_of (n := 24) (by decide +kernel) h0 h1
theorem rd_m_text {s : Mem} {i : Int} (h0 : 0 ≤ i) (h1 : i < 500) : rdI s 4 i = some (s 4 i.toNat) := rdI_of (n := 500) (by decide +kernel) h0 h1
theorem wr_m_text {s : Mem} {i x : Int} (h0 : 0 ≤ i) (h1 : i < 500) : wrI s 4 i x = some (mu s 4 i.toNat x) := wrI_of (n := 500) (by decide +kernel) h0 h1
theorem rd_m_hours {s : Mem} {i : Int} (h0 : 0 ≤ i) (h1 : i < 4) : rdI s 5 i = some (s 5 i.toNat) := rdI_of (n := 4) (by decide +kernel) h0 h1
theorem wr_m_hours {s : Mem} {i x : Int} (h0 : 0 ≤ i) (h1 : i < 4) : wrI s 5 i x = some (mu s 5 i.toNat x) := wrI_of (n := 4) (by decide +kernel) h0 h1
theorem rd_m_goals {s : Mem} {i : Int} (h0 : 0 ≤ i) (h1 : i < 4) : rdI s 6 i = some (s 6 i.toNat) := rdI_of (n := 4) (by decide +kernel) h0 h1
theorem wr_m_goals {s : Mem} {i x : Int} (h0 : 0 ≤ i) (h1 : i < 4) : wrI s 6 i x = some (mu s 6 i.toNat x) := wrI_of (n := 4) (by decide +kernel) h0 h1
theorem rd_m_speeds {s : Mem} {i : Int} (h0 : 0 ≤ i) (h1 : i < 4) : rdI s 7 i = some (s 7 i.toNat) := rdI_of (n := 4) (by decide +kernel) h0 h1
theorem wr_m_speeds {s : Mem} {i x : Int} (h0 : 0 ≤ i) (h1 : i < 4) : wrI s 7 i x = some (mu s 7 i.toNat x) := wrI_of (n := 4) (by decide +kernel) h0 h1
theorem rd_m_boatSort {s : Mem} {i : Int} (h0 : 0 ≤ i) (h1 : i < 32) : rdI s 8 i = some (s 8 i.toNat) := rdI_of (n := 32) (by decide +kernel) h0 h1
theorem wr_m_boatSort {s : Mem} {i x : Int} (h0 : 0 ≤ i) (h1 : i < 32) : wrI s 8 i x = some (mu s 8 i.toNat x) := wrI_of (n := 32) (by decide +kernel) h0 h1
theorem rd_m_came {s : Mem} {i : Int} (h0 : 0 ≤ i) (h1 : i < 32) : rdI s 9 i = some (s 9 i.toNat) := rdI_of (n := 32) (by decide +kernel) h0 h1
theorem wr_m_came {s : Mem} {i x : Int} (h0 : 0 ≤ i) (h1 : i < 32) : wrI s 9 i x = some (mu s 9 i.toNat x) := wrI_of (n := 32) (by decide +kernel) h0 h1
theorem rd_m_miles {s : Mem} {i : Int} (h0 : 0 ≤ i) (h1 : i < 32) : rdI s 10 i = some (s 10 i.toNat) := rdI_of (n := 32) (by decide +kernel) h0 h1
theorem wr_m_miles {s : Mem} {i x : Int} (h0 : 0 ≤ i) (h1 : i < 32) : wrI s 10 i x = some (mu s 10 i.toNat x) := wrI_of (n := 32) (by decide +kernel) h0 h1
theorem rd_m_lives {s : Mem} {i : Int} (h0 : 0 ≤ i) (h1 : i < 32) : rdI s 11 i = some (s 11 i.toNat) := rdI_of (n := 32) (by decide +kernel) h0 h1
theorem wr_m_lives {s : Mem} {i x : Int} (h0 : 0 ≤ i) (h1 : i < 32) : wrI s 11 i x = some (mu s 11 i.toNat x) := wrI_of (n := 32) (by decide +kernel) h0 h1
theorem rd_m_isSafe {s : Mem} {i : Int} (h0 : 0 ≤ i) (h1 : i < 32) : rdZ s 12 i = some (s 12 i.toNat) := rdZ_of (n := 32) (by decide +kernel) h0 h1
theorem wr_m_isSafe {s : Mem} {i x : Int} (h0 : 0 ≤ i) (h1 : i < 32) (hx : x = 0 ∨ x = 1) : wrZ s 12 i x = some (mu s 12 i.toNat x) := wrZ_of (n := 32) (by decide +kernel) h0 h1 hx
theorem rd_m_inside {s : Mem} {i : Int} (h0 : 0 ≤ i) (h1 : i < 4) : rdI s 13 i = some (s 13 i.toNat) := rdI_of (n := 4) (by decide +kernel) h0 h1
theorem wr_m_inside {s : Mem} {i x : Int} (h0 : 0 ≤ i) (h1 : i < 4) : wrI s 13 i x = some (mu s 13 i.toNat x) := wrI_of (n := 4) (by decide +kernel) h0 h1
theorem rd_m_valueOf {s : Mem} {i : Int} (h0 : 0 ≤ i) (h1 : i < 4) : rdL s 14 i = some (s 14 i.toNat) := rdL_of (n := 4) (by decide +kernel) h0 h1
theorem wr_m_valueOf {s : Mem} {i x : Int} (h0 : 0 ≤ i) (h1 : i < 4) : wrL s 14 i x = some (mu s 14 i.toNat x) := wrL_of (n := 4) (by decide +kernel) h0 h1
theorem rd_m_ways {s : Mem} {i : Int} (h0 : 0 ≤ i) (h1 : i < 480) : rdL s 15 i = some (s 15 i.toNat) := rdL_of (n := 480) (by decide +kernel) h0 h1
theorem wr_m_ways {s : Mem} {i x : Int} (h0 : 0 ≤ i) (h1 : i < 480) : wrL s 15 i x = some (mu s 15 i.toNat x) := wrL_of (n := 480) (by decide +kernel) h0 h1
theorem rd_m_bests {s : Mem} {i : Int} (h0 : 0 ≤ i) (h1 : i < 400) : rdL s 16 i = some (s 16 i.toNat) := rdL_of (n := 400) (by decide +kernel) h0 h1
theorem wr_m_bests {s : Mem} {i x : Int} (h0 : 0 ≤ i) (h1 : i < 400) : wrL s 16 i x = some (mu s 16 i.toNat x) := wrL_of (n := 400) (by decide +kernel) h0 h1
theorem rd_text_bytes {s : Mem} {i : Int} (h0 : 0 ≤ i) (h1 : i < 500) : rdB s 19 i = some (s 19 i.toNat) := rdB_of (n := 500) (by decide +kernel) h0 h1
theorem wr_text_bytes {s : Mem} {i x : Int} (h0 : 0 ≤ i) (h1 : i < 500) : wrB s 19 i x = some (mu s 19 i.toNat (w8 x)) := wrB_of (n := 500) (by decide +kernel) h0 h1
theorem rd_text_numbers {s : Mem} {i : Int} (h0 : 0 ≤ i) (h1 : i < 6) : rdI s 20 i = some (s 20 i.toNat) := rdI_of (n := 6) (by decide +kernel) h0 h1
theorem wr_text_numbers {s : Mem} {i x : Int} (h0 : 0 ≤ i) (h1 : i < 6) : wrI s 20 i x = some (mu s 20 i.toNat x) := wrI_of (n := 6) (by decide +kernel) h0 h1
theorem rd_sea_loss {s : Mem} {i : Int} (h0 : 0 ≤ i) (h1 : i < 10) : rdI s 47 i = some (s 47 i.toNat) := rdI_of (n := 10) (by decide +kernel) h0 h1
theorem wr_sea_loss {s : Mem} {i x : Int} (h0 : 0 ≤ i) (h1 : i < 10) : wrI s 47 i x = some (mu s 47 i.toNat x) := wrI_of (n := 10) (by decide +kernel) h0 h1
theorem rd_watch_plans_hour {s : Mem} {i : Int} (h0 : 0 ≤ i) (h1 : i < 4) : rdI s 111 i = some (s 111 i.toNat) := rdI_of (n := 4) (by decide +kernel) h0 h1
theorem wr_watch_plans_hour {s : Mem} {i x : Int} (h0 : 0 ≤ i) (h1 : i < 4) : wrI s 111 i x = some (mu s 111 i.toNat x) := wrI_of (n := 4) (by decide +kernel) h0 h1
theorem rd_watch_plans_harbour {s : Mem} {i : Int} (h0 : 0 ≤ i) (h1 : i < 4) : rdI s 112 i = some (s 112 i.toNat) := rdI_of (n := 4) (by decide +kernel) h0 h1
theorem wr_watch_plans_harbour {s : Mem} {i x : Int} (h0 : 0 ≤ i) (h1 : i < 4) : wrI s 112 i x = some (mu s 112 i.toNat x) := wrI_of (n := 4) (by decide +kernel) h0 h1
theorem rd_kept_0_plans_hour {s : Mem} {i : Int} (h0 : 0 ≤ i) (h1 : i < 4) : rdI s 117 i = some (s 117 i.toNat) := rdI_of (n := 4) (by decide +kernel) h0 h1
theorem wr_kept_0_plans_hour {s : Mem} {i x : Int} (h0 : 0 ≤ i) (h1 : i < 4) : wrI s 117 i x = some (mu s 117 i.toNat x) := wrI_of (n := 4) (by decide +kernel) h0 h1
theorem rd_kept_0_plans_harbour {s : Mem} {i : Int} (h0 : 0 ≤ i) (h1 : i < 4) : rdI s 118 i = some (s 118 i.toNat) := rdI_of (n := 4) (by decide +kernel) h0 h1
theorem wr_kept_0_plans_harbour {s : Mem} {i x : Int} (h0 : 0 ≤ i) (h1 : i < 4) : wrI s 118 i x = some (mu s 118 i.toNat x) := wrI_of (n := 4) (by decide +kernel) h0 h1
theorem rd_kept_1_plans_hour {s : Mem} {i : Int} (h0 : 0 ≤ i) (h1 : i < 4) : rdI s 120 i = some (s 120 i.toNat) := rdI_of (n := 4) (by decide +kernel) h0 h1
theorem wr_kept_1_plans_hour {s : Mem} {i x : Int} (h0 : 0 ≤ i) (h1 : i < 4) : wrI s 120 i x = some (mu s 120 i.toNat x) := wrI_of (n := 4) (by decide +kernel) h0 h1
theorem rd_kept_1_plans_harbour {s : Mem} {i : Int} (h0 : 0 ≤ i) (h1 : i < 4) : rdI s 121 i = some (s 121 i.toNat) := rdI_of (n := 4) (by decide +kernel) h0 h1
theorem wr_kept_1_plans_harbour {s : Mem} {i x : Int} (h0 : 0 ≤ i) (h1 : i < 4) : wrI s 121 i x = some (mu s 121 i.toNat x) := wrI_of (n := 4) (by decide +kernel) h0 h1
theorem rd_passage_arrival {s : Mem} {i : Int} (h0 : 0 ≤ i) (h1 : i < 4) : rdI s 123 i = some (s 123 i.toNat) := rdI_of (n := 4) (by decide +kernel) h0 h1
theorem wr_passage_arrival {s : Mem} {i x : Int} (h0 : 0 ≤ i) (h1 : i < 4) : wrI s 123 i x = some (mu s 123 i.toNat x) := wrI_of (n := 4) (by decide +kernel) h0 h1
theorem rd_passage_order {s : Mem} {i : Int} (h0 : 0 ≤ i) (h1 : i < 4) : rdI s 124 i = some (s 124 i.toNat) := rdI_of (n := 4) (by decide +kernel) h0 h1
theorem wr_passage_order {s : Mem} {i x : Int} (h0 : 0 ≤ i) (h1 : i < 4) : wrI s 124 i x = some (mu s 124 i.toNat x) := wrI_of (n := 4) (by decide +kernel) h0 h1
theorem rd_passage_inside {s : Mem} {i : Int} (h0 : 0 ≤ i) (h1 : i < 4) : rdI s 125 i = some (s 125 i.toNat) := rdI_of (n := 4) (by decide +kernel) h0 h1
theorem wr_passage_inside {s : Mem} {i x : Int} (h0 : 0 ≤ i) (h1 : i < 4) : wrI s 125 i x = some (mu s 125 i.toNat x) := wrI_of (n := 4) (by decide +kernel) h0 h1
theorem rd_trial_hour {s : Mem} {i : Int} (h0 : 0 ≤ i) (h1 : i < 4) : rdI s 135 i = some (s 135 i.toNat) := rdI_of (n := 4) (by decide +kernel) h0 h1
theorem wr_trial_hour {s : Mem} {i x : Int} (h0 : 0 ≤ i) (h1 : i < 4) : wrI s 135 i x = some (mu s 135 i.toNat x) := wrI_of (n := 4) (by decide +kernel) h0 h1
theorem rd_trial_harbour {s : Mem} {i : Int} (h0 : 0 ≤ i) (h1 : i < 4) : rdI s 136 i = some (s 136 i.toNat) := rdI_of (n := 4) (by decide +kernel) h0 h1
theorem wr_trial_harbour {s : Mem} {i x : Int} (h0 : 0 ≤ i) (h1 : i < 4) : wrI s 136 i x = some (mu s 136 i.toNat x) := wrI_of (n := 4) (by decide +kernel) h0 h1
theorem pt_watch_plans_0 : ab_pt 110 0 = 111 := by decide +kernel
theorem pt_watch_plans_1 : ab_pt 110 1 = 112 := by decide +kernel
theorem pt_kept_0_plans_0 : ab_pt 116 0 = 117 := by decide +kernel
theorem pt_kept_0_plans_1 : ab_pt 116 1 = 118 := by decide +kernel
theorem pt_kept_1_plans_0 : ab_pt 119 0 = 120 := by decide +kernel
theorem pt_kept_1_plans_1 : ab_pt 119 1 = 121 := by decide +kernel
theorem pt_trial_0 : ab_pt 134 0 = 135 := by decide +kernel
theorem pt_trial_1 : ab_pt 134 1 = 136 := by decide +kernel
theorem pt_watch_0 : ab_pt 109 0 = 110 := by decide +kernel
theorem pt_kept_0_0 : ab_pt 114 0 = 116 := by decide +kernel
theorem pt_kept_1_0 : ab_pt 115 0 = 119 := by decide +kernel
