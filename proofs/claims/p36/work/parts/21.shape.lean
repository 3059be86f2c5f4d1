/-! the cells that the law's objects are made of, by their numbers: 3 the class's object -/
def shKs : List (Nat × Nat) := [(12, 0), (7, 0), (3, 0), (0, 53), (0, 212), (0, 4), (0, 52), (0, 52), (0, 64), (3, 0), (0, 53), (0, 212), (0, 4), (0, 52), (0, 52), (0, 64), (8, 0), (0, 4), (0, 4), (0, 4), (0, 4), (0, 4), (0, 4), (0, 4), (0, 4), (0, 4), (1, 4), (0, 208), (9, 0), (0, 40), (0, 40), (0, 40), (4, 0), (0, 1024), (11, 0), (10, 0), (0, 256), (0, 256), (0, 256), (0, 27), (10, 0), (0, 256), (0, 256), (0, 256), (0, 27), (0, 52), (0, 52), (0, 65536), (5, 0), (0, 1024), (1, 1024), (1, 1024), (5, 0), (0, 1024), (1, 1024), (1, 1024), (0, 81), (1, 81), (1, 81), (0, 8739), (0, 4), (0, 4), (6, 0), (0, 24)]
def shRs : List (Nat × Nat × Nat) := [(3, 0, 4), (3, 1, 5), (3, 2, 12), (3, 3, 19), (3, 4, 31), (3, 5, 35), (3, 6, 37), (3, 7, 65), (5, 0, 6), (5, 1, 7), (5, 2, 8), (5, 3, 9), (5, 4, 10), (5, 5, 11), (12, 0, 13), (12, 1, 14), (12, 2, 15), (12, 3, 16), (12, 4, 17), (12, 5, 18), (19, 1, 20), (19, 2, 21), (19, 3, 22), (19, 4, 23), (19, 5, 24), (19, 6, 25), (19, 7, 26), (19, 8, 27), (19, 9, 28), (19, 10, 29), (19, 11, 30), (31, 0, 32), (31, 2, 33), (31, 3, 34), (35, 0, 36), (37, 0, 38), (37, 1, 43), (37, 2, 48), (37, 3, 49), (37, 4, 50), (37, 7, 59), (37, 8, 60), (37, 9, 61), (37, 10, 62), (37, 12, 63), (37, 13, 64), (38, 1, 39), (38, 2, 40), (38, 3, 41), (38, 4, 42), (43, 1, 44), (43, 2, 45), (43, 3, 46), (43, 4, 47), (65, 0, 66)]
/-- the kinds of all cells, and the references that stay -/
def Sh (σ : rS) : Prop := (∀ i, i < 64 → rK σ (i + 3) = shKs.getD i (0, 0)) ∧ (∀ q ∈ shRs, rR σ q.1 q.2.1 = q.2.2) ∧ 67 ≤ rN σ
theorem Sh_of {σ τ : rS} (h : Sh σ) (h1 : rK τ = rK σ) (h2 : rR τ = rR σ) (h3 : rN τ = rN σ) : Sh τ := by
  unfold Sh
  rw [h1, h2, h3]
  exact h
theorem Sh_ite {c : Prop} {inst : Decidable c} {σ τ : rS} (h1 : Sh σ) (h2 : Sh τ) : Sh (@ite _ c inst σ τ) := by
  split
  · exact h1
  · exact h2
theorem Sh_wI {σ : rS} {a k : Nat} {v : Int32} (h : Sh σ) : Sh (wI σ a k v) := h
theorem Sh_wL {σ : rS} {a k : Nat} {v : Int64} (h : Sh σ) : Sh (wL σ a k v) := h
theorem Sh_rowI {σ : rS} {a : Nat} {f : Nat → Int32} (h : Sh σ) : Sh (rowI σ a f) := h
theorem Sh_rowL {σ : rS} {a : Nat} {f : Nat → Int64} (h : Sh σ) : Sh (rowL σ a f) := h
theorem kd3 {σ : rS} (h : Sh σ) : rK σ 3 = (12, 0) := h.1 0 (by decide)
theorem kd4 {σ : rS} (h : Sh σ) : rK σ 4 = (7, 0) := h.1 1 (by decide)
theorem kd5 {σ : rS} (h : Sh σ) : rK σ 5 = (3, 0) := h.1 2 (by decide)
theorem kd6 {σ : rS} (h : Sh σ) : rK σ 6 = (0, 53) := h.1 3 (by decide)
theorem kd7 {σ : rS} (h : Sh σ) : rK σ 7 = (0, 212) := h.1 4 (by decide)
theorem kd8 {σ : rS} (h : Sh σ) : rK σ 8 = (0, 4) := h.1 5 (by decide)
theorem kd9 {σ : rS} (h : Sh σ) : rK σ 9 = (0, 52) := h.1 6 (by decide)
theorem kd10 {σ : rS} (h : Sh σ) : rK σ 10 = (0, 52) := h.1 7 (by decide)
theorem kd11 {σ : rS} (h : Sh σ) : rK σ 11 = (0, 64) := h.1 8 (by decide)
theorem kd12 {σ : rS} (h : Sh σ) : rK σ 12 = (3, 0) := h.1 9 (by decide)
theorem kd13 {σ : rS} (h : Sh σ) : rK σ 13 = (0, 53) := h.1 10 (by decide)
theorem kd14 {σ : rS} (h : Sh σ) : rK σ 14 = (0, 212) := h.1 11 (by decide)
theorem kd15 {σ : rS} (h : Sh σ) : rK σ 15 = (0, 4) := h.1 12 (by decide)
theorem kd16 {σ : rS} (h : Sh σ) : rK σ 16 = (0, 52) := h.1 13 (by decide)
theorem kd17 {σ : rS} (h : Sh σ) : rK σ 17 = (0, 52) := h.1 14 (by decide)
theorem kd18 {σ : rS} (h : Sh σ) : rK σ 18 = (0, 64) := h.1 15 (by decide)
theorem kd19 {σ : rS} (h : Sh σ) : rK σ 19 = (8, 0) := h.1 16 (by decide)
theorem kd20 {σ : rS} (h : Sh σ) : rK σ 20 = (0, 4) := h.1 17 (by decide)
theorem kd21 {σ : rS} (h : Sh σ) : rK σ 21 = (0, 4) := h.1 18 (by decide)
theorem kd22 {σ : rS} (h : Sh σ) : rK σ 22 = (0, 4) := h.1 19 (by decide)
theorem kd23 {σ : rS} (h : Sh σ) : rK σ 23 = (0, 4) := h.1 20 (by decide)
theorem kd24 {σ : rS} (h : Sh σ) : rK σ 24 = (0, 4) := h.1 21 (by decide)
theorem kd25 {σ : rS} (h : Sh σ) : rK σ 25 = (0, 4) := h.1 22 (by decide)
theorem kd26 {σ : rS} (h : Sh σ) : rK σ 26 = (0, 4) := h.1 23 (by decide)
theorem kd27 {σ : rS} (h : Sh σ) : rK σ 27 = (0, 4) := h.1 24 (by decide)
theorem kd28 {σ : rS} (h : Sh σ) : rK σ 28 = (0, 4) := h.1 25 (by decide)
theorem kd29 {σ : rS} (h : Sh σ) : rK σ 29 = (1, 4) := h.1 26 (by decide)
theorem kd30 {σ : rS} (h : Sh σ) : rK σ 30 = (0, 208) := h.1 27 (by decide)
theorem kd31 {σ : rS} (h : Sh σ) : rK σ 31 = (9, 0) := h.1 28 (by decide)
theorem kd32 {σ : rS} (h : Sh σ) : rK σ 32 = (0, 40) := h.1 29 (by decide)
theorem kd33 {σ : rS} (h : Sh σ) : rK σ 33 = (0, 40) := h.1 30 (by decide)
theorem kd34 {σ : rS} (h : Sh σ) : rK σ 34 = (0, 40) := h.1 31 (by decide)
theorem kd35 {σ : rS} (h : Sh σ) : rK σ 35 = (4, 0) := h.1 32 (by decide)
theorem kd36 {σ : rS} (h : Sh σ) : rK σ 36 = (0, 1024) := h.1 33 (by decide)
theorem kd37 {σ : rS} (h : Sh σ) : rK σ 37 = (11, 0) := h.1 34 (by decide)
theorem kd38 {σ : rS} (h : Sh σ) : rK σ 38 = (10, 0) := h.1 35 (by decide)
theorem kd39 {σ : rS} (h : Sh σ) : rK σ 39 = (0, 256) := h.1 36 (by decide)
theorem kd40 {σ : rS} (h : Sh σ) : rK σ 40 = (0, 256) := h.1 37 (by decide)
theorem kd41 {σ : rS} (h : Sh σ) : rK σ 41 = (0, 256) := h.1 38 (by decide)
theorem kd42 {σ : rS} (h : Sh σ) : rK σ 42 = (0, 27) := h.1 39 (by decide)
theorem kd43 {σ : rS} (h : Sh σ) : rK σ 43 = (10, 0) := h.1 40 (by decide)
theorem kd44 {σ : rS} (h : Sh σ) : rK σ 44 = (0, 256) := h.1 41 (by decide)
theorem kd45 {σ : rS} (h : Sh σ) : rK σ 45 = (0, 256) := h.1 42 (by decide)
theorem kd46 {σ : rS} (h : Sh σ) : rK σ 46 = (0, 256) := h.1 43 (by decide)
theorem kd47 {σ : rS} (h : Sh σ) : rK σ 47 = (0, 27) := h.1 44 (by decide)
theorem kd48 {σ : rS} (h : Sh σ) : rK σ 48 = (0, 52) := h.1 45 (by decide)
theorem kd49 {σ : rS} (h : Sh σ) : rK σ 49 = (0, 52) := h.1 46 (by decide)
theorem kd50 {σ : rS} (h : Sh σ) : rK σ 50 = (0, 65536) := h.1 47 (by decide)
theorem kd51 {σ : rS} (h : Sh σ) : rK σ 51 = (5, 0) := h.1 48 (by decide)
theorem kd52 {σ : rS} (h : Sh σ) : rK σ 52 = (0, 1024) := h.1 49 (by decide)
theorem kd53 {σ : rS} (h : Sh σ) : rK σ 53 = (1, 1024) := h.1 50 (by decide)
theorem kd54 {σ : rS} (h : Sh σ) : rK σ 54 = (1, 1024) := h.1 51 (by decide)
theorem kd55 {σ : rS} (h : Sh σ) : rK σ 55 = (5, 0) := h.1 52 (by decide)
theorem kd56 {σ : rS} (h : Sh σ) : rK σ 56 = (0, 1024) := h.1 53 (by decide)
theorem kd57 {σ : rS} (h : Sh σ) : rK σ 57 = (1, 1024) := h.1 54 (by decide)
theorem kd58 {σ : rS} (h : Sh σ) : rK σ 58 = (1, 1024) := h.1 55 (by decide)
theorem kd59 {σ : rS} (h : Sh σ) : rK σ 59 = (0, 81) := h.1 56 (by decide)
theorem kd60 {σ : rS} (h : Sh σ) : rK σ 60 = (1, 81) := h.1 57 (by decide)
theorem kd61 {σ : rS} (h : Sh σ) : rK σ 61 = (1, 81) := h.1 58 (by decide)
theorem kd62 {σ : rS} (h : Sh σ) : rK σ 62 = (0, 8739) := h.1 59 (by decide)
theorem kd63 {σ : rS} (h : Sh σ) : rK σ 63 = (0, 4) := h.1 60 (by decide)
theorem kd64 {σ : rS} (h : Sh σ) : rK σ 64 = (0, 4) := h.1 61 (by decide)
theorem kd65 {σ : rS} (h : Sh σ) : rK σ 65 = (6, 0) := h.1 62 (by decide)
theorem kd66 {σ : rS} (h : Sh σ) : rK σ 66 = (0, 24) := h.1 63 (by decide)
theorem rf3_0 {σ : rS} (h : Sh σ) : rR σ 3 0 = 4 := h.2.1 (3, 0, 4) (List.mem_of_getElem? (i := 0) rfl)
theorem rf3_1 {σ : rS} (h : Sh σ) : rR σ 3 1 = 5 := h.2.1 (3, 1, 5) (List.mem_of_getElem? (i := 1) rfl)
theorem rf3_2 {σ : rS} (h : Sh σ) : rR σ 3 2 = 12 := h.2.1 (3, 2, 12) (List.mem_of_getElem? (i := 2) rfl)
theorem rf3_3 {σ : rS} (h : Sh σ) : rR σ 3 3 = 19 := h.2.1 (3, 3, 19) (List.mem_of_getElem? (i := 3) rfl)
theorem rf3_4 {σ : rS} (h : Sh σ) : rR σ 3 4 = 31 := h.2.1 (3, 4, 31) (List.mem_of_getElem? (i := 4) rfl)
theorem rf3_5 {σ : rS} (h : Sh σ) : rR σ 3 5 = 35 := h.2.1 (3, 5, 35) (List.mem_of_getElem? (i := 5) rfl)
theorem rf3_6 {σ : rS} (h : Sh σ) : rR σ 3 6 = 37 := h.2.1 (3, 6, 37) (List.mem_of_getElem? (i := 6) rfl)
theorem rf3_7 {σ : rS} (h : Sh σ) : rR σ 3 7 = 65 := h.2.1 (3, 7, 65) (List.mem_of_getElem? (i := 7) rfl)
theorem rf5_0 {σ : rS} (h : Sh σ) : rR σ 5 0 = 6 := h.2.1 (5, 0, 6) (List.mem_of_getElem? (i := 8) rfl)
theorem rf5_1 {σ : rS} (h : Sh σ) : rR σ 5 1 = 7 := h.2.1 (5, 1, 7) (List.mem_of_getElem? (i := 9) rfl)
theorem rf5_2 {σ : rS} (h : Sh σ) : rR σ 5 2 = 8 := h.2.1 (5, 2, 8) (List.mem_of_getElem? (i := 10) rfl)
theorem rf5_3 {σ : rS} (h : Sh σ) : rR σ 5 3 = 9 := h.2.1 (5, 3, 9) (List.mem_of_getElem? (i := 11) rfl)
theorem rf5_4 {σ : rS} (h : Sh σ) : rR σ 5 4 = 10 := h.2.1 (5, 4, 10) (List.mem_of_getElem? (i := 12) rfl)
theorem rf5_5 {σ : rS} (h : Sh σ) : rR σ 5 5 = 11 := h.2.1 (5, 5, 11) (List.mem_of_getElem? (i := 13) rfl)
theorem rf12_0 {σ : rS} (h : Sh σ) : rR σ 12 0 = 13 := h.2.1 (12, 0, 13) (List.mem_of_getElem? (i := 14) rfl)
theorem rf12_1 {σ : rS} (h : Sh σ) : rR σ 12 1 = 14 := h.2.1 (12, 1, 14) (List.mem_of_getElem? (i := 15) rfl)
theorem rf12_2 {σ : rS} (h : Sh σ) : rR σ 12 2 = 15 := h.2.1 (12, 2, 15) (List.mem_of_getElem? (i := 16) rfl)
theorem rf12_3 {σ : rS} (h : Sh σ) : rR σ 12 3 = 16 := h.2.1 (12, 3, 16) (List.mem_of_getElem? (i := 17) rfl)
theorem rf12_4 {σ : rS} (h : Sh σ) : rR σ 12 4 = 17 := h.2.1 (12, 4, 17) (List.mem_of_getElem? (i := 18) rfl)
theorem rf12_5 {σ : rS} (h : Sh σ) : rR σ 12 5 = 18 := h.2.1 (12, 5, 18) (List.mem_of_getElem? (i := 19) rfl)
theorem rf19_1 {σ : rS} (h : Sh σ) : rR σ 19 1 = 20 := h.2.1 (19, 1, 20) (List.mem_of_getElem? (i := 20) rfl)
theorem rf19_2 {σ : rS} (h : Sh σ) : rR σ 19 2 = 21 := h.2.1 (19, 2, 21) (List.mem_of_getElem? (i := 21) rfl)
theorem rf19_3 {σ : rS} (h : Sh σ) : rR σ 19 3 = 22 := h.2.1 (19, 3, 22) (List.mem_of_getElem? (i := 22) rfl)
theorem rf19_4 {σ : rS} (h : Sh σ) : rR σ 19 4 = 23 := h.2.1 (19, 4, 23) (List.mem_of_getElem? (i := 23) rfl)
theorem rf19_5 {σ : rS} (h : Sh σ) : rR σ 19 5 = 24 := h.2.1 (19, 5, 24) (List.mem_of_getElem? (i := 24) rfl)
theorem rf19_6 {σ : rS} (h : Sh σ) : rR σ 19 6 = 25 := h.2.1 (19, 6, 25) (List.mem_of_getElem? (i := 25) rfl)
theorem rf19_7 {σ : rS} (h : Sh σ) : rR σ 19 7 = 26 := h.2.1 (19, 7, 26) (List.mem_of_getElem? (i := 26) rfl)
theorem rf19_8 {σ : rS} (h : Sh σ) : rR σ 19 8 = 27 := h.2.1 (19, 8, 27) (List.mem_of_getElem? (i := 27) rfl)
theorem rf19_9 {σ : rS} (h : Sh σ) : rR σ 19 9 = 28 := h.2.1 (19, 9, 28) (List.mem_of_getElem? (i := 28) rfl)
theorem rf19_10 {σ : rS} (h : Sh σ) : rR σ 19 10 = 29 := h.2.1 (19, 10, 29) (List.mem_of_getElem? (i := 29) rfl)
theorem rf19_11 {σ : rS} (h : Sh σ) : rR σ 19 11 = 30 := h.2.1 (19, 11, 30) (List.mem_of_getElem? (i := 30) rfl)
theorem rf31_0 {σ : rS} (h : Sh σ) : rR σ 31 0 = 32 := h.2.1 (31, 0, 32) (List.mem_of_getElem? (i := 31) rfl)
theorem rf31_2 {σ : rS} (h : Sh σ) : rR σ 31 2 = 33 := h.2.1 (31, 2, 33) (List.mem_of_getElem? (i := 32) rfl)
theorem rf31_3 {σ : rS} (h : Sh σ) : rR σ 31 3 = 34 := h.2.1 (31, 3, 34) (List.mem_of_getElem? (i := 33) rfl)
theorem rf35_0 {σ : rS} (h : Sh σ) : rR σ 35 0 = 36 := h.2.1 (35, 0, 36) (List.mem_of_getElem? (i := 34) rfl)
theorem rf37_0 {σ : rS} (h : Sh σ) : rR σ 37 0 = 38 := h.2.1 (37, 0, 38) (List.mem_of_getElem? (i := 35) rfl)
theorem rf37_1 {σ : rS} (h : Sh σ) : rR σ 37 1 = 43 := h.2.1 (37, 1, 43) (List.mem_of_getElem? (i := 36) rfl)
theorem rf37_2 {σ : rS} (h : Sh σ) : rR σ 37 2 = 48 := h.2.1 (37, 2, 48) (List.mem_of_getElem? (i := 37) rfl)
theorem rf37_3 {σ : rS} (h : Sh σ) : rR σ 37 3 = 49 := h.2.1 (37, 3, 49) (List.mem_of_getElem? (i := 38) rfl)
theorem rf37_4 {σ : rS} (h : Sh σ) : rR σ 37 4 = 50 := h.2.1 (37, 4, 50) (List.mem_of_getElem? (i := 39) rfl)
theorem rf37_7 {σ : rS} (h : Sh σ) : rR σ 37 7 = 59 := h.2.1 (37, 7, 59) (List.mem_of_getElem? (i := 40) rfl)
theorem rf37_8 {σ : rS} (h : Sh σ) : rR σ 37 8 = 60 := h.2.1 (37, 8, 60) (List.mem_of_getElem? (i := 41) rfl)
theorem rf37_9 {σ : rS} (h : Sh σ) : rR σ 37 9 = 61 := h.2.1 (37, 9, 61) (List.mem_of_getElem? (i := 42) rfl)
theorem rf37_10 {σ : rS} (h : Sh σ) : rR σ 37 10 = 62 := h.2.1 (37, 10, 62) (List.mem_of_getElem? (i := 43) rfl)
theorem rf37_12 {σ : rS} (h : Sh σ) : rR σ 37 12 = 63 := h.2.1 (37, 12, 63) (List.mem_of_getElem? (i := 44) rfl)
theorem rf37_13 {σ : rS} (h : Sh σ) : rR σ 37 13 = 64 := h.2.1 (37, 13, 64) (List.mem_of_getElem? (i := 45) rfl)
theorem rf38_1 {σ : rS} (h : Sh σ) : rR σ 38 1 = 39 := h.2.1 (38, 1, 39) (List.mem_of_getElem? (i := 46) rfl)
theorem rf38_2 {σ : rS} (h : Sh σ) : rR σ 38 2 = 40 := h.2.1 (38, 2, 40) (List.mem_of_getElem? (i := 47) rfl)
theorem rf38_3 {σ : rS} (h : Sh σ) : rR σ 38 3 = 41 := h.2.1 (38, 3, 41) (List.mem_of_getElem? (i := 48) rfl)
theorem rf38_4 {σ : rS} (h : Sh σ) : rR σ 38 4 = 42 := h.2.1 (38, 4, 42) (List.mem_of_getElem? (i := 49) rfl)
theorem rf43_1 {σ : rS} (h : Sh σ) : rR σ 43 1 = 44 := h.2.1 (43, 1, 44) (List.mem_of_getElem? (i := 50) rfl)
theorem rf43_2 {σ : rS} (h : Sh σ) : rR σ 43 2 = 45 := h.2.1 (43, 2, 45) (List.mem_of_getElem? (i := 51) rfl)
theorem rf43_3 {σ : rS} (h : Sh σ) : rR σ 43 3 = 46 := h.2.1 (43, 3, 46) (List.mem_of_getElem? (i := 52) rfl)
theorem rf43_4 {σ : rS} (h : Sh σ) : rR σ 43 4 = 47 := h.2.1 (43, 4, 47) (List.mem_of_getElem? (i := 53) rfl)
theorem rf65_0 {σ : rS} (h : Sh σ) : rR σ 65 0 = 66 := h.2.1 (65, 0, 66) (List.mem_of_getElem? (i := 54) rfl)
/-- one of the two boards -/
def isB (b : Nat) : Prop := b = 5 ∨ b = 12
theorem isB3 {b j : Nat} (h : isB b) : 3 ≤ b + j := by rcases h with rfl | rfl <;> omega
theorem isB0 {b j : Nat} (h : isB b) : b + j ≠ 0 := by rcases h with rfl | rfl <;> omega
theorem kdB {σ : rS} {b : Nat} (h : Sh σ) (hb : isB b) : rK σ b = (3, 0) := by
  rcases hb with rfl | rfl
  · exact kd5 h
  · exact kd12 h
theorem rfB0 {σ : rS} {b : Nat} (h : Sh σ) (hb : isB b) : rR σ b 0 = b + 1 := by
  rcases hb with rfl | rfl
  · exact rf5_0 h
  · exact rf12_0 h
theorem kdB0 {σ : rS} {b : Nat} (h : Sh σ) (hb : isB b) : rK σ (b + 1) = (0, 53) := by
  rcases hb with rfl | rfl
  · exact kd6 h
  · exact kd13 h
theorem rfB1 {σ : rS} {b : Nat} (h : Sh σ) (hb : isB b) : rR σ b 1 = b + 2 := by
  rcases hb with rfl | rfl
  · exact rf5_1 h
  · exact rf12_1 h
theorem kdB1 {σ : rS} {b : Nat} (h : Sh σ) (hb : isB b) : rK σ (b + 2) = (0, 212) := by
  rcases hb with rfl | rfl
  · exact kd7 h
  · exact kd14 h
theorem rfB2 {σ : rS} {b : Nat} (h : Sh σ) (hb : isB b) : rR σ b 2 = b + 3 := by
  rcases hb with rfl | rfl
  · exact rf5_2 h
  · exact rf12_2 h
theorem kdB2 {σ : rS} {b : Nat} (h : Sh σ) (hb : isB b) : rK σ (b + 3) = (0, 4) := by
  rcases hb with rfl | rfl
  · exact kd8 h
  · exact kd15 h
theorem rfB3 {σ : rS} {b : Nat} (h : Sh σ) (hb : isB b) : rR σ b 3 = b + 4 := by
  rcases hb with rfl | rfl
  · exact rf5_3 h
  · exact rf12_3 h
theorem kdB3 {σ : rS} {b : Nat} (h : Sh σ) (hb : isB b) : rK σ (b + 4) = (0, 52) := by
  rcases hb with rfl | rfl
  · exact kd9 h
  · exact kd16 h
theorem rfB4 {σ : rS} {b : Nat} (h : Sh σ) (hb : isB b) : rR σ b 4 = b + 5 := by
  rcases hb with rfl | rfl
  · exact rf5_4 h
  · exact rf12_4 h
theorem kdB4 {σ : rS} {b : Nat} (h : Sh σ) (hb : isB b) : rK σ (b + 5) = (0, 52) := by
  rcases hb with rfl | rfl
  · exact kd10 h
  · exact kd17 h
theorem rfB5 {σ : rS} {b : Nat} (h : Sh σ) (hb : isB b) : rR σ b 5 = b + 6 := by
  rcases hb with rfl | rfl
  · exact rf5_5 h
  · exact rf12_5 h
theorem kdB5 {σ : rS} {b : Nat} (h : Sh σ) (hb : isB b) : rK σ (b + 6) = (0, 64) := by
  rcases hb with rfl | rfl
  · exact kd11 h
  · exact kd18 h
/-- one of the two tables of steps -/
def isT (s : Nat) : Prop := s = 38 ∨ s = 43
theorem isT3 {s j : Nat} (h : isT s) : 3 ≤ s + j := by rcases h with rfl | rfl <;> omega
theorem isT0 {s j : Nat} (h : isT s) : s + j ≠ 0 := by rcases h with rfl | rfl <;> omega
theorem kdT {σ : rS} {s : Nat} (h : Sh σ) (hs : isT s) : rK σ s = (10, 0) := by
  rcases hs with rfl | rfl
  · exact kd38 h
  · exact kd43 h
theorem rfT1 {σ : rS} {s : Nat} (h : Sh σ) (hs : isT s) : rR σ s 1 = s + 1 := by
  rcases hs with rfl | rfl
  · exact rf38_1 h
  · exact rf43_1 h
theorem kdT1 {σ : rS} {s : Nat} (h : Sh σ) (hs : isT s) : rK σ (s + 1) = (0, 256) := by
  rcases hs with rfl | rfl
  · exact kd39 h
  · exact kd44 h
theorem rfT2 {σ : rS} {s : Nat} (h : Sh σ) (hs : isT s) : rR σ s 2 = s + 2 := by
  rcases hs with rfl | rfl
  · exact rf38_2 h
  · exact rf43_2 h
theorem kdT2 {σ : rS} {s : Nat} (h : Sh σ) (hs : isT s) : rK σ (s + 2) = (0, 256) := by
  rcases hs with rfl | rfl
  · exact kd40 h
  · exact kd45 h
theorem rfT3 {σ : rS} {s : Nat} (h : Sh σ) (hs : isT s) : rR σ s 3 = s + 3 := by
  rcases hs with rfl | rfl
  · exact rf38_3 h
  · exact rf43_3 h
theorem kdT3 {σ : rS} {s : Nat} (h : Sh σ) (hs : isT s) : rK σ (s + 3) = (0, 256) := by
  rcases hs with rfl | rfl
  · exact kd41 h
  · exact kd46 h
theorem rfT4 {σ : rS} {s : Nat} (h : Sh σ) (hs : isT s) : rR σ s 4 = s + 4 := by
  rcases hs with rfl | rfl
  · exact rf38_4 h
  · exact rf43_4 h
theorem kdT4 {σ : rS} {s : Nat} (h : Sh σ) (hs : isT s) : rK σ (s + 4) = (0, 27) := by
  rcases hs with rfl | rfl
  · exact kd42 h
  · exact kd47 h
