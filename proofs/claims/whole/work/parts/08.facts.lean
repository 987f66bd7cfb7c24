/-! 08.facts: the cells that stand behind the two constructors; words; methods -/
def fTL : List Nat := [10, 7, 20, 20, 20, 20, 20, 33, 20, 7, 20, 20, 20, 20, 20, 33, 20, 7, 20, 20, 20, 20, 20, 33, 20, 31, 23, 8, 22, 4, 9, 20, 20, 20, 20, 20, 20, 20, 20, 20, 2, 5, 21, 20, 3, 20, 20, 21, 21, 21, 20, 23, 1, 20, 20, 0, 20, 20, 20, 6, 5, 21, 20, 21, 20, 7, 20, 20, 20, 20, 20, 33, 20, 7, 20, 20, 20, 20, 20, 33, 20, 11, 20, 20, 20, 23, 20, 22, 22, 20, 20, 20, 20, 20, 20, 20, 20, 20, 20, 23, 23, 20, 20, 21, 20, 20, 21, 20]
def fLL : List Int := [0, 0, 6, 6, 8, 16, 6, 6, 3, 0, 6, 6, 8, 16, 6, 6, 3, 0, 6, 6, 8, 16, 6, 6, 3, 2, 2, 0, 400, 0, 0, 12, 12, 12, 12, 12, 400, 401, 401, 401, 0, 0, 50, 8, 0, 6, 6, 48, 256, 256, 256, 64, 0, 36, 64, 0, 256, 256, 256, 0, 0, 50, 29, 20, 5, 0, 6, 6, 8, 16, 6, 6, 3, 0, 6, 6, 8, 16, 6, 6, 3, 0, 7, 5656, 11312, 2, 50, 136, 400, 5, 401, 401, 401, 8, 1536, 8, 1792, 6, 8, 16384, 64, 36, 64, 21, 416, 416, 2, 25]
def fPL : List (List Int) := [[1, 9, 17, 25, 26, 27, 29, 40, 44, 52, 55, 59, 63, 64, -9, -9, -9], [-9, 2, 3, 4, 5, 6, -9, 7, -9, -9, 8], [], [], [], [], [], [], [], [-9, 10, 11, 12, 13, 14, -9, 15, -9, -9, 16], [], [], [], [], [], [], [], [-9, 18, 19, 20, 21, 22, -9, 23, -9, -9, 24], [], [], [], [], [], [], [], [65, 73], [], [28, -9], [], [30, 27, 37, 38, 39, -9, -9, -9, -9, -9, -9, -9], [-9, -9, -9, 31, 32, 33, 34, 35, 36], [], [], [], [], [], [], [], [], [], [41, 43, -9, -9], [42], [], [], [40, 45, 46, 47, 48, 49, 50, 51, -9, -9], [], [], [], [], [], [], [], [53, 54], [], [], [56, 57, 58, -9], [], [], [], [60, 62, -9, -9, -9], [61], [], [], [], [], [-9, 66, 67, 68, 69, 70, -9, 71, -9, -9, 72], [], [], [], [], [], [], [], [-9, 74, 75, 76, 77, 78, -9, 79, -9, -9, 80], [], [], [], [], [], [], [], [-9, 82, 83, 84, 85, 86, -9, 87, -9, -9, -9, 88, 89, -9, -9, 90, 91, 92, -9, -9, -9, -9, -9, -9, -9, -9, 93, -9, -9, -9, 94, 95, 96, 97, 98, 99, 100, 101, 102, 103, 104, 105, -9, -9, -9, -9, -9, -9, -9, 106, 107, -9, -9], [], [], [], [], [], [], [], [], [], [], [], [], [], [], [], [], [], [], [], [], [], [], [], [], [], []]
def fxT (a : Int) : Nat := fTL.getD a.toNat 0
def fxL (a : Int) : Int := fLL.getD a.toNat 0
def fxP (a k : Int) : Int := (fPL.getD a.toNat []).getD k.toNat (-9)
def Fix (S : MS) : Prop := 108 ≤ S.1 ∧ (∀ a, 0 ≤ a → a < 108 → S.2.1 a = fxT a ∧ S.2.2.1 a = fxL a) ∧ (∀ a k, 0 ≤ a → a < 108 → 0 ≤ k → fxP a k ≠ -9 → S.2.2.2.1 a k = fxP a k)
theorem fx_b {S : MS} (F : Fix S) {a : Int} (h : 0 ≤ a ∧ a < 108) : 0 ≤ a ∧ a < S.1 := ⟨h.1, Int.lt_of_lt_of_le h.2 F.1⟩
theorem fx_t {S : MS} (F : Fix S) {a : Int} {t : Nat} (h : (0 ≤ a ∧ a < 108) ∧ fxT a = t) : S.2.1 a = t := (F.2.1 a h.1.1 h.1.2).1.trans h.2
theorem fx_l {S : MS} (F : Fix S) {a n : Int} (h : (0 ≤ a ∧ a < 108) ∧ fxL a = n) : S.2.2.1 a = n := (F.2.1 a h.1.1 h.1.2).2.trans h.2
theorem fx_p {S : MS} (F : Fix S) {a k v : Int} (h : (0 ≤ a ∧ a < 108 ∧ 0 ≤ k) ∧ fxP a k = v ∧ v ≠ -9) : S.2.2.2.1 a k = v := (F.2.2 a k h.1.1 h.1.2.1 h.1.2.2 (by rw [h.2.1]; exact h.2.2)).trans h.2.1
theorem fo_0 {S : MS} (F : Fix S) : 0 ≤ (0 : Int) ∧ (0 : Int) < S.1 := fx_b F (by decide)
theorem ft_0 {S : MS} (F : Fix S) : S.2.1 0 = 10 := fx_t F (by decide)
theorem fp_0_0 {S : MS} (F : Fix S) : S.2.2.2.1 0 0 = 1 := fx_p F (by decide)
theorem fp_0_1 {S : MS} (F : Fix S) : S.2.2.2.1 0 1 = 9 := fx_p F (by decide)
theorem fp_0_2 {S : MS} (F : Fix S) : S.2.2.2.1 0 2 = 17 := fx_p F (by decide)
theorem fp_0_3 {S : MS} (F : Fix S) : S.2.2.2.1 0 3 = 25 := fx_p F (by decide)
theorem fp_0_4 {S : MS} (F : Fix S) : S.2.2.2.1 0 4 = 26 := fx_p F (by decide)
theorem fp_0_5 {S : MS} (F : Fix S) : S.2.2.2.1 0 5 = 27 := fx_p F (by decide)
theorem fp_0_6 {S : MS} (F : Fix S) : S.2.2.2.1 0 6 = 29 := fx_p F (by decide)
theorem fp_0_7 {S : MS} (F : Fix S) : S.2.2.2.1 0 7 = 40 := fx_p F (by decide)
theorem fp_0_8 {S : MS} (F : Fix S) : S.2.2.2.1 0 8 = 44 := fx_p F (by decide)
theorem fp_0_9 {S : MS} (F : Fix S) : S.2.2.2.1 0 9 = 52 := fx_p F (by decide)
theorem fp_0_10 {S : MS} (F : Fix S) : S.2.2.2.1 0 10 = 55 := fx_p F (by decide)
theorem fp_0_11 {S : MS} (F : Fix S) : S.2.2.2.1 0 11 = 59 := fx_p F (by decide)
theorem fp_0_12 {S : MS} (F : Fix S) : S.2.2.2.1 0 12 = 63 := fx_p F (by decide)
theorem fp_0_13 {S : MS} (F : Fix S) : S.2.2.2.1 0 13 = 64 := fx_p F (by decide)
theorem fo_1 {S : MS} (F : Fix S) : 0 ≤ (1 : Int) ∧ (1 : Int) < S.1 := fx_b F (by decide)
theorem ft_1 {S : MS} (F : Fix S) : S.2.1 1 = 7 := fx_t F (by decide)
theorem fp_1_1 {S : MS} (F : Fix S) : S.2.2.2.1 1 1 = 2 := fx_p F (by decide)
theorem fp_1_2 {S : MS} (F : Fix S) : S.2.2.2.1 1 2 = 3 := fx_p F (by decide)
theorem fp_1_3 {S : MS} (F : Fix S) : S.2.2.2.1 1 3 = 4 := fx_p F (by decide)
theorem fp_1_4 {S : MS} (F : Fix S) : S.2.2.2.1 1 4 = 5 := fx_p F (by decide)
theorem fp_1_5 {S : MS} (F : Fix S) : S.2.2.2.1 1 5 = 6 := fx_p F (by decide)
theorem fp_1_7 {S : MS} (F : Fix S) : S.2.2.2.1 1 7 = 7 := fx_p F (by decide)
theorem fp_1_10 {S : MS} (F : Fix S) : S.2.2.2.1 1 10 = 8 := fx_p F (by decide)
theorem fo_2 {S : MS} (F : Fix S) : 0 ≤ (2 : Int) ∧ (2 : Int) < S.1 := fx_b F (by decide)
theorem ft_2 {S : MS} (F : Fix S) : S.2.1 2 = 20 := fx_t F (by decide)
theorem fl_2 {S : MS} (F : Fix S) : S.2.2.1 2 = 6 := fx_l F (by decide)
theorem fo_3 {S : MS} (F : Fix S) : 0 ≤ (3 : Int) ∧ (3 : Int) < S.1 := fx_b F (by decide)
theorem ft_3 {S : MS} (F : Fix S) : S.2.1 3 = 20 := fx_t F (by decide)
theorem fl_3 {S : MS} (F : Fix S) : S.2.2.1 3 = 6 := fx_l F (by decide)
theorem fo_4 {S : MS} (F : Fix S) : 0 ≤ (4 : Int) ∧ (4 : Int) < S.1 := fx_b F (by decide)
theorem ft_4 {S : MS} (F : Fix S) : S.2.1 4 = 20 := fx_t F (by decide)
theorem fl_4 {S : MS} (F : Fix S) : S.2.2.1 4 = 8 := fx_l F (by decide)
theorem fo_5 {S : MS} (F : Fix S) : 0 ≤ (5 : Int) ∧ (5 : Int) < S.1 := fx_b F (by decide)
theorem ft_5 {S : MS} (F : Fix S) : S.2.1 5 = 20 := fx_t F (by decide)
theorem fl_5 {S : MS} (F : Fix S) : S.2.2.1 5 = 16 := fx_l F (by decide)
theorem fo_6 {S : MS} (F : Fix S) : 0 ≤ (6 : Int) ∧ (6 : Int) < S.1 := fx_b F (by decide)
theorem ft_6 {S : MS} (F : Fix S) : S.2.1 6 = 20 := fx_t F (by decide)
theorem fl_6 {S : MS} (F : Fix S) : S.2.2.1 6 = 6 := fx_l F (by decide)
theorem fo_7 {S : MS} (F : Fix S) : 0 ≤ (7 : Int) ∧ (7 : Int) < S.1 := fx_b F (by decide)
theorem ft_7 {S : MS} (F : Fix S) : S.2.1 7 = 33 := fx_t F (by decide)
theorem fl_7 {S : MS} (F : Fix S) : S.2.2.1 7 = 6 := fx_l F (by decide)
theorem fo_8 {S : MS} (F : Fix S) : 0 ≤ (8 : Int) ∧ (8 : Int) < S.1 := fx_b F (by decide)
theorem ft_8 {S : MS} (F : Fix S) : S.2.1 8 = 20 := fx_t F (by decide)
theorem fl_8 {S : MS} (F : Fix S) : S.2.2.1 8 = 3 := fx_l F (by decide)
theorem fo_9 {S : MS} (F : Fix S) : 0 ≤ (9 : Int) ∧ (9 : Int) < S.1 := fx_b F (by decide)
theorem ft_9 {S : MS} (F : Fix S) : S.2.1 9 = 7 := fx_t F (by decide)
theorem fp_9_1 {S : MS} (F : Fix S) : S.2.2.2.1 9 1 = 10 := fx_p F (by decide)
theorem fp_9_2 {S : MS} (F : Fix S) : S.2.2.2.1 9 2 = 11 := fx_p F (by decide)
theorem fp_9_3 {S : MS} (F : Fix S) : S.2.2.2.1 9 3 = 12 := fx_p F (by decide)
theorem fp_9_4 {S : MS} (F : Fix S) : S.2.2.2.1 9 4 = 13 := fx_p F (by decide)
theorem fp_9_5 {S : MS} (F : Fix S) : S.2.2.2.1 9 5 = 14 := fx_p F (by decide)
theorem fp_9_7 {S : MS} (F : Fix S) : S.2.2.2.1 9 7 = 15 := fx_p F (by decide)
theorem fp_9_10 {S : MS} (F : Fix S) : S.2.2.2.1 9 10 = 16 := fx_p F (by decide)
theorem fo_10 {S : MS} (F : Fix S) : 0 ≤ (10 : Int) ∧ (10 : Int) < S.1 := fx_b F (by decide)
theorem ft_10 {S : MS} (F : Fix S) : S.2.1 10 = 20 := fx_t F (by decide)
theorem fl_10 {S : MS} (F : Fix S) : S.2.2.1 10 = 6 := fx_l F (by decide)
theorem fo_11 {S : MS} (F : Fix S) : 0 ≤ (11 : Int) ∧ (11 : Int) < S.1 := fx_b F (by decide)
theorem ft_11 {S : MS} (F : Fix S) : S.2.1 11 = 20 := fx_t F (by decide)
theorem fl_11 {S : MS} (F : Fix S) : S.2.2.1 11 = 6 := fx_l F (by decide)
theorem fo_12 {S : MS} (F : Fix S) : 0 ≤ (12 : Int) ∧ (12 : Int) < S.1 := fx_b F (by decide)
theorem ft_12 {S : MS} (F : Fix S) : S.2.1 12 = 20 := fx_t F (by decide)
theorem fl_12 {S : MS} (F : Fix S) : S.2.2.1 12 = 8 := fx_l F (by decide)
theorem fo_13 {S : MS} (F : Fix S) : 0 ≤ (13 : Int) ∧ (13 : Int) < S.1 := fx_b F (by decide)
theorem ft_13 {S : MS} (F : Fix S) : S.2.1 13 = 20 := fx_t F (by decide)
theorem fl_13 {S : MS} (F : Fix S) : S.2.2.1 13 = 16 := fx_l F (by decide)
theorem fo_14 {S : MS} (F : Fix S) : 0 ≤ (14 : Int) ∧ (14 : Int) < S.1 := fx_b F (by decide)
theorem ft_14 {S : MS} (F : Fix S) : S.2.1 14 = 20 := fx_t F (by decide)
theorem fl_14 {S : MS} (F : Fix S) : S.2.2.1 14 = 6 := fx_l F (by decide)
theorem fo_15 {S : MS} (F : Fix S) : 0 ≤ (15 : Int) ∧ (15 : Int) < S.1 := fx_b F (by decide)
theorem ft_15 {S : MS} (F : Fix S) : S.2.1 15 = 33 := fx_t F (by decide)
theorem fl_15 {S : MS} (F : Fix S) : S.2.2.1 15 = 6 := fx_l F (by decide)
theorem fo_16 {S : MS} (F : Fix S) : 0 ≤ (16 : Int) ∧ (16 : Int) < S.1 := fx_b F (by decide)
theorem ft_16 {S : MS} (F : Fix S) : S.2.1 16 = 20 := fx_t F (by decide)
theorem fl_16 {S : MS} (F : Fix S) : S.2.2.1 16 = 3 := fx_l F (by decide)
theorem fo_17 {S : MS} (F : Fix S) : 0 ≤ (17 : Int) ∧ (17 : Int) < S.1 := fx_b F (by decide)
theorem ft_17 {S : MS} (F : Fix S) : S.2.1 17 = 7 := fx_t F (by decide)
theorem fp_17_1 {S : MS} (F : Fix S) : S.2.2.2.1 17 1 = 18 := fx_p F (by decide)
theorem fp_17_2 {S : MS} (F : Fix S) : S.2.2.2.1 17 2 = 19 := fx_p F (by decide)
theorem fp_17_3 {S : MS} (F : Fix S) : S.2.2.2.1 17 3 = 20 := fx_p F (by decide)
theorem fp_17_4 {S : MS} (F : Fix S) : S.2.2.2.1 17 4 = 21 := fx_p F (by decide)
theorem fp_17_5 {S : MS} (F : Fix S) : S.2.2.2.1 17 5 = 22 := fx_p F (by decide)
theorem fp_17_7 {S : MS} (F : Fix S) : S.2.2.2.1 17 7 = 23 := fx_p F (by decide)
theorem fp_17_10 {S : MS} (F : Fix S) : S.2.2.2.1 17 10 = 24 := fx_p F (by decide)
theorem fo_18 {S : MS} (F : Fix S) : 0 ≤ (18 : Int) ∧ (18 : Int) < S.1 := fx_b F (by decide)
theorem ft_18 {S : MS} (F : Fix S) : S.2.1 18 = 20 := fx_t F (by decide)
theorem fl_18 {S : MS} (F : Fix S) : S.2.2.1 18 = 6 := fx_l F (by decide)
theorem fo_19 {S : MS} (F : Fix S) : 0 ≤ (19 : Int) ∧ (19 : Int) < S.1 := fx_b F (by decide)
theorem ft_19 {S : MS} (F : Fix S) : S.2.1 19 = 20 := fx_t F (by decide)
theorem fl_19 {S : MS} (F : Fix S) : S.2.2.1 19 = 6 := fx_l F (by decide)
theorem fo_20 {S : MS} (F : Fix S) : 0 ≤ (20 : Int) ∧ (20 : Int) < S.1 := fx_b F (by decide)
theorem ft_20 {S : MS} (F : Fix S) : S.2.1 20 = 20 := fx_t F (by decide)
theorem fl_20 {S : MS} (F : Fix S) : S.2.2.1 20 = 8 := fx_l F (by decide)
theorem fo_21 {S : MS} (F : Fix S) : 0 ≤ (21 : Int) ∧ (21 : Int) < S.1 := fx_b F (by decide)
theorem ft_21 {S : MS} (F : Fix S) : S.2.1 21 = 20 := fx_t F (by decide)
theorem fl_21 {S : MS} (F : Fix S) : S.2.2.1 21 = 16 := fx_l F (by decide)
theorem fo_22 {S : MS} (F : Fix S) : 0 ≤ (22 : Int) ∧ (22 : Int) < S.1 := fx_b F (by decide)
theorem ft_22 {S : MS} (F : Fix S) : S.2.1 22 = 20 := fx_t F (by decide)
theorem fl_22 {S : MS} (F : Fix S) : S.2.2.1 22 = 6 := fx_l F (by decide)
theorem fo_23 {S : MS} (F : Fix S) : 0 ≤ (23 : Int) ∧ (23 : Int) < S.1 := fx_b F (by decide)
theorem ft_23 {S : MS} (F : Fix S) : S.2.1 23 = 33 := fx_t F (by decide)
theorem fl_23 {S : MS} (F : Fix S) : S.2.2.1 23 = 6 := fx_l F (by decide)
theorem fo_24 {S : MS} (F : Fix S) : 0 ≤ (24 : Int) ∧ (24 : Int) < S.1 := fx_b F (by decide)
theorem ft_24 {S : MS} (F : Fix S) : S.2.1 24 = 20 := fx_t F (by decide)
theorem fl_24 {S : MS} (F : Fix S) : S.2.2.1 24 = 3 := fx_l F (by decide)
theorem fo_25 {S : MS} (F : Fix S) : 0 ≤ (25 : Int) ∧ (25 : Int) < S.1 := fx_b F (by decide)
theorem ft_25 {S : MS} (F : Fix S) : S.2.1 25 = 31 := fx_t F (by decide)
theorem fl_25 {S : MS} (F : Fix S) : S.2.2.1 25 = 2 := fx_l F (by decide)
theorem fp_25_0 {S : MS} (F : Fix S) : S.2.2.2.1 25 0 = 65 := fx_p F (by decide)
theorem fp_25_1 {S : MS} (F : Fix S) : S.2.2.2.1 25 1 = 73 := fx_p F (by decide)
theorem fo_26 {S : MS} (F : Fix S) : 0 ≤ (26 : Int) ∧ (26 : Int) < S.1 := fx_b F (by decide)
theorem ft_26 {S : MS} (F : Fix S) : S.2.1 26 = 23 := fx_t F (by decide)
theorem fl_26 {S : MS} (F : Fix S) : S.2.2.1 26 = 2 := fx_l F (by decide)
theorem fo_27 {S : MS} (F : Fix S) : 0 ≤ (27 : Int) ∧ (27 : Int) < S.1 := fx_b F (by decide)
theorem ft_27 {S : MS} (F : Fix S) : S.2.1 27 = 8 := fx_t F (by decide)
theorem fp_27_0 {S : MS} (F : Fix S) : S.2.2.2.1 27 0 = 28 := fx_p F (by decide)
theorem fo_28 {S : MS} (F : Fix S) : 0 ≤ (28 : Int) ∧ (28 : Int) < S.1 := fx_b F (by decide)
theorem ft_28 {S : MS} (F : Fix S) : S.2.1 28 = 22 := fx_t F (by decide)
theorem fl_28 {S : MS} (F : Fix S) : S.2.2.1 28 = 400 := fx_l F (by decide)
theorem fo_29 {S : MS} (F : Fix S) : 0 ≤ (29 : Int) ∧ (29 : Int) < S.1 := fx_b F (by decide)
theorem ft_29 {S : MS} (F : Fix S) : S.2.1 29 = 4 := fx_t F (by decide)
theorem fp_29_0 {S : MS} (F : Fix S) : S.2.2.2.1 29 0 = 30 := fx_p F (by decide)
theorem fp_29_1 {S : MS} (F : Fix S) : S.2.2.2.1 29 1 = 27 := fx_p F (by decide)
theorem fp_29_2 {S : MS} (F : Fix S) : S.2.2.2.1 29 2 = 37 := fx_p F (by decide)
theorem fp_29_3 {S : MS} (F : Fix S) : S.2.2.2.1 29 3 = 38 := fx_p F (by decide)
theorem fp_29_4 {S : MS} (F : Fix S) : S.2.2.2.1 29 4 = 39 := fx_p F (by decide)
theorem fo_30 {S : MS} (F : Fix S) : 0 ≤ (30 : Int) ∧ (30 : Int) < S.1 := fx_b F (by decide)
theorem ft_30 {S : MS} (F : Fix S) : S.2.1 30 = 9 := fx_t F (by decide)
theorem fp_30_3 {S : MS} (F : Fix S) : S.2.2.2.1 30 3 = 31 := fx_p F (by decide)
theorem fp_30_4 {S : MS} (F : Fix S) : S.2.2.2.1 30 4 = 32 := fx_p F (by decide)
theorem fp_30_5 {S : MS} (F : Fix S) : S.2.2.2.1 30 5 = 33 := fx_p F (by decide)
theorem fp_30_6 {S : MS} (F : Fix S) : S.2.2.2.1 30 6 = 34 := fx_p F (by decide)
theorem fp_30_7 {S : MS} (F : Fix S) : S.2.2.2.1 30 7 = 35 := fx_p F (by decide)
theorem fp_30_8 {S : MS} (F : Fix S) : S.2.2.2.1 30 8 = 36 := fx_p F (by decide)
theorem fo_31 {S : MS} (F : Fix S) : 0 ≤ (31 : Int) ∧ (31 : Int) < S.1 := fx_b F (by decide)
theorem ft_31 {S : MS} (F : Fix S) : S.2.1 31 = 20 := fx_t F (by decide)
theorem fl_31 {S : MS} (F : Fix S) : S.2.2.1 31 = 12 := fx_l F (by decide)
theorem fo_32 {S : MS} (F : Fix S) : 0 ≤ (32 : Int) ∧ (32 : Int) < S.1 := fx_b F (by decide)
theorem ft_32 {S : MS} (F : Fix S) : S.2.1 32 = 20 := fx_t F (by decide)
theorem fl_32 {S : MS} (F : Fix S) : S.2.2.1 32 = 12 := fx_l F (by decide)
theorem fo_33 {S : MS} (F : Fix S) : 0 ≤ (33 : Int) ∧ (33 : Int) < S.1 := fx_b F (by decide)
theorem ft_33 {S : MS} (F : Fix S) : S.2.1 33 = 20 := fx_t F (by decide)
theorem fl_33 {S : MS} (F : Fix S) : S.2.2.1 33 = 12 := fx_l F (by decide)
theorem fo_34 {S : MS} (F : Fix S) : 0 ≤ (34 : Int) ∧ (34 : Int) < S.1 := fx_b F (by decide)
theorem ft_34 {S : MS} (F : Fix S) : S.2.1 34 = 20 := fx_t F (by decide)
theorem fl_34 {S : MS} (F : Fix S) : S.2.2.1 34 = 12 := fx_l F (by decide)
theorem fo_35 {S : MS} (F : Fix S) : 0 ≤ (35 : Int) ∧ (35 : Int) < S.1 := fx_b F (by decide)
theorem ft_35 {S : MS} (F : Fix S) : S.2.1 35 = 20 := fx_t F (by decide)
theorem fl_35 {S : MS} (F : Fix S) : S.2.2.1 35 = 12 := fx_l F (by decide)
theorem fo_36 {S : MS} (F : Fix S) : 0 ≤ (36 : Int) ∧ (36 : Int) < S.1 := fx_b F (by decide)
theorem ft_36 {S : MS} (F : Fix S) : S.2.1 36 = 20 := fx_t F (by decide)
theorem fl_36 {S : MS} (F : Fix S) : S.2.2.1 36 = 400 := fx_l F (by decide)
theorem fo_37 {S : MS} (F : Fix S) : 0 ≤ (37 : Int) ∧ (37 : Int) < S.1 := fx_b F (by decide)
theorem ft_37 {S : MS} (F : Fix S) : S.2.1 37 = 20 := fx_t F (by decide)
theorem fl_37 {S : MS} (F : Fix S) : S.2.2.1 37 = 401 := fx_l F (by decide)
theorem fo_38 {S : MS} (F : Fix S) : 0 ≤ (38 : Int) ∧ (38 : Int) < S.1 := fx_b F (by decide)
theorem ft_38 {S : MS} (F : Fix S) : S.2.1 38 = 20 := fx_t F (by decide)
theorem fl_38 {S : MS} (F : Fix S) : S.2.2.1 38 = 401 := fx_l F (by decide)
theorem fo_39 {S : MS} (F : Fix S) : 0 ≤ (39 : Int) ∧ (39 : Int) < S.1 := fx_b F (by decide)
theorem ft_39 {S : MS} (F : Fix S) : S.2.1 39 = 20 := fx_t F (by decide)
theorem fl_39 {S : MS} (F : Fix S) : S.2.2.1 39 = 401 := fx_l F (by decide)
theorem fo_40 {S : MS} (F : Fix S) : 0 ≤ (40 : Int) ∧ (40 : Int) < S.1 := fx_b F (by decide)
theorem ft_40 {S : MS} (F : Fix S) : S.2.1 40 = 2 := fx_t F (by decide)
theorem fp_40_0 {S : MS} (F : Fix S) : S.2.2.2.1 40 0 = 41 := fx_p F (by decide)
theorem fp_40_1 {S : MS} (F : Fix S) : S.2.2.2.1 40 1 = 43 := fx_p F (by decide)
theorem fo_41 {S : MS} (F : Fix S) : 0 ≤ (41 : Int) ∧ (41 : Int) < S.1 := fx_b F (by decide)
theorem ft_41 {S : MS} (F : Fix S) : S.2.1 41 = 5 := fx_t F (by decide)
theorem fp_41_0 {S : MS} (F : Fix S) : S.2.2.2.1 41 0 = 42 := fx_p F (by decide)
theorem fo_42 {S : MS} (F : Fix S) : 0 ≤ (42 : Int) ∧ (42 : Int) < S.1 := fx_b F (by decide)
theorem ft_42 {S : MS} (F : Fix S) : S.2.1 42 = 21 := fx_t F (by decide)
theorem fl_42 {S : MS} (F : Fix S) : S.2.2.1 42 = 50 := fx_l F (by decide)
theorem fo_43 {S : MS} (F : Fix S) : 0 ≤ (43 : Int) ∧ (43 : Int) < S.1 := fx_b F (by decide)
theorem ft_43 {S : MS} (F : Fix S) : S.2.1 43 = 20 := fx_t F (by decide)
theorem fl_43 {S : MS} (F : Fix S) : S.2.2.1 43 = 8 := fx_l F (by decide)
theorem fo_44 {S : MS} (F : Fix S) : 0 ≤ (44 : Int) ∧ (44 : Int) < S.1 := fx_b F (by decide)
theorem ft_44 {S : MS} (F : Fix S) : S.2.1 44 = 3 := fx_t F (by decide)
theorem fp_44_0 {S : MS} (F : Fix S) : S.2.2.2.1 44 0 = 40 := fx_p F (by decide)
theorem fp_44_1 {S : MS} (F : Fix S) : S.2.2.2.1 44 1 = 45 := fx_p F (by decide)
theorem fp_44_2 {S : MS} (F : Fix S) : S.2.2.2.1 44 2 = 46 := fx_p F (by decide)
theorem fp_44_3 {S : MS} (F : Fix S) : S.2.2.2.1 44 3 = 47 := fx_p F (by decide)
theorem fp_44_4 {S : MS} (F : Fix S) : S.2.2.2.1 44 4 = 48 := fx_p F (by decide)
theorem fp_44_5 {S : MS} (F : Fix S) : S.2.2.2.1 44 5 = 49 := fx_p F (by decide)
theorem fp_44_6 {S : MS} (F : Fix S) : S.2.2.2.1 44 6 = 50 := fx_p F (by decide)
theorem fp_44_7 {S : MS} (F : Fix S) : S.2.2.2.1 44 7 = 51 := fx_p F (by decide)
theorem fo_45 {S : MS} (F : Fix S) : 0 ≤ (45 : Int) ∧ (45 : Int) < S.1 := fx_b F (by decide)
theorem ft_45 {S : MS} (F : Fix S) : S.2.1 45 = 20 := fx_t F (by decide)
theorem fl_45 {S : MS} (F : Fix S) : S.2.2.1 45 = 6 := fx_l F (by decide)
theorem fo_46 {S : MS} (F : Fix S) : 0 ≤ (46 : Int) ∧ (46 : Int) < S.1 := fx_b F (by decide)
theorem ft_46 {S : MS} (F : Fix S) : S.2.1 46 = 20 := fx_t F (by decide)
theorem fl_46 {S : MS} (F : Fix S) : S.2.2.1 46 = 6 := fx_l F (by decide)
theorem fo_47 {S : MS} (F : Fix S) : 0 ≤ (47 : Int) ∧ (47 : Int) < S.1 := fx_b F (by decide)
theorem ft_47 {S : MS} (F : Fix S) : S.2.1 47 = 21 := fx_t F (by decide)
theorem fl_47 {S : MS} (F : Fix S) : S.2.2.1 47 = 48 := fx_l F (by decide)
theorem fo_48 {S : MS} (F : Fix S) : 0 ≤ (48 : Int) ∧ (48 : Int) < S.1 := fx_b F (by decide)
theorem ft_48 {S : MS} (F : Fix S) : S.2.1 48 = 21 := fx_t F (by decide)
theorem fl_48 {S : MS} (F : Fix S) : S.2.2.1 48 = 256 := fx_l F (by decide)
theorem fo_49 {S : MS} (F : Fix S) : 0 ≤ (49 : Int) ∧ (49 : Int) < S.1 := fx_b F (by decide)
theorem ft_49 {S : MS} (F : Fix S) : S.2.1 49 = 21 := fx_t F (by decide)
theorem fl_49 {S : MS} (F : Fix S) : S.2.2.1 49 = 256 := fx_l F (by decide)
theorem fo_50 {S : MS} (F : Fix S) : 0 ≤ (50 : Int) ∧ (50 : Int) < S.1 := fx_b F (by decide)
theorem ft_50 {S : MS} (F : Fix S) : S.2.1 50 = 20 := fx_t F (by decide)
theorem fl_50 {S : MS} (F : Fix S) : S.2.2.1 50 = 256 := fx_l F (by decide)
theorem fo_51 {S : MS} (F : Fix S) : 0 ≤ (51 : Int) ∧ (51 : Int) < S.1 := fx_b F (by decide)
theorem ft_51 {S : MS} (F : Fix S) : S.2.1 51 = 23 := fx_t F (by decide)
theorem fl_51 {S : MS} (F : Fix S) : S.2.2.1 51 = 64 := fx_l F (by decide)
theorem fo_52 {S : MS} (F : Fix S) : 0 ≤ (52 : Int) ∧ (52 : Int) < S.1 := fx_b F (by decide)
theorem ft_52 {S : MS} (F : Fix S) : S.2.1 52 = 1 := fx_t F (by decide)
theorem fp_52_0 {S : MS} (F : Fix S) : S.2.2.2.1 52 0 = 53 := fx_p F (by decide)
theorem fp_52_1 {S : MS} (F : Fix S) : S.2.2.2.1 52 1 = 54 := fx_p F (by decide)
theorem fo_53 {S : MS} (F : Fix S) : 0 ≤ (53 : Int) ∧ (53 : Int) < S.1 := fx_b F (by decide)
theorem ft_53 {S : MS} (F : Fix S) : S.2.1 53 = 20 := fx_t F (by decide)
theorem fl_53 {S : MS} (F : Fix S) : S.2.2.1 53 = 36 := fx_l F (by decide)
theorem fo_54 {S : MS} (F : Fix S) : 0 ≤ (54 : Int) ∧ (54 : Int) < S.1 := fx_b F (by decide)
theorem ft_54 {S : MS} (F : Fix S) : S.2.1 54 = 20 := fx_t F (by decide)
theorem fl_54 {S : MS} (F : Fix S) : S.2.2.1 54 = 64 := fx_l F (by decide)
theorem fo_55 {S : MS} (F : Fix S) : 0 ≤ (55 : Int) ∧ (55 : Int) < S.1 := fx_b F (by decide)
theorem ft_55 {S : MS} (F : Fix S) : S.2.1 55 = 0 := fx_t F (by decide)
theorem fp_55_0 {S : MS} (F : Fix S) : S.2.2.2.1 55 0 = 56 := fx_p F (by decide)
theorem fp_55_1 {S : MS} (F : Fix S) : S.2.2.2.1 55 1 = 57 := fx_p F (by decide)
theorem fp_55_2 {S : MS} (F : Fix S) : S.2.2.2.1 55 2 = 58 := fx_p F (by decide)
theorem fo_56 {S : MS} (F : Fix S) : 0 ≤ (56 : Int) ∧ (56 : Int) < S.1 := fx_b F (by decide)
theorem ft_56 {S : MS} (F : Fix S) : S.2.1 56 = 20 := fx_t F (by decide)
theorem fl_56 {S : MS} (F : Fix S) : S.2.2.1 56 = 256 := fx_l F (by decide)
theorem fo_57 {S : MS} (F : Fix S) : 0 ≤ (57 : Int) ∧ (57 : Int) < S.1 := fx_b F (by decide)
theorem ft_57 {S : MS} (F : Fix S) : S.2.1 57 = 20 := fx_t F (by decide)
theorem fl_57 {S : MS} (F : Fix S) : S.2.2.1 57 = 256 := fx_l F (by decide)
theorem fo_58 {S : MS} (F : Fix S) : 0 ≤ (58 : Int) ∧ (58 : Int) < S.1 := fx_b F (by decide)
theorem ft_58 {S : MS} (F : Fix S) : S.2.1 58 = 20 := fx_t F (by decide)
theorem fl_58 {S : MS} (F : Fix S) : S.2.2.1 58 = 256 := fx_l F (by decide)
theorem fo_59 {S : MS} (F : Fix S) : 0 ≤ (59 : Int) ∧ (59 : Int) < S.1 := fx_b F (by decide)
theorem ft_59 {S : MS} (F : Fix S) : S.2.1 59 = 6 := fx_t F (by decide)
theorem fp_59_0 {S : MS} (F : Fix S) : S.2.2.2.1 59 0 = 60 := fx_p F (by decide)
theorem fp_59_1 {S : MS} (F : Fix S) : S.2.2.2.1 59 1 = 62 := fx_p F (by decide)
theorem fo_60 {S : MS} (F : Fix S) : 0 ≤ (60 : Int) ∧ (60 : Int) < S.1 := fx_b F (by decide)
theorem ft_60 {S : MS} (F : Fix S) : S.2.1 60 = 5 := fx_t F (by decide)
theorem fp_60_0 {S : MS} (F : Fix S) : S.2.2.2.1 60 0 = 61 := fx_p F (by decide)
theorem fo_61 {S : MS} (F : Fix S) : 0 ≤ (61 : Int) ∧ (61 : Int) < S.1 := fx_b F (by decide)
theorem ft_61 {S : MS} (F : Fix S) : S.2.1 61 = 21 := fx_t F (by decide)
theorem fl_61 {S : MS} (F : Fix S) : S.2.2.1 61 = 50 := fx_l F (by decide)
theorem fo_62 {S : MS} (F : Fix S) : 0 ≤ (62 : Int) ∧ (62 : Int) < S.1 := fx_b F (by decide)
theorem ft_62 {S : MS} (F : Fix S) : S.2.1 62 = 20 := fx_t F (by decide)
theorem fl_62 {S : MS} (F : Fix S) : S.2.2.1 62 = 29 := fx_l F (by decide)
theorem fo_63 {S : MS} (F : Fix S) : 0 ≤ (63 : Int) ∧ (63 : Int) < S.1 := fx_b F (by decide)
theorem ft_63 {S : MS} (F : Fix S) : S.2.1 63 = 21 := fx_t F (by decide)
theorem fl_63 {S : MS} (F : Fix S) : S.2.2.1 63 = 20 := fx_l F (by decide)
theorem fo_64 {S : MS} (F : Fix S) : 0 ≤ (64 : Int) ∧ (64 : Int) < S.1 := fx_b F (by decide)
theorem ft_64 {S : MS} (F : Fix S) : S.2.1 64 = 20 := fx_t F (by decide)
theorem fl_64 {S : MS} (F : Fix S) : S.2.2.1 64 = 5 := fx_l F (by decide)
theorem fo_65 {S : MS} (F : Fix S) : 0 ≤ (65 : Int) ∧ (65 : Int) < S.1 := fx_b F (by decide)
theorem ft_65 {S : MS} (F : Fix S) : S.2.1 65 = 7 := fx_t F (by decide)
theorem fp_65_1 {S : MS} (F : Fix S) : S.2.2.2.1 65 1 = 66 := fx_p F (by decide)
theorem fp_65_2 {S : MS} (F : Fix S) : S.2.2.2.1 65 2 = 67 := fx_p F (by decide)
theorem fp_65_3 {S : MS} (F : Fix S) : S.2.2.2.1 65 3 = 68 := fx_p F (by decide)
theorem fp_65_4 {S : MS} (F : Fix S) : S.2.2.2.1 65 4 = 69 := fx_p F (by decide)
theorem fp_65_5 {S : MS} (F : Fix S) : S.2.2.2.1 65 5 = 70 := fx_p F (by decide)
theorem fp_65_7 {S : MS} (F : Fix S) : S.2.2.2.1 65 7 = 71 := fx_p F (by decide)
theorem fp_65_10 {S : MS} (F : Fix S) : S.2.2.2.1 65 10 = 72 := fx_p F (by decide)
theorem fo_66 {S : MS} (F : Fix S) : 0 ≤ (66 : Int) ∧ (66 : Int) < S.1 := fx_b F (by decide)
theorem ft_66 {S : MS} (F : Fix S) : S.2.1 66 = 20 := fx_t F (by decide)
theorem fl_66 {S : MS} (F : Fix S) : S.2.2.1 66 = 6 := fx_l F (by decide)
theorem fo_67 {S : MS} (F : Fix S) : 0 ≤ (67 : Int) ∧ (67 : Int) < S.1 := fx_b F (by decide)
theorem ft_67 {S : MS} (F : Fix S) : S.2.1 67 = 20 := fx_t F (by decide)
theorem fl_67 {S : MS} (F : Fix S) : S.2.2.1 67 = 6 := fx_l F (by decide)
theorem fo_68 {S : MS} (F : Fix S) : 0 ≤ (68 : Int) ∧ (68 : Int) < S.1 := fx_b F (by decide)
theorem ft_68 {S : MS} (F : Fix S) : S.2.1 68 = 20 := fx_t F (by decide)
theorem fl_68 {S : MS} (F : Fix S) : S.2.2.1 68 = 8 := fx_l F (by decide)
theorem fo_69 {S : MS} (F : Fix S) : 0 ≤ (69 : Int) ∧ (69 : Int) < S.1 := fx_b F (by decide)
theorem ft_69 {S : MS} (F : Fix S) : S.2.1 69 = 20 := fx_t F (by decide)
theorem fl_69 {S : MS} (F : Fix S) : S.2.2.1 69 = 16 := fx_l F (by decide)
theorem fo_70 {S : MS} (F : Fix S) : 0 ≤ (70 : Int) ∧ (70 : Int) < S.1 := fx_b F (by decide)
theorem ft_70 {S : MS} (F : Fix S) : S.2.1 70 = 20 := fx_t F (by decide)
theorem fl_70 {S : MS} (F : Fix S) : S.2.2.1 70 = 6 := fx_l F (by decide)
theorem fo_71 {S : MS} (F : Fix S) : 0 ≤ (71 : Int) ∧ (71 : Int) < S.1 := fx_b F (by decide)
theorem ft_71 {S : MS} (F : Fix S) : S.2.1 71 = 33 := fx_t F (by decide)
theorem fl_71 {S : MS} (F : Fix S) : S.2.2.1 71 = 6 := fx_l F (by decide)
theorem fo_72 {S : MS} (F : Fix S) : 0 ≤ (72 : Int) ∧ (72 : Int) < S.1 := fx_b F (by decide)
theorem ft_72 {S : MS} (F : Fix S) : S.2.1 72 = 20 := fx_t F (by decide)
theorem fl_72 {S : MS} (F : Fix S) : S.2.2.1 72 = 3 := fx_l F (by decide)
theorem fo_73 {S : MS} (F : Fix S) : 0 ≤ (73 : Int) ∧ (73 : Int) < S.1 := fx_b F (by decide)
theorem ft_73 {S : MS} (F : Fix S) : S.2.1 73 = 7 := fx_t F (by decide)
theorem fp_73_1 {S : MS} (F : Fix S) : S.2.2.2.1 73 1 = 74 := fx_p F (by decide)
theorem fp_73_2 {S : MS} (F : Fix S) : S.2.2.2.1 73 2 = 75 := fx_p F (by decide)
theorem fp_73_3 {S : MS} (F : Fix S) : S.2.2.2.1 73 3 = 76 := fx_p F (by decide)
theorem fp_73_4 {S : MS} (F : Fix S) : S.2.2.2.1 73 4 = 77 := fx_p F (by decide)
theorem fp_73_5 {S : MS} (F : Fix S) : S.2.2.2.1 73 5 = 78 := fx_p F (by decide)
theorem fp_73_7 {S : MS} (F : Fix S) : S.2.2.2.1 73 7 = 79 := fx_p F (by decide)
theorem fp_73_10 {S : MS} (F : Fix S) : S.2.2.2.1 73 10 = 80 := fx_p F (by decide)
theorem fo_74 {S : MS} (F : Fix S) : 0 ≤ (74 : Int) ∧ (74 : Int) < S.1 := fx_b F (by decide)
theorem ft_74 {S : MS} (F : Fix S) : S.2.1 74 = 20 := fx_t F (by decide)
theorem fl_74 {S : MS} (F : Fix S) : S.2.2.1 74 = 6 := fx_l F (by decide)
theorem fo_75 {S : MS} (F : Fix S) : 0 ≤ (75 : Int) ∧ (75 : Int) < S.1 := fx_b F (by decide)
theorem ft_75 {S : MS} (F : Fix S) : S.2.1 75 = 20 := fx_t F (by decide)
theorem fl_75 {S : MS} (F : Fix S) : S.2.2.1 75 = 6 := fx_l F (by decide)
theorem fo_76 {S : MS} (F : Fix S) : 0 ≤ (76 : Int) ∧ (76 : Int) < S.1 := fx_b F (by decide)
theorem ft_76 {S : MS} (F : Fix S) : S.2.1 76 = 20 := fx_t F (by decide)
theorem fl_76 {S : MS} (F : Fix S) : S.2.2.1 76 = 8 := fx_l F (by decide)
theorem fo_77 {S : MS} (F : Fix S) : 0 ≤ (77 : Int) ∧ (77 : Int) < S.1 := fx_b F (by decide)
theorem ft_77 {S : MS} (F : Fix S) : S.2.1 77 = 20 := fx_t F (by decide)
theorem fl_77 {S : MS} (F : Fix S) : S.2.2.1 77 = 16 := fx_l F (by decide)
theorem fo_78 {S : MS} (F : Fix S) : 0 ≤ (78 : Int) ∧ (78 : Int) < S.1 := fx_b F (by decide)
theorem ft_78 {S : MS} (F : Fix S) : S.2.1 78 = 20 := fx_t F (by decide)
theorem fl_78 {S : MS} (F : Fix S) : S.2.2.1 78 = 6 := fx_l F (by decide)
theorem fo_79 {S : MS} (F : Fix S) : 0 ≤ (79 : Int) ∧ (79 : Int) < S.1 := fx_b F (by decide)
theorem ft_79 {S : MS} (F : Fix S) : S.2.1 79 = 33 := fx_t F (by decide)
theorem fl_79 {S : MS} (F : Fix S) : S.2.2.1 79 = 6 := fx_l F (by decide)
theorem fo_80 {S : MS} (F : Fix S) : 0 ≤ (80 : Int) ∧ (80 : Int) < S.1 := fx_b F (by decide)
theorem ft_80 {S : MS} (F : Fix S) : S.2.1 80 = 20 := fx_t F (by decide)
theorem fl_80 {S : MS} (F : Fix S) : S.2.2.1 80 = 3 := fx_l F (by decide)
theorem fo_81 {S : MS} (F : Fix S) : 0 ≤ (81 : Int) ∧ (81 : Int) < S.1 := fx_b F (by decide)
theorem ft_81 {S : MS} (F : Fix S) : S.2.1 81 = 11 := fx_t F (by decide)
theorem fp_81_1 {S : MS} (F : Fix S) : S.2.2.2.1 81 1 = 82 := fx_p F (by decide)
theorem fp_81_2 {S : MS} (F : Fix S) : S.2.2.2.1 81 2 = 83 := fx_p F (by decide)
theorem fp_81_3 {S : MS} (F : Fix S) : S.2.2.2.1 81 3 = 84 := fx_p F (by decide)
theorem fp_81_4 {S : MS} (F : Fix S) : S.2.2.2.1 81 4 = 85 := fx_p F (by decide)
theorem fp_81_5 {S : MS} (F : Fix S) : S.2.2.2.1 81 5 = 86 := fx_p F (by decide)
theorem fp_81_7 {S : MS} (F : Fix S) : S.2.2.2.1 81 7 = 87 := fx_p F (by decide)
theorem fp_81_11 {S : MS} (F : Fix S) : S.2.2.2.1 81 11 = 88 := fx_p F (by decide)
theorem fp_81_12 {S : MS} (F : Fix S) : S.2.2.2.1 81 12 = 89 := fx_p F (by decide)
theorem fp_81_15 {S : MS} (F : Fix S) : S.2.2.2.1 81 15 = 90 := fx_p F (by decide)
theorem fp_81_16 {S : MS} (F : Fix S) : S.2.2.2.1 81 16 = 91 := fx_p F (by decide)
theorem fp_81_17 {S : MS} (F : Fix S) : S.2.2.2.1 81 17 = 92 := fx_p F (by decide)
theorem fp_81_26 {S : MS} (F : Fix S) : S.2.2.2.1 81 26 = 93 := fx_p F (by decide)
theorem fp_81_30 {S : MS} (F : Fix S) : S.2.2.2.1 81 30 = 94 := fx_p F (by decide)
theorem fp_81_31 {S : MS} (F : Fix S) : S.2.2.2.1 81 31 = 95 := fx_p F (by decide)
theorem fp_81_32 {S : MS} (F : Fix S) : S.2.2.2.1 81 32 = 96 := fx_p F (by decide)
theorem fp_81_33 {S : MS} (F : Fix S) : S.2.2.2.1 81 33 = 97 := fx_p F (by decide)
theorem fp_81_34 {S : MS} (F : Fix S) : S.2.2.2.1 81 34 = 98 := fx_p F (by decide)
theorem fp_81_35 {S : MS} (F : Fix S) : S.2.2.2.1 81 35 = 99 := fx_p F (by decide)
theorem fp_81_36 {S : MS} (F : Fix S) : S.2.2.2.1 81 36 = 100 := fx_p F (by decide)
theorem fp_81_37 {S : MS} (F : Fix S) : S.2.2.2.1 81 37 = 101 := fx_p F (by decide)
theorem fp_81_38 {S : MS} (F : Fix S) : S.2.2.2.1 81 38 = 102 := fx_p F (by decide)
theorem fp_81_39 {S : MS} (F : Fix S) : S.2.2.2.1 81 39 = 103 := fx_p F (by decide)
theorem fp_81_40 {S : MS} (F : Fix S) : S.2.2.2.1 81 40 = 104 := fx_p F (by decide)
theorem fp_81_41 {S : MS} (F : Fix S) : S.2.2.2.1 81 41 = 105 := fx_p F (by decide)
theorem fp_81_49 {S : MS} (F : Fix S) : S.2.2.2.1 81 49 = 106 := fx_p F (by decide)
theorem fp_81_50 {S : MS} (F : Fix S) : S.2.2.2.1 81 50 = 107 := fx_p F (by decide)
theorem fo_82 {S : MS} (F : Fix S) : 0 ≤ (82 : Int) ∧ (82 : Int) < S.1 := fx_b F (by decide)
theorem ft_82 {S : MS} (F : Fix S) : S.2.1 82 = 20 := fx_t F (by decide)
theorem fl_82 {S : MS} (F : Fix S) : S.2.2.1 82 = 7 := fx_l F (by decide)
theorem fo_83 {S : MS} (F : Fix S) : 0 ≤ (83 : Int) ∧ (83 : Int) < S.1 := fx_b F (by decide)
theorem ft_83 {S : MS} (F : Fix S) : S.2.1 83 = 20 := fx_t F (by decide)
theorem fl_83 {S : MS} (F : Fix S) : S.2.2.1 83 = 5656 := fx_l F (by decide)
theorem fo_84 {S : MS} (F : Fix S) : 0 ≤ (84 : Int) ∧ (84 : Int) < S.1 := fx_b F (by decide)
theorem ft_84 {S : MS} (F : Fix S) : S.2.1 84 = 20 := fx_t F (by decide)
theorem fl_84 {S : MS} (F : Fix S) : S.2.2.1 84 = 11312 := fx_l F (by decide)
theorem fo_85 {S : MS} (F : Fix S) : 0 ≤ (85 : Int) ∧ (85 : Int) < S.1 := fx_b F (by decide)
theorem ft_85 {S : MS} (F : Fix S) : S.2.1 85 = 23 := fx_t F (by decide)
theorem fl_85 {S : MS} (F : Fix S) : S.2.2.1 85 = 2 := fx_l F (by decide)
theorem fo_86 {S : MS} (F : Fix S) : 0 ≤ (86 : Int) ∧ (86 : Int) < S.1 := fx_b F (by decide)
theorem ft_86 {S : MS} (F : Fix S) : S.2.1 86 = 20 := fx_t F (by decide)
theorem fl_86 {S : MS} (F : Fix S) : S.2.2.1 86 = 50 := fx_l F (by decide)
theorem fo_87 {S : MS} (F : Fix S) : 0 ≤ (87 : Int) ∧ (87 : Int) < S.1 := fx_b F (by decide)
theorem ft_87 {S : MS} (F : Fix S) : S.2.1 87 = 22 := fx_t F (by decide)
theorem fl_87 {S : MS} (F : Fix S) : S.2.2.1 87 = 136 := fx_l F (by decide)
theorem fo_88 {S : MS} (F : Fix S) : 0 ≤ (88 : Int) ∧ (88 : Int) < S.1 := fx_b F (by decide)
theorem ft_88 {S : MS} (F : Fix S) : S.2.1 88 = 22 := fx_t F (by decide)
theorem fl_88 {S : MS} (F : Fix S) : S.2.2.1 88 = 400 := fx_l F (by decide)
theorem fo_89 {S : MS} (F : Fix S) : 0 ≤ (89 : Int) ∧ (89 : Int) < S.1 := fx_b F (by decide)
theorem ft_89 {S : MS} (F : Fix S) : S.2.1 89 = 20 := fx_t F (by decide)
theorem fl_89 {S : MS} (F : Fix S) : S.2.2.1 89 = 5 := fx_l F (by decide)
theorem fo_90 {S : MS} (F : Fix S) : 0 ≤ (90 : Int) ∧ (90 : Int) < S.1 := fx_b F (by decide)
theorem ft_90 {S : MS} (F : Fix S) : S.2.1 90 = 20 := fx_t F (by decide)
theorem fl_90 {S : MS} (F : Fix S) : S.2.2.1 90 = 401 := fx_l F (by decide)
theorem fo_91 {S : MS} (F : Fix S) : 0 ≤ (91 : Int) ∧ (91 : Int) < S.1 := fx_b F (by decide)
theorem ft_91 {S : MS} (F : Fix S) : S.2.1 91 = 20 := fx_t F (by decide)
theorem fl_91 {S : MS} (F : Fix S) : S.2.2.1 91 = 401 := fx_l F (by decide)
theorem fo_92 {S : MS} (F : Fix S) : 0 ≤ (92 : Int) ∧ (92 : Int) < S.1 := fx_b F (by decide)
theorem ft_92 {S : MS} (F : Fix S) : S.2.1 92 = 20 := fx_t F (by decide)
theorem fl_92 {S : MS} (F : Fix S) : S.2.2.1 92 = 401 := fx_l F (by decide)
theorem fo_93 {S : MS} (F : Fix S) : 0 ≤ (93 : Int) ∧ (93 : Int) < S.1 := fx_b F (by decide)
theorem ft_93 {S : MS} (F : Fix S) : S.2.1 93 = 20 := fx_t F (by decide)
theorem fl_93 {S : MS} (F : Fix S) : S.2.2.1 93 = 8 := fx_l F (by decide)
theorem fo_94 {S : MS} (F : Fix S) : 0 ≤ (94 : Int) ∧ (94 : Int) < S.1 := fx_b F (by decide)
theorem ft_94 {S : MS} (F : Fix S) : S.2.1 94 = 20 := fx_t F (by decide)
theorem fl_94 {S : MS} (F : Fix S) : S.2.2.1 94 = 1536 := fx_l F (by decide)
theorem fo_95 {S : MS} (F : Fix S) : 0 ≤ (95 : Int) ∧ (95 : Int) < S.1 := fx_b F (by decide)
theorem ft_95 {S : MS} (F : Fix S) : S.2.1 95 = 20 := fx_t F (by decide)
theorem fl_95 {S : MS} (F : Fix S) : S.2.2.1 95 = 8 := fx_l F (by decide)
theorem fo_96 {S : MS} (F : Fix S) : 0 ≤ (96 : Int) ∧ (96 : Int) < S.1 := fx_b F (by decide)
theorem ft_96 {S : MS} (F : Fix S) : S.2.1 96 = 20 := fx_t F (by decide)
theorem fl_96 {S : MS} (F : Fix S) : S.2.2.1 96 = 1792 := fx_l F (by decide)
theorem fo_97 {S : MS} (F : Fix S) : 0 ≤ (97 : Int) ∧ (97 : Int) < S.1 := fx_b F (by decide)
theorem ft_97 {S : MS} (F : Fix S) : S.2.1 97 = 20 := fx_t F (by decide)
theorem fl_97 {S : MS} (F : Fix S) : S.2.2.1 97 = 6 := fx_l F (by decide)
theorem fo_98 {S : MS} (F : Fix S) : 0 ≤ (98 : Int) ∧ (98 : Int) < S.1 := fx_b F (by decide)
theorem ft_98 {S : MS} (F : Fix S) : S.2.1 98 = 20 := fx_t F (by decide)
theorem fl_98 {S : MS} (F : Fix S) : S.2.2.1 98 = 8 := fx_l F (by decide)
theorem fo_99 {S : MS} (F : Fix S) : 0 ≤ (99 : Int) ∧ (99 : Int) < S.1 := fx_b F (by decide)
theorem ft_99 {S : MS} (F : Fix S) : S.2.1 99 = 23 := fx_t F (by decide)
theorem fl_99 {S : MS} (F : Fix S) : S.2.2.1 99 = 16384 := fx_l F (by decide)
theorem fo_100 {S : MS} (F : Fix S) : 0 ≤ (100 : Int) ∧ (100 : Int) < S.1 := fx_b F (by decide)
theorem ft_100 {S : MS} (F : Fix S) : S.2.1 100 = 23 := fx_t F (by decide)
theorem fl_100 {S : MS} (F : Fix S) : S.2.2.1 100 = 64 := fx_l F (by decide)
theorem fo_101 {S : MS} (F : Fix S) : 0 ≤ (101 : Int) ∧ (101 : Int) < S.1 := fx_b F (by decide)
theorem ft_101 {S : MS} (F : Fix S) : S.2.1 101 = 20 := fx_t F (by decide)
theorem fl_101 {S : MS} (F : Fix S) : S.2.2.1 101 = 36 := fx_l F (by decide)
theorem fo_102 {S : MS} (F : Fix S) : 0 ≤ (102 : Int) ∧ (102 : Int) < S.1 := fx_b F (by decide)
theorem ft_102 {S : MS} (F : Fix S) : S.2.1 102 = 20 := fx_t F (by decide)
theorem fl_102 {S : MS} (F : Fix S) : S.2.2.1 102 = 64 := fx_l F (by decide)
theorem fo_103 {S : MS} (F : Fix S) : 0 ≤ (103 : Int) ∧ (103 : Int) < S.1 := fx_b F (by decide)
theorem ft_103 {S : MS} (F : Fix S) : S.2.1 103 = 21 := fx_t F (by decide)
theorem fl_103 {S : MS} (F : Fix S) : S.2.2.1 103 = 21 := fx_l F (by decide)
theorem fo_104 {S : MS} (F : Fix S) : 0 ≤ (104 : Int) ∧ (104 : Int) < S.1 := fx_b F (by decide)
theorem ft_104 {S : MS} (F : Fix S) : S.2.1 104 = 20 := fx_t F (by decide)
theorem fl_104 {S : MS} (F : Fix S) : S.2.2.1 104 = 416 := fx_l F (by decide)
theorem fo_105 {S : MS} (F : Fix S) : 0 ≤ (105 : Int) ∧ (105 : Int) < S.1 := fx_b F (by decide)
theorem ft_105 {S : MS} (F : Fix S) : S.2.1 105 = 20 := fx_t F (by decide)
theorem fl_105 {S : MS} (F : Fix S) : S.2.2.1 105 = 416 := fx_l F (by decide)
theorem fo_106 {S : MS} (F : Fix S) : 0 ≤ (106 : Int) ∧ (106 : Int) < S.1 := fx_b F (by decide)
theorem ft_106 {S : MS} (F : Fix S) : S.2.1 106 = 21 := fx_t F (by decide)
theorem fl_106 {S : MS} (F : Fix S) : S.2.2.1 106 = 2 := fx_l F (by decide)
theorem fo_107 {S : MS} (F : Fix S) : 0 ≤ (107 : Int) ∧ (107 : Int) < S.1 := fx_b F (by decide)
theorem ft_107 {S : MS} (F : Fix S) : S.2.1 107 = 20 := fx_t F (by decide)
theorem fl_107 {S : MS} (F : Fix S) : S.2.2.1 107 = 25 := fx_l F (by decide)
def isSt (a : Int) : Prop := a = 1 ∨ a = 9 ∨ a = 17 ∨ a = 65 ∨ a = 73
def isRk (a : Int) : Prop := a = 41 ∨ a = 60
theorem st_b0 {S : MS} (F : Fix S) {a : Int} (h : isSt a) : 0 ≤ a ∧ a < S.1 := by rcases h with rfl | rfl | rfl | rfl | rfl <;> exact fx_b F (by decide)
theorem st_t0 {S : MS} (F : Fix S) {a : Int} (h : isSt a) : S.2.1 (a) = 7 := by rcases h with rfl | rfl | rfl | rfl | rfl <;> exact fx_t F (by decide)
theorem st_b1 {S : MS} (F : Fix S) {a : Int} (h : isSt a) : 0 ≤ a + 1 ∧ a + 1 < S.1 := by rcases h with rfl | rfl | rfl | rfl | rfl <;> exact fx_b F (by decide)
theorem st_t1 {S : MS} (F : Fix S) {a : Int} (h : isSt a) : S.2.1 (a + 1) = 20 := by rcases h with rfl | rfl | rfl | rfl | rfl <;> exact fx_t F (by decide)
theorem st_l1 {S : MS} (F : Fix S) {a : Int} (h : isSt a) : S.2.2.1 (a + 1) = 6 := by rcases h with rfl | rfl | rfl | rfl | rfl <;> exact fx_l F (by decide)
theorem st_b2 {S : MS} (F : Fix S) {a : Int} (h : isSt a) : 0 ≤ a + 2 ∧ a + 2 < S.1 := by rcases h with rfl | rfl | rfl | rfl | rfl <;> exact fx_b F (by decide)
theorem st_t2 {S : MS} (F : Fix S) {a : Int} (h : isSt a) : S.2.1 (a + 2) = 20 := by rcases h with rfl | rfl | rfl | rfl | rfl <;> exact fx_t F (by decide)
theorem st_l2 {S : MS} (F : Fix S) {a : Int} (h : isSt a) : S.2.2.1 (a + 2) = 6 := by rcases h with rfl | rfl | rfl | rfl | rfl <;> exact fx_l F (by decide)
theorem st_b3 {S : MS} (F : Fix S) {a : Int} (h : isSt a) : 0 ≤ a + 3 ∧ a + 3 < S.1 := by rcases h with rfl | rfl | rfl | rfl | rfl <;> exact fx_b F (by decide)
theorem st_t3 {S : MS} (F : Fix S) {a : Int} (h : isSt a) : S.2.1 (a + 3) = 20 := by rcases h with rfl | rfl | rfl | rfl | rfl <;> exact fx_t F (by decide)
theorem st_l3 {S : MS} (F : Fix S) {a : Int} (h : isSt a) : S.2.2.1 (a + 3) = 8 := by rcases h with rfl | rfl | rfl | rfl | rfl <;> exact fx_l F (by decide)
theorem st_b4 {S : MS} (F : Fix S) {a : Int} (h : isSt a) : 0 ≤ a + 4 ∧ a + 4 < S.1 := by rcases h with rfl | rfl | rfl | rfl | rfl <;> exact fx_b F (by decide)
theorem st_t4 {S : MS} (F : Fix S) {a : Int} (h : isSt a) : S.2.1 (a + 4) = 20 := by rcases h with rfl | rfl | rfl | rfl | rfl <;> exact fx_t F (by decide)
theorem st_l4 {S : MS} (F : Fix S) {a : Int} (h : isSt a) : S.2.2.1 (a + 4) = 16 := by rcases h with rfl | rfl | rfl | rfl | rfl <;> exact fx_l F (by decide)
theorem st_b5 {S : MS} (F : Fix S) {a : Int} (h : isSt a) : 0 ≤ a + 5 ∧ a + 5 < S.1 := by rcases h with rfl | rfl | rfl | rfl | rfl <;> exact fx_b F (by decide)
theorem st_t5 {S : MS} (F : Fix S) {a : Int} (h : isSt a) : S.2.1 (a + 5) = 20 := by rcases h with rfl | rfl | rfl | rfl | rfl <;> exact fx_t F (by decide)
theorem st_l5 {S : MS} (F : Fix S) {a : Int} (h : isSt a) : S.2.2.1 (a + 5) = 6 := by rcases h with rfl | rfl | rfl | rfl | rfl <;> exact fx_l F (by decide)
theorem st_b6 {S : MS} (F : Fix S) {a : Int} (h : isSt a) : 0 ≤ a + 6 ∧ a + 6 < S.1 := by rcases h with rfl | rfl | rfl | rfl | rfl <;> exact fx_b F (by decide)
theorem st_t6 {S : MS} (F : Fix S) {a : Int} (h : isSt a) : S.2.1 (a + 6) = 33 := by rcases h with rfl | rfl | rfl | rfl | rfl <;> exact fx_t F (by decide)
theorem st_l6 {S : MS} (F : Fix S) {a : Int} (h : isSt a) : S.2.2.1 (a + 6) = 6 := by rcases h with rfl | rfl | rfl | rfl | rfl <;> exact fx_l F (by decide)
theorem st_b7 {S : MS} (F : Fix S) {a : Int} (h : isSt a) : 0 ≤ a + 7 ∧ a + 7 < S.1 := by rcases h with rfl | rfl | rfl | rfl | rfl <;> exact fx_b F (by decide)
theorem st_t7 {S : MS} (F : Fix S) {a : Int} (h : isSt a) : S.2.1 (a + 7) = 20 := by rcases h with rfl | rfl | rfl | rfl | rfl <;> exact fx_t F (by decide)
theorem st_l7 {S : MS} (F : Fix S) {a : Int} (h : isSt a) : S.2.2.1 (a + 7) = 3 := by rcases h with rfl | rfl | rfl | rfl | rfl <;> exact fx_l F (by decide)
theorem st_p1 {S : MS} (F : Fix S) {a : Int} (h : isSt a) : S.2.2.2.1 a 1 = a + 1 := by rcases h with rfl | rfl | rfl | rfl | rfl <;> exact fx_p F (by decide)
theorem st_p2 {S : MS} (F : Fix S) {a : Int} (h : isSt a) : S.2.2.2.1 a 2 = a + 2 := by rcases h with rfl | rfl | rfl | rfl | rfl <;> exact fx_p F (by decide)
theorem st_p3 {S : MS} (F : Fix S) {a : Int} (h : isSt a) : S.2.2.2.1 a 3 = a + 3 := by rcases h with rfl | rfl | rfl | rfl | rfl <;> exact fx_p F (by decide)
theorem st_p4 {S : MS} (F : Fix S) {a : Int} (h : isSt a) : S.2.2.2.1 a 4 = a + 4 := by rcases h with rfl | rfl | rfl | rfl | rfl <;> exact fx_p F (by decide)
theorem st_p5 {S : MS} (F : Fix S) {a : Int} (h : isSt a) : S.2.2.2.1 a 5 = a + 5 := by rcases h with rfl | rfl | rfl | rfl | rfl <;> exact fx_p F (by decide)
theorem st_p7 {S : MS} (F : Fix S) {a : Int} (h : isSt a) : S.2.2.2.1 a 7 = a + 6 := by rcases h with rfl | rfl | rfl | rfl | rfl <;> exact fx_p F (by decide)
theorem st_p10 {S : MS} (F : Fix S) {a : Int} (h : isSt a) : S.2.2.2.1 a 10 = a + 7 := by rcases h with rfl | rfl | rfl | rfl | rfl <;> exact fx_p F (by decide)
theorem rk_b0 {S : MS} (F : Fix S) {a : Int} (h : isRk a) : 0 ≤ a ∧ a < S.1 := by rcases h with rfl | rfl <;> exact fx_b F (by decide)
theorem rk_t0 {S : MS} (F : Fix S) {a : Int} (h : isRk a) : S.2.1 (a) = 5 := by rcases h with rfl | rfl <;> exact fx_t F (by decide)
theorem rk_b1 {S : MS} (F : Fix S) {a : Int} (h : isRk a) : 0 ≤ a + 1 ∧ a + 1 < S.1 := by rcases h with rfl | rfl <;> exact fx_b F (by decide)
theorem rk_t1 {S : MS} (F : Fix S) {a : Int} (h : isRk a) : S.2.1 (a + 1) = 21 := by rcases h with rfl | rfl <;> exact fx_t F (by decide)
theorem rk_l1 {S : MS} (F : Fix S) {a : Int} (h : isRk a) : S.2.2.1 (a + 1) = 50 := by rcases h with rfl | rfl <;> exact fx_l F (by decide)
theorem rk_p0 {S : MS} (F : Fix S) {a : Int} (h : isRk a) : S.2.2.2.1 a 0 = a + 1 := by rcases h with rfl | rfl <;> exact fx_p F (by decide)
/-- a text: its six rows lie behind it -/
def TxO (S : MS) (t : Int) : Prop := 0 ≤ t ∧ t + 6 < S.1 ∧ S.2.1 t = 9 ∧ (S.2.2.2.1 t 3 = t + 1 ∧ S.2.1 (t + 1) = 20 ∧ S.2.2.2.1 t 4 = t + 2 ∧ S.2.1 (t + 2) = 20 ∧ S.2.2.2.1 t 5 = t + 3 ∧ S.2.1 (t + 3) = 20 ∧ S.2.2.2.1 t 6 = t + 4 ∧ S.2.1 (t + 4) = 20 ∧ S.2.2.2.1 t 7 = t + 5 ∧ S.2.1 (t + 5) = 20 ∧ S.2.2.2.1 t 8 = t + 6 ∧ S.2.1 (t + 6) = 20)
theorem tx_p3 {S : MS} {t : Int} (h : TxO S t) : S.2.2.2.1 t 3 = t + 1 := h.2.2.2.1
theorem tx_t1 {S : MS} {t : Int} (h : TxO S t) : S.2.1 (t + 1) = 20 := h.2.2.2.2.1
theorem tx_b1 {S : MS} {t : Int} (h : TxO S t) : 0 ≤ t + 1 ∧ t + 1 < S.1 := ⟨by have := h.1; omega, by have := h.2.1; omega⟩
theorem tx_p4 {S : MS} {t : Int} (h : TxO S t) : S.2.2.2.1 t 4 = t + 2 := h.2.2.2.2.2.1
theorem tx_t2 {S : MS} {t : Int} (h : TxO S t) : S.2.1 (t + 2) = 20 := h.2.2.2.2.2.2.1
theorem tx_b2 {S : MS} {t : Int} (h : TxO S t) : 0 ≤ t + 2 ∧ t + 2 < S.1 := ⟨by have := h.1; omega, by have := h.2.1; omega⟩
theorem tx_p5 {S : MS} {t : Int} (h : TxO S t) : S.2.2.2.1 t 5 = t + 3 := h.2.2.2.2.2.2.2.1
theorem tx_t3 {S : MS} {t : Int} (h : TxO S t) : S.2.1 (t + 3) = 20 := h.2.2.2.2.2.2.2.2.1
theorem tx_b3 {S : MS} {t : Int} (h : TxO S t) : 0 ≤ t + 3 ∧ t + 3 < S.1 := ⟨by have := h.1; omega, by have := h.2.1; omega⟩
theorem tx_p6 {S : MS} {t : Int} (h : TxO S t) : S.2.2.2.1 t 6 = t + 4 := h.2.2.2.2.2.2.2.2.2.1
theorem tx_t4 {S : MS} {t : Int} (h : TxO S t) : S.2.1 (t + 4) = 20 := h.2.2.2.2.2.2.2.2.2.2.1
theorem tx_b4 {S : MS} {t : Int} (h : TxO S t) : 0 ≤ t + 4 ∧ t + 4 < S.1 := ⟨by have := h.1; omega, by have := h.2.1; omega⟩
theorem tx_p7 {S : MS} {t : Int} (h : TxO S t) : S.2.2.2.1 t 7 = t + 5 := h.2.2.2.2.2.2.2.2.2.2.2.1
theorem tx_t5 {S : MS} {t : Int} (h : TxO S t) : S.2.1 (t + 5) = 20 := h.2.2.2.2.2.2.2.2.2.2.2.2.1
theorem tx_b5 {S : MS} {t : Int} (h : TxO S t) : 0 ≤ t + 5 ∧ t + 5 < S.1 := ⟨by have := h.1; omega, by have := h.2.1; omega⟩
theorem tx_p8 {S : MS} {t : Int} (h : TxO S t) : S.2.2.2.1 t 8 = t + 6 := h.2.2.2.2.2.2.2.2.2.2.2.2.2.1
theorem tx_t6 {S : MS} {t : Int} (h : TxO S t) : S.2.1 (t + 6) = 20 := h.2.2.2.2.2.2.2.2.2.2.2.2.2.2
theorem tx_b6 {S : MS} {t : Int} (h : TxO S t) : 0 ≤ t + 6 ∧ t + 6 < S.1 := ⟨by have := h.1; omega, by have := h.2.1; omega⟩
theorem tx_t0 {S : MS} {t : Int} (h : TxO S t) : S.2.1 t = 9 := h.2.2.1
theorem tx_b0 {S : MS} {t : Int} (h : TxO S t) : 0 ≤ t ∧ t < S.1 := ⟨h.1, by have := h.2.1; omega⟩
def Arr (S : MS) (a : Int) (t : Nat) : Prop := (0 ≤ a ∧ a < S.1) ∧ S.2.1 a = t
theorem tb1 {w : Cond} (h : w ∈ tables_1_1) (g : goodWord w = true) : w ∈ T0 := List.mem_filter.mpr ⟨List.mem_append_right _ (List.mem_append_left _ h), g⟩
theorem tb2 {w : Cond} (h : w ∈ tables_1_2) (g : goodWord w = true) : w ∈ T0 := List.mem_filter.mpr ⟨List.mem_append_right _ (List.mem_append_right _ (List.mem_append_left _ h)), g⟩
theorem tb3 {w : Cond} (h : w ∈ tables_1_3) (g : goodWord w = true) : w ∈ T0 := List.mem_filter.mpr ⟨List.mem_append_right _ (List.mem_append_right _ (List.mem_append_right _ (List.mem_append_left _ h))), g⟩
theorem tb4 {w : Cond} (h : w ∈ tables_1_4) (g : goodWord w = true) : w ∈ T0 := List.mem_filter.mpr ⟨List.mem_append_right _ (List.mem_append_right _ (List.mem_append_right _ (List.mem_append_right _ (List.mem_append_left _ h)))), g⟩
theorem tb5 {w : Cond} (h : w ∈ tables_1_5) (g : goodWord w = true) : w ∈ T0 := List.mem_filter.mpr ⟨List.mem_append_right _ (List.mem_append_right _ (List.mem_append_right _ (List.mem_append_right _ (List.mem_append_right _ (List.mem_append_left _ h))))), g⟩
theorem tb6 {w : Cond} (h : w ∈ tables_1_6) (g : goodWord w = true) : w ∈ T0 := List.mem_filter.mpr ⟨List.mem_append_right _ (List.mem_append_right _ (List.mem_append_right _ (List.mem_append_right _ (List.mem_append_right _ (List.mem_append_right _ (List.mem_append_left _ h)))))), g⟩
theorem tb7 {w : Cond} (h : w ∈ tables_1_7) (g : goodWord w = true) : w ∈ T0 := List.mem_filter.mpr ⟨List.mem_append_right _ (List.mem_append_right _ (List.mem_append_right _ (List.mem_append_right _ (List.mem_append_right _ (List.mem_append_right _ (List.mem_append_right _ (List.mem_append_left _ h))))))), g⟩
theorem tb8 {w : Cond} (h : w ∈ tables_1_8) (g : goodWord w = true) : w ∈ T0 := List.mem_filter.mpr ⟨List.mem_append_right _ (List.mem_append_right _ (List.mem_append_right _ (List.mem_append_right _ (List.mem_append_right _ (List.mem_append_right _ (List.mem_append_right _ (List.mem_append_right _ h))))))), g⟩
theorem nb5 {w : Cond} (h : w ∈ tables_1_5) (g : isNest w = true) : w ∈ N0 := List.mem_filter.mpr ⟨List.mem_append_right _ (List.mem_append_right _ (List.mem_append_right _ (List.mem_append_right _ (List.mem_append_right _ (List.mem_append_left _ h))))), g⟩
theorem prv {y : MethodName} {n : Nat} (h : (y, n) ∈ lw_privs) : Cond.selects y.cls y y ∈ T0 := List.mem_filter.mpr ⟨List.mem_append_left _ (List.mem_map.mpr ⟨(y, n), h, rfl⟩), rfl⟩
theorem nb1 {w : Cond} (h : w ∈ tables_1_1) (g : isNest w = true) : w ∈ N0 := List.mem_filter.mpr ⟨List.mem_append_right _ (List.mem_append_left _ h), g⟩
theorem nb2 {w : Cond} (h : w ∈ tables_1_2) (g : isNest w = true) : w ∈ N0 := List.mem_filter.mpr ⟨List.mem_append_right _ (List.mem_append_right _ (List.mem_append_left _ h)), g⟩
theorem nb3 {w : Cond} (h : w ∈ tables_1_3) (g : isNest w = true) : w ∈ N0 := List.mem_filter.mpr ⟨List.mem_append_right _ (List.mem_append_right _ (List.mem_append_right _ (List.mem_append_left _ h))), g⟩
theorem nb4 {w : Cond} (h : w ∈ tables_1_4) (g : isNest w = true) : w ∈ N0 := List.mem_filter.mpr ⟨List.mem_append_right _ (List.mem_append_right _ (List.mem_append_right _ (List.mem_append_right _ (List.mem_append_left _ h)))), g⟩
theorem nb6 {w : Cond} (h : w ∈ tables_1_6) (g : isNest w = true) : w ∈ N0 := List.mem_filter.mpr ⟨List.mem_append_right _ (List.mem_append_right _ (List.mem_append_right _ (List.mem_append_right _ (List.mem_append_right _ (List.mem_append_right _ (List.mem_append_left _ h)))))), g⟩
theorem nb7 {w : Cond} (h : w ∈ tables_1_7) (g : isNest w = true) : w ∈ N0 := List.mem_filter.mpr ⟨List.mem_append_right _ (List.mem_append_right _ (List.mem_append_right _ (List.mem_append_right _ (List.mem_append_right _ (List.mem_append_right _ (List.mem_append_right _ (List.mem_append_left _ h))))))), g⟩
theorem nb8 {w : Cond} (h : w ∈ tables_1_8) (g : isNest w = true) : w ∈ N0 := List.mem_filter.mpr ⟨List.mem_append_right _ (List.mem_append_right _ (List.mem_append_right _ (List.mem_append_right _ (List.mem_append_right _ (List.mem_append_right _ (List.mem_append_right _ (List.mem_append_right _ (h)))))))), g⟩
theorem kF_X10_12 : Cond.fieldLink "KeyHouses" 12 "KeyHouses" "now" "LKeyHouses$Street;" ∈ T0 := tb2 (List.mem_of_getElem? (i := 110) (by decide +kernel)) rfl
theorem kF_X10_16 : Cond.fieldLink "KeyHouses" 16 "KeyHouses" "paper" "LKeyHouses$Street;" ∈ T0 := tb2 (List.mem_of_getElem? (i := 111) (by decide +kernel)) rfl
theorem kF_X10_19 : Cond.fieldLink "KeyHouses" 19 "KeyHouses" "evening" "LKeyHouses$Street;" ∈ T0 := tb2 (List.mem_of_getElem? (i := 112) (by decide +kernel)) rfl
theorem kF_X10_22 : Cond.fieldLink "KeyHouses" 22 "KeyHouses" "images" "[LKeyHouses$Street;" ∈ T0 := tb2 (List.mem_of_getElem? (i := 113) (by decide +kernel)) rfl
theorem kF_X10_26 : Cond.fieldLink "KeyHouses" 26 "KeyHouses" "kept" "[Z" ∈ T0 := tb2 (List.mem_of_getElem? (i := 114) (by decide +kernel)) rfl
theorem kF_X10_33 : Cond.fieldLink "KeyHouses" 33 "KeyHouses" "tape" "LKeyHouses$Tape;" ∈ T0 := tb2 (List.mem_of_getElem? (i := 115) (by decide +kernel)) rfl
theorem kF_X10_42 : Cond.fieldLink "KeyHouses" 42 "KeyHouses" "reader" "LKeyHouses$Reader;" ∈ T0 := tb2 (List.mem_of_getElem? (i := 116) (by decide +kernel)) rfl
theorem kF_X10_49 : Cond.fieldLink "KeyHouses" 49 "KeyHouses" "judge" "LKeyHouses$Judge;" ∈ T0 := tb2 (List.mem_of_getElem? (i := 117) (by decide +kernel)) rfl
theorem kF_X10_58 : Cond.fieldLink "KeyHouses" 58 "KeyHouses" "players" "LKeyHouses$Players;" ∈ T0 := tb2 (List.mem_of_getElem? (i := 118) (by decide +kernel)) rfl
theorem kF_X10_65 : Cond.fieldLink "KeyHouses" 65 "KeyHouses" "debts" "LKeyHouses$Debts;" ∈ T0 := tb2 (List.mem_of_getElem? (i := 119) (by decide +kernel)) rfl
theorem kF_X10_72 : Cond.fieldLink "KeyHouses" 72 "KeyHouses" "changes" "LKeyHouses$Changes;" ∈ T0 := tb2 (List.mem_of_getElem? (i := 120) (by decide +kernel)) rfl
theorem kF_X10_79 : Cond.fieldLink "KeyHouses" 79 "KeyHouses" "runner" "LKeyHouses$Runner;" ∈ T0 := tb2 (List.mem_of_getElem? (i := 121) (by decide +kernel)) rfl
theorem kF_X10_83 : Cond.fieldLink "KeyHouses" 83 "KeyHouses" "chances" "[J" ∈ T0 := tb2 (List.mem_of_getElem? (i := 122) (by decide +kernel)) rfl
theorem kF_X10_87 : Cond.fieldLink "KeyHouses" 87 "KeyHouses" "refusals" "[I" ∈ T0 := tb2 (List.mem_of_getElem? (i := 123) (by decide +kernel)) rfl
theorem kF_X10_95 : Cond.fieldLink "KeyHouses" 95 "KeyHouses$Street" "houses" "I" ∈ T0 := tb1 (List.mem_of_getElem? (i := 42) (by decide +kernel)) rfl
theorem kF_X10_99 : Cond.fieldLink "KeyHouses" 99 "KeyHouses$Street" "hands" "[I" ∈ T0 := tb1 (List.mem_of_getElem? (i := 44) (by decide +kernel)) rfl
theorem kF_X10_102 : Cond.fieldLink "KeyHouses" 102 "KeyHouses$Street" "reach" "[I" ∈ T0 := tb1 (List.mem_of_getElem? (i := 48) (by decide +kernel)) rfl
theorem kF_X10_121 : Cond.fieldLink "KeyHouses" 121 "KeyHouses$Street" "owners" "[I" ∈ T0 := tb1 (List.mem_of_getElem? (i := 54) (by decide +kernel)) rfl
theorem kF_X10_127 : Cond.fieldLink "KeyHouses" 127 "KeyHouses$Street" "music" "[I" ∈ T0 := tb1 (List.mem_of_getElem? (i := 59) (by decide +kernel)) rfl
theorem kF_X10_134 : Cond.fieldLink "KeyHouses" 134 "KeyHouses$Judge" "minded" "I" ∈ T0 := tb2 (List.mem_of_getElem? (i := 0) (by decide +kernel)) rfl
theorem kF_X10_137 : Cond.fieldLink "KeyHouses" 137 "KeyHouses$Judge" "can" "Z" ∈ T0 := tb2 (List.mem_of_getElem? (i := 3) (by decide +kernel)) rfl
theorem kF_X10_144 : Cond.fieldLink "KeyHouses" 144 "KeyHouses$Street" "terms" "[I" ∈ T0 := tb1 (List.mem_of_getElem? (i := 76) (by decide +kernel)) rfl
theorem kF_X10_147 : Cond.fieldLink "KeyHouses" 147 "KeyHouses$Tape" "length" "I" ∈ T0 := tb1 (List.mem_of_getElem? (i := 111) (by decide +kernel)) rfl
theorem kF_X10_154 : Cond.fieldLink "KeyHouses" 154 "KeyHouses" "latestCreaks" "I" ∈ T0 := tb2 (List.mem_of_getElem? (i := 125) (by decide +kernel)) rfl
theorem kF_X10_160 : Cond.fieldLink "KeyHouses" 160 "KeyHouses$Street" "lawCount" "I" ∈ T0 := tb1 (List.mem_of_getElem? (i := 69) (by decide +kernel)) rfl
theorem kF_X10_167 : Cond.fieldLink "KeyHouses" 167 "KeyHouses$Street" "laws" "[LKeyHouses$Text;" ∈ T0 := tb1 (List.mem_of_getElem? (i := 67) (by decide +kernel)) rfl
theorem kF_X10_171 : Cond.fieldLink "KeyHouses" 171 "KeyHouses$Reader" "draft" "LKeyHouses$Text;" ∈ T0 := tb1 (List.mem_of_getElem? (i := 182) (by decide +kernel)) rfl
theorem kF_X10_181 : Cond.fieldLink "KeyHouses" 181 "KeyHouses$Runner" "stopped" "I" ∈ T0 := tb2 (List.mem_of_getElem? (i := 98) (by decide +kernel)) rfl
theorem kF_X10_188 : Cond.fieldLink "KeyHouses" 188 "KeyHouses$Reader" "fault" "I" ∈ T0 := tb1 (List.mem_of_getElem? (i := 194) (by decide +kernel)) rfl
theorem kF_X10_194 : Cond.fieldLink "KeyHouses" 194 "KeyHouses$Street" "inForce" "I" ∈ T0 := tb1 (List.mem_of_getElem? (i := 71) (by decide +kernel)) rfl
theorem kF_X10_246 : Cond.fieldLink "KeyHouses" 246 "KeyHouses$Street" "sets" "I" ∈ T0 := tb1 (List.mem_of_getElem? (i := 65) (by decide +kernel)) rfl
theorem kF_X10_249 : Cond.fieldLink "KeyHouses" 249 "KeyHouses$Street" "motif" "[I" ∈ T0 := tb1 (List.mem_of_getElem? (i := 63) (by decide +kernel)) rfl
theorem kF_X10_264 : Cond.fieldLink "KeyHouses" 264 "KeyHouses$Debts" "owed" "[I" ∈ T0 := tb2 (List.mem_of_getElem? (i := 58) (by decide +kernel)) rfl
theorem kF_X10_287 : Cond.fieldLink "KeyHouses" 287 "KeyHouses" "drewEvenings" "Z" ∈ T0 := tb2 (List.mem_of_getElem? (i := 124) (by decide +kernel)) rfl
theorem kF_X10_297 : Cond.fieldLink "KeyHouses" 297 "KeyHouses$Changes" "size" "I" ∈ T0 := tb2 (List.mem_of_getElem? (i := 75) (by decide +kernel)) rfl
theorem kF_X10_300 : Cond.fieldLink "KeyHouses" 300 "KeyHouses" "latestStatus" "I" ∈ T0 := tb2 (List.mem_of_getElem? (i := 126) (by decide +kernel)) rfl
theorem kF_X0_9 : Cond.fieldLink "KeyHouses$Changes" 9 "KeyHouses$Changes" "kinds" "[I" ∈ T0 := tb2 (List.mem_of_getElem? (i := 71) (by decide +kernel)) rfl
theorem kF_X0_15 : Cond.fieldLink "KeyHouses$Changes" 15 "KeyHouses$Changes" "firsts" "[I" ∈ T0 := tb2 (List.mem_of_getElem? (i := 72) (by decide +kernel)) rfl
theorem kF_X0_18 : Cond.fieldLink "KeyHouses$Changes" 18 "KeyHouses$Changes" "seconds" "[I" ∈ T0 := tb2 (List.mem_of_getElem? (i := 73) (by decide +kernel)) rfl
theorem kF_X0_21 : Cond.fieldLink "KeyHouses$Changes" 21 "KeyHouses$Changes" "size" "I" ∈ T0 := tb2 (List.mem_of_getElem? (i := 74) (by decide +kernel)) rfl
theorem kF_X0_47 : Cond.fieldLink "KeyHouses$Changes" 47 "KeyHouses$Street" "music" "[I" ∈ T0 := tb1 (List.mem_of_getElem? (i := 58) (by decide +kernel)) rfl
theorem kF_X0_59 : Cond.fieldLink "KeyHouses$Changes" 59 "KeyHouses$Street" "owners" "[I" ∈ T0 := tb1 (List.mem_of_getElem? (i := 55) (by decide +kernel)) rfl
theorem kF_X0_73 : Cond.fieldLink "KeyHouses$Changes" 73 "KeyHouses$Street" "terms" "[I" ∈ T0 := tb1 (List.mem_of_getElem? (i := 75) (by decide +kernel)) rfl
theorem kF_X1_9 : Cond.fieldLink "KeyHouses$Debts" 9 "KeyHouses$Debts" "owed" "[I" ∈ T0 := tb2 (List.mem_of_getElem? (i := 57) (by decide +kernel)) rfl
theorem kF_X1_15 : Cond.fieldLink "KeyHouses$Debts" 15 "KeyHouses$Debts" "heaps" "[I" ∈ T0 := tb2 (List.mem_of_getElem? (i := 59) (by decide +kernel)) rfl
theorem kF_X1_36 : Cond.fieldLink "KeyHouses$Debts" 36 "KeyHouses$Street" "owners" "[I" ∈ T0 := tb1 (List.mem_of_getElem? (i := 53) (by decide +kernel)) rfl
theorem kF_X2_12 : Cond.fieldLink "KeyHouses$Judge" 12 "KeyHouses$Judge" "reckoner" "LKeyHouses$Reckoner;" ∈ T0 := tb1 (List.mem_of_getElem? (i := 237) (by decide +kernel)) rfl
theorem kF_X2_18 : Cond.fieldLink "KeyHouses$Judge" 18 "KeyHouses$Judge" "words" "[I" ∈ T0 := tb1 (List.mem_of_getElem? (i := 238) (by decide +kernel)) rfl
theorem kF_X2_22 : Cond.fieldLink "KeyHouses$Judge" 22 "KeyHouses$Judge" "minded" "I" ∈ T0 := tb1 (List.mem_of_getElem? (i := 239) (by decide +kernel)) rfl
theorem kF_X2_26 : Cond.fieldLink "KeyHouses$Judge" 26 "KeyHouses$Street" "owners" "[I" ∈ T0 := tb1 (List.mem_of_getElem? (i := 52) (by decide +kernel)) rfl
theorem kF_X2_31 : Cond.fieldLink "KeyHouses$Judge" 31 "KeyHouses$Judge" "can" "Z" ∈ T0 := tb2 (List.mem_of_getElem? (i := 2) (by decide +kernel)) rfl
theorem kF_X2_43 : Cond.fieldLink "KeyHouses$Judge" 43 "KeyHouses$Text" "clauses" "I" ∈ T0 := tb1 (List.mem_of_getElem? (i := 136) (by decide +kernel)) rfl
theorem kF_X2_48 : Cond.fieldLink "KeyHouses$Judge" 48 "KeyHouses$Text" "verb" "[I" ∈ T0 := tb1 (List.mem_of_getElem? (i := 143) (by decide +kernel)) rfl
theorem kF_X2_51 : Cond.fieldLink "KeyHouses$Judge" 51 "KeyHouses$Text" "test" "[I" ∈ T0 := tb1 (List.mem_of_getElem? (i := 156) (by decide +kernel)) rfl
theorem kF_X2_54 : Cond.fieldLink "KeyHouses$Judge" 54 "KeyHouses$Text" "code" "[I" ∈ T0 := tb1 (List.mem_of_getElem? (i := 160) (by decide +kernel)) rfl
theorem kF_X2_63 : Cond.fieldLink "KeyHouses$Judge" 63 "KeyHouses$Text" "first" "[I" ∈ T0 := tb1 (List.mem_of_getElem? (i := 149) (by decide +kernel)) rfl
theorem kF_X2_77 : Cond.fieldLink "KeyHouses$Judge" 77 "KeyHouses$Street" "hands" "[I" ∈ T0 := tb1 (List.mem_of_getElem? (i := 45) (by decide +kernel)) rfl
theorem kF_X2_80 : Cond.fieldLink "KeyHouses$Judge" 80 "KeyHouses$Street" "reach" "[I" ∈ T0 := tb1 (List.mem_of_getElem? (i := 49) (by decide +kernel)) rfl
theorem kF_X2_83 : Cond.fieldLink "KeyHouses$Judge" 83 "KeyHouses$Street" "terms" "[I" ∈ T0 := tb1 (List.mem_of_getElem? (i := 73) (by decide +kernel)) rfl
theorem kF_X3_9 : Cond.fieldLink "KeyHouses$Players" 9 "KeyHouses$Players" "can" "[I" ∈ T0 := tb2 (List.mem_of_getElem? (i := 21) (by decide +kernel)) rfl
theorem kF_X3_15 : Cond.fieldLink "KeyHouses$Players" 15 "KeyHouses$Players" "couldBefore" "[I" ∈ T0 := tb2 (List.mem_of_getElem? (i := 22) (by decide +kernel)) rfl
theorem kF_X3_18 : Cond.fieldLink "KeyHouses$Players" 18 "KeyHouses$Players" "weight" "[J" ∈ T0 := tb2 (List.mem_of_getElem? (i := 23) (by decide +kernel)) rfl
theorem kF_X3_22 : Cond.fieldLink "KeyHouses$Players" 22 "KeyHouses$Players" "partWeight" "[J" ∈ T0 := tb2 (List.mem_of_getElem? (i := 24) (by decide +kernel)) rfl
theorem kF_X3_25 : Cond.fieldLink "KeyHouses$Players" 25 "KeyHouses$Players" "lightest" "[J" ∈ T0 := tb2 (List.mem_of_getElem? (i := 25) (by decide +kernel)) rfl
theorem kF_X3_28 : Cond.fieldLink "KeyHouses$Players" 28 "KeyHouses$Players" "waysOf" "[I" ∈ T0 := tb2 (List.mem_of_getElem? (i := 26) (by decide +kernel)) rfl
theorem kF_X3_31 : Cond.fieldLink "KeyHouses$Players" 31 "KeyHouses$Players" "haveAll" "[Z" ∈ T0 := tb2 (List.mem_of_getElem? (i := 27) (by decide +kernel)) rfl
theorem kF_X3_35 : Cond.fieldLink "KeyHouses$Players" 35 "KeyHouses$Players" "judge" "LKeyHouses$Judge;" ∈ T0 := tb2 (List.mem_of_getElem? (i := 20) (by decide +kernel)) rfl
theorem kF_X3_39 : Cond.fieldLink "KeyHouses$Players" 39 "KeyHouses$Street" "houses" "I" ∈ T0 := tb1 (List.mem_of_getElem? (i := 41) (by decide +kernel)) rfl
theorem kF_X3_69 : Cond.fieldLink "KeyHouses$Players" 69 "KeyHouses$Players" "street" "LKeyHouses$Street;" ∈ T0 := tb2 (List.mem_of_getElem? (i := 28) (by decide +kernel)) rfl
theorem kF_X3_77 : Cond.fieldLink "KeyHouses$Players" 77 "KeyHouses$Players" "keys" "I" ∈ T0 := tb2 (List.mem_of_getElem? (i := 29) (by decide +kernel)) rfl
theorem kF_X3_108 : Cond.fieldLink "KeyHouses$Players" 108 "KeyHouses$Street" "music" "[I" ∈ T0 := tb1 (List.mem_of_getElem? (i := 61) (by decide +kernel)) rfl
theorem kF_X3_117 : Cond.fieldLink "KeyHouses$Players" 117 "KeyHouses$Judge" "can" "Z" ∈ T0 := tb2 (List.mem_of_getElem? (i := 4) (by decide +kernel)) rfl
theorem kF_X3_120 : Cond.fieldLink "KeyHouses$Players" 120 "KeyHouses$Judge" "minded" "I" ∈ T0 := tb2 (List.mem_of_getElem? (i := 1) (by decide +kernel)) rfl
theorem kF_X3_130 : Cond.fieldLink "KeyHouses$Players" 130 "KeyHouses$Street" "reach" "[I" ∈ T0 := tb1 (List.mem_of_getElem? (i := 50) (by decide +kernel)) rfl
theorem kF_X3_137 : Cond.fieldLink "KeyHouses$Players" 137 "KeyHouses$Street" "hands" "[I" ∈ T0 := tb1 (List.mem_of_getElem? (i := 46) (by decide +kernel)) rfl
theorem kF_X4_14 : Cond.fieldLink "KeyHouses$Reader" 14 "KeyHouses$Reader" "draft" "LKeyHouses$Text;" ∈ T0 := tb1 (List.mem_of_getElem? (i := 181) (by decide +kernel)) rfl
theorem kF_X4_20 : Cond.fieldLink "KeyHouses$Reader" 20 "KeyHouses$Reader" "kinds" "[I" ∈ T0 := tb1 (List.mem_of_getElem? (i := 184) (by decide +kernel)) rfl
theorem kF_X4_24 : Cond.fieldLink "KeyHouses$Reader" 24 "KeyHouses$Reader" "places" "[I" ∈ T0 := tb1 (List.mem_of_getElem? (i := 185) (by decide +kernel)) rfl
theorem kF_X4_27 : Cond.fieldLink "KeyHouses$Reader" 27 "KeyHouses$Reader" "numbers" "[I" ∈ T0 := tb1 (List.mem_of_getElem? (i := 186) (by decide +kernel)) rfl
theorem kF_X4_30 : Cond.fieldLink "KeyHouses$Reader" 30 "KeyHouses$Reader" "fault" "I" ∈ T0 := tb1 (List.mem_of_getElem? (i := 193) (by decide +kernel)) rfl
theorem kF_X4_34 : Cond.fieldLink "KeyHouses$Reader" 34 "KeyHouses$Reader" "tape" "LKeyHouses$Tape;" ∈ T0 := tb1 (List.mem_of_getElem? (i := 183) (by decide +kernel)) rfl
theorem kF_X4_41 : Cond.fieldLink "KeyHouses$Reader" 41 "KeyHouses$Tape" "length" "I" ∈ T0 := tb1 (List.mem_of_getElem? (i := 110) (by decide +kernel)) rfl
theorem kF_X4_49 : Cond.fieldLink "KeyHouses$Reader" 49 "KeyHouses$Reader" "ofOrders" "Z" ∈ T0 := tb1 (List.mem_of_getElem? (i := 188) (by decide +kernel)) rfl
theorem kF_X4_53 : Cond.fieldLink "KeyHouses$Reader" 53 "KeyHouses$Reader" "at" "I" ∈ T0 := tb1 (List.mem_of_getElem? (i := 189) (by decide +kernel)) rfl
theorem kF_X4_56 : Cond.fieldLink "KeyHouses$Reader" 56 "KeyHouses$Reader" "token" "I" ∈ T0 := tb1 (List.mem_of_getElem? (i := 190) (by decide +kernel)) rfl
theorem kF_X4_59 : Cond.fieldLink "KeyHouses$Reader" 59 "KeyHouses$Reader" "parts" "I" ∈ T0 := tb1 (List.mem_of_getElem? (i := 191) (by decide +kernel)) rfl
theorem kF_X4_62 : Cond.fieldLink "KeyHouses$Reader" 62 "KeyHouses$Reader" "open" "I" ∈ T0 := tb1 (List.mem_of_getElem? (i := 192) (by decide +kernel)) rfl
theorem kF_X4_75 : Cond.fieldLink "KeyHouses$Reader" 75 "KeyHouses$Reader" "tokens" "I" ∈ T0 := tb1 (List.mem_of_getElem? (i := 187) (by decide +kernel)) rfl
theorem kF_X4_104 : Cond.fieldLink "KeyHouses$Reader" 104 "KeyHouses$Text" "first" "[I" ∈ T0 := tb1 (List.mem_of_getElem? (i := 151) (by decide +kernel)) rfl
theorem kF_X4_107 : Cond.fieldLink "KeyHouses$Reader" 107 "KeyHouses$Text" "length" "I" ∈ T0 := tb1 (List.mem_of_getElem? (i := 138) (by decide +kernel)) rfl
theorem kF_X4_118 : Cond.fieldLink "KeyHouses$Reader" 118 "KeyHouses$Text" "second" "[I" ∈ T0 := tb1 (List.mem_of_getElem? (i := 154) (by decide +kernel)) rfl
theorem kF_X4_124 : Cond.fieldLink "KeyHouses$Reader" 124 "KeyHouses$Text" "times" "[I" ∈ T0 := tb1 (List.mem_of_getElem? (i := 147) (by decide +kernel)) rfl
theorem kF_X4_127 : Cond.fieldLink "KeyHouses$Reader" 127 "KeyHouses$Text" "test" "[I" ∈ T0 := tb1 (List.mem_of_getElem? (i := 158) (by decide +kernel)) rfl
theorem kF_X4_163 : Cond.fieldLink "KeyHouses$Reader" 163 "KeyHouses$Text" "asksDrill" "Z" ∈ T0 := tb1 (List.mem_of_getElem? (i := 141) (by decide +kernel)) rfl
theorem kF_X5_9 : Cond.fieldLink "KeyHouses$Reckoner" 9 "KeyHouses$Reckoner" "held" "[J" ∈ T0 := tb1 (List.mem_of_getElem? (i := 232) (by decide +kernel)) rfl
theorem kF_X6_12 : Cond.fieldLink "KeyHouses$Runner" 12 "KeyHouses$Runner" "reckoner" "LKeyHouses$Reckoner;" ∈ T0 := tb2 (List.mem_of_getElem? (i := 93) (by decide +kernel)) rfl
theorem kF_X6_18 : Cond.fieldLink "KeyHouses$Runner" 18 "KeyHouses$Runner" "words" "[I" ∈ T0 := tb2 (List.mem_of_getElem? (i := 94) (by decide +kernel)) rfl
theorem kF_X6_22 : Cond.fieldLink "KeyHouses$Runner" 22 "KeyHouses$Runner" "stopped" "I" ∈ T0 := tb2 (List.mem_of_getElem? (i := 97) (by decide +kernel)) rfl
theorem kF_X6_26 : Cond.fieldLink "KeyHouses$Runner" 26 "KeyHouses$Runner" "done" "I" ∈ T0 := tb2 (List.mem_of_getElem? (i := 95) (by decide +kernel)) rfl
theorem kF_X6_29 : Cond.fieldLink "KeyHouses$Runner" 29 "KeyHouses$Runner" "latest" "I" ∈ T0 := tb2 (List.mem_of_getElem? (i := 96) (by decide +kernel)) rfl
theorem kF_X6_32 : Cond.fieldLink "KeyHouses$Runner" 32 "KeyHouses$Text" "clauses" "I" ∈ T0 := tb1 (List.mem_of_getElem? (i := 135) (by decide +kernel)) rfl
theorem kF_X6_37 : Cond.fieldLink "KeyHouses$Runner" 37 "KeyHouses$Text" "times" "[I" ∈ T0 := tb1 (List.mem_of_getElem? (i := 146) (by decide +kernel)) rfl
theorem kF_X6_44 : Cond.fieldLink "KeyHouses$Runner" 44 "KeyHouses$Text" "asksDrill" "Z" ∈ T0 := tb1 (List.mem_of_getElem? (i := 140) (by decide +kernel)) rfl
theorem kF_X6_67 : Cond.fieldLink "KeyHouses$Runner" 67 "KeyHouses$Text" "test" "[I" ∈ T0 := tb1 (List.mem_of_getElem? (i := 157) (by decide +kernel)) rfl
theorem kF_X6_70 : Cond.fieldLink "KeyHouses$Runner" 70 "KeyHouses$Text" "code" "[I" ∈ T0 := tb1 (List.mem_of_getElem? (i := 161) (by decide +kernel)) rfl
theorem kF_X6_79 : Cond.fieldLink "KeyHouses$Runner" 79 "KeyHouses$Text" "first" "[I" ∈ T0 := tb1 (List.mem_of_getElem? (i := 150) (by decide +kernel)) rfl
theorem kF_X6_86 : Cond.fieldLink "KeyHouses$Runner" 86 "KeyHouses$Text" "second" "[I" ∈ T0 := tb1 (List.mem_of_getElem? (i := 153) (by decide +kernel)) rfl
theorem kF_X6_89 : Cond.fieldLink "KeyHouses$Runner" 89 "KeyHouses$Text" "verb" "[I" ∈ T0 := tb1 (List.mem_of_getElem? (i := 144) (by decide +kernel)) rfl
theorem kF_X6_96 : Cond.fieldLink "KeyHouses$Runner" 96 "KeyHouses$Street" "terms" "[I" ∈ T0 := tb1 (List.mem_of_getElem? (i := 74) (by decide +kernel)) rfl
theorem kF_X6_105 : Cond.fieldLink "KeyHouses$Runner" 105 "KeyHouses$Street" "music" "[I" ∈ T0 := tb1 (List.mem_of_getElem? (i := 60) (by decide +kernel)) rfl
theorem kF_X6_108 : Cond.fieldLink "KeyHouses$Runner" 108 "KeyHouses$Street" "owners" "[I" ∈ T0 := tb1 (List.mem_of_getElem? (i := 56) (by decide +kernel)) rfl
theorem kF_X7_9 : Cond.fieldLink "KeyHouses$Street" 9 "KeyHouses$Street" "hands" "[I" ∈ T0 := tb1 (List.mem_of_getElem? (i := 43) (by decide +kernel)) rfl
theorem kF_X7_15 : Cond.fieldLink "KeyHouses$Street" 15 "KeyHouses$Street" "reach" "[I" ∈ T0 := tb1 (List.mem_of_getElem? (i := 47) (by decide +kernel)) rfl
theorem kF_X7_18 : Cond.fieldLink "KeyHouses$Street" 18 "KeyHouses$Street" "owners" "[I" ∈ T0 := tb1 (List.mem_of_getElem? (i := 51) (by decide +kernel)) rfl
theorem kF_X7_21 : Cond.fieldLink "KeyHouses$Street" 21 "KeyHouses$Street" "music" "[I" ∈ T0 := tb1 (List.mem_of_getElem? (i := 57) (by decide +kernel)) rfl
theorem kF_X7_24 : Cond.fieldLink "KeyHouses$Street" 24 "KeyHouses$Street" "motif" "[I" ∈ T0 := tb1 (List.mem_of_getElem? (i := 62) (by decide +kernel)) rfl
theorem kF_X7_29 : Cond.fieldLink "KeyHouses$Street" 29 "KeyHouses$Street" "laws" "[LKeyHouses$Text;" ∈ T0 := tb1 (List.mem_of_getElem? (i := 66) (by decide +kernel)) rfl
theorem kF_X7_33 : Cond.fieldLink "KeyHouses$Street" 33 "KeyHouses$Street" "inForce" "I" ∈ T0 := tb1 (List.mem_of_getElem? (i := 70) (by decide +kernel)) rfl
theorem kF_X7_37 : Cond.fieldLink "KeyHouses$Street" 37 "KeyHouses$Street" "terms" "[I" ∈ T0 := tb1 (List.mem_of_getElem? (i := 72) (by decide +kernel)) rfl
theorem kF_X7_46 : Cond.fieldLink "KeyHouses$Street" 46 "KeyHouses$Street" "houses" "I" ∈ T0 := tb1 (List.mem_of_getElem? (i := 40) (by decide +kernel)) rfl
theorem kF_X7_55 : Cond.fieldLink "KeyHouses$Street" 55 "KeyHouses$Street" "sets" "I" ∈ T0 := tb1 (List.mem_of_getElem? (i := 64) (by decide +kernel)) rfl
theorem kF_X7_58 : Cond.fieldLink "KeyHouses$Street" 58 "KeyHouses$Street" "lawCount" "I" ∈ T0 := tb1 (List.mem_of_getElem? (i := 68) (by decide +kernel)) rfl
theorem kF_X8_9 : Cond.fieldLink "KeyHouses$Tape" 9 "KeyHouses$Tape" "bytes" "[B" ∈ T0 := tb1 (List.mem_of_getElem? (i := 108) (by decide +kernel)) rfl
theorem kF_X8_15 : Cond.fieldLink "KeyHouses$Tape" 15 "KeyHouses$Tape" "length" "I" ∈ T0 := tb1 (List.mem_of_getElem? (i := 109) (by decide +kernel)) rfl
theorem kF_X9_15 : Cond.fieldLink "KeyHouses$Text" 15 "KeyHouses$Text" "verb" "[I" ∈ T0 := tb1 (List.mem_of_getElem? (i := 142) (by decide +kernel)) rfl
theorem kF_X9_21 : Cond.fieldLink "KeyHouses$Text" 21 "KeyHouses$Text" "times" "[I" ∈ T0 := tb1 (List.mem_of_getElem? (i := 145) (by decide +kernel)) rfl
theorem kF_X9_24 : Cond.fieldLink "KeyHouses$Text" 24 "KeyHouses$Text" "first" "[I" ∈ T0 := tb1 (List.mem_of_getElem? (i := 148) (by decide +kernel)) rfl
theorem kF_X9_27 : Cond.fieldLink "KeyHouses$Text" 27 "KeyHouses$Text" "second" "[I" ∈ T0 := tb1 (List.mem_of_getElem? (i := 152) (by decide +kernel)) rfl
theorem kF_X9_30 : Cond.fieldLink "KeyHouses$Text" 30 "KeyHouses$Text" "test" "[I" ∈ T0 := tb1 (List.mem_of_getElem? (i := 155) (by decide +kernel)) rfl
theorem kF_X9_33 : Cond.fieldLink "KeyHouses$Text" 33 "KeyHouses$Text" "code" "[I" ∈ T0 := tb1 (List.mem_of_getElem? (i := 159) (by decide +kernel)) rfl
theorem kF_X9_36 : Cond.fieldLink "KeyHouses$Text" 36 "KeyHouses$Text" "clauses" "I" ∈ T0 := tb1 (List.mem_of_getElem? (i := 134) (by decide +kernel)) rfl
theorem kF_X9_40 : Cond.fieldLink "KeyHouses$Text" 40 "KeyHouses$Text" "length" "I" ∈ T0 := tb1 (List.mem_of_getElem? (i := 137) (by decide +kernel)) rfl
theorem kF_X9_46 : Cond.fieldLink "KeyHouses$Text" 46 "KeyHouses$Text" "asksDrill" "Z" ∈ T0 := tb1 (List.mem_of_getElem? (i := 139) (by decide +kernel)) rfl
theorem kF_X11_3 : Cond.fieldLink "KeyHousesModel" 3 "KeyHousesModel" "status" "I" ∈ T0 := tb5 (List.mem_of_getElem? (i := 80) (by decide +kernel)) rfl
theorem kF_X11_7 : Cond.fieldLink "KeyHousesModel" 7 "KeyHousesModel" "refused" "[I" ∈ T0 := tb5 (List.mem_of_getElem? (i := 81) (by decide +kernel)) rfl
theorem kF_X11_11 : Cond.fieldLink "KeyHousesModel" 11 "KeyHousesModel" "undoMany" "I" ∈ T0 := tb5 (List.mem_of_getElem? (i := 122) (by decide +kernel)) rfl
theorem kF_X11_28 : Cond.fieldLink "KeyHousesModel" 28 "KeyHousesModel" "kept" "[I" ∈ T0 := tb5 (List.mem_of_getElem? (i := 82) (by decide +kernel)) rfl
theorem kF_X11_31 : Cond.fieldLink "KeyHousesModel" 31 "KeyHousesModel" "images" "[I" ∈ T0 := tb5 (List.mem_of_getElem? (i := 83) (by decide +kernel)) rfl
theorem kF_X11_34 : Cond.fieldLink "KeyHousesModel" 34 "KeyHousesModel" "hasImage" "[Z" ∈ T0 := tb5 (List.mem_of_getElem? (i := 84) (by decide +kernel)) rfl
theorem kF_X11_38 : Cond.fieldLink "KeyHousesModel" 38 "KeyHousesModel" "aside" "[I" ∈ T0 := tb5 (List.mem_of_getElem? (i := 85) (by decide +kernel)) rfl
theorem kF_X11_41 : Cond.fieldLink "KeyHousesModel" 41 "KeyHousesModel" "words" "[B" ∈ T0 := tb5 (List.mem_of_getElem? (i := 87) (by decide +kernel)) rfl
theorem kF_X11_45 : Cond.fieldLink "KeyHousesModel" 45 "KeyHousesModel" "tape" "[B" ∈ T0 := tb5 (List.mem_of_getElem? (i := 91) (by decide +kernel)) rfl
theorem kF_X11_48 : Cond.fieldLink "KeyHousesModel" 48 "KeyHousesModel" "five" "[I" ∈ T0 := tb5 (List.mem_of_getElem? (i := 92) (by decide +kernel)) rfl
theorem kF_X11_51 : Cond.fieldLink "KeyHousesModel" 51 "KeyHousesModel" "fault" "I" ∈ T0 := tb5 (List.mem_of_getElem? (i := 94) (by decide +kernel)) rfl
theorem kF_X11_54 : Cond.fieldLink "KeyHousesModel" 54 "KeyHousesModel" "code" "[I" ∈ T0 := tb5 (List.mem_of_getElem? (i := 95) (by decide +kernel)) rfl
theorem kF_X11_57 : Cond.fieldLink "KeyHousesModel" 57 "KeyHousesModel" "value" "[I" ∈ T0 := tb5 (List.mem_of_getElem? (i := 96) (by decide +kernel)) rfl
theorem kF_X11_60 : Cond.fieldLink "KeyHousesModel" 60 "KeyHousesModel" "placed" "[I" ∈ T0 := tb5 (List.mem_of_getElem? (i := 97) (by decide +kernel)) rfl
theorem kF_X11_63 : Cond.fieldLink "KeyHousesModel" 63 "KeyHousesModel" "asked" "[I" ∈ T0 := tb5 (List.mem_of_getElem? (i := 106) (by decide +kernel)) rfl
theorem kF_X11_66 : Cond.fieldLink "KeyHousesModel" 66 "KeyHousesModel" "part" "[I" ∈ T0 := tb5 (List.mem_of_getElem? (i := 110) (by decide +kernel)) rfl
theorem kF_X11_69 : Cond.fieldLink "KeyHousesModel" 69 "KeyHousesModel" "minded0" "[I" ∈ T0 := tb5 (List.mem_of_getElem? (i := 111) (by decide +kernel)) rfl
theorem kF_X11_72 : Cond.fieldLink "KeyHousesModel" 72 "KeyHousesModel" "rest" "[I" ∈ T0 := tb5 (List.mem_of_getElem? (i := 112) (by decide +kernel)) rfl
theorem kF_X11_75 : Cond.fieldLink "KeyHousesModel" 75 "KeyHousesModel" "given" "[I" ∈ T0 := tb5 (List.mem_of_getElem? (i := 113) (by decide +kernel)) rfl
theorem kF_X11_78 : Cond.fieldLink "KeyHousesModel" 78 "KeyHousesModel" "plays" "[I" ∈ T0 := tb5 (List.mem_of_getElem? (i := 114) (by decide +kernel)) rfl
theorem kF_X11_81 : Cond.fieldLink "KeyHousesModel" 81 "KeyHousesModel" "have" "[Z" ∈ T0 := tb5 (List.mem_of_getElem? (i := 115) (by decide +kernel)) rfl
theorem kF_X11_84 : Cond.fieldLink "KeyHousesModel" 84 "KeyHousesModel" "coversAll" "[Z" ∈ T0 := tb5 (List.mem_of_getElem? (i := 116) (by decide +kernel)) rfl
theorem kF_X11_87 : Cond.fieldLink "KeyHousesModel" 87 "KeyHousesModel" "debts" "[I" ∈ T0 := tb5 (List.mem_of_getElem? (i := 117) (by decide +kernel)) rfl
theorem kF_X11_90 : Cond.fieldLink "KeyHousesModel" 90 "KeyHousesModel" "heaps" "[I" ∈ T0 := tb5 (List.mem_of_getElem? (i := 118) (by decide +kernel)) rfl
theorem kF_X11_93 : Cond.fieldLink "KeyHousesModel" 93 "KeyHousesModel" "parts0" "[J" ∈ T0 := tb5 (List.mem_of_getElem? (i := 119) (by decide +kernel)) rfl
theorem kF_X11_97 : Cond.fieldLink "KeyHousesModel" 97 "KeyHousesModel" "left0" "[I" ∈ T0 := tb5 (List.mem_of_getElem? (i := 120) (by decide +kernel)) rfl
theorem kF_X11_100 : Cond.fieldLink "KeyHousesModel" 100 "KeyHousesModel" "leftAhead" "[I" ∈ T0 := tb5 (List.mem_of_getElem? (i := 121) (by decide +kernel)) rfl
theorem kF_X11_103 : Cond.fieldLink "KeyHousesModel" 103 "KeyHousesModel" "stopped0" "I" ∈ T0 := tb5 (List.mem_of_getElem? (i := 123) (by decide +kernel)) rfl
theorem kF_X11_106 : Cond.fieldLink "KeyHousesModel" 106 "KeyHousesModel" "sums" "[J" ∈ T0 := tb5 (List.mem_of_getElem? (i := 129) (by decide +kernel)) rfl
theorem kF_X11_109 : Cond.fieldLink "KeyHousesModel" 109 "KeyHousesModel" "drawnMoved" "[I" ∈ T0 := tb5 (List.mem_of_getElem? (i := 130) (by decide +kernel)) rfl
theorem kF_X11_155 : Cond.fieldLink "KeyHousesModel" 155 "KeyHousesModel" "taped" "I" ∈ T0 := tb5 (List.mem_of_getElem? (i := 93) (by decide +kernel)) rfl
theorem kF_X11_158 : Cond.fieldLink "KeyHousesModel" 158 "KeyHousesModel" "creaks0" "I" ∈ T0 := tb5 (List.mem_of_getElem? (i := 86) (by decide +kernel)) rfl
theorem kF_X11_161 : Cond.fieldLink "KeyHousesModel" 161 "KeyHousesModel" "tokens" "I" ∈ T0 := tb5 (List.mem_of_getElem? (i := 98) (by decide +kernel)) rfl
theorem kF_X11_175 : Cond.fieldLink "KeyHousesModel" 175 "KeyHousesModel" "bad" "I" ∈ T0 := tb5 (List.mem_of_getElem? (i := 101) (by decide +kernel)) rfl
theorem kF_X11_182 : Cond.fieldLink "KeyHousesModel" 182 "KeyHousesModel" "token" "I" ∈ T0 := tb5 (List.mem_of_getElem? (i := 99) (by decide +kernel)) rfl
theorem kF_X11_191 : Cond.fieldLink "KeyHousesModel" 191 "KeyHousesModel" "leaves" "I" ∈ T0 := tb5 (List.mem_of_getElem? (i := 100) (by decide +kernel)) rfl
theorem kF_X11_208 : Cond.fieldLink "KeyHousesModel" 208 "KeyHousesModel" "isOrders" "Z" ∈ T0 := tb5 (List.mem_of_getElem? (i := 90) (by decide +kernel)) rfl
theorem kF_X11_234 : Cond.fieldLink "KeyHousesModel" 234 "KeyHousesModel" "firstWord" "I" ∈ T0 := tb5 (List.mem_of_getElem? (i := 88) (by decide +kernel)) rfl
theorem kF_X11_237 : Cond.fieldLink "KeyHousesModel" 237 "KeyHousesModel" "lastWord" "I" ∈ T0 := tb5 (List.mem_of_getElem? (i := 89) (by decide +kernel)) rfl
theorem kF_X11_262 : Cond.fieldLink "KeyHousesModel" 262 "KeyHousesModel" "goEnd" "I" ∈ T0 := tb5 (List.mem_of_getElem? (i := 103) (by decide +kernel)) rfl
theorem kF_X11_265 : Cond.fieldLink "KeyHousesModel" 265 "KeyHousesModel" "go" "I" ∈ T0 := tb5 (List.mem_of_getElem? (i := 102) (by decide +kernel)) rfl
theorem kF_X11_275 : Cond.fieldLink "KeyHousesModel" 275 "KeyHousesModel" "broken" "Z" ∈ T0 := tb5 (List.mem_of_getElem? (i := 104) (by decide +kernel)) rfl
theorem kF_X11_295 : Cond.fieldLink "KeyHousesModel" 295 "KeyHousesModel" "inOrders" "Z" ∈ T0 := tb5 (List.mem_of_getElem? (i := 105) (by decide +kernel)) rfl
theorem kF_X11_301 : Cond.fieldLink "KeyHousesModel" 301 "KeyHousesModel" "orderDone" "I" ∈ T0 := tb5 (List.mem_of_getElem? (i := 107) (by decide +kernel)) rfl
theorem kF_X11_304 : Cond.fieldLink "KeyHousesModel" 304 "KeyHousesModel" "orderLatest" "I" ∈ T0 := tb5 (List.mem_of_getElem? (i := 108) (by decide +kernel)) rfl
theorem kF_X11_307 : Cond.fieldLink "KeyHousesModel" 307 "KeyHousesModel" "drillNow" "I" ∈ T0 := tb5 (List.mem_of_getElem? (i := 109) (by decide +kernel)) rfl
theorem kF_X11_420 : Cond.fieldLink "KeyHousesModel" 420 "KeyHousesModel" "orderAt" "I" ∈ T0 := tb5 (List.mem_of_getElem? (i := 124) (by decide +kernel)) rfl
theorem kF_X11_435 : Cond.fieldLink "KeyHousesModel" 435 "KeyHousesModel" "head" "I" ∈ T0 := tb5 (List.mem_of_getElem? (i := 126) (by decide +kernel)) rfl
theorem kF_X11_438 : Cond.fieldLink "KeyHousesModel" 438 "KeyHousesModel" "sumsAre" "Z" ∈ T0 := tb5 (List.mem_of_getElem? (i := 127) (by decide +kernel)) rfl
theorem kF_X11_441 : Cond.fieldLink "KeyHousesModel" 441 "KeyHousesModel" "timesOf" "I" ∈ T0 := tb5 (List.mem_of_getElem? (i := 125) (by decide +kernel)) rfl
theorem kF_X11_444 : Cond.fieldLink "KeyHousesModel" 444 "KeyHousesModel" "testIs" "Z" ∈ T0 := tb5 (List.mem_of_getElem? (i := 128) (by decide +kernel)) rfl
theorem kF_X11_464 : Cond.fieldLink "KeyHousesModel" 464 "KeyHousesModel" "latest" "I" ∈ T0 := tb5 (List.mem_of_getElem? (i := 132) (by decide +kernel)) rfl
theorem kF_X11_474 : Cond.fieldLink "KeyHousesModel" 474 "KeyHousesModel" "isDrawn" "Z" ∈ T0 := tb5 (List.mem_of_getElem? (i := 131) (by decide +kernel)) rfl
theorem kF_J0_9 : Cond.fieldLink "java/lang/String" 9 "java/lang/String" "value" "[B" ∈ T0 := tb8 (List.mem_of_getElem? (i := 29) (by decide +kernel)) rfl
theorem kF_J0_15 : Cond.fieldLink "java/lang/String" 15 "java/lang/String" "coder" "B" ∈ T0 := tb8 (List.mem_of_getElem? (i := 30) (by decide +kernel)) rfl
theorem kF_J0_38 : Cond.fieldLink "java/lang/String" 38 "java/lang/String" "COMPACT_STRINGS" "Z" ∈ T0 := tb3 (List.mem_of_getElem? (i := 83) (by decide +kernel)) rfl
theorem kF_J0_1053 : Cond.fieldLink "java/lang/String" 1053 "jdk/internal/util/Preconditions" "SIOOBE_FORMATTER" "Ljava/util/function/BiFunction;" ∈ T0 := tb3 (List.mem_of_getElem? (i := 99) (by decide +kernel)) rfl
theorem kF_J2_44 : Cond.fieldLink "java/lang/StringUTF16" 44 "java/lang/StringUTF16" "$assertionsDisabled" "Z" ∈ T0 := tb3 (List.mem_of_getElem? (i := 117) (by decide +kernel)) rfl
theorem kF_J2_59 : Cond.fieldLink "java/lang/StringUTF16" 59 "java/lang/StringUTF16" "HI_BYTE_SHIFT" "I" ∈ T0 := tb3 (List.mem_of_getElem? (i := 119) (by decide +kernel)) rfl
theorem kF_J2_63 : Cond.fieldLink "java/lang/StringUTF16" 63 "java/lang/StringUTF16" "LO_BYTE_SHIFT" "I" ∈ T0 := tb3 (List.mem_of_getElem? (i := 121) (by decide +kernel)) rfl
theorem kM_X10_3 : Cond.methodLink "KeyHouses" 3 Lib.objectInit ∈ T0 := tb1 (List.mem_of_getElem? (i := 26) (by decide +kernel)) rfl
theorem kM_X10_11 : Cond.methodLink "KeyHouses" 11 yX7_init ∈ T0 := tb1 (List.mem_of_getElem? (i := 31) (by decide +kernel)) rfl
theorem kM_X10_32 : Cond.methodLink "KeyHouses" 32 yX8_init ∈ T0 := tb1 (List.mem_of_getElem? (i := 104) (by decide +kernel)) rfl
theorem kM_X10_39 : Cond.methodLink "KeyHouses" 39 yX4_init ∈ T0 := tb1 (List.mem_of_getElem? (i := 121) (by decide +kernel)) rfl
theorem kM_X10_48 : Cond.methodLink "KeyHouses" 48 yX2_init ∈ T0 := tb1 (List.mem_of_getElem? (i := 222) (by decide +kernel)) rfl
theorem kM_X10_55 : Cond.methodLink "KeyHouses" 55 yX3_init ∈ T0 := tb2 (List.mem_of_getElem? (i := 16) (by decide +kernel)) rfl
theorem kM_X10_64 : Cond.methodLink "KeyHouses" 64 yX1_init ∈ T0 := tb2 (List.mem_of_getElem? (i := 53) (by decide +kernel)) rfl
theorem kM_X10_71 : Cond.methodLink "KeyHouses" 71 yX0_init ∈ T0 := tb2 (List.mem_of_getElem? (i := 67) (by decide +kernel)) rfl
theorem kM_X10_78 : Cond.methodLink "KeyHouses" 78 yX6_init ∈ T0 := tb2 (List.mem_of_getElem? (i := 87) (by decide +kernel)) rfl
theorem kM_X10_91 : Cond.methodLink "KeyHouses" 91 yX10_refuse ∈ T0 := tb2 (List.mem_of_getElem? (i := 166) (by decide +kernel)) rfl
theorem kM_X10_105 : Cond.methodLink "KeyHouses" 105 yX0_clear ∈ T0 := tb2 (List.mem_of_getElem? (i := 170) (by decide +kernel)) rfl
theorem kM_X10_108 : Cond.methodLink "KeyHouses" 108 yX10_accept ∈ T0 := tb2 (List.mem_of_getElem? (i := 174) (by decide +kernel)) rfl
theorem kM_X10_111 : Cond.methodLink "KeyHouses" 111 yX7_hasHouse ∈ T0 := tb2 (List.mem_of_getElem? (i := 182) (by decide +kernel)) rfl
theorem kM_X10_115 : Cond.methodLink "KeyHouses" 115 yX7_keysOf ∈ T0 := tb2 (List.mem_of_getElem? (i := 186) (by decide +kernel)) rfl
theorem kM_X10_118 : Cond.methodLink "KeyHouses" 118 yX10_isKey ∈ T0 := tb2 (List.mem_of_getElem? (i := 194) (by decide +kernel)) rfl
theorem kM_X10_124 : Cond.methodLink "KeyHouses" 124 yX10_isBeat ∈ T0 := tb2 (List.mem_of_getElem? (i := 201) (by decide +kernel)) rfl
theorem kM_X10_130 : Cond.methodLink "KeyHouses" 130 yX2_ask ∈ T0 := tb2 (List.mem_of_getElem? (i := 208) (by decide +kernel)) rfl
theorem kM_X10_141 : Cond.methodLink "KeyHouses" 141 yX10_mostTerm ∈ T0 := tb3 (List.mem_of_getElem? (i := 6) (by decide +kernel)) rfl
theorem kM_X10_150 : Cond.methodLink "KeyHouses" 150 yX8_add ∈ T0 := tb3 (List.mem_of_getElem? (i := 13) (by decide +kernel)) rfl
theorem kM_X10_157 : Cond.methodLink "KeyHouses" 157 yX8_byteAt ∈ T0 := tb3 (List.mem_of_getElem? (i := 25) (by decide +kernel)) rfl
theorem kM_X10_163 : Cond.methodLink "KeyHouses" 163 yX4_read ∈ T0 := tb3 (List.mem_of_getElem? (i := 37) (by decide +kernel)) rfl
theorem kM_X10_175 : Cond.methodLink "KeyHouses" 175 yX9_copy ∈ T0 := tb3 (List.mem_of_getElem? (i := 204) (by decide +kernel)) rfl
theorem kM_X10_184 : Cond.methodLink "KeyHouses" 184 yX6_runAll ∈ T0 := tb3 (List.mem_of_getElem? (i := 217) (by decide +kernel)) rfl
theorem kM_X10_191 : Cond.methodLink "KeyHouses" 191 yX7_hasLaw ∈ T0 := tb4 (List.mem_of_getElem? (i := 102) (by decide +kernel)) rfl
theorem kM_X10_197 : Cond.methodLink "KeyHouses" 197 yX10_change ∈ T0 := tb4 (List.mem_of_getElem? (i := 107) (by decide +kernel)) rfl
theorem kM_X10_201 : Cond.methodLink "KeyHouses" 201 yX0_takeBack ∈ T0 := tb4 (List.mem_of_getElem? (i := 129) (by decide +kernel)) rfl
theorem kM_X10_205 : Cond.methodLink "KeyHouses" 205 yX3_firstLost ∈ T0 := tb4 (List.mem_of_getElem? (i := 134) (by decide +kernel)) rfl
theorem kM_X10_208 : Cond.methodLink "KeyHouses" 208 yX3_mindedInAll ∈ T0 := tb4 (List.mem_of_getElem? (i := 139) (by decide +kernel)) rfl
theorem kM_X10_211 : Cond.methodLink "KeyHouses" 211 yX3_mindedAt ∈ T0 := tb4 (List.mem_of_getElem? (i := 156) (by decide +kernel)) rfl
theorem kM_X10_215 : Cond.methodLink "KeyHouses" 215 yX3_lightestWay ∈ T0 := tb4 (List.mem_of_getElem? (i := 164) (by decide +kernel)) rfl
theorem kM_X10_221 : Cond.methodLink "KeyHouses" 221 yX3_player ∈ T0 := tb4 (List.mem_of_getElem? (i := 166) (by decide +kernel)) rfl
theorem kM_X10_224 : Cond.methodLink "KeyHouses" 224 yX3_howManyWays ∈ T0 := tb4 (List.mem_of_getElem? (i := 174) (by decide +kernel)) rfl
theorem kM_X10_227 : Cond.methodLink "KeyHouses" 227 yX3_whoCould ∈ T0 := tb4 (List.mem_of_getElem? (i := 183) (by decide +kernel)) rfl
theorem kM_X10_231 : Cond.methodLink "KeyHouses" 231 yX3_fewestHouses ∈ T0 := tb4 (List.mem_of_getElem? (i := 196) (by decide +kernel)) rfl
theorem kM_X10_234 : Cond.methodLink "KeyHouses" 234 yJ6_bitCount_0f7a4 ∈ T0 := tb4 (List.mem_of_getElem? (i := 200) (by decide +kernel)) rfl
theorem kM_X10_239 : Cond.methodLink "KeyHouses" 239 yX3_canHave ∈ T0 := tb4 (List.mem_of_getElem? (i := 205) (by decide +kernel)) rfl
theorem kM_X10_243 : Cond.methodLink "KeyHouses" 243 yX10_mindedIfShifted ∈ T0 := tb4 (List.mem_of_getElem? (i := 210) (by decide +kernel)) rfl
theorem kM_X10_252 : Cond.methodLink "KeyHouses" 252 yX7_motifHasKeys ∈ T0 := tb4 (List.mem_of_getElem? (i := 233) (by decide +kernel)) rfl
theorem kM_X10_256 : Cond.methodLink "KeyHouses" 256 yX7_motifStands ∈ T0 := tb4 (List.mem_of_getElem? (i := 237) (by decide +kernel)) rfl
theorem kM_X10_260 : Cond.methodLink "KeyHouses" 260 yX1_tally ∈ T0 := tb5 (List.mem_of_getElem? (i := 6) (by decide +kernel)) rfl
theorem kM_X10_267 : Cond.methodLink "KeyHouses" 267 yX1_payments ∈ T0 := tb5 (List.mem_of_getElem? (i := 19) (by decide +kernel)) rfl
theorem kM_X10_272 : Cond.methodLink "KeyHouses" 272 yJ7_fill_d0a16 ∈ T0 := tb5 (List.mem_of_getElem? (i := 33) (by decide +kernel)) rfl
theorem kM_X10_282 : Cond.methodLink "KeyHouses" 282 yX7_copyFrom ∈ T0 := tb4 (List.mem_of_getElem? (i := 215) (by decide +kernel)) rfl
theorem kM_X10_290 : Cond.methodLink "KeyHouses" 290 yX10_spendEvening ∈ T0 := tb5 (List.mem_of_getElem? (i := 45) (by decide +kernel)) rfl
theorem kM_X10_293 : Cond.methodLink "KeyHouses" 293 yX7_countNotes ∈ T0 := tb5 (List.mem_of_getElem? (i := 69) (by decide +kernel)) rfl
theorem kM_X10_303 : Cond.methodLink "KeyHouses" 303 yX0_make ∈ T0 := tb4 (List.mem_of_getElem? (i := 111) (by decide +kernel)) rfl
theorem kM_X10_307 : Cond.methodLink "KeyHouses" 307 yX0_keepLatest ∈ T0 := tb4 (List.mem_of_getElem? (i := 112) (by decide +kernel)) rfl
theorem kM_X10_310 : Cond.methodLink "KeyHouses" 310 yX7_canShift ∈ T0 := tb4 (List.mem_of_getElem? (i := 214) (by decide +kernel)) rfl
theorem kM_X10_313 : Cond.methodLink "KeyHouses" 313 yX7_shiftBy ∈ T0 := tb4 (List.mem_of_getElem? (i := 220) (by decide +kernel)) rfl
theorem kM_X10_316 : Cond.methodLink "KeyHouses" 316 yX10_stir ∈ T0 := tb5 (List.mem_of_getElem? (i := 49) (by decide +kernel)) rfl
theorem kM_X0_3 : Cond.methodLink "KeyHouses$Changes" 3 Lib.objectInit ∈ T0 := tb2 (List.mem_of_getElem? (i := 70) (by decide +kernel)) rfl
theorem kM_X0_25 : Cond.methodLink "KeyHouses$Changes" 25 yX0_changeNote ∈ T0 := tb4 (List.mem_of_getElem? (i := 41) (by decide +kernel)) rfl
theorem kM_X0_29 : Cond.methodLink "KeyHouses$Changes" 29 yX0_giveKey ∈ T0 := tb4 (List.mem_of_getElem? (i := 56) (by decide +kernel)) rfl
theorem kM_X0_32 : Cond.methodLink "KeyHouses$Changes" 32 yX0_shiftMusic ∈ T0 := tb4 (List.mem_of_getElem? (i := 61) (by decide +kernel)) rfl
theorem kM_X0_36 : Cond.methodLink "KeyHouses$Changes" 36 yX0_passDay ∈ T0 := tb4 (List.mem_of_getElem? (i := 77) (by decide +kernel)) rfl
theorem kM_X0_52 : Cond.methodLink "KeyHouses$Changes" 52 yX0_keep ∈ T0 := tb4 (List.mem_of_getElem? (i := 47) (by decide +kernel)) rfl
theorem kM_X0_56 : Cond.methodLink "KeyHouses$Changes" 56 yX7_hasHouse ∈ T0 := tb4 (List.mem_of_getElem? (i := 60) (by decide +kernel)) rfl
theorem kM_X0_62 : Cond.methodLink "KeyHouses$Changes" 62 yX7_canShift ∈ T0 := tb4 (List.mem_of_getElem? (i := 65) (by decide +kernel)) rfl
theorem kM_X0_65 : Cond.methodLink "KeyHouses$Changes" 65 yX7_shiftBy ∈ T0 := tb4 (List.mem_of_getElem? (i := 72) (by decide +kernel)) rfl
theorem kM_X0_69 : Cond.methodLink "KeyHouses$Changes" 69 yX7_countNotes ∈ T0 := tb4 (List.mem_of_getElem? (i := 76) (by decide +kernel)) rfl
theorem kM_X0_76 : Cond.methodLink "KeyHouses$Changes" 76 yX0_keepLatest ∈ T0 := tb4 (List.mem_of_getElem? (i := 51) (by decide +kernel)) rfl
theorem kM_X0_79 : Cond.methodLink "KeyHouses$Changes" 79 arraycopyName ∈ T0 := tb4 (List.mem_of_getElem? (i := 55) (by decide +kernel)) rfl
theorem kM_X1_3 : Cond.methodLink "KeyHouses$Debts" 3 Lib.objectInit ∈ T0 := tb2 (List.mem_of_getElem? (i := 56) (by decide +kernel)) rfl
theorem kM_X1_18 : Cond.methodLink "KeyHouses$Debts" 18 yJ7_fill_53178 ∈ T0 := tb5 (List.mem_of_getElem? (i := 10) (by decide +kernel)) rfl
theorem kM_X1_24 : Cond.methodLink "KeyHouses$Debts" 24 yX3_lightestWay ∈ T0 := tb5 (List.mem_of_getElem? (i := 11) (by decide +kernel)) rfl
theorem kM_X1_32 : Cond.methodLink "KeyHouses$Debts" 32 yX3_player ∈ T0 := tb5 (List.mem_of_getElem? (i := 13) (by decide +kernel)) rfl
theorem kM_X1_41 : Cond.methodLink "KeyHouses$Debts" 41 yX7_hasHouse ∈ T0 := tb5 (List.mem_of_getElem? (i := 14) (by decide +kernel)) rfl
theorem kM_X1_45 : Cond.methodLink "KeyHouses$Debts" 45 yJ9_max_7cf53 ∈ T0 := tb5 (List.mem_of_getElem? (i := 23) (by decide +kernel)) rfl
theorem kM_X1_51 : Cond.methodLink "KeyHouses$Debts" 51 yX1_balanceOf ∈ T0 := tb5 (List.mem_of_getElem? (i := 24) (by decide +kernel)) rfl
theorem kM_X2_3 : Cond.methodLink "KeyHouses$Judge" 3 Lib.objectInit ∈ T0 := tb1 (List.mem_of_getElem? (i := 225) (by decide +kernel)) rfl
theorem kM_X2_11 : Cond.methodLink "KeyHouses$Judge" 11 yX5_init ∈ T0 := tb1 (List.mem_of_getElem? (i := 228) (by decide +kernel)) rfl
theorem kM_X2_35 : Cond.methodLink "KeyHouses$Judge" 35 yX7_lawInForce ∈ T0 := tb2 (List.mem_of_getElem? (i := 212) (by decide +kernel)) rfl
theorem kM_X2_39 : Cond.methodLink "KeyHouses$Judge" 39 yX2_tellWords ∈ T0 := tb2 (List.mem_of_getElem? (i := 220) (by decide +kernel)) rfl
theorem kM_X2_57 : Cond.methodLink "KeyHouses$Judge" 57 yX5_reckon ∈ T0 := tb2 (List.mem_of_getElem? (i := 224) (by decide +kernel)) rfl
theorem kM_X2_68 : Cond.methodLink "KeyHouses$Judge" 68 yJ9_min_f86c9 ∈ T0 := tb2 (List.mem_of_getElem? (i := 236) (by decide +kernel)) rfl
theorem kM_X2_74 : Cond.methodLink "KeyHouses$Judge" 74 yJ9_max_f86c9 ∈ T0 := tb2 (List.mem_of_getElem? (i := 239) (by decide +kernel)) rfl
theorem kM_X3_3 : Cond.methodLink "KeyHouses$Players" 3 Lib.objectInit ∈ T0 := tb2 (List.mem_of_getElem? (i := 19) (by decide +kernel)) rfl
theorem kM_X3_45 : Cond.methodLink "KeyHouses$Players" 45 yX3_canHave ∈ T0 := tb3 (List.mem_of_getElem? (i := 239) (by decide +kernel)) rfl
theorem kM_X3_49 : Cond.methodLink "KeyHouses$Players" 49 yX3_lookAt ∈ T0 := tb4 (List.mem_of_getElem? (i := 3) (by decide +kernel)) rfl
theorem kM_X3_53 : Cond.methodLink "KeyHouses$Players" 53 yX3_coveredBy ∈ T0 := tb4 (List.mem_of_getElem? (i := 11) (by decide +kernel)) rfl
theorem kM_X3_57 : Cond.methodLink "KeyHouses$Players" 57 yX3_lightestWay ∈ T0 := tb4 (List.mem_of_getElem? (i := 143) (by decide +kernel)) rfl
theorem kM_X3_63 : Cond.methodLink "KeyHouses$Players" 63 yJ7_fill_d0a16 ∈ T0 := tb4 (List.mem_of_getElem? (i := 148) (by decide +kernel)) rfl
theorem kM_X3_73 : Cond.methodLink "KeyHouses$Players" 73 yX3_weighParts ∈ T0 := tb4 (List.mem_of_getElem? (i := 151) (by decide +kernel)) rfl
theorem kM_X3_80 : Cond.methodLink "KeyHouses$Players" 80 yJ9_min_f86c9 ∈ T0 := tb4 (List.mem_of_getElem? (i := 155) (by decide +kernel)) rfl
theorem kM_X3_86 : Cond.methodLink "KeyHouses$Players" 86 yX3_rowPlace ∈ T0 := tb4 (List.mem_of_getElem? (i := 8) (by decide +kernel)) rfl
theorem kM_X3_90 : Cond.methodLink "KeyHouses$Players" 90 yJ7_fill_53178 ∈ T0 := tb4 (List.mem_of_getElem? (i := 178) (by decide +kernel)) rfl
theorem kM_X3_93 : Cond.methodLink "KeyHouses$Players" 93 arraycopyName ∈ T0 := tb4 (List.mem_of_getElem? (i := 187) (by decide +kernel)) rfl
theorem kM_X3_99 : Cond.methodLink "KeyHouses$Players" 99 yX3_leaveKeyTo ∈ T0 := tb4 (List.mem_of_getElem? (i := 188) (by decide +kernel)) rfl
theorem kM_X3_103 : Cond.methodLink "KeyHouses$Players" 103 yJ6_bitCount_0f7a4 ∈ T0 := tb4 (List.mem_of_getElem? (i := 26) (by decide +kernel)) rfl
theorem kM_X3_111 : Cond.methodLink "KeyHouses$Players" 111 yX2_ask ∈ T0 := tb4 (List.mem_of_getElem? (i := 7) (by decide +kernel)) rfl
theorem kM_X3_123 : Cond.methodLink "KeyHouses$Players" 123 yX3_covered ∈ T0 := tb4 (List.mem_of_getElem? (i := 15) (by decide +kernel)) rfl
theorem kM_X3_127 : Cond.methodLink "KeyHouses$Players" 127 yX3_lowestKey ∈ T0 := tb4 (List.mem_of_getElem? (i := 19) (by decide +kernel)) rfl
theorem kM_X3_133 : Cond.methodLink "KeyHouses$Players" 133 yX3_coveredFrom ∈ T0 := tb4 (List.mem_of_getElem? (i := 22) (by decide +kernel)) rfl
theorem kM_X4_3 : Cond.methodLink "KeyHouses$Reader" 3 Lib.objectInit ∈ T0 := tb1 (List.mem_of_getElem? (i := 124) (by decide +kernel)) rfl
theorem kM_X4_11 : Cond.methodLink "KeyHouses$Reader" 11 yX9_init ∈ T0 := tb1 (List.mem_of_getElem? (i := 127) (by decide +kernel)) rfl
theorem kM_X4_38 : Cond.methodLink "KeyHouses$Reader" 38 yX4_splitTape ∈ T0 := tb3 (List.mem_of_getElem? (i := 41) (by decide +kernel)) rfl
theorem kM_X4_46 : Cond.methodLink "KeyHouses$Reader" 46 yX9_clear ∈ T0 := tb3 (List.mem_of_getElem? (i := 127) (by decide +kernel)) rfl
theorem kM_X4_65 : Cond.methodLink "KeyHouses$Reader" 65 yX4_readOrder ∈ T0 := tb3 (List.mem_of_getElem? (i := 131) (by decide +kernel)) rfl
theorem kM_X4_69 : Cond.methodLink "KeyHouses$Reader" 69 yX4_readRule ∈ T0 := tb3 (List.mem_of_getElem? (i := 200) (by decide +kernel)) rfl
theorem kM_X4_72 : Cond.methodLink "KeyHouses$Reader" 72 yX4_next ∈ T0 := tb3 (List.mem_of_getElem? (i := 139) (by decide +kernel)) rfl
theorem kM_X4_78 : Cond.methodLink "KeyHouses$Reader" 78 yX8_tokenEnd ∈ T0 := tb3 (List.mem_of_getElem? (i := 45) (by decide +kernel)) rfl
theorem kM_X4_82 : Cond.methodLink "KeyHouses$Reader" 82 yX8_byteAt ∈ T0 := tb3 (List.mem_of_getElem? (i := 56) (by decide +kernel)) rfl
theorem kM_X4_85 : Cond.methodLink "KeyHouses$Reader" 85 yX4_addToken ∈ T0 := tb3 (List.mem_of_getElem? (i := 57) (by decide +kernel)) rfl
theorem kM_X4_91 : Cond.methodLink "KeyHouses$Reader" 91 yX8_numberAt ∈ T0 := tb3 (List.mem_of_getElem? (i := 62) (by decide +kernel)) rfl
theorem kM_X4_98 : Cond.methodLink "KeyHouses$Reader" 98 yX8_wordAt ∈ T0 := tb3 (List.mem_of_getElem? (i := 70) (by decide +kernel)) rfl
theorem kM_X4_101 : Cond.methodLink "KeyHouses$Reader" 101 yX9_begin ∈ T0 := tb3 (List.mem_of_getElem? (i := 135) (by decide +kernel)) rfl
theorem kM_X4_108 : Cond.methodLink "KeyHouses$Reader" 108 yX4_sum ∈ T0 := tb3 (List.mem_of_getElem? (i := 143) (by decide +kernel)) rfl
theorem kM_X4_112 : Cond.methodLink "KeyHouses$Reader" 112 yX9_emit ∈ T0 := tb3 (List.mem_of_getElem? (i := 155) (by decide +kernel)) rfl
theorem kM_X4_115 : Cond.methodLink "KeyHouses$Reader" 115 yX4_readCondition ∈ T0 := tb3 (List.mem_of_getElem? (i := 177) (by decide +kernel)) rfl
theorem kM_X4_121 : Cond.methodLink "KeyHouses$Reader" 121 yX4_readTimes ∈ T0 := tb3 (List.mem_of_getElem? (i := 173) (by decide +kernel)) rfl
theorem kM_X4_130 : Cond.methodLink "KeyHouses$Reader" 130 yX4_test ∈ T0 := tb3 (List.mem_of_getElem? (i := 181) (by decide +kernel)) rfl
theorem kM_X4_132 : Cond.methodLink "KeyHouses$Reader" 132 yX4_both ∈ T0 := tb3 (List.mem_of_getElem? (i := 185) (by decide +kernel)) rfl
theorem kM_X4_135 : Cond.methodLink "KeyHouses$Reader" 135 yX9_landHere ∈ T0 := tb3 (List.mem_of_getElem? (i := 196) (by decide +kernel)) rfl
theorem kM_X4_139 : Cond.methodLink "KeyHouses$Reader" 139 yX4_plain ∈ T0 := tb3 (List.mem_of_getElem? (i := 189) (by decide +kernel)) rfl
theorem kM_X4_142 : Cond.methodLink "KeyHouses$Reader" 142 yX4_comparison ∈ T0 := tb3 (List.mem_of_getElem? (i := 193) (by decide +kernel)) rfl
theorem kM_X4_145 : Cond.methodLink "KeyHouses$Reader" 145 yX4_product ∈ T0 := tb3 (List.mem_of_getElem? (i := 147) (by decide +kernel)) rfl
theorem kM_X4_148 : Cond.methodLink "KeyHouses$Reader" 148 yX4_part ∈ T0 := tb3 (List.mem_of_getElem? (i := 151) (by decide +kernel)) rfl
theorem kM_X4_151 : Cond.methodLink "KeyHouses$Reader" 151 yX4_multiplication ∈ T0 := tb3 (List.mem_of_getElem? (i := 170) (by decide +kernel)) rfl
theorem kM_X4_154 : Cond.methodLink "KeyHouses$Reader" 154 yX4_readOrderWord ∈ T0 := tb3 (List.mem_of_getElem? (i := 159) (by decide +kernel)) rfl
theorem kM_X4_157 : Cond.methodLink "KeyHouses$Reader" 157 yX4_readRuleWord ∈ T0 := tb3 (List.mem_of_getElem? (i := 166) (by decide +kernel)) rfl
theorem kM_X4_160 : Cond.methodLink "KeyHouses$Reader" 160 yX4_orderWord ∈ T0 := tb3 (List.mem_of_getElem? (i := 163) (by decide +kernel)) rfl
theorem kM_X5_3 : Cond.methodLink "KeyHouses$Reckoner" 3 Lib.objectInit ∈ T0 := tb1 (List.mem_of_getElem? (i := 231) (by decide +kernel)) rfl
theorem kM_X5_17 : Cond.methodLink "KeyHouses$Reckoner" 17 yX5_join ∈ T0 := tb2 (List.mem_of_getElem? (i := 229) (by decide +kernel)) rfl
theorem kM_X6_3 : Cond.methodLink "KeyHouses$Runner" 3 Lib.objectInit ∈ T0 := tb2 (List.mem_of_getElem? (i := 90) (by decide +kernel)) rfl
theorem kM_X6_11 : Cond.methodLink "KeyHouses$Runner" 11 yX5_init ∈ T0 := tb2 (List.mem_of_getElem? (i := 92) (by decide +kernel)) rfl
theorem kM_X6_40 : Cond.methodLink "KeyHouses$Runner" 40 yX6_tellWords ∈ T0 := tb3 (List.mem_of_getElem? (i := 221) (by decide +kernel)) rfl
theorem kM_X6_48 : Cond.methodLink "KeyHouses$Runner" 48 yX3_firstLost ∈ T0 := tb3 (List.mem_of_getElem? (i := 235) (by decide +kernel)) rfl
theorem kM_X6_54 : Cond.methodLink "KeyHouses$Runner" 54 yX6_runOnce ∈ T0 := tb4 (List.mem_of_getElem? (i := 27) (by decide +kernel)) rfl
theorem kM_X6_58 : Cond.methodLink "KeyHouses$Runner" 58 yX6_takeAllBack ∈ T0 := tb4 (List.mem_of_getElem? (i := 81) (by decide +kernel)) rfl
theorem kM_X6_62 : Cond.methodLink "KeyHouses$Runner" 62 yX0_keepLatest ∈ T0 := tb4 (List.mem_of_getElem? (i := 89) (by decide +kernel)) rfl
theorem kM_X6_73 : Cond.methodLink "KeyHouses$Runner" 73 yX5_reckon ∈ T0 := tb4 (List.mem_of_getElem? (i := 31) (by decide +kernel)) rfl
theorem kM_X6_82 : Cond.methodLink "KeyHouses$Runner" 82 yX6_sumOf ∈ T0 := tb4 (List.mem_of_getElem? (i := 33) (by decide +kernel)) rfl
theorem kM_X6_92 : Cond.methodLink "KeyHouses$Runner" 92 yX0_make ∈ T0 := tb4 (List.mem_of_getElem? (i := 37) (by decide +kernel)) rfl
theorem kM_X6_101 : Cond.methodLink "KeyHouses$Runner" 101 yX7_countNotes ∈ T0 := tb3 (List.mem_of_getElem? (i := 225) (by decide +kernel)) rfl
theorem kM_X6_111 : Cond.methodLink "KeyHouses$Runner" 111 yX0_takeBack ∈ T0 := tb4 (List.mem_of_getElem? (i := 85) (by decide +kernel)) rfl
theorem kM_X7_3 : Cond.methodLink "KeyHouses$Street" 3 Lib.objectInit ∈ T0 := tb1 (List.mem_of_getElem? (i := 34) (by decide +kernel)) rfl
theorem kM_X7_40 : Cond.methodLink "KeyHouses$Street" 40 yJ7_fill_53178 ∈ T0 := tb1 (List.mem_of_getElem? (i := 37) (by decide +kernel)) rfl
theorem kM_X7_49 : Cond.methodLink "KeyHouses$Street" 49 arraycopyName ∈ T0 := tb4 (List.mem_of_getElem? (i := 219) (by decide +kernel)) rfl
theorem kM_X7_61 : Cond.methodLink "KeyHouses$Street" 61 yX7_hasLaw ∈ T0 := tb2 (List.mem_of_getElem? (i := 216) (by decide +kernel)) rfl
theorem kM_X7_65 : Cond.methodLink "KeyHouses$Street" 65 yJ6_bitCount_0f7a4 ∈ T0 := tb3 (List.mem_of_getElem? (i := 229) (by decide +kernel)) rfl
theorem kM_X7_71 : Cond.methodLink "KeyHouses$Street" 71 yX7_shifted ∈ T0 := tb4 (List.mem_of_getElem? (i := 69) (by decide +kernel)) rfl
theorem kM_X8_3 : Cond.methodLink "KeyHouses$Tape" 3 Lib.objectInit ∈ T0 := tb1 (List.mem_of_getElem? (i := 107) (by decide +kernel)) rfl
theorem kM_X8_19 : Cond.methodLink "KeyHouses$Tape" 19 yX8_byteAt ∈ T0 := tb3 (List.mem_of_getElem? (i := 49) (by decide +kernel)) rfl
theorem kM_X8_30 : Cond.methodLink "KeyHouses$Tape" 30 yJ9_min_7cf53 ∈ T0 := tb3 (List.mem_of_getElem? (i := 66) (by decide +kernel)) rfl
theorem kM_X8_38 : Cond.methodLink "KeyHouses$Tape" 38 yJ0_length_8abf5 ∈ T0 := tb3 (List.mem_of_getElem? (i := 75) (by decide +kernel)) rfl
theorem kM_X8_43 : Cond.methodLink "KeyHouses$Tape" 43 yJ0_charAt_5068e ∈ T0 := tb3 (List.mem_of_getElem? (i := 85) (by decide +kernel)) rfl
theorem kM_X8_47 : Cond.methodLink "KeyHouses$Tape" 47 yX8_sameSigns ∈ T0 := tb3 (List.mem_of_getElem? (i := 123) (by decide +kernel)) rfl
theorem kM_X9_3 : Cond.methodLink "KeyHouses$Text" 3 Lib.objectInit ∈ T0 := tb1 (List.mem_of_getElem? (i := 130) (by decide +kernel)) rfl
theorem kM_X9_9 : Cond.methodLink "KeyHouses$Text" 9 yJ9_max_7cf53 ∈ T0 := tb1 (List.mem_of_getElem? (i := 131) (by decide +kernel)) rfl
theorem kM_X9_43 : Cond.methodLink "KeyHouses$Text" 43 yX9_init ∈ T0 := tb3 (List.mem_of_getElem? (i := 209) (by decide +kernel)) rfl
theorem kM_X9_50 : Cond.methodLink "KeyHouses$Text" 50 arraycopyName ∈ T0 := tb3 (List.mem_of_getElem? (i := 210) (by decide +kernel)) rfl
theorem kM_L_9 : Cond.methodLink "KeyHousesLaw" 9 yX10_init ∈ T0 := tb1 (List.mem_of_getElem? (i := 23) (by decide +kernel)) rfl
theorem kM_L_12 : Cond.methodLink "KeyHousesLaw" 12 yX11_init ∈ T0 := tb5 (List.mem_of_getElem? (i := 76) (by decide +kernel)) rfl
theorem kM_L_13 : Cond.methodLink "KeyHousesLaw" 13 yX10_house ∈ T0 := tb2 (List.mem_of_getElem? (i := 162) (by decide +kernel)) rfl
theorem kM_L_17 : Cond.methodLink "KeyHousesLaw" 17 yX11_house ∈ T0 := tb6 (List.mem_of_getElem? (i := 23) (by decide +kernel)) rfl
theorem kM_L_18 : Cond.methodLink "KeyHousesLaw" 18 yX10_of ∈ T0 := tb2 (List.mem_of_getElem? (i := 178) (by decide +kernel)) rfl
theorem kM_L_21 : Cond.methodLink "KeyHousesLaw" 21 yX11_of ∈ T0 := tb6 (List.mem_of_getElem? (i := 31) (by decide +kernel)) rfl
theorem kM_L_22 : Cond.methodLink "KeyHousesLaw" 22 yX10_owner ∈ T0 := tb2 (List.mem_of_getElem? (i := 190) (by decide +kernel)) rfl
theorem kM_L_26 : Cond.methodLink "KeyHousesLaw" 26 yX11_owner ∈ T0 := tb6 (List.mem_of_getElem? (i := 43) (by decide +kernel)) rfl
theorem kM_L_27 : Cond.methodLink "KeyHousesLaw" 27 yX10_music ∈ T0 := tb2 (List.mem_of_getElem? (i := 197) (by decide +kernel)) rfl
theorem kM_L_30 : Cond.methodLink "KeyHousesLaw" 30 yX11_music ∈ T0 := tb6 (List.mem_of_getElem? (i := 50) (by decide +kernel)) rfl
theorem kM_L_31 : Cond.methodLink "KeyHousesLaw" 31 yX10_asks ∈ T0 := tb2 (List.mem_of_getElem? (i := 204) (by decide +kernel)) rfl
theorem kM_L_35 : Cond.methodLink "KeyHousesLaw" 35 yX11_asks ∈ T0 := tb6 (List.mem_of_getElem? (i := 61) (by decide +kernel)) rfl
theorem kM_L_36 : Cond.methodLink "KeyHousesLaw" 36 yX10_terms ∈ T0 := tb3 (List.mem_of_getElem? (i := 2) (by decide +kernel)) rfl
theorem kM_L_39 : Cond.methodLink "KeyHousesLaw" 39 yX11_terms ∈ T0 := tb6 (List.mem_of_getElem? (i := 138) (by decide +kernel)) rfl
theorem kM_L_40 : Cond.methodLink "KeyHousesLaw" 40 yX10_feed ∈ T0 := tb3 (List.mem_of_getElem? (i := 9) (by decide +kernel)) rfl
theorem kM_L_44 : Cond.methodLink "KeyHousesLaw" 44 yX11_feed ∈ T0 := tb6 (List.mem_of_getElem? (i := 156) (by decide +kernel)) rfl
theorem kM_L_45 : Cond.methodLink "KeyHousesLaw" 45 yX10_end ∈ T0 := tb3 (List.mem_of_getElem? (i := 17) (by decide +kernel)) rfl
theorem kM_L_48 : Cond.methodLink "KeyHousesLaw" 48 yX11_end ∈ T0 := tb6 (List.mem_of_getElem? (i := 160) (by decide +kernel)) rfl
theorem kM_L_49 : Cond.methodLink "KeyHousesLaw" 49 yX10_row ∈ T0 := tb3 (List.mem_of_getElem? (i := 21) (by decide +kernel)) rfl
theorem kM_L_53 : Cond.methodLink "KeyHousesLaw" 53 yX11_row ∈ T0 := tb6 (List.mem_of_getElem? (i := 148) (by decide +kernel)) rfl
theorem kM_L_54 : Cond.methodLink "KeyHousesLaw" 54 yX10_creaks ∈ T0 := tb3 (List.mem_of_getElem? (i := 29) (by decide +kernel)) rfl
theorem kM_L_57 : Cond.methodLink "KeyHousesLaw" 57 yX11_creaks ∈ T0 := tb6 (List.mem_of_getElem? (i := 152) (by decide +kernel)) rfl
theorem kM_L_58 : Cond.methodLink "KeyHousesLaw" 58 yX10_law ∈ T0 := tb3 (List.mem_of_getElem? (i := 33) (by decide +kernel)) rfl
theorem kM_L_61 : Cond.methodLink "KeyHousesLaw" 61 yX11_law ∈ T0 := tb6 (List.mem_of_getElem? (i := 164) (by decide +kernel)) rfl
theorem kM_L_62 : Cond.methodLink "KeyHousesLaw" 62 yX10_orders ∈ T0 := tb3 (List.mem_of_getElem? (i := 213) (by decide +kernel)) rfl
theorem kM_L_65 : Cond.methodLink "KeyHousesLaw" 65 yX11_orders ∈ T0 := tb7 (List.mem_of_getElem? (i := 208) (by decide +kernel)) rfl
theorem kM_L_66 : Cond.methodLink "KeyHousesLaw" 66 yX10_fault ∈ T0 := tb4 (List.mem_of_getElem? (i := 90) (by decide +kernel)) rfl
theorem kM_L_69 : Cond.methodLink "KeyHousesLaw" 69 yX11_fault ∈ T0 := tb7 (List.mem_of_getElem? (i := 15) (by decide +kernel)) rfl
theorem kM_L_70 : Cond.methodLink "KeyHousesLaw" 70 yX10_stopped ∈ T0 := tb4 (List.mem_of_getElem? (i := 94) (by decide +kernel)) rfl
theorem kM_L_73 : Cond.methodLink "KeyHousesLaw" 73 yX11_stopped ∈ T0 := tb7 (List.mem_of_getElem? (i := 204) (by decide +kernel)) rfl
theorem kM_L_74 : Cond.methodLink "KeyHousesLaw" 74 yX10_force ∈ T0 := tb4 (List.mem_of_getElem? (i := 98) (by decide +kernel)) rfl
theorem kM_L_77 : Cond.methodLink "KeyHousesLaw" 77 yX11_force ∈ T0 := tb7 (List.mem_of_getElem? (i := 19) (by decide +kernel)) rfl
theorem kM_L_78 : Cond.methodLink "KeyHousesLaw" 78 yX10_note ∈ T0 := tb4 (List.mem_of_getElem? (i := 103) (by decide +kernel)) rfl
theorem kM_L_81 : Cond.methodLink "KeyHousesLaw" 81 yX11_note ∈ T0 := tb7 (List.mem_of_getElem? (i := 164) (by decide +kernel)) rfl
theorem kM_L_82 : Cond.methodLink "KeyHousesLaw" 82 yX10_give ∈ T0 := tb4 (List.mem_of_getElem? (i := 113) (by decide +kernel)) rfl
theorem kM_L_85 : Cond.methodLink "KeyHousesLaw" 85 yX11_give ∈ T0 := tb7 (List.mem_of_getElem? (i := 180) (by decide +kernel)) rfl
theorem kM_L_86 : Cond.methodLink "KeyHousesLaw" 86 yX10_shift ∈ T0 := tb4 (List.mem_of_getElem? (i := 117) (by decide +kernel)) rfl
theorem kM_L_89 : Cond.methodLink "KeyHousesLaw" 89 yX11_shift ∈ T0 := tb7 (List.mem_of_getElem? (i := 188) (by decide +kernel)) rfl
theorem kM_L_90 : Cond.methodLink "KeyHousesLaw" 90 yX10_pass ∈ T0 := tb4 (List.mem_of_getElem? (i := 121) (by decide +kernel)) rfl
theorem kM_L_93 : Cond.methodLink "KeyHousesLaw" 93 yX11_pass ∈ T0 := tb7 (List.mem_of_getElem? (i := 196) (by decide +kernel)) rfl
theorem kM_L_94 : Cond.methodLink "KeyHousesLaw" 94 yX10_undo ∈ T0 := tb4 (List.mem_of_getElem? (i := 125) (by decide +kernel)) rfl
theorem kM_L_97 : Cond.methodLink "KeyHousesLaw" 97 yX11_undo ∈ T0 := tb7 (List.mem_of_getElem? (i := 160) (by decide +kernel)) rfl
theorem kM_L_98 : Cond.methodLink "KeyHousesLaw" 98 yX10_drill ∈ T0 := tb4 (List.mem_of_getElem? (i := 130) (by decide +kernel)) rfl
theorem kM_L_101 : Cond.methodLink "KeyHousesLaw" 101 yX11_drill ∈ T0 := tb7 (List.mem_of_getElem? (i := 27) (by decide +kernel)) rfl
theorem kM_L_102 : Cond.methodLink "KeyHousesLaw" 102 yX10_least ∈ T0 := tb4 (List.mem_of_getElem? (i := 135) (by decide +kernel)) rfl
theorem kM_L_105 : Cond.methodLink "KeyHousesLaw" 105 yX11_least ∈ T0 := tb7 (List.mem_of_getElem? (i := 62) (by decide +kernel)) rfl
theorem kM_L_106 : Cond.methodLink "KeyHousesLaw" 106 yX10_who ∈ T0 := tb4 (List.mem_of_getElem? (i := 160) (by decide +kernel)) rfl
theorem kM_L_109 : Cond.methodLink "KeyHousesLaw" 109 yX11_who ∈ T0 := tb7 (List.mem_of_getElem? (i := 78) (by decide +kernel)) rfl
theorem kM_L_110 : Cond.methodLink "KeyHousesLaw" 110 yX10_ways ∈ T0 := tb4 (List.mem_of_getElem? (i := 170) (by decide +kernel)) rfl
theorem kM_L_113 : Cond.methodLink "KeyHousesLaw" 113 yX11_ways ∈ T0 := tb7 (List.mem_of_getElem? (i := 86) (by decide +kernel)) rfl
theorem kM_L_114 : Cond.methodLink "KeyHousesLaw" 114 yX10_might ∈ T0 := tb4 (List.mem_of_getElem? (i := 179) (by decide +kernel)) rfl
theorem kM_L_117 : Cond.methodLink "KeyHousesLaw" 117 yX11_might ∈ T0 := tb7 (List.mem_of_getElem? (i := 90) (by decide +kernel)) rfl
theorem kM_L_118 : Cond.methodLink "KeyHousesLaw" 118 yX10_cover ∈ T0 := tb4 (List.mem_of_getElem? (i := 192) (by decide +kernel)) rfl
theorem kM_L_121 : Cond.methodLink "KeyHousesLaw" 121 yX11_cover ∈ T0 := tb7 (List.mem_of_getElem? (i := 94) (by decide +kernel)) rfl
theorem kM_L_122 : Cond.methodLink "KeyHousesLaw" 122 yX10_run ∈ T0 := tb4 (List.mem_of_getElem? (i := 201) (by decide +kernel)) rfl
theorem kM_L_125 : Cond.methodLink "KeyHousesLaw" 125 yX11_run ∈ T0 := tb7 (List.mem_of_getElem? (i := 106) (by decide +kernel)) rfl
theorem kM_L_126 : Cond.methodLink "KeyHousesLaw" 126 yX10_best ∈ T0 := tb4 (List.mem_of_getElem? (i := 206) (by decide +kernel)) rfl
theorem kM_L_129 : Cond.methodLink "KeyHousesLaw" 129 yX11_best ∈ T0 := tb7 (List.mem_of_getElem? (i := 110) (by decide +kernel)) rfl
theorem kM_L_130 : Cond.methodLink "KeyHousesLaw" 130 yX10_motif ∈ T0 := tb4 (List.mem_of_getElem? (i := 221) (by decide +kernel)) rfl
theorem kM_L_133 : Cond.methodLink "KeyHousesLaw" 133 yX11_motif ∈ T0 := tb7 (List.mem_of_getElem? (i := 114) (by decide +kernel)) rfl
theorem kM_L_134 : Cond.methodLink "KeyHousesLaw" 134 yX10_forget ∈ T0 := tb4 (List.mem_of_getElem? (i := 225) (by decide +kernel)) rfl
theorem kM_L_137 : Cond.methodLink "KeyHousesLaw" 137 yX11_forget ∈ T0 := tb7 (List.mem_of_getElem? (i := 118) (by decide +kernel)) rfl
theorem kM_L_138 : Cond.methodLink "KeyHousesLaw" 138 yX10_find ∈ T0 := tb4 (List.mem_of_getElem? (i := 229) (by decide +kernel)) rfl
theorem kM_L_141 : Cond.methodLink "KeyHousesLaw" 141 yX11_find ∈ T0 := tb7 (List.mem_of_getElem? (i := 122) (by decide +kernel)) rfl
theorem kM_L_142 : Cond.methodLink "KeyHousesLaw" 142 yX10_owes ∈ T0 := tb5 (List.mem_of_getElem? (i := 2) (by decide +kernel)) rfl
theorem kM_L_145 : Cond.methodLink "KeyHousesLaw" 145 yX11_owes ∈ T0 := tb7 (List.mem_of_getElem? (i := 134) (by decide +kernel)) rfl
theorem kM_L_146 : Cond.methodLink "KeyHousesLaw" 146 yX10_settled ∈ T0 := tb5 (List.mem_of_getElem? (i := 15) (by decide +kernel)) rfl
theorem kM_L_149 : Cond.methodLink "KeyHousesLaw" 149 yX11_settled ∈ T0 := tb7 (List.mem_of_getElem? (i := 142) (by decide +kernel)) rfl
theorem kM_L_150 : Cond.methodLink "KeyHousesLaw" 150 yX10_few ∈ T0 := tb5 (List.mem_of_getElem? (i := 28) (by decide +kernel)) rfl
theorem kM_L_154 : Cond.methodLink "KeyHousesLaw" 154 yX11_few ∈ T0 := tb7 (List.mem_of_getElem? (i := 153) (by decide +kernel)) rfl
theorem kM_L_155 : Cond.methodLink "KeyHousesLaw" 155 yX10_compare ∈ T0 := tb5 (List.mem_of_getElem? (i := 36) (by decide +kernel)) rfl
theorem kM_L_158 : Cond.methodLink "KeyHousesLaw" 158 yX11_compare ∈ T0 := tb7 (List.mem_of_getElem? (i := 73) (by decide +kernel)) rfl
theorem kM_L_159 : Cond.methodLink "KeyHousesLaw" 159 yX10_evenings ∈ T0 := tb5 (List.mem_of_getElem? (i := 40) (by decide +kernel)) rfl
theorem kM_L_162 : Cond.methodLink "KeyHousesLaw" 162 yX11_evenings ∈ T0 := tb8 (List.mem_of_getElem? (i := 2) (by decide +kernel)) rfl
theorem kM_L_163 : Cond.methodLink "KeyHousesLaw" 163 yX10_drawn ∈ T0 := tb5 (List.mem_of_getElem? (i := 53) (by decide +kernel)) rfl
theorem kM_L_166 : Cond.methodLink "KeyHousesLaw" 166 yX11_drawn ∈ T0 := tb8 (List.mem_of_getElem? (i := 17) (by decide +kernel)) rfl
theorem kM_L_167 : Cond.methodLink "KeyHousesLaw" 167 yX10_image ∈ T0 := tb5 (List.mem_of_getElem? (i := 57) (by decide +kernel)) rfl
theorem kM_L_170 : Cond.methodLink "KeyHousesLaw" 170 yX11_image ∈ T0 := tb6 (List.mem_of_getElem? (i := 0) (by decide +kernel)) rfl
theorem kM_L_171 : Cond.methodLink "KeyHousesLaw" 171 yX10_back ∈ T0 := tb5 (List.mem_of_getElem? (i := 61) (by decide +kernel)) rfl
theorem kM_L_174 : Cond.methodLink "KeyHousesLaw" 174 yX11_back ∈ T0 := tb6 (List.mem_of_getElem? (i := 15) (by decide +kernel)) rfl
theorem kM_L_175 : Cond.methodLink "KeyHousesLaw" 175 yX10_count ∈ T0 := tb5 (List.mem_of_getElem? (i := 65) (by decide +kernel)) rfl
theorem kM_L_178 : Cond.methodLink "KeyHousesLaw" 178 yX11_count ∈ T0 := tb8 (List.mem_of_getElem? (i := 21) (by decide +kernel)) rfl
theorem kM_L_179 : Cond.methodLink "KeyHousesLaw" 179 yX10_status ∈ T0 := tb5 (List.mem_of_getElem? (i := 70) (by decide +kernel)) rfl
theorem kM_L_182 : Cond.methodLink "KeyHousesLaw" 182 yX11_status ∈ T0 := tb8 (List.mem_of_getElem? (i := 25) (by decide +kernel)) rfl
theorem kM_X11_14 : Cond.methodLink "KeyHousesModel" 14 yX11_good ∈ T0 := tb6 (List.mem_of_getElem? (i := 11) (by decide +kernel)) rfl
theorem kM_X11_18 : Cond.methodLink "KeyHousesModel" 18 yX11_lies ∈ T0 := tb6 (List.mem_of_getElem? (i := 4) (by decide +kernel)) rfl
theorem kM_X11_22 : Cond.methodLink "KeyHousesModel" 22 Lib.objectInit ∈ T0 := tb5 (List.mem_of_getElem? (i := 79) (by decide +kernel)) rfl
theorem kM_X11_112 : Cond.methodLink "KeyHousesModel" 112 yX11_refuses ∈ T0 := tb6 (List.mem_of_getElem? (i := 7) (by decide +kernel)) rfl
theorem kM_X11_115 : Cond.methodLink "KeyHousesModel" 115 yX11_goodAnew ∈ T0 := tb6 (List.mem_of_getElem? (i := 19) (by decide +kernel)) rfl
theorem kM_X11_118 : Cond.methodLink "KeyHousesModel" 118 yX11_many ∈ T0 := tb6 (List.mem_of_getElem? (i := 27) (by decide +kernel)) rfl
theorem kM_X11_122 : Cond.methodLink "KeyHousesModel" 122 yX11_musicAt ∈ T0 := tb6 (List.mem_of_getElem? (i := 57) (by decide +kernel)) rfl
theorem kM_X11_125 : Cond.methodLink "KeyHousesModel" 125 yX11_ones ∈ T0 := tb6 (List.mem_of_getElem? (i := 108) (by decide +kernel)) rfl
theorem kM_X11_128 : Cond.methodLink "KeyHousesModel" 128 yX11_isHouse ∈ T0 := tb6 (List.mem_of_getElem? (i := 35) (by decide +kernel)) rfl
theorem kM_X11_132 : Cond.methodLink "KeyHousesModel" 132 yX11_ownedBy ∈ T0 := tb6 (List.mem_of_getElem? (i := 39) (by decide +kernel)) rfl
theorem kM_X11_135 : Cond.methodLink "KeyHousesModel" 135 yX11_isKey ∈ T0 := tb6 (List.mem_of_getElem? (i := 47) (by decide +kernel)) rfl
theorem kM_X11_138 : Cond.methodLink "KeyHousesModel" 138 yX11_isBeat ∈ T0 := tb6 (List.mem_of_getElem? (i := 54) (by decide +kernel)) rfl
theorem kM_X11_141 : Cond.methodLink "KeyHousesModel" 141 yX11_mindedAt ∈ T0 := tb6 (List.mem_of_getElem? (i := 65) (by decide +kernel)) rfl
theorem kM_X11_145 : Cond.methodLink "KeyHousesModel" 145 yX11_canPlay ∈ T0 := tb6 (List.mem_of_getElem? (i := 134) (by decide +kernel)) rfl
theorem kM_X11_148 : Cond.methodLink "KeyHousesModel" 148 yX11_isTerm ∈ T0 := tb6 (List.mem_of_getElem? (i := 142) (by decide +kernel)) rfl
theorem kM_X11_152 : Cond.methodLink "KeyHousesModel" 152 yX11_termAt ∈ T0 := tb6 (List.mem_of_getElem? (i := 145) (by decide +kernel)) rfl
theorem kM_X11_164 : Cond.methodLink "KeyHousesModel" 164 yX11_isSmall ∈ T0 := tb6 (List.mem_of_getElem? (i := 180) (by decide +kernel)) rfl
theorem kM_X11_167 : Cond.methodLink "KeyHousesModel" 167 yX11_isDigit ∈ T0 := tb6 (List.mem_of_getElem? (i := 183) (by decide +kernel)) rfl
theorem kM_X11_170 : Cond.methodLink "KeyHousesModel" 170 yX11_wordOf ∈ T0 := tb6 (List.mem_of_getElem? (i := 186) (by decide +kernel)) rfl
theorem kM_X11_178 : Cond.methodLink "KeyHousesModel" 178 yX11_fine ∈ T0 := tb6 (List.mem_of_getElem? (i := 203) (by decide +kernel)) rfl
theorem kM_X11_185 : Cond.methodLink "KeyHousesModel" 185 yX11_takes0 ∈ T0 := tb6 (List.mem_of_getElem? (i := 199) (by decide +kernel)) rfl
theorem kM_X11_188 : Cond.methodLink "KeyHousesModel" 188 yX11_faults ∈ T0 := tb6 (List.mem_of_getElem? (i := 219) (by decide +kernel)) rfl
theorem kM_X11_194 : Cond.methodLink "KeyHousesModel" 194 yX11_readSum ∈ T0 := tb6 (List.mem_of_getElem? (i := 207) (by decide +kernel)) rfl
theorem kM_X11_198 : Cond.methodLink "KeyHousesModel" 198 yX11_must ∈ T0 := tb6 (List.mem_of_getElem? (i := 223) (by decide +kernel)) rfl
theorem kM_X11_201 : Cond.methodLink "KeyHousesModel" 201 yX11_readTest ∈ T0 := tb6 (List.mem_of_getElem? (i := 235) (by decide +kernel)) rfl
theorem kM_X11_204 : Cond.methodLink "KeyHousesModel" 204 yX11_mustNumber ∈ T0 := tb6 (List.mem_of_getElem? (i := 231) (by decide +kernel)) rfl
theorem kM_X11_212 : Cond.methodLink "KeyHousesModel" 212 yX11_readOrder ∈ T0 := tb6 (List.mem_of_getElem? (i := 195) (by decide +kernel)) rfl
theorem kM_X11_215 : Cond.methodLink "KeyHousesModel" 215 yX11_readClause ∈ T0 := tb7 (List.mem_of_getElem? (i := 7) (by decide +kernel)) rfl
theorem kM_X11_218 : Cond.methodLink "KeyHousesModel" 218 yX11_readBoth ∈ T0 := tb6 (List.mem_of_getElem? (i := 239) (by decide +kernel)) rfl
theorem kM_X11_221 : Cond.methodLink "KeyHousesModel" 221 yX11_readPlain ∈ T0 := tb7 (List.mem_of_getElem? (i := 3) (by decide +kernel)) rfl
theorem kM_X11_224 : Cond.methodLink "KeyHousesModel" 224 yX11_sign ∈ T0 := tb6 (List.mem_of_getElem? (i := 93) (by decide +kernel)) rfl
theorem kM_X11_228 : Cond.methodLink "KeyHousesModel" 228 yX11_readTerm ∈ T0 := tb6 (List.mem_of_getElem? (i := 211) (by decide +kernel)) rfl
theorem kM_X11_231 : Cond.methodLink "KeyHousesModel" 231 yX11_readPart ∈ T0 := tb6 (List.mem_of_getElem? (i := 215) (by decide +kernel)) rfl
theorem kM_X11_240 : Cond.methodLink "KeyHousesModel" 240 yX11_leaf ∈ T0 := tb6 (List.mem_of_getElem? (i := 227) (by decide +kernel)) rfl
theorem kM_X11_243 : Cond.methodLink "KeyHousesModel" 243 yX11_splits ∈ T0 := tb6 (List.mem_of_getElem? (i := 176) (by decide +kernel)) rfl
theorem kM_X11_246 : Cond.methodLink "KeyHousesModel" 246 yX11_readOne ∈ T0 := tb6 (List.mem_of_getElem? (i := 191) (by decide +kernel)) rfl
theorem kM_X11_249 : Cond.methodLink "KeyHousesModel" 249 yX11_reads ∈ T0 := tb6 (List.mem_of_getElem? (i := 172) (by decide +kernel)) rfl
theorem kM_X11_252 : Cond.methodLink "KeyHousesModel" 252 yX11_readsAs ∈ T0 := tb6 (List.mem_of_getElem? (i := 168) (by decide +kernel)) rfl
theorem kM_X11_256 : Cond.methodLink "KeyHousesModel" 256 yX11_lays ∈ T0 := tb7 (List.mem_of_getElem? (i := 11) (by decide +kernel)) rfl
theorem kM_X11_259 : Cond.methodLink "KeyHousesModel" 259 yX11_isLaw ∈ T0 := tb7 (List.mem_of_getElem? (i := 23) (by decide +kernel)) rfl
theorem kM_X11_268 : Cond.methodLink "KeyHousesModel" 268 yX11_codeAt ∈ T0 := tb6 (List.mem_of_getElem? (i := 77) (by decide +kernel)) rfl
theorem kM_X11_278 : Cond.methodLink "KeyHousesModel" 278 yX11_termOf ∈ T0 := tb6 (List.mem_of_getElem? (i := 85) (by decide +kernel)) rfl
theorem kM_X11_282 : Cond.methodLink "KeyHousesModel" 282 yX11_bounded ∈ T0 := tb6 (List.mem_of_getElem? (i := 111) (by decide +kernel)) rfl
theorem kM_X11_286 : Cond.methodLink "KeyHousesModel" 286 yX11_partOf ∈ T0 := tb6 (List.mem_of_getElem? (i := 89) (by decide +kernel)) rfl
theorem kM_X11_289 : Cond.methodLink "KeyHousesModel" 289 yX11_passes0 ∈ T0 := tb6 (List.mem_of_getElem? (i := 96) (by decide +kernel)) rfl
theorem kM_X11_292 : Cond.methodLink "KeyHousesModel" 292 yX11_sumOf ∈ T0 := tb6 (List.mem_of_getElem? (i := 81) (by decide +kernel)) rfl
theorem kM_X11_298 : Cond.methodLink "KeyHousesModel" 298 yX11_orderValue ∈ T0 := tb6 (List.mem_of_getElem? (i := 100) (by decide +kernel)) rfl
theorem kM_X11_310 : Cond.methodLink "KeyHousesModel" 310 yX11_notes0 ∈ T0 := tb6 (List.mem_of_getElem? (i := 104) (by decide +kernel)) rfl
theorem kM_X11_313 : Cond.methodLink "KeyHousesModel" 313 yX11_bothOf ∈ T0 := tb6 (List.mem_of_getElem? (i := 121) (by decide +kernel)) rfl
theorem kM_X11_316 : Cond.methodLink "KeyHousesModel" 316 yX11_plainOf ∈ T0 := tb6 (List.mem_of_getElem? (i := 125) (by decide +kernel)) rfl
theorem kM_X11_319 : Cond.methodLink "KeyHousesModel" 319 yX11_positiveOf ∈ T0 := tb6 (List.mem_of_getElem? (i := 129) (by decide +kernel)) rfl
theorem kM_X11_322 : Cond.methodLink "KeyHousesModel" 322 yX11_testOf ∈ T0 := tb6 (List.mem_of_getElem? (i := 117) (by decide +kernel)) rfl
theorem kM_X11_325 : Cond.methodLink "KeyHousesModel" 325 yX11_setsAsked ∈ T0 := tb6 (List.mem_of_getElem? (i := 73) (by decide +kernel)) rfl
theorem kM_X11_331 : Cond.methodLink "KeyHousesModel" 331 yX11_tells ∈ T0 := tb6 (List.mem_of_getElem? (i := 69) (by decide +kernel)) rfl
theorem kM_X11_335 : Cond.methodLink "KeyHousesModel" 335 yX11_isIn ∈ T0 := tb7 (List.mem_of_getElem? (i := 43) (by decide +kernel)) rfl
theorem kM_X11_339 : Cond.methodLink "KeyHousesModel" 339 yX11_canHold ∈ T0 := tb7 (List.mem_of_getElem? (i := 47) (by decide +kernel)) rfl
theorem kM_X11_342 : Cond.methodLink "KeyHousesModel" 342 yX11_lesser ∈ T0 := tb7 (List.mem_of_getElem? (i := 51) (by decide +kernel)) rfl
theorem kM_X11_345 : Cond.methodLink "KeyHousesModel" 345 yX11_laysParts ∈ T0 := tb7 (List.mem_of_getElem? (i := 39) (by decide +kernel)) rfl
theorem kM_X11_348 : Cond.methodLink "KeyHousesModel" 348 yX11_givesNothing ∈ T0 := tb7 (List.mem_of_getElem? (i := 54) (by decide +kernel)) rfl
theorem kM_X11_351 : Cond.methodLink "KeyHousesModel" 351 yX11_leastOf ∈ T0 := tb7 (List.mem_of_getElem? (i := 58) (by decide +kernel)) rfl
theorem kM_X11_354 : Cond.methodLink "KeyHousesModel" 354 yX11_mindedOf ∈ T0 := tb7 (List.mem_of_getElem? (i := 35) (by decide +kernel)) rfl
theorem kM_X11_357 : Cond.methodLink "KeyHousesModel" 357 yX11_leastAt ∈ T0 := tb7 (List.mem_of_getElem? (i := 31) (by decide +kernel)) rfl
theorem kM_X11_360 : Cond.methodLink "KeyHousesModel" 360 yX11_shifted ∈ T0 := tb7 (List.mem_of_getElem? (i := 70) (by decide +kernel)) rfl
theorem kM_X11_363 : Cond.methodLink "KeyHousesModel" 363 yX11_leastOfAll ∈ T0 := tb7 (List.mem_of_getElem? (i := 66) (by decide +kernel)) rfl
theorem kM_X11_366 : Cond.methodLink "KeyHousesModel" 366 yX11_least ∈ T0 := tb7 (List.mem_of_getElem? (i := 77) (by decide +kernel)) rfl
theorem kM_X11_369 : Cond.methodLink "KeyHousesModel" 369 yX11_laysWay ∈ T0 := tb7 (List.mem_of_getElem? (i := 82) (by decide +kernel)) rfl
theorem kM_X11_372 : Cond.methodLink "KeyHousesModel" 372 yX11_hasSet ∈ T0 := tb7 (List.mem_of_getElem? (i := 102) (by decide +kernel)) rfl
theorem kM_X11_375 : Cond.methodLink "KeyHousesModel" 375 yX11_laysCrowds ∈ T0 := tb7 (List.mem_of_getElem? (i := 98) (by decide +kernel)) rfl
theorem kM_X11_378 : Cond.methodLink "KeyHousesModel" 378 yX11_isSilent ∈ T0 := tb7 (List.mem_of_getElem? (i := 126) (by decide +kernel)) rfl
theorem kM_X11_381 : Cond.methodLink "KeyHousesModel" 381 yX11_isFound ∈ T0 := tb7 (List.mem_of_getElem? (i := 130) (by decide +kernel)) rfl
theorem kM_X11_384 : Cond.methodLink "KeyHousesModel" 384 yX11_laysDebts ∈ T0 := tb7 (List.mem_of_getElem? (i := 138) (by decide +kernel)) rfl
theorem kM_X11_387 : Cond.methodLink "KeyHousesModel" 387 yX11_owedMore ∈ T0 := tb7 (List.mem_of_getElem? (i := 146) (by decide +kernel)) rfl
theorem kM_X11_390 : Cond.methodLink "KeyHousesModel" 390 yX11_greater ∈ T0 := tb7 (List.mem_of_getElem? (i := 150) (by decide +kernel)) rfl
theorem kM_X11_399 : Cond.methodLink "KeyHousesModel" 399 yX11_keeps ∈ T0 := tb7 (List.mem_of_getElem? (i := 172) (by decide +kernel)) rfl
theorem kM_X11_402 : Cond.methodLink "KeyHousesModel" 402 yX11_notesKept ∈ T0 := tb7 (List.mem_of_getElem? (i := 168) (by decide +kernel)) rfl
theorem kM_X11_405 : Cond.methodLink "KeyHousesModel" 405 yX11_goodOr ∈ T0 := tb7 (List.mem_of_getElem? (i := 176) (by decide +kernel)) rfl
theorem kM_X11_408 : Cond.methodLink "KeyHousesModel" 408 yX11_givesKept ∈ T0 := tb7 (List.mem_of_getElem? (i := 184) (by decide +kernel)) rfl
theorem kM_X11_411 : Cond.methodLink "KeyHousesModel" 411 yX11_shiftsKept ∈ T0 := tb7 (List.mem_of_getElem? (i := 192) (by decide +kernel)) rfl
theorem kM_X11_414 : Cond.methodLink "KeyHousesModel" 414 yX11_passesKept ∈ T0 := tb7 (List.mem_of_getElem? (i := 200) (by decide +kernel)) rfl
theorem kM_X11_417 : Cond.methodLink "KeyHousesModel" 417 yX11_laysAside ∈ T0 := tb7 (List.mem_of_getElem? (i := 212) (by decide +kernel)) rfl
theorem kM_X11_423 : Cond.methodLink "KeyHousesModel" 423 yX11_runs ∈ T0 := tb7 (List.mem_of_getElem? (i := 216) (by decide +kernel)) rfl
theorem kM_X11_426 : Cond.methodLink "KeyHousesModel" 426 yX11_takesBack ∈ T0 := tb7 (List.mem_of_getElem? (i := 238) (by decide +kernel)) rfl
theorem kM_X11_429 : Cond.methodLink "KeyHousesModel" 429 yX11_hasWord ∈ T0 := tb7 (List.mem_of_getElem? (i := 224) (by decide +kernel)) rfl
theorem kM_X11_432 : Cond.methodLink "KeyHousesModel" 432 yX11_drill ∈ T0 := tb7 (List.mem_of_getElem? (i := 228) (by decide +kernel)) rfl
theorem kM_X11_451 : Cond.methodLink "KeyHousesModel" 451 yX11_small ∈ T0 := tb7 (List.mem_of_getElem? (i := 233) (by decide +kernel)) rfl
theorem kM_X11_455 : Cond.methodLink "KeyHousesModel" 455 yX11_goesAlong ∈ T0 := tb7 (List.mem_of_getElem? (i := 220) (by decide +kernel)) rfl
theorem kM_X11_459 : Cond.methodLink "KeyHousesModel" 459 yX11_obeys ∈ T0 := tb7 (List.mem_of_getElem? (i := 229) (by decide +kernel)) rfl
theorem kM_X11_471 : Cond.methodLink "KeyHousesModel" 471 yX11_draws ∈ T0 := tb8 (List.mem_of_getElem? (i := 10) (by decide +kernel)) rfl
theorem kM_X11_477 : Cond.methodLink "KeyHousesModel" 477 yX11_happens ∈ T0 := tb8 (List.mem_of_getElem? (i := 6) (by decide +kernel)) rfl
theorem kM_J0_335 : Cond.methodLink "java/lang/String" 335 yJ0_coder_7d493 ∈ T0 := tb3 (List.mem_of_getElem? (i := 79) (by decide +kernel)) rfl
theorem kM_J0_492 : Cond.methodLink "java/lang/String" 492 yJ0_isLatin1_aae02 ∈ T0 := tb3 (List.mem_of_getElem? (i := 89) (by decide +kernel)) rfl
theorem kM_J0_495 : Cond.methodLink "java/lang/String" 495 yJ1_charAt_3b067 ∈ T0 := tb3 (List.mem_of_getElem? (i := 93) (by decide +kernel)) rfl
theorem kM_J0_498 : Cond.methodLink "java/lang/String" 498 yJ2_charAt_3b067 ∈ T0 := tb3 (List.mem_of_getElem? (i := 104) (by decide +kernel)) rfl
theorem kM_J0_1059 : Cond.methodLink "java/lang/String" 1059 yJ3_checkIndex_8e157 ∈ T0 := tb3 (List.mem_of_getElem? (i := 101) (by decide +kernel)) rfl
theorem kM_J1_9 : Cond.methodLink "java/lang/StringLatin1" 9 yJ0_checkIndex_df160 ∈ T0 := tb3 (List.mem_of_getElem? (i := 96) (by decide +kernel)) rfl
theorem kM_J2_48 : Cond.methodLink "java/lang/StringUTF16" 48 yJ2_length_9d52b ∈ T0 := tb3 (List.mem_of_getElem? (i := 110) (by decide +kernel)) rfl
theorem kM_J2_67 : Cond.methodLink "java/lang/StringUTF16" 67 yJ2_checkIndex_2214a ∈ T0 := tb3 (List.mem_of_getElem? (i := 107) (by decide +kernel)) rfl
theorem kM_J2_71 : Cond.methodLink "java/lang/StringUTF16" 71 yJ2_getChar_3b067 ∈ T0 := tb3 (List.mem_of_getElem? (i := 114) (by decide +kernel)) rfl
theorem kM_J2_414 : Cond.methodLink "java/lang/StringUTF16" 414 yJ0_checkIndex_df160 ∈ T0 := tb3 (List.mem_of_getElem? (i := 113) (by decide +kernel)) rfl
theorem kN_X0_40 : Cond.methodLinkNest "KeyHouses$Changes" 40 yX10_isKey "KeyHouses" ∈ N0 := nb4 (List.mem_of_getElem? (i := 45) (by decide +kernel)) rfl
theorem kN_X0_44 : Cond.methodLinkNest "KeyHouses$Changes" 44 yX10_isBeat "KeyHouses" ∈ N0 := nb4 (List.mem_of_getElem? (i := 46) (by decide +kernel)) rfl
theorem kN_X4_88 : Cond.methodLinkNest "KeyHouses$Reader" 88 yX10_isDigit "KeyHouses" ∈ N0 := nb3 (List.mem_of_getElem? (i := 61) (by decide +kernel)) rfl
theorem kN_X4_95 : Cond.methodLinkNest "KeyHouses$Reader" 95 yX10_isLetter "KeyHouses" ∈ N0 := nb3 (List.mem_of_getElem? (i := 69) (by decide +kernel)) rfl
theorem kN_X7_75 : Cond.methodLinkNest "KeyHouses$Street" 75 yX10_isBeat "KeyHouses" ∈ N0 := nb5 (List.mem_of_getElem? (i := 1) (by decide +kernel)) rfl
theorem kN_X8_23 : Cond.methodLinkNest "KeyHouses$Tape" 23 yX10_isLetter "KeyHouses" ∈ N0 := nb3 (List.mem_of_getElem? (i := 50) (by decide +kernel)) rfl
theorem kN_X8_27 : Cond.methodLinkNest "KeyHouses$Tape" 27 yX10_isDigit "KeyHouses" ∈ N0 := nb3 (List.mem_of_getElem? (i := 53) (by decide +kernel)) rfl
theorem kC_X10_9 : Cond.classLink "KeyHouses" 9 "KeyHouses$Street" ∈ T0 := tb1 (List.mem_of_getElem? (i := 29) (by decide +kernel)) rfl
theorem kC_X10_30 : Cond.classLink "KeyHouses" 30 "KeyHouses$Tape" ∈ T0 := tb1 (List.mem_of_getElem? (i := 102) (by decide +kernel)) rfl
theorem kC_X10_37 : Cond.classLink "KeyHouses" 37 "KeyHouses$Reader" ∈ T0 := tb1 (List.mem_of_getElem? (i := 119) (by decide +kernel)) rfl
theorem kC_X10_46 : Cond.classLink "KeyHouses" 46 "KeyHouses$Judge" ∈ T0 := tb1 (List.mem_of_getElem? (i := 220) (by decide +kernel)) rfl
theorem kC_X10_53 : Cond.classLink "KeyHouses" 53 "KeyHouses$Players" ∈ T0 := tb2 (List.mem_of_getElem? (i := 14) (by decide +kernel)) rfl
theorem kC_X10_62 : Cond.classLink "KeyHouses" 62 "KeyHouses$Debts" ∈ T0 := tb2 (List.mem_of_getElem? (i := 51) (by decide +kernel)) rfl
theorem kC_X10_69 : Cond.classLink "KeyHouses" 69 "KeyHouses$Changes" ∈ T0 := tb2 (List.mem_of_getElem? (i := 65) (by decide +kernel)) rfl
theorem kC_X10_76 : Cond.classLink "KeyHouses" 76 "KeyHouses$Runner" ∈ T0 := tb2 (List.mem_of_getElem? (i := 85) (by decide +kernel)) rfl
theorem kC_X2_9 : Cond.classLink "KeyHouses$Judge" 9 "KeyHouses$Reckoner" ∈ T0 := tb1 (List.mem_of_getElem? (i := 226) (by decide +kernel)) rfl
theorem kC_X4_9 : Cond.classLink "KeyHouses$Reader" 9 "KeyHouses$Text" ∈ T0 := tb1 (List.mem_of_getElem? (i := 125) (by decide +kernel)) rfl
theorem kC_X6_9 : Cond.classLink "KeyHouses$Runner" 9 "KeyHouses$Reckoner" ∈ T0 := tb2 (List.mem_of_getElem? (i := 91) (by decide +kernel)) rfl
theorem kC_X7_27 : Cond.classLink "KeyHouses$Street" 27 "KeyHouses$Text" ∈ T0 := tb1 (List.mem_of_getElem? (i := 35) (by decide +kernel)) rfl
theorem kC_X9_16 : Cond.classLink "KeyHouses$Text" 16 "KeyHouses$Text" ∈ T0 := tb3 (List.mem_of_getElem? (i := 208) (by decide +kernel)) rfl
theorem kC_L_7 : Cond.classLink "KeyHousesLaw" 7 "KeyHouses" ∈ T0 := tb1 (List.mem_of_getElem? (i := 21) (by decide +kernel)) rfl
theorem kC_L_10 : Cond.classLink "KeyHousesLaw" 10 "KeyHousesModel" ∈ T0 := tb5 (List.mem_of_getElem? (i := 74) (by decide +kernel)) rfl
theorem kI_X10_286 : Cond.constant "KeyHouses" 286 (Int32.ofInt (1000000)) ∈ T0 := tb5 (List.mem_of_getElem? (i := 44) (by decide +kernel)) rfl
theorem kI_X10_319 : Cond.constant "KeyHouses" 319 (Int32.ofInt (1000003)) ∈ T0 := tb5 (List.mem_of_getElem? (i := 52) (by decide +kernel)) rfl
theorem kI_X11_174 : Cond.constant "KeyHousesModel" 174 (Int32.ofInt (1000000)) ∈ T0 := tb6 (List.mem_of_getElem? (i := 190) (by decide +kernel)) rfl
theorem kI_X11_338 : Cond.constant "KeyHousesModel" 338 (Int32.ofInt (1000001)) ∈ T0 := tb7 (List.mem_of_getElem? (i := 46) (by decide +kernel)) rfl
theorem kI_J6_265 : Cond.constant "java/lang/Integer" 265 (Int32.ofInt (1431655765)) ∈ T0 := tb3 (List.mem_of_getElem? (i := 232) (by decide +kernel)) rfl
theorem kI_J6_266 : Cond.constant "java/lang/Integer" 266 (Int32.ofInt (858993459)) ∈ T0 := tb3 (List.mem_of_getElem? (i := 233) (by decide +kernel)) rfl
theorem kI_J6_267 : Cond.constant "java/lang/Integer" 267 (Int32.ofInt (252645135)) ∈ T0 := tb3 (List.mem_of_getElem? (i := 234) (by decide +kernel)) rfl
theorem kJ_X10_219 : Cond.constantLong "KeyHouses" 219 (Int64.ofInt (1152921504606846976)) ∈ T0 := tb4 (List.mem_of_getElem? (i := 165) (by decide +kernel)) rfl
theorem kJ_X10_270 : Cond.constantLong "KeyHouses" 270 (Int64.ofInt (-1)) ∈ T0 := tb5 (List.mem_of_getElem? (i := 32) (by decide +kernel)) rfl
theorem kJ_X10_278 : Cond.constantLong "KeyHouses" 278 (Int64.ofInt (1000000000000)) ∈ T0 := tb5 (List.mem_of_getElem? (i := 34) (by decide +kernel)) rfl
theorem kJ_X10_280 : Cond.constantLong "KeyHouses" 280 (Int64.ofInt (10)) ∈ T0 := tb5 (List.mem_of_getElem? (i := 35) (by decide +kernel)) rfl
theorem kJ_X1_30 : Cond.constantLong "KeyHouses$Debts" 30 (Int64.ofInt (1152921504606846976)) ∈ T0 := tb5 (List.mem_of_getElem? (i := 12) (by decide +kernel)) rfl
theorem kJ_X2_61 : Cond.constantLong "KeyHouses$Judge" 61 (Int64.ofInt (-1152921504606846976)) ∈ T0 := tb2 (List.mem_of_getElem? (i := 234) (by decide +kernel)) rfl
theorem kJ_X2_66 : Cond.constantLong "KeyHouses$Judge" 66 (Int64.ofInt (99)) ∈ T0 := tb2 (List.mem_of_getElem? (i := 235) (by decide +kernel)) rfl
theorem kJ_X3_61 : Cond.constantLong "KeyHouses$Players" 61 (Int64.ofInt (1152921504606846976)) ∈ T0 := tb4 (List.mem_of_getElem? (i := 147) (by decide +kernel)) rfl
theorem kJ_X5_15 : Cond.constantLong "KeyHouses$Reckoner" 15 (Int64.ofInt (-1152921504606846976)) ∈ T0 := tb2 (List.mem_of_getElem? (i := 228) (by decide +kernel)) rfl
theorem kJ_X5_21 : Cond.constantLong "KeyHouses$Reckoner" 21 (Int64.ofInt (1000000000)) ∈ T0 := tb2 (List.mem_of_getElem? (i := 232) (by decide +kernel)) rfl
theorem kJ_X5_23 : Cond.constantLong "KeyHouses$Reckoner" 23 (Int64.ofInt (-1000000000)) ∈ T0 := tb2 (List.mem_of_getElem? (i := 233) (by decide +kernel)) rfl
theorem kJ_X6_77 : Cond.constantLong "KeyHouses$Runner" 77 (Int64.ofInt (-1152921504606846976)) ∈ T0 := tb4 (List.mem_of_getElem? (i := 32) (by decide +kernel)) rfl
theorem kJ_X11_271 : Cond.constantLong "KeyHousesModel" 271 (Int64.ofInt (1000000000)) ∈ T0 := tb6 (List.mem_of_getElem? (i := 115) (by decide +kernel)) rfl
theorem kJ_X11_273 : Cond.constantLong "KeyHousesModel" 273 (Int64.ofInt (-1000000000)) ∈ T0 := tb6 (List.mem_of_getElem? (i := 116) (by decide +kernel)) rfl
theorem kJ_X11_329 : Cond.constantLong "KeyHousesModel" 329 (Int64.ofInt (99)) ∈ T0 := tb6 (List.mem_of_getElem? (i := 133) (by decide +kernel)) rfl
theorem kJ_X11_393 : Cond.constantLong "KeyHousesModel" 393 (Int64.ofInt (-1)) ∈ T0 := tb7 (List.mem_of_getElem? (i := 157) (by decide +kernel)) rfl
theorem kJ_X11_395 : Cond.constantLong "KeyHousesModel" 395 (Int64.ofInt (1000000000000)) ∈ T0 := tb7 (List.mem_of_getElem? (i := 158) (by decide +kernel)) rfl
theorem kJ_X11_397 : Cond.constantLong "KeyHousesModel" 397 (Int64.ofInt (10)) ∈ T0 := tb7 (List.mem_of_getElem? (i := 159) (by decide +kernel)) rfl
theorem kJ_X11_447 : Cond.constantLong "KeyHousesModel" 447 (Int64.ofInt (-1000000)) ∈ T0 := tb7 (List.mem_of_getElem? (i := 236) (by decide +kernel)) rfl
theorem kJ_X11_449 : Cond.constantLong "KeyHousesModel" 449 (Int64.ofInt (1000000)) ∈ T0 := tb7 (List.mem_of_getElem? (i := 237) (by decide +kernel)) rfl
theorem kJ_X11_462 : Cond.constantLong "KeyHousesModel" 462 (Int64.ofInt (1103)) ∈ T0 := tb8 (List.mem_of_getElem? (i := 14) (by decide +kernel)) rfl
theorem kJ_X11_467 : Cond.constantLong "KeyHousesModel" 467 (Int64.ofInt (12345)) ∈ T0 := tb8 (List.mem_of_getElem? (i := 15) (by decide +kernel)) rfl
theorem kJ_X11_469 : Cond.constantLong "KeyHousesModel" 469 (Int64.ofInt (1000003)) ∈ T0 := tb8 (List.mem_of_getElem? (i := 16) (by decide +kernel)) rfl
theorem kin_X10 : Cond.instantiable "KeyHouses" 17 ∈ T0 := tb1 (List.mem_of_getElem? (i := 22) (by decide +kernel)) rfl
theorem kin_X0 : Cond.instantiable "KeyHouses$Changes" 4 ∈ T0 := tb2 (List.mem_of_getElem? (i := 66) (by decide +kernel)) rfl
theorem kin_X1 : Cond.instantiable "KeyHouses$Debts" 2 ∈ T0 := tb2 (List.mem_of_getElem? (i := 52) (by decide +kernel)) rfl
theorem kin_X2 : Cond.instantiable "KeyHouses$Judge" 4 ∈ T0 := tb1 (List.mem_of_getElem? (i := 221) (by decide +kernel)) rfl
theorem kin_X3 : Cond.instantiable "KeyHouses$Players" 10 ∈ T0 := tb2 (List.mem_of_getElem? (i := 15) (by decide +kernel)) rfl
theorem kin_X4 : Cond.instantiable "KeyHouses$Reader" 12 ∈ T0 := tb1 (List.mem_of_getElem? (i := 120) (by decide +kernel)) rfl
theorem kin_X5 : Cond.instantiable "KeyHouses$Reckoner" 1 ∈ T0 := tb1 (List.mem_of_getElem? (i := 227) (by decide +kernel)) rfl
theorem kin_X6 : Cond.instantiable "KeyHouses$Runner" 5 ∈ T0 := tb2 (List.mem_of_getElem? (i := 86) (by decide +kernel)) rfl
theorem kin_X7 : Cond.instantiable "KeyHouses$Street" 11 ∈ T0 := tb1 (List.mem_of_getElem? (i := 30) (by decide +kernel)) rfl
theorem kin_X8 : Cond.instantiable "KeyHouses$Tape" 2 ∈ T0 := tb1 (List.mem_of_getElem? (i := 103) (by decide +kernel)) rfl
theorem kin_X9 : Cond.instantiable "KeyHouses$Text" 9 ∈ T0 := tb1 (List.mem_of_getElem? (i := 126) (by decide +kernel)) rfl
theorem kin_X11 : Cond.instantiable "KeyHousesModel" 53 ∈ T0 := tb5 (List.mem_of_getElem? (i := 75) (by decide +kernel)) rfl
theorem kz_X10 : Cond.initialized "KeyHouses" ∈ T0 := tb1 (List.mem_of_getElem? (i := 1) (by decide +kernel)) rfl
theorem kz_X0 : Cond.initialized "KeyHouses$Changes" ∈ T0 := tb1 (List.mem_of_getElem? (i := 12) (by decide +kernel)) rfl
theorem kz_X1 : Cond.initialized "KeyHouses$Debts" ∈ T0 := tb1 (List.mem_of_getElem? (i := 11) (by decide +kernel)) rfl
theorem kz_X2 : Cond.initialized "KeyHouses$Judge" ∈ T0 := tb1 (List.mem_of_getElem? (i := 8) (by decide +kernel)) rfl
theorem kz_X3 : Cond.initialized "KeyHouses$Players" ∈ T0 := tb1 (List.mem_of_getElem? (i := 10) (by decide +kernel)) rfl
theorem kz_X4 : Cond.initialized "KeyHouses$Reader" ∈ T0 := tb1 (List.mem_of_getElem? (i := 5) (by decide +kernel)) rfl
theorem kz_X5 : Cond.initialized "KeyHouses$Reckoner" ∈ T0 := tb1 (List.mem_of_getElem? (i := 9) (by decide +kernel)) rfl
theorem kz_X6 : Cond.initialized "KeyHouses$Runner" ∈ T0 := tb1 (List.mem_of_getElem? (i := 13) (by decide +kernel)) rfl
theorem kz_X7 : Cond.initialized "KeyHouses$Street" ∈ T0 := tb1 (List.mem_of_getElem? (i := 2) (by decide +kernel)) rfl
theorem kz_X8 : Cond.initialized "KeyHouses$Tape" ∈ T0 := tb1 (List.mem_of_getElem? (i := 4) (by decide +kernel)) rfl
theorem kz_X9 : Cond.initialized "KeyHouses$Text" ∈ T0 := tb1 (List.mem_of_getElem? (i := 6) (by decide +kernel)) rfl
theorem kz_L : Cond.initialized "KeyHousesLaw" ∈ T0 := tb1 (List.mem_of_getElem? (i := 0) (by decide +kernel)) rfl
theorem kz_X11 : Cond.initialized "KeyHousesModel" ∈ T0 := tb1 (List.mem_of_getElem? (i := 14) (by decide +kernel)) rfl
theorem kz_J6 : Cond.initialized "java/lang/Integer" ∈ T0 := tb1 (List.mem_of_getElem? (i := 20) (by decide +kernel)) rfl
theorem kz_J9 : Cond.initialized "java/lang/Math" ∈ T0 := tb1 (List.mem_of_getElem? (i := 7) (by decide +kernel)) rfl
theorem kz_J0 : Cond.initialized "java/lang/String" ∈ T0 := tb1 (List.mem_of_getElem? (i := 15) (by decide +kernel)) rfl
theorem kz_J1 : Cond.initialized "java/lang/StringLatin1" ∈ T0 := tb1 (List.mem_of_getElem? (i := 16) (by decide +kernel)) rfl
theorem kz_J2 : Cond.initialized "java/lang/StringUTF16" ∈ T0 := tb1 (List.mem_of_getElem? (i := 18) (by decide +kernel)) rfl
theorem kz_J10 : Cond.initialized "java/lang/System" ∈ T0 := tb1 (List.mem_of_getElem? (i := 19) (by decide +kernel)) rfl
theorem kz_J7 : Cond.initialized "java/util/Arrays" ∈ T0 := tb1 (List.mem_of_getElem? (i := 3) (by decide +kernel)) rfl
theorem kz_J3 : Cond.initialized "jdk/internal/util/Preconditions" ∈ T0 := tb1 (List.mem_of_getElem? (i := 17) (by decide +kernel)) rfl
theorem ka_int : Cond.arrayClass .int ∈ T0 := tb1 (List.mem_of_getElem? (i := 100) (by decide +kernel)) rfl
theorem ka_boolean : Cond.arrayClass .boolean ∈ T0 := tb1 (List.mem_of_getElem? (i := 117) (by decide +kernel)) rfl
theorem ka_byte : Cond.arrayClass .byte ∈ T0 := tb1 (List.mem_of_getElem? (i := 118) (by decide +kernel)) rfl
theorem ka_long : Cond.arrayClass .long ∈ T0 := tb1 (List.mem_of_getElem? (i := 236) (by decide +kernel)) rfl
theorem knat : Cond.native arraycopyName ∈ T0 := tb3 (List.mem_of_getElem? (i := 212) (by decide +kernel)) rfl
theorem ks_X10_isBeat : Cond.static yX10_isBeat ∈ T0 := tb2 (List.mem_of_getElem? (i := 202) (by decide +kernel)) rfl
theorem ks_X10_isDigit : Cond.static yX10_isDigit ∈ T0 := tb3 (List.mem_of_getElem? (i := 54) (by decide +kernel)) rfl
theorem ks_X10_isKey : Cond.static yX10_isKey ∈ T0 := tb2 (List.mem_of_getElem? (i := 195) (by decide +kernel)) rfl
theorem ks_X10_isLetter : Cond.static yX10_isLetter ∈ T0 := tb3 (List.mem_of_getElem? (i := 51) (by decide +kernel)) rfl
theorem ks_X10_mostTerm : Cond.static yX10_mostTerm ∈ T0 := tb3 (List.mem_of_getElem? (i := 7) (by decide +kernel)) rfl
theorem ks_X10_stir : Cond.static yX10_stir ∈ T0 := tb5 (List.mem_of_getElem? (i := 50) (by decide +kernel)) rfl
theorem ks_X3_lowestKey : Cond.static yX3_lowestKey ∈ T0 := tb4 (List.mem_of_getElem? (i := 20) (by decide +kernel)) rfl
theorem ks_X3_rowPlace : Cond.static yX3_rowPlace ∈ T0 := tb4 (List.mem_of_getElem? (i := 9) (by decide +kernel)) rfl
theorem ks_X4_comparison : Cond.static yX4_comparison ∈ T0 := tb3 (List.mem_of_getElem? (i := 194) (by decide +kernel)) rfl
theorem ks_X4_multiplication : Cond.static yX4_multiplication ∈ T0 := tb3 (List.mem_of_getElem? (i := 171) (by decide +kernel)) rfl
theorem ks_X4_orderWord : Cond.static yX4_orderWord ∈ T0 := tb3 (List.mem_of_getElem? (i := 164) (by decide +kernel)) rfl
theorem ks_X5_join : Cond.static yX5_join ∈ T0 := tb2 (List.mem_of_getElem? (i := 230) (by decide +kernel)) rfl
theorem ks_X7_shifted : Cond.static yX7_shifted ∈ T0 := tb4 (List.mem_of_getElem? (i := 70) (by decide +kernel)) rfl
theorem ks_X11_greater : Cond.static yX11_greater ∈ T0 := tb7 (List.mem_of_getElem? (i := 151) (by decide +kernel)) rfl
theorem ks_X11_isBeat : Cond.static yX11_isBeat ∈ T0 := tb6 (List.mem_of_getElem? (i := 55) (by decide +kernel)) rfl
theorem ks_X11_isDigit : Cond.static yX11_isDigit ∈ T0 := tb6 (List.mem_of_getElem? (i := 184) (by decide +kernel)) rfl
theorem ks_X11_isIn : Cond.static yX11_isIn ∈ T0 := tb7 (List.mem_of_getElem? (i := 44) (by decide +kernel)) rfl
theorem ks_X11_isKey : Cond.static yX11_isKey ∈ T0 := tb6 (List.mem_of_getElem? (i := 48) (by decide +kernel)) rfl
theorem ks_X11_isSmall : Cond.static yX11_isSmall ∈ T0 := tb6 (List.mem_of_getElem? (i := 181) (by decide +kernel)) rfl
theorem ks_X11_isTerm : Cond.static yX11_isTerm ∈ T0 := tb6 (List.mem_of_getElem? (i := 143) (by decide +kernel)) rfl
theorem ks_X11_lesser : Cond.static yX11_lesser ∈ T0 := tb7 (List.mem_of_getElem? (i := 52) (by decide +kernel)) rfl
theorem ks_X11_lies : Cond.static yX11_lies ∈ T0 := tb6 (List.mem_of_getElem? (i := 5) (by decide +kernel)) rfl
theorem ks_X11_ones : Cond.static yX11_ones ∈ T0 := tb6 (List.mem_of_getElem? (i := 109) (by decide +kernel)) rfl
theorem ks_X11_shifted : Cond.static yX11_shifted ∈ T0 := tb7 (List.mem_of_getElem? (i := 71) (by decide +kernel)) rfl
theorem ks_X11_sign : Cond.static yX11_sign ∈ T0 := tb6 (List.mem_of_getElem? (i := 94) (by decide +kernel)) rfl
theorem ks_X11_small : Cond.static yX11_small ∈ T0 := tb7 (List.mem_of_getElem? (i := 234) (by decide +kernel)) rfl
theorem ks_X11_termAt : Cond.static yX11_termAt ∈ T0 := tb6 (List.mem_of_getElem? (i := 146) (by decide +kernel)) rfl
theorem ks_J6_bitCount_0f7a4 : Cond.static yJ6_bitCount_0f7a4 ∈ T0 := tb3 (List.mem_of_getElem? (i := 230) (by decide +kernel)) rfl
theorem ks_J9_max_7cf53 : Cond.static yJ9_max_7cf53 ∈ T0 := tb1 (List.mem_of_getElem? (i := 132) (by decide +kernel)) rfl
theorem ks_J9_max_f86c9 : Cond.static yJ9_max_f86c9 ∈ T0 := tb3 (List.mem_of_getElem? (i := 0) (by decide +kernel)) rfl
theorem ks_J9_min_7cf53 : Cond.static yJ9_min_7cf53 ∈ T0 := tb3 (List.mem_of_getElem? (i := 67) (by decide +kernel)) rfl
theorem ks_J9_min_f86c9 : Cond.static yJ9_min_f86c9 ∈ T0 := tb2 (List.mem_of_getElem? (i := 237) (by decide +kernel)) rfl
theorem ks_J0_checkIndex_df160 : Cond.static yJ0_checkIndex_df160 ∈ T0 := tb3 (List.mem_of_getElem? (i := 97) (by decide +kernel)) rfl
theorem ks_J1_charAt_3b067 : Cond.static yJ1_charAt_3b067 ∈ T0 := tb3 (List.mem_of_getElem? (i := 94) (by decide +kernel)) rfl
theorem ks_J2_charAt_3b067 : Cond.static yJ2_charAt_3b067 ∈ T0 := tb3 (List.mem_of_getElem? (i := 105) (by decide +kernel)) rfl
theorem ks_J2_checkIndex_2214a : Cond.static yJ2_checkIndex_2214a ∈ T0 := tb3 (List.mem_of_getElem? (i := 108) (by decide +kernel)) rfl
theorem ks_J2_getChar_3b067 : Cond.static yJ2_getChar_3b067 ∈ T0 := tb3 (List.mem_of_getElem? (i := 115) (by decide +kernel)) rfl
theorem ks_J2_length_9d52b : Cond.static yJ2_length_9d52b ∈ T0 := tb3 (List.mem_of_getElem? (i := 111) (by decide +kernel)) rfl
theorem ks_arraycopy : Cond.static arraycopyName ∈ T0 := tb3 (List.mem_of_getElem? (i := 211) (by decide +kernel)) rfl
theorem ks_J7_fill_53178 : Cond.static yJ7_fill_53178 ∈ T0 := tb1 (List.mem_of_getElem? (i := 38) (by decide +kernel)) rfl
theorem ks_J7_fill_d0a16 : Cond.static yJ7_fill_d0a16 ∈ T0 := tb4 (List.mem_of_getElem? (i := 149) (by decide +kernel)) rfl
theorem ks_J3_checkIndex_8e157 : Cond.static yJ3_checkIndex_8e157 ∈ T0 := tb3 (List.mem_of_getElem? (i := 102) (by decide +kernel)) rfl
theorem ki_X10_init : Cond.instanceMethod yX10_init ∈ T0 := tb1 (List.mem_of_getElem? (i := 24) (by decide +kernel)) rfl
theorem ki_X10_accept : Cond.instanceMethod yX10_accept ∈ T0 := tb2 (List.mem_of_getElem? (i := 176) (by decide +kernel)) rfl
theorem ki_X10_asks : Cond.instanceMethod yX10_asks ∈ T0 := tb2 (List.mem_of_getElem? (i := 205) (by decide +kernel)) rfl
theorem ki_X10_back : Cond.instanceMethod yX10_back ∈ T0 := tb5 (List.mem_of_getElem? (i := 62) (by decide +kernel)) rfl
theorem ki_X10_best : Cond.instanceMethod yX10_best ∈ T0 := tb4 (List.mem_of_getElem? (i := 207) (by decide +kernel)) rfl
theorem ki_X10_change : Cond.instanceMethod yX10_change ∈ T0 := tb4 (List.mem_of_getElem? (i := 109) (by decide +kernel)) rfl
theorem ki_X10_compare : Cond.instanceMethod yX10_compare ∈ T0 := tb5 (List.mem_of_getElem? (i := 37) (by decide +kernel)) rfl
theorem ki_X10_count : Cond.instanceMethod yX10_count ∈ T0 := tb5 (List.mem_of_getElem? (i := 66) (by decide +kernel)) rfl
theorem ki_X10_cover : Cond.instanceMethod yX10_cover ∈ T0 := tb4 (List.mem_of_getElem? (i := 193) (by decide +kernel)) rfl
theorem ki_X10_creaks : Cond.instanceMethod yX10_creaks ∈ T0 := tb3 (List.mem_of_getElem? (i := 30) (by decide +kernel)) rfl
theorem ki_X10_drawn : Cond.instanceMethod yX10_drawn ∈ T0 := tb5 (List.mem_of_getElem? (i := 54) (by decide +kernel)) rfl
theorem ki_X10_drill : Cond.instanceMethod yX10_drill ∈ T0 := tb4 (List.mem_of_getElem? (i := 131) (by decide +kernel)) rfl
theorem ki_X10_end : Cond.instanceMethod yX10_end ∈ T0 := tb3 (List.mem_of_getElem? (i := 18) (by decide +kernel)) rfl
theorem ki_X10_evenings : Cond.instanceMethod yX10_evenings ∈ T0 := tb5 (List.mem_of_getElem? (i := 41) (by decide +kernel)) rfl
theorem ki_X10_fault : Cond.instanceMethod yX10_fault ∈ T0 := tb4 (List.mem_of_getElem? (i := 91) (by decide +kernel)) rfl
theorem ki_X10_feed : Cond.instanceMethod yX10_feed ∈ T0 := tb3 (List.mem_of_getElem? (i := 10) (by decide +kernel)) rfl
theorem ki_X10_few : Cond.instanceMethod yX10_few ∈ T0 := tb5 (List.mem_of_getElem? (i := 29) (by decide +kernel)) rfl
theorem ki_X10_find : Cond.instanceMethod yX10_find ∈ T0 := tb4 (List.mem_of_getElem? (i := 230) (by decide +kernel)) rfl
theorem ki_X10_force : Cond.instanceMethod yX10_force ∈ T0 := tb4 (List.mem_of_getElem? (i := 99) (by decide +kernel)) rfl
theorem ki_X10_forget : Cond.instanceMethod yX10_forget ∈ T0 := tb4 (List.mem_of_getElem? (i := 226) (by decide +kernel)) rfl
theorem ki_X10_give : Cond.instanceMethod yX10_give ∈ T0 := tb4 (List.mem_of_getElem? (i := 114) (by decide +kernel)) rfl
theorem ki_X10_house : Cond.instanceMethod yX10_house ∈ T0 := tb2 (List.mem_of_getElem? (i := 163) (by decide +kernel)) rfl
theorem ki_X10_image : Cond.instanceMethod yX10_image ∈ T0 := tb5 (List.mem_of_getElem? (i := 58) (by decide +kernel)) rfl
theorem ki_X10_law : Cond.instanceMethod yX10_law ∈ T0 := tb3 (List.mem_of_getElem? (i := 34) (by decide +kernel)) rfl
theorem ki_X10_least : Cond.instanceMethod yX10_least ∈ T0 := tb4 (List.mem_of_getElem? (i := 136) (by decide +kernel)) rfl
theorem ki_X10_might : Cond.instanceMethod yX10_might ∈ T0 := tb4 (List.mem_of_getElem? (i := 180) (by decide +kernel)) rfl
theorem ki_X10_mindedIfShifted : Cond.instanceMethod yX10_mindedIfShifted ∈ T0 := tb4 (List.mem_of_getElem? (i := 212) (by decide +kernel)) rfl
theorem ki_X10_motif : Cond.instanceMethod yX10_motif ∈ T0 := tb4 (List.mem_of_getElem? (i := 222) (by decide +kernel)) rfl
theorem ki_X10_music : Cond.instanceMethod yX10_music ∈ T0 := tb2 (List.mem_of_getElem? (i := 198) (by decide +kernel)) rfl
theorem ki_X10_note : Cond.instanceMethod yX10_note ∈ T0 := tb4 (List.mem_of_getElem? (i := 104) (by decide +kernel)) rfl
theorem ki_X10_of : Cond.instanceMethod yX10_of ∈ T0 := tb2 (List.mem_of_getElem? (i := 179) (by decide +kernel)) rfl
theorem ki_X10_orders : Cond.instanceMethod yX10_orders ∈ T0 := tb3 (List.mem_of_getElem? (i := 214) (by decide +kernel)) rfl
theorem ki_X10_owes : Cond.instanceMethod yX10_owes ∈ T0 := tb5 (List.mem_of_getElem? (i := 3) (by decide +kernel)) rfl
theorem ki_X10_owner : Cond.instanceMethod yX10_owner ∈ T0 := tb2 (List.mem_of_getElem? (i := 191) (by decide +kernel)) rfl
theorem ki_X10_pass : Cond.instanceMethod yX10_pass ∈ T0 := tb4 (List.mem_of_getElem? (i := 122) (by decide +kernel)) rfl
theorem ki_X10_refuse : Cond.instanceMethod yX10_refuse ∈ T0 := tb2 (List.mem_of_getElem? (i := 168) (by decide +kernel)) rfl
theorem ki_X10_row : Cond.instanceMethod yX10_row ∈ T0 := tb3 (List.mem_of_getElem? (i := 22) (by decide +kernel)) rfl
theorem ki_X10_run : Cond.instanceMethod yX10_run ∈ T0 := tb4 (List.mem_of_getElem? (i := 202) (by decide +kernel)) rfl
theorem ki_X10_settled : Cond.instanceMethod yX10_settled ∈ T0 := tb5 (List.mem_of_getElem? (i := 16) (by decide +kernel)) rfl
theorem ki_X10_shift : Cond.instanceMethod yX10_shift ∈ T0 := tb4 (List.mem_of_getElem? (i := 118) (by decide +kernel)) rfl
theorem ki_X10_spendEvening : Cond.instanceMethod yX10_spendEvening ∈ T0 := tb5 (List.mem_of_getElem? (i := 47) (by decide +kernel)) rfl
theorem ki_X10_status : Cond.instanceMethod yX10_status ∈ T0 := tb5 (List.mem_of_getElem? (i := 71) (by decide +kernel)) rfl
theorem ki_X10_stopped : Cond.instanceMethod yX10_stopped ∈ T0 := tb4 (List.mem_of_getElem? (i := 95) (by decide +kernel)) rfl
theorem ki_X10_terms : Cond.instanceMethod yX10_terms ∈ T0 := tb3 (List.mem_of_getElem? (i := 3) (by decide +kernel)) rfl
theorem ki_X10_undo : Cond.instanceMethod yX10_undo ∈ T0 := tb4 (List.mem_of_getElem? (i := 126) (by decide +kernel)) rfl
theorem ki_X10_ways : Cond.instanceMethod yX10_ways ∈ T0 := tb4 (List.mem_of_getElem? (i := 171) (by decide +kernel)) rfl
theorem ki_X10_who : Cond.instanceMethod yX10_who ∈ T0 := tb4 (List.mem_of_getElem? (i := 161) (by decide +kernel)) rfl
theorem ki_X0_init : Cond.instanceMethod yX0_init ∈ T0 := tb2 (List.mem_of_getElem? (i := 68) (by decide +kernel)) rfl
theorem ki_X0_changeNote : Cond.instanceMethod yX0_changeNote ∈ T0 := tb4 (List.mem_of_getElem? (i := 43) (by decide +kernel)) rfl
theorem ki_X0_clear : Cond.instanceMethod yX0_clear ∈ T0 := tb2 (List.mem_of_getElem? (i := 171) (by decide +kernel)) rfl
theorem ki_X0_giveKey : Cond.instanceMethod yX0_giveKey ∈ T0 := tb4 (List.mem_of_getElem? (i := 58) (by decide +kernel)) rfl
theorem ki_X0_keep : Cond.instanceMethod yX0_keep ∈ T0 := tb4 (List.mem_of_getElem? (i := 49) (by decide +kernel)) rfl
theorem ki_X0_keepLatest : Cond.instanceMethod yX0_keepLatest ∈ T0 := tb4 (List.mem_of_getElem? (i := 52) (by decide +kernel)) rfl
theorem ki_X0_make : Cond.instanceMethod yX0_make ∈ T0 := tb4 (List.mem_of_getElem? (i := 38) (by decide +kernel)) rfl
theorem ki_X0_passDay : Cond.instanceMethod yX0_passDay ∈ T0 := tb4 (List.mem_of_getElem? (i := 79) (by decide +kernel)) rfl
theorem ki_X0_shiftMusic : Cond.instanceMethod yX0_shiftMusic ∈ T0 := tb4 (List.mem_of_getElem? (i := 63) (by decide +kernel)) rfl
theorem ki_X0_takeBack : Cond.instanceMethod yX0_takeBack ∈ T0 := tb4 (List.mem_of_getElem? (i := 86) (by decide +kernel)) rfl
theorem ki_X1_init : Cond.instanceMethod yX1_init ∈ T0 := tb2 (List.mem_of_getElem? (i := 54) (by decide +kernel)) rfl
theorem ki_X1_balanceOf : Cond.instanceMethod yX1_balanceOf ∈ T0 := tb5 (List.mem_of_getElem? (i := 26) (by decide +kernel)) rfl
theorem ki_X1_payments : Cond.instanceMethod yX1_payments ∈ T0 := tb5 (List.mem_of_getElem? (i := 20) (by decide +kernel)) rfl
theorem ki_X1_tally : Cond.instanceMethod yX1_tally ∈ T0 := tb5 (List.mem_of_getElem? (i := 7) (by decide +kernel)) rfl
theorem ki_X2_init : Cond.instanceMethod yX2_init ∈ T0 := tb1 (List.mem_of_getElem? (i := 223) (by decide +kernel)) rfl
theorem ki_X2_ask : Cond.instanceMethod yX2_ask ∈ T0 := tb2 (List.mem_of_getElem? (i := 209) (by decide +kernel)) rfl
theorem ki_X2_tellWords : Cond.instanceMethod yX2_tellWords ∈ T0 := tb2 (List.mem_of_getElem? (i := 222) (by decide +kernel)) rfl
theorem ki_X3_init : Cond.instanceMethod yX3_init ∈ T0 := tb2 (List.mem_of_getElem? (i := 17) (by decide +kernel)) rfl
theorem ki_X3_canHave : Cond.instanceMethod yX3_canHave ∈ T0 := tb4 (List.mem_of_getElem? (i := 0) (by decide +kernel)) rfl
theorem ki_X3_covered : Cond.instanceMethod yX3_covered ∈ T0 := tb4 (List.mem_of_getElem? (i := 17) (by decide +kernel)) rfl
theorem ki_X3_coveredBy : Cond.instanceMethod yX3_coveredBy ∈ T0 := tb4 (List.mem_of_getElem? (i := 13) (by decide +kernel)) rfl
theorem ki_X3_coveredFrom : Cond.instanceMethod yX3_coveredFrom ∈ T0 := tb4 (List.mem_of_getElem? (i := 24) (by decide +kernel)) rfl
theorem ki_X3_fewestHouses : Cond.instanceMethod yX3_fewestHouses ∈ T0 := tb4 (List.mem_of_getElem? (i := 197) (by decide +kernel)) rfl
theorem ki_X3_firstLost : Cond.instanceMethod yX3_firstLost ∈ T0 := tb3 (List.mem_of_getElem? (i := 236) (by decide +kernel)) rfl
theorem ki_X3_howManyWays : Cond.instanceMethod yX3_howManyWays ∈ T0 := tb4 (List.mem_of_getElem? (i := 175) (by decide +kernel)) rfl
theorem ki_X3_leaveKeyTo : Cond.instanceMethod yX3_leaveKeyTo ∈ T0 := tb4 (List.mem_of_getElem? (i := 190) (by decide +kernel)) rfl
theorem ki_X3_lightestWay : Cond.instanceMethod yX3_lightestWay ∈ T0 := tb4 (List.mem_of_getElem? (i := 144) (by decide +kernel)) rfl
theorem ki_X3_lookAt : Cond.instanceMethod yX3_lookAt ∈ T0 := tb4 (List.mem_of_getElem? (i := 5) (by decide +kernel)) rfl
theorem ki_X3_mindedAt : Cond.instanceMethod yX3_mindedAt ∈ T0 := tb4 (List.mem_of_getElem? (i := 157) (by decide +kernel)) rfl
theorem ki_X3_mindedInAll : Cond.instanceMethod yX3_mindedInAll ∈ T0 := tb4 (List.mem_of_getElem? (i := 140) (by decide +kernel)) rfl
theorem ki_X3_player : Cond.instanceMethod yX3_player ∈ T0 := tb4 (List.mem_of_getElem? (i := 167) (by decide +kernel)) rfl
theorem ki_X3_weighParts : Cond.instanceMethod yX3_weighParts ∈ T0 := tb4 (List.mem_of_getElem? (i := 153) (by decide +kernel)) rfl
theorem ki_X3_whoCould : Cond.instanceMethod yX3_whoCould ∈ T0 := tb4 (List.mem_of_getElem? (i := 184) (by decide +kernel)) rfl
theorem ki_X4_init : Cond.instanceMethod yX4_init ∈ T0 := tb1 (List.mem_of_getElem? (i := 122) (by decide +kernel)) rfl
theorem ki_X4_addToken : Cond.instanceMethod yX4_addToken ∈ T0 := tb3 (List.mem_of_getElem? (i := 59) (by decide +kernel)) rfl
theorem ki_X4_both : Cond.instanceMethod yX4_both ∈ T0 := tb3 (List.mem_of_getElem? (i := 187) (by decide +kernel)) rfl
theorem ki_X4_next : Cond.instanceMethod yX4_next ∈ T0 := tb3 (List.mem_of_getElem? (i := 141) (by decide +kernel)) rfl
theorem ki_X4_part : Cond.instanceMethod yX4_part ∈ T0 := tb3 (List.mem_of_getElem? (i := 153) (by decide +kernel)) rfl
theorem ki_X4_plain : Cond.instanceMethod yX4_plain ∈ T0 := tb3 (List.mem_of_getElem? (i := 191) (by decide +kernel)) rfl
theorem ki_X4_product : Cond.instanceMethod yX4_product ∈ T0 := tb3 (List.mem_of_getElem? (i := 149) (by decide +kernel)) rfl
theorem ki_X4_read : Cond.instanceMethod yX4_read ∈ T0 := tb3 (List.mem_of_getElem? (i := 38) (by decide +kernel)) rfl
theorem ki_X4_readCondition : Cond.instanceMethod yX4_readCondition ∈ T0 := tb3 (List.mem_of_getElem? (i := 179) (by decide +kernel)) rfl
theorem ki_X4_readOrder : Cond.instanceMethod yX4_readOrder ∈ T0 := tb3 (List.mem_of_getElem? (i := 133) (by decide +kernel)) rfl
theorem ki_X4_readOrderWord : Cond.instanceMethod yX4_readOrderWord ∈ T0 := tb3 (List.mem_of_getElem? (i := 161) (by decide +kernel)) rfl
theorem ki_X4_readRule : Cond.instanceMethod yX4_readRule ∈ T0 := tb3 (List.mem_of_getElem? (i := 202) (by decide +kernel)) rfl
theorem ki_X4_readRuleWord : Cond.instanceMethod yX4_readRuleWord ∈ T0 := tb3 (List.mem_of_getElem? (i := 168) (by decide +kernel)) rfl
theorem ki_X4_readTimes : Cond.instanceMethod yX4_readTimes ∈ T0 := tb3 (List.mem_of_getElem? (i := 175) (by decide +kernel)) rfl
theorem ki_X4_splitTape : Cond.instanceMethod yX4_splitTape ∈ T0 := tb3 (List.mem_of_getElem? (i := 43) (by decide +kernel)) rfl
theorem ki_X4_sum : Cond.instanceMethod yX4_sum ∈ T0 := tb3 (List.mem_of_getElem? (i := 145) (by decide +kernel)) rfl
theorem ki_X4_test : Cond.instanceMethod yX4_test ∈ T0 := tb3 (List.mem_of_getElem? (i := 183) (by decide +kernel)) rfl
theorem ki_X5_init : Cond.instanceMethod yX5_init ∈ T0 := tb1 (List.mem_of_getElem? (i := 229) (by decide +kernel)) rfl
theorem ki_X5_reckon : Cond.instanceMethod yX5_reckon ∈ T0 := tb2 (List.mem_of_getElem? (i := 225) (by decide +kernel)) rfl
theorem ki_X6_init : Cond.instanceMethod yX6_init ∈ T0 := tb2 (List.mem_of_getElem? (i := 88) (by decide +kernel)) rfl
theorem ki_X6_runAll : Cond.instanceMethod yX6_runAll ∈ T0 := tb3 (List.mem_of_getElem? (i := 218) (by decide +kernel)) rfl
theorem ki_X6_runOnce : Cond.instanceMethod yX6_runOnce ∈ T0 := tb4 (List.mem_of_getElem? (i := 29) (by decide +kernel)) rfl
theorem ki_X6_sumOf : Cond.instanceMethod yX6_sumOf ∈ T0 := tb4 (List.mem_of_getElem? (i := 35) (by decide +kernel)) rfl
theorem ki_X6_takeAllBack : Cond.instanceMethod yX6_takeAllBack ∈ T0 := tb4 (List.mem_of_getElem? (i := 83) (by decide +kernel)) rfl
theorem ki_X6_tellWords : Cond.instanceMethod yX6_tellWords ∈ T0 := tb3 (List.mem_of_getElem? (i := 223) (by decide +kernel)) rfl
theorem ki_X7_init : Cond.instanceMethod yX7_init ∈ T0 := tb1 (List.mem_of_getElem? (i := 32) (by decide +kernel)) rfl
theorem ki_X7_canShift : Cond.instanceMethod yX7_canShift ∈ T0 := tb4 (List.mem_of_getElem? (i := 66) (by decide +kernel)) rfl
theorem ki_X7_copyFrom : Cond.instanceMethod yX7_copyFrom ∈ T0 := tb4 (List.mem_of_getElem? (i := 216) (by decide +kernel)) rfl
theorem ki_X7_countNotes : Cond.instanceMethod yX7_countNotes ∈ T0 := tb3 (List.mem_of_getElem? (i := 226) (by decide +kernel)) rfl
theorem ki_X7_hasHouse : Cond.instanceMethod yX7_hasHouse ∈ T0 := tb2 (List.mem_of_getElem? (i := 183) (by decide +kernel)) rfl
theorem ki_X7_hasLaw : Cond.instanceMethod yX7_hasLaw ∈ T0 := tb2 (List.mem_of_getElem? (i := 217) (by decide +kernel)) rfl
theorem ki_X7_keysOf : Cond.instanceMethod yX7_keysOf ∈ T0 := tb2 (List.mem_of_getElem? (i := 187) (by decide +kernel)) rfl
theorem ki_X7_lawInForce : Cond.instanceMethod yX7_lawInForce ∈ T0 := tb2 (List.mem_of_getElem? (i := 213) (by decide +kernel)) rfl
theorem ki_X7_motifHasKeys : Cond.instanceMethod yX7_motifHasKeys ∈ T0 := tb4 (List.mem_of_getElem? (i := 234) (by decide +kernel)) rfl
theorem ki_X7_motifStands : Cond.instanceMethod yX7_motifStands ∈ T0 := tb4 (List.mem_of_getElem? (i := 238) (by decide +kernel)) rfl
theorem ki_X7_shiftBy : Cond.instanceMethod yX7_shiftBy ∈ T0 := tb4 (List.mem_of_getElem? (i := 73) (by decide +kernel)) rfl
theorem ki_X8_init : Cond.instanceMethod yX8_init ∈ T0 := tb1 (List.mem_of_getElem? (i := 105) (by decide +kernel)) rfl
theorem ki_X8_add : Cond.instanceMethod yX8_add ∈ T0 := tb3 (List.mem_of_getElem? (i := 14) (by decide +kernel)) rfl
theorem ki_X8_byteAt : Cond.instanceMethod yX8_byteAt ∈ T0 := tb3 (List.mem_of_getElem? (i := 26) (by decide +kernel)) rfl
theorem ki_X8_numberAt : Cond.instanceMethod yX8_numberAt ∈ T0 := tb3 (List.mem_of_getElem? (i := 63) (by decide +kernel)) rfl
theorem ki_X8_sameSigns : Cond.instanceMethod yX8_sameSigns ∈ T0 := tb3 (List.mem_of_getElem? (i := 125) (by decide +kernel)) rfl
theorem ki_X8_tokenEnd : Cond.instanceMethod yX8_tokenEnd ∈ T0 := tb3 (List.mem_of_getElem? (i := 46) (by decide +kernel)) rfl
theorem ki_X8_wordAt : Cond.instanceMethod yX8_wordAt ∈ T0 := tb3 (List.mem_of_getElem? (i := 71) (by decide +kernel)) rfl
theorem ki_X9_init : Cond.instanceMethod yX9_init ∈ T0 := tb1 (List.mem_of_getElem? (i := 128) (by decide +kernel)) rfl
theorem ki_X9_begin : Cond.instanceMethod yX9_begin ∈ T0 := tb3 (List.mem_of_getElem? (i := 136) (by decide +kernel)) rfl
theorem ki_X9_clear : Cond.instanceMethod yX9_clear ∈ T0 := tb3 (List.mem_of_getElem? (i := 128) (by decide +kernel)) rfl
theorem ki_X9_copy : Cond.instanceMethod yX9_copy ∈ T0 := tb3 (List.mem_of_getElem? (i := 205) (by decide +kernel)) rfl
theorem ki_X9_emit : Cond.instanceMethod yX9_emit ∈ T0 := tb3 (List.mem_of_getElem? (i := 156) (by decide +kernel)) rfl
theorem ki_X9_landHere : Cond.instanceMethod yX9_landHere ∈ T0 := tb3 (List.mem_of_getElem? (i := 197) (by decide +kernel)) rfl
theorem ki_X11_init : Cond.instanceMethod yX11_init ∈ T0 := tb5 (List.mem_of_getElem? (i := 77) (by decide +kernel)) rfl
theorem ki_X11_asks : Cond.instanceMethod yX11_asks ∈ T0 := tb6 (List.mem_of_getElem? (i := 62) (by decide +kernel)) rfl
theorem ki_X11_back : Cond.instanceMethod yX11_back ∈ T0 := tb6 (List.mem_of_getElem? (i := 16) (by decide +kernel)) rfl
theorem ki_X11_best : Cond.instanceMethod yX11_best ∈ T0 := tb7 (List.mem_of_getElem? (i := 111) (by decide +kernel)) rfl
theorem ki_X11_bothOf : Cond.instanceMethod yX11_bothOf ∈ T0 := tb6 (List.mem_of_getElem? (i := 123) (by decide +kernel)) rfl
theorem ki_X11_bounded : Cond.instanceMethod yX11_bounded ∈ T0 := tb6 (List.mem_of_getElem? (i := 113) (by decide +kernel)) rfl
theorem ki_X11_canHold : Cond.instanceMethod yX11_canHold ∈ T0 := tb7 (List.mem_of_getElem? (i := 49) (by decide +kernel)) rfl
theorem ki_X11_canPlay : Cond.instanceMethod yX11_canPlay ∈ T0 := tb6 (List.mem_of_getElem? (i := 136) (by decide +kernel)) rfl
theorem ki_X11_codeAt : Cond.instanceMethod yX11_codeAt ∈ T0 := tb6 (List.mem_of_getElem? (i := 79) (by decide +kernel)) rfl
theorem ki_X11_compare : Cond.instanceMethod yX11_compare ∈ T0 := tb7 (List.mem_of_getElem? (i := 74) (by decide +kernel)) rfl
theorem ki_X11_count : Cond.instanceMethod yX11_count ∈ T0 := tb8 (List.mem_of_getElem? (i := 22) (by decide +kernel)) rfl
theorem ki_X11_cover : Cond.instanceMethod yX11_cover ∈ T0 := tb7 (List.mem_of_getElem? (i := 95) (by decide +kernel)) rfl
theorem ki_X11_creaks : Cond.instanceMethod yX11_creaks ∈ T0 := tb6 (List.mem_of_getElem? (i := 153) (by decide +kernel)) rfl
theorem ki_X11_drawn : Cond.instanceMethod yX11_drawn ∈ T0 := tb8 (List.mem_of_getElem? (i := 18) (by decide +kernel)) rfl
theorem ki_X11_draws : Cond.instanceMethod yX11_draws ∈ T0 := tb8 (List.mem_of_getElem? (i := 12) (by decide +kernel)) rfl
theorem ki_X11_drill : Cond.instanceMethod yX11_drill ∈ T0 := tb7 (List.mem_of_getElem? (i := 28) (by decide +kernel)) rfl
theorem ki_X11_end : Cond.instanceMethod yX11_end ∈ T0 := tb6 (List.mem_of_getElem? (i := 161) (by decide +kernel)) rfl
theorem ki_X11_evenings : Cond.instanceMethod yX11_evenings ∈ T0 := tb8 (List.mem_of_getElem? (i := 3) (by decide +kernel)) rfl
theorem ki_X11_fault : Cond.instanceMethod yX11_fault ∈ T0 := tb7 (List.mem_of_getElem? (i := 16) (by decide +kernel)) rfl
theorem ki_X11_faults : Cond.instanceMethod yX11_faults ∈ T0 := tb6 (List.mem_of_getElem? (i := 221) (by decide +kernel)) rfl
theorem ki_X11_feed : Cond.instanceMethod yX11_feed ∈ T0 := tb6 (List.mem_of_getElem? (i := 157) (by decide +kernel)) rfl
theorem ki_X11_few : Cond.instanceMethod yX11_few ∈ T0 := tb7 (List.mem_of_getElem? (i := 154) (by decide +kernel)) rfl
theorem ki_X11_find : Cond.instanceMethod yX11_find ∈ T0 := tb7 (List.mem_of_getElem? (i := 123) (by decide +kernel)) rfl
theorem ki_X11_fine : Cond.instanceMethod yX11_fine ∈ T0 := tb6 (List.mem_of_getElem? (i := 205) (by decide +kernel)) rfl
theorem ki_X11_force : Cond.instanceMethod yX11_force ∈ T0 := tb7 (List.mem_of_getElem? (i := 20) (by decide +kernel)) rfl
theorem ki_X11_forget : Cond.instanceMethod yX11_forget ∈ T0 := tb7 (List.mem_of_getElem? (i := 119) (by decide +kernel)) rfl
theorem ki_X11_give : Cond.instanceMethod yX11_give ∈ T0 := tb7 (List.mem_of_getElem? (i := 181) (by decide +kernel)) rfl
theorem ki_X11_givesKept : Cond.instanceMethod yX11_givesKept ∈ T0 := tb7 (List.mem_of_getElem? (i := 186) (by decide +kernel)) rfl
theorem ki_X11_givesNothing : Cond.instanceMethod yX11_givesNothing ∈ T0 := tb7 (List.mem_of_getElem? (i := 56) (by decide +kernel)) rfl
theorem ki_X11_goesAlong : Cond.instanceMethod yX11_goesAlong ∈ T0 := tb7 (List.mem_of_getElem? (i := 222) (by decide +kernel)) rfl
theorem ki_X11_good : Cond.instanceMethod yX11_good ∈ T0 := tb6 (List.mem_of_getElem? (i := 13) (by decide +kernel)) rfl
theorem ki_X11_goodAnew : Cond.instanceMethod yX11_goodAnew ∈ T0 := tb6 (List.mem_of_getElem? (i := 21) (by decide +kernel)) rfl
theorem ki_X11_goodOr : Cond.instanceMethod yX11_goodOr ∈ T0 := tb7 (List.mem_of_getElem? (i := 178) (by decide +kernel)) rfl
theorem ki_X11_happens : Cond.instanceMethod yX11_happens ∈ T0 := tb8 (List.mem_of_getElem? (i := 8) (by decide +kernel)) rfl
theorem ki_X11_hasSet : Cond.instanceMethod yX11_hasSet ∈ T0 := tb7 (List.mem_of_getElem? (i := 104) (by decide +kernel)) rfl
theorem ki_X11_hasWord : Cond.instanceMethod yX11_hasWord ∈ T0 := tb7 (List.mem_of_getElem? (i := 226) (by decide +kernel)) rfl
theorem ki_X11_house : Cond.instanceMethod yX11_house ∈ T0 := tb6 (List.mem_of_getElem? (i := 24) (by decide +kernel)) rfl
theorem ki_X11_image : Cond.instanceMethod yX11_image ∈ T0 := tb6 (List.mem_of_getElem? (i := 1) (by decide +kernel)) rfl
theorem ki_X11_isFound : Cond.instanceMethod yX11_isFound ∈ T0 := tb7 (List.mem_of_getElem? (i := 132) (by decide +kernel)) rfl
theorem ki_X11_isHouse : Cond.instanceMethod yX11_isHouse ∈ T0 := tb6 (List.mem_of_getElem? (i := 37) (by decide +kernel)) rfl
theorem ki_X11_isLaw : Cond.instanceMethod yX11_isLaw ∈ T0 := tb7 (List.mem_of_getElem? (i := 25) (by decide +kernel)) rfl
theorem ki_X11_isSilent : Cond.instanceMethod yX11_isSilent ∈ T0 := tb7 (List.mem_of_getElem? (i := 128) (by decide +kernel)) rfl
theorem ki_X11_keeps : Cond.instanceMethod yX11_keeps ∈ T0 := tb7 (List.mem_of_getElem? (i := 174) (by decide +kernel)) rfl
theorem ki_X11_law : Cond.instanceMethod yX11_law ∈ T0 := tb6 (List.mem_of_getElem? (i := 165) (by decide +kernel)) rfl
theorem ki_X11_lays : Cond.instanceMethod yX11_lays ∈ T0 := tb7 (List.mem_of_getElem? (i := 13) (by decide +kernel)) rfl
theorem ki_X11_laysAside : Cond.instanceMethod yX11_laysAside ∈ T0 := tb7 (List.mem_of_getElem? (i := 214) (by decide +kernel)) rfl
theorem ki_X11_laysCrowds : Cond.instanceMethod yX11_laysCrowds ∈ T0 := tb7 (List.mem_of_getElem? (i := 100) (by decide +kernel)) rfl
theorem ki_X11_laysDebts : Cond.instanceMethod yX11_laysDebts ∈ T0 := tb7 (List.mem_of_getElem? (i := 140) (by decide +kernel)) rfl
theorem ki_X11_laysParts : Cond.instanceMethod yX11_laysParts ∈ T0 := tb7 (List.mem_of_getElem? (i := 41) (by decide +kernel)) rfl
theorem ki_X11_laysWay : Cond.instanceMethod yX11_laysWay ∈ T0 := tb7 (List.mem_of_getElem? (i := 84) (by decide +kernel)) rfl
theorem ki_X11_leaf : Cond.instanceMethod yX11_leaf ∈ T0 := tb6 (List.mem_of_getElem? (i := 229) (by decide +kernel)) rfl
theorem ki_X11_least : Cond.instanceMethod yX11_least ∈ T0 := tb7 (List.mem_of_getElem? (i := 63) (by decide +kernel)) rfl
theorem ki_X11_leastAt : Cond.instanceMethod yX11_leastAt ∈ T0 := tb7 (List.mem_of_getElem? (i := 33) (by decide +kernel)) rfl
theorem ki_X11_leastOf : Cond.instanceMethod yX11_leastOf ∈ T0 := tb7 (List.mem_of_getElem? (i := 60) (by decide +kernel)) rfl
theorem ki_X11_leastOfAll : Cond.instanceMethod yX11_leastOfAll ∈ T0 := tb7 (List.mem_of_getElem? (i := 68) (by decide +kernel)) rfl
theorem ki_X11_many : Cond.instanceMethod yX11_many ∈ T0 := tb6 (List.mem_of_getElem? (i := 29) (by decide +kernel)) rfl
theorem ki_X11_might : Cond.instanceMethod yX11_might ∈ T0 := tb7 (List.mem_of_getElem? (i := 91) (by decide +kernel)) rfl
theorem ki_X11_mindedAt : Cond.instanceMethod yX11_mindedAt ∈ T0 := tb6 (List.mem_of_getElem? (i := 67) (by decide +kernel)) rfl
theorem ki_X11_mindedOf : Cond.instanceMethod yX11_mindedOf ∈ T0 := tb7 (List.mem_of_getElem? (i := 37) (by decide +kernel)) rfl
theorem ki_X11_motif : Cond.instanceMethod yX11_motif ∈ T0 := tb7 (List.mem_of_getElem? (i := 115) (by decide +kernel)) rfl
theorem ki_X11_music : Cond.instanceMethod yX11_music ∈ T0 := tb6 (List.mem_of_getElem? (i := 51) (by decide +kernel)) rfl
theorem ki_X11_musicAt : Cond.instanceMethod yX11_musicAt ∈ T0 := tb6 (List.mem_of_getElem? (i := 59) (by decide +kernel)) rfl
theorem ki_X11_must : Cond.instanceMethod yX11_must ∈ T0 := tb6 (List.mem_of_getElem? (i := 225) (by decide +kernel)) rfl
theorem ki_X11_mustNumber : Cond.instanceMethod yX11_mustNumber ∈ T0 := tb6 (List.mem_of_getElem? (i := 233) (by decide +kernel)) rfl
theorem ki_X11_note : Cond.instanceMethod yX11_note ∈ T0 := tb7 (List.mem_of_getElem? (i := 165) (by decide +kernel)) rfl
theorem ki_X11_notes0 : Cond.instanceMethod yX11_notes0 ∈ T0 := tb6 (List.mem_of_getElem? (i := 106) (by decide +kernel)) rfl
theorem ki_X11_notesKept : Cond.instanceMethod yX11_notesKept ∈ T0 := tb7 (List.mem_of_getElem? (i := 170) (by decide +kernel)) rfl
theorem ki_X11_obeys : Cond.instanceMethod yX11_obeys ∈ T0 := tb7 (List.mem_of_getElem? (i := 231) (by decide +kernel)) rfl
theorem ki_X11_of : Cond.instanceMethod yX11_of ∈ T0 := tb6 (List.mem_of_getElem? (i := 32) (by decide +kernel)) rfl
theorem ki_X11_orderValue : Cond.instanceMethod yX11_orderValue ∈ T0 := tb6 (List.mem_of_getElem? (i := 102) (by decide +kernel)) rfl
theorem ki_X11_orders : Cond.instanceMethod yX11_orders ∈ T0 := tb7 (List.mem_of_getElem? (i := 209) (by decide +kernel)) rfl
theorem ki_X11_owedMore : Cond.instanceMethod yX11_owedMore ∈ T0 := tb7 (List.mem_of_getElem? (i := 148) (by decide +kernel)) rfl
theorem ki_X11_owes : Cond.instanceMethod yX11_owes ∈ T0 := tb7 (List.mem_of_getElem? (i := 135) (by decide +kernel)) rfl
theorem ki_X11_ownedBy : Cond.instanceMethod yX11_ownedBy ∈ T0 := tb6 (List.mem_of_getElem? (i := 41) (by decide +kernel)) rfl
theorem ki_X11_owner : Cond.instanceMethod yX11_owner ∈ T0 := tb6 (List.mem_of_getElem? (i := 44) (by decide +kernel)) rfl
theorem ki_X11_partOf : Cond.instanceMethod yX11_partOf ∈ T0 := tb6 (List.mem_of_getElem? (i := 91) (by decide +kernel)) rfl
theorem ki_X11_pass : Cond.instanceMethod yX11_pass ∈ T0 := tb7 (List.mem_of_getElem? (i := 197) (by decide +kernel)) rfl
theorem ki_X11_passes0 : Cond.instanceMethod yX11_passes0 ∈ T0 := tb6 (List.mem_of_getElem? (i := 98) (by decide +kernel)) rfl
theorem ki_X11_passesKept : Cond.instanceMethod yX11_passesKept ∈ T0 := tb7 (List.mem_of_getElem? (i := 202) (by decide +kernel)) rfl
theorem ki_X11_plainOf : Cond.instanceMethod yX11_plainOf ∈ T0 := tb6 (List.mem_of_getElem? (i := 127) (by decide +kernel)) rfl
theorem ki_X11_positiveOf : Cond.instanceMethod yX11_positiveOf ∈ T0 := tb6 (List.mem_of_getElem? (i := 131) (by decide +kernel)) rfl
theorem ki_X11_readBoth : Cond.instanceMethod yX11_readBoth ∈ T0 := tb7 (List.mem_of_getElem? (i := 1) (by decide +kernel)) rfl
theorem ki_X11_readClause : Cond.instanceMethod yX11_readClause ∈ T0 := tb7 (List.mem_of_getElem? (i := 9) (by decide +kernel)) rfl
theorem ki_X11_readOne : Cond.instanceMethod yX11_readOne ∈ T0 := tb6 (List.mem_of_getElem? (i := 193) (by decide +kernel)) rfl
theorem ki_X11_readOrder : Cond.instanceMethod yX11_readOrder ∈ T0 := tb6 (List.mem_of_getElem? (i := 197) (by decide +kernel)) rfl
theorem ki_X11_readPart : Cond.instanceMethod yX11_readPart ∈ T0 := tb6 (List.mem_of_getElem? (i := 217) (by decide +kernel)) rfl
theorem ki_X11_readPlain : Cond.instanceMethod yX11_readPlain ∈ T0 := tb7 (List.mem_of_getElem? (i := 5) (by decide +kernel)) rfl
theorem ki_X11_readSum : Cond.instanceMethod yX11_readSum ∈ T0 := tb6 (List.mem_of_getElem? (i := 209) (by decide +kernel)) rfl
theorem ki_X11_readTerm : Cond.instanceMethod yX11_readTerm ∈ T0 := tb6 (List.mem_of_getElem? (i := 213) (by decide +kernel)) rfl
theorem ki_X11_readTest : Cond.instanceMethod yX11_readTest ∈ T0 := tb6 (List.mem_of_getElem? (i := 237) (by decide +kernel)) rfl
theorem ki_X11_reads : Cond.instanceMethod yX11_reads ∈ T0 := tb6 (List.mem_of_getElem? (i := 174) (by decide +kernel)) rfl
theorem ki_X11_readsAs : Cond.instanceMethod yX11_readsAs ∈ T0 := tb6 (List.mem_of_getElem? (i := 170) (by decide +kernel)) rfl
theorem ki_X11_refuses : Cond.instanceMethod yX11_refuses ∈ T0 := tb6 (List.mem_of_getElem? (i := 9) (by decide +kernel)) rfl
theorem ki_X11_row : Cond.instanceMethod yX11_row ∈ T0 := tb6 (List.mem_of_getElem? (i := 149) (by decide +kernel)) rfl
theorem ki_X11_run : Cond.instanceMethod yX11_run ∈ T0 := tb7 (List.mem_of_getElem? (i := 107) (by decide +kernel)) rfl
theorem ki_X11_runs : Cond.instanceMethod yX11_runs ∈ T0 := tb7 (List.mem_of_getElem? (i := 218) (by decide +kernel)) rfl
theorem ki_X11_setsAsked : Cond.instanceMethod yX11_setsAsked ∈ T0 := tb6 (List.mem_of_getElem? (i := 75) (by decide +kernel)) rfl
theorem ki_X11_settled : Cond.instanceMethod yX11_settled ∈ T0 := tb7 (List.mem_of_getElem? (i := 143) (by decide +kernel)) rfl
theorem ki_X11_shift : Cond.instanceMethod yX11_shift ∈ T0 := tb7 (List.mem_of_getElem? (i := 189) (by decide +kernel)) rfl
theorem ki_X11_shiftsKept : Cond.instanceMethod yX11_shiftsKept ∈ T0 := tb7 (List.mem_of_getElem? (i := 194) (by decide +kernel)) rfl
theorem ki_X11_splits : Cond.instanceMethod yX11_splits ∈ T0 := tb6 (List.mem_of_getElem? (i := 178) (by decide +kernel)) rfl
theorem ki_X11_status : Cond.instanceMethod yX11_status ∈ T0 := tb8 (List.mem_of_getElem? (i := 26) (by decide +kernel)) rfl
theorem ki_X11_stopped : Cond.instanceMethod yX11_stopped ∈ T0 := tb7 (List.mem_of_getElem? (i := 205) (by decide +kernel)) rfl
theorem ki_X11_sumOf : Cond.instanceMethod yX11_sumOf ∈ T0 := tb6 (List.mem_of_getElem? (i := 83) (by decide +kernel)) rfl
theorem ki_X11_takes0 : Cond.instanceMethod yX11_takes0 ∈ T0 := tb6 (List.mem_of_getElem? (i := 201) (by decide +kernel)) rfl
theorem ki_X11_takesBack : Cond.instanceMethod yX11_takesBack ∈ T0 := tb8 (List.mem_of_getElem? (i := 0) (by decide +kernel)) rfl
theorem ki_X11_tells : Cond.instanceMethod yX11_tells ∈ T0 := tb6 (List.mem_of_getElem? (i := 71) (by decide +kernel)) rfl
theorem ki_X11_termOf : Cond.instanceMethod yX11_termOf ∈ T0 := tb6 (List.mem_of_getElem? (i := 87) (by decide +kernel)) rfl
theorem ki_X11_terms : Cond.instanceMethod yX11_terms ∈ T0 := tb6 (List.mem_of_getElem? (i := 139) (by decide +kernel)) rfl
theorem ki_X11_testOf : Cond.instanceMethod yX11_testOf ∈ T0 := tb6 (List.mem_of_getElem? (i := 119) (by decide +kernel)) rfl
theorem ki_X11_undo : Cond.instanceMethod yX11_undo ∈ T0 := tb7 (List.mem_of_getElem? (i := 161) (by decide +kernel)) rfl
theorem ki_X11_ways : Cond.instanceMethod yX11_ways ∈ T0 := tb7 (List.mem_of_getElem? (i := 87) (by decide +kernel)) rfl
theorem ki_X11_who : Cond.instanceMethod yX11_who ∈ T0 := tb7 (List.mem_of_getElem? (i := 79) (by decide +kernel)) rfl
theorem ki_X11_wordOf : Cond.instanceMethod yX11_wordOf ∈ T0 := tb6 (List.mem_of_getElem? (i := 188) (by decide +kernel)) rfl
theorem ki_objectInit : Cond.instanceMethod Lib.objectInit ∈ T0 := tb1 (List.mem_of_getElem? (i := 27) (by decide +kernel)) rfl
theorem ki_J0_charAt_5068e : Cond.instanceMethod yJ0_charAt_5068e ∈ T0 := tb3 (List.mem_of_getElem? (i := 86) (by decide +kernel)) rfl
theorem ki_J0_coder_7d493 : Cond.instanceMethod yJ0_coder_7d493 ∈ T0 := tb3 (List.mem_of_getElem? (i := 80) (by decide +kernel)) rfl
theorem ki_J0_isLatin1_aae02 : Cond.instanceMethod yJ0_isLatin1_aae02 ∈ T0 := tb3 (List.mem_of_getElem? (i := 90) (by decide +kernel)) rfl
theorem ki_J0_length_8abf5 : Cond.instanceMethod yJ0_length_8abf5 ∈ T0 := tb3 (List.mem_of_getElem? (i := 76) (by decide +kernel)) rfl
theorem ke_X10_asks : Cond.selects yX10_asks.cls yX10_asks yX10_asks ∈ T0 := tb2 (List.mem_of_getElem? (i := 206) (by decide +kernel)) rfl
theorem ke_X10_back : Cond.selects yX10_back.cls yX10_back yX10_back ∈ T0 := tb5 (List.mem_of_getElem? (i := 63) (by decide +kernel)) rfl
theorem ke_X10_best : Cond.selects yX10_best.cls yX10_best yX10_best ∈ T0 := tb4 (List.mem_of_getElem? (i := 208) (by decide +kernel)) rfl
theorem ke_X10_compare : Cond.selects yX10_compare.cls yX10_compare yX10_compare ∈ T0 := tb5 (List.mem_of_getElem? (i := 38) (by decide +kernel)) rfl
theorem ke_X10_count : Cond.selects yX10_count.cls yX10_count yX10_count ∈ T0 := tb5 (List.mem_of_getElem? (i := 67) (by decide +kernel)) rfl
theorem ke_X10_cover : Cond.selects yX10_cover.cls yX10_cover yX10_cover ∈ T0 := tb4 (List.mem_of_getElem? (i := 194) (by decide +kernel)) rfl
theorem ke_X10_creaks : Cond.selects yX10_creaks.cls yX10_creaks yX10_creaks ∈ T0 := tb3 (List.mem_of_getElem? (i := 31) (by decide +kernel)) rfl
theorem ke_X10_drawn : Cond.selects yX10_drawn.cls yX10_drawn yX10_drawn ∈ T0 := tb5 (List.mem_of_getElem? (i := 55) (by decide +kernel)) rfl
theorem ke_X10_drill : Cond.selects yX10_drill.cls yX10_drill yX10_drill ∈ T0 := tb4 (List.mem_of_getElem? (i := 132) (by decide +kernel)) rfl
theorem ke_X10_end : Cond.selects yX10_end.cls yX10_end yX10_end ∈ T0 := tb3 (List.mem_of_getElem? (i := 19) (by decide +kernel)) rfl
theorem ke_X10_evenings : Cond.selects yX10_evenings.cls yX10_evenings yX10_evenings ∈ T0 := tb5 (List.mem_of_getElem? (i := 42) (by decide +kernel)) rfl
theorem ke_X10_fault : Cond.selects yX10_fault.cls yX10_fault yX10_fault ∈ T0 := tb4 (List.mem_of_getElem? (i := 92) (by decide +kernel)) rfl
theorem ke_X10_feed : Cond.selects yX10_feed.cls yX10_feed yX10_feed ∈ T0 := tb3 (List.mem_of_getElem? (i := 11) (by decide +kernel)) rfl
theorem ke_X10_few : Cond.selects yX10_few.cls yX10_few yX10_few ∈ T0 := tb5 (List.mem_of_getElem? (i := 30) (by decide +kernel)) rfl
theorem ke_X10_find : Cond.selects yX10_find.cls yX10_find yX10_find ∈ T0 := tb4 (List.mem_of_getElem? (i := 231) (by decide +kernel)) rfl
theorem ke_X10_force : Cond.selects yX10_force.cls yX10_force yX10_force ∈ T0 := tb4 (List.mem_of_getElem? (i := 100) (by decide +kernel)) rfl
theorem ke_X10_forget : Cond.selects yX10_forget.cls yX10_forget yX10_forget ∈ T0 := tb4 (List.mem_of_getElem? (i := 227) (by decide +kernel)) rfl
theorem ke_X10_give : Cond.selects yX10_give.cls yX10_give yX10_give ∈ T0 := tb4 (List.mem_of_getElem? (i := 115) (by decide +kernel)) rfl
theorem ke_X10_house : Cond.selects yX10_house.cls yX10_house yX10_house ∈ T0 := tb2 (List.mem_of_getElem? (i := 164) (by decide +kernel)) rfl
theorem ke_X10_image : Cond.selects yX10_image.cls yX10_image yX10_image ∈ T0 := tb5 (List.mem_of_getElem? (i := 59) (by decide +kernel)) rfl
theorem ke_X10_law : Cond.selects yX10_law.cls yX10_law yX10_law ∈ T0 := tb3 (List.mem_of_getElem? (i := 35) (by decide +kernel)) rfl
theorem ke_X10_least : Cond.selects yX10_least.cls yX10_least yX10_least ∈ T0 := tb4 (List.mem_of_getElem? (i := 137) (by decide +kernel)) rfl
theorem ke_X10_might : Cond.selects yX10_might.cls yX10_might yX10_might ∈ T0 := tb4 (List.mem_of_getElem? (i := 181) (by decide +kernel)) rfl
theorem ke_X10_motif : Cond.selects yX10_motif.cls yX10_motif yX10_motif ∈ T0 := tb4 (List.mem_of_getElem? (i := 223) (by decide +kernel)) rfl
theorem ke_X10_music : Cond.selects yX10_music.cls yX10_music yX10_music ∈ T0 := tb2 (List.mem_of_getElem? (i := 199) (by decide +kernel)) rfl
theorem ke_X10_note : Cond.selects yX10_note.cls yX10_note yX10_note ∈ T0 := tb4 (List.mem_of_getElem? (i := 105) (by decide +kernel)) rfl
theorem ke_X10_of : Cond.selects yX10_of.cls yX10_of yX10_of ∈ T0 := tb2 (List.mem_of_getElem? (i := 180) (by decide +kernel)) rfl
theorem ke_X10_orders : Cond.selects yX10_orders.cls yX10_orders yX10_orders ∈ T0 := tb3 (List.mem_of_getElem? (i := 215) (by decide +kernel)) rfl
theorem ke_X10_owes : Cond.selects yX10_owes.cls yX10_owes yX10_owes ∈ T0 := tb5 (List.mem_of_getElem? (i := 4) (by decide +kernel)) rfl
theorem ke_X10_owner : Cond.selects yX10_owner.cls yX10_owner yX10_owner ∈ T0 := tb2 (List.mem_of_getElem? (i := 192) (by decide +kernel)) rfl
theorem ke_X10_pass : Cond.selects yX10_pass.cls yX10_pass yX10_pass ∈ T0 := tb4 (List.mem_of_getElem? (i := 123) (by decide +kernel)) rfl
theorem ke_X10_row : Cond.selects yX10_row.cls yX10_row yX10_row ∈ T0 := tb3 (List.mem_of_getElem? (i := 23) (by decide +kernel)) rfl
theorem ke_X10_run : Cond.selects yX10_run.cls yX10_run yX10_run ∈ T0 := tb4 (List.mem_of_getElem? (i := 203) (by decide +kernel)) rfl
theorem ke_X10_settled : Cond.selects yX10_settled.cls yX10_settled yX10_settled ∈ T0 := tb5 (List.mem_of_getElem? (i := 17) (by decide +kernel)) rfl
theorem ke_X10_shift : Cond.selects yX10_shift.cls yX10_shift yX10_shift ∈ T0 := tb4 (List.mem_of_getElem? (i := 119) (by decide +kernel)) rfl
theorem ke_X10_status : Cond.selects yX10_status.cls yX10_status yX10_status ∈ T0 := tb5 (List.mem_of_getElem? (i := 72) (by decide +kernel)) rfl
theorem ke_X10_stopped : Cond.selects yX10_stopped.cls yX10_stopped yX10_stopped ∈ T0 := tb4 (List.mem_of_getElem? (i := 96) (by decide +kernel)) rfl
theorem ke_X10_terms : Cond.selects yX10_terms.cls yX10_terms yX10_terms ∈ T0 := tb3 (List.mem_of_getElem? (i := 4) (by decide +kernel)) rfl
theorem ke_X10_undo : Cond.selects yX10_undo.cls yX10_undo yX10_undo ∈ T0 := tb4 (List.mem_of_getElem? (i := 127) (by decide +kernel)) rfl
theorem ke_X10_ways : Cond.selects yX10_ways.cls yX10_ways yX10_ways ∈ T0 := tb4 (List.mem_of_getElem? (i := 172) (by decide +kernel)) rfl
theorem ke_X10_who : Cond.selects yX10_who.cls yX10_who yX10_who ∈ T0 := tb4 (List.mem_of_getElem? (i := 162) (by decide +kernel)) rfl
theorem ke_X0_clear : Cond.selects yX0_clear.cls yX0_clear yX0_clear ∈ T0 := tb2 (List.mem_of_getElem? (i := 172) (by decide +kernel)) rfl
theorem ke_X0_keepLatest : Cond.selects yX0_keepLatest.cls yX0_keepLatest yX0_keepLatest ∈ T0 := tb4 (List.mem_of_getElem? (i := 53) (by decide +kernel)) rfl
theorem ke_X0_make : Cond.selects yX0_make.cls yX0_make yX0_make ∈ T0 := tb4 (List.mem_of_getElem? (i := 39) (by decide +kernel)) rfl
theorem ke_X0_takeBack : Cond.selects yX0_takeBack.cls yX0_takeBack yX0_takeBack ∈ T0 := tb4 (List.mem_of_getElem? (i := 87) (by decide +kernel)) rfl
theorem ke_X1_payments : Cond.selects yX1_payments.cls yX1_payments yX1_payments ∈ T0 := tb5 (List.mem_of_getElem? (i := 21) (by decide +kernel)) rfl
theorem ke_X1_tally : Cond.selects yX1_tally.cls yX1_tally yX1_tally ∈ T0 := tb5 (List.mem_of_getElem? (i := 8) (by decide +kernel)) rfl
theorem ke_X2_ask : Cond.selects yX2_ask.cls yX2_ask yX2_ask ∈ T0 := tb2 (List.mem_of_getElem? (i := 210) (by decide +kernel)) rfl
theorem ke_X3_canHave : Cond.selects yX3_canHave.cls yX3_canHave yX3_canHave ∈ T0 := tb4 (List.mem_of_getElem? (i := 1) (by decide +kernel)) rfl
theorem ke_X3_fewestHouses : Cond.selects yX3_fewestHouses.cls yX3_fewestHouses yX3_fewestHouses ∈ T0 := tb4 (List.mem_of_getElem? (i := 198) (by decide +kernel)) rfl
theorem ke_X3_firstLost : Cond.selects yX3_firstLost.cls yX3_firstLost yX3_firstLost ∈ T0 := tb3 (List.mem_of_getElem? (i := 237) (by decide +kernel)) rfl
theorem ke_X3_howManyWays : Cond.selects yX3_howManyWays.cls yX3_howManyWays yX3_howManyWays ∈ T0 := tb4 (List.mem_of_getElem? (i := 176) (by decide +kernel)) rfl
theorem ke_X3_lightestWay : Cond.selects yX3_lightestWay.cls yX3_lightestWay yX3_lightestWay ∈ T0 := tb4 (List.mem_of_getElem? (i := 145) (by decide +kernel)) rfl
theorem ke_X3_mindedAt : Cond.selects yX3_mindedAt.cls yX3_mindedAt yX3_mindedAt ∈ T0 := tb4 (List.mem_of_getElem? (i := 158) (by decide +kernel)) rfl
theorem ke_X3_mindedInAll : Cond.selects yX3_mindedInAll.cls yX3_mindedInAll yX3_mindedInAll ∈ T0 := tb4 (List.mem_of_getElem? (i := 141) (by decide +kernel)) rfl
theorem ke_X3_player : Cond.selects yX3_player.cls yX3_player yX3_player ∈ T0 := tb4 (List.mem_of_getElem? (i := 168) (by decide +kernel)) rfl
theorem ke_X3_whoCould : Cond.selects yX3_whoCould.cls yX3_whoCould yX3_whoCould ∈ T0 := tb4 (List.mem_of_getElem? (i := 185) (by decide +kernel)) rfl
theorem ke_X4_read : Cond.selects yX4_read.cls yX4_read yX4_read ∈ T0 := tb3 (List.mem_of_getElem? (i := 39) (by decide +kernel)) rfl
theorem ke_X5_reckon : Cond.selects yX5_reckon.cls yX5_reckon yX5_reckon ∈ T0 := tb2 (List.mem_of_getElem? (i := 226) (by decide +kernel)) rfl
theorem ke_X6_runAll : Cond.selects yX6_runAll.cls yX6_runAll yX6_runAll ∈ T0 := tb3 (List.mem_of_getElem? (i := 219) (by decide +kernel)) rfl
theorem ke_X7_canShift : Cond.selects yX7_canShift.cls yX7_canShift yX7_canShift ∈ T0 := tb4 (List.mem_of_getElem? (i := 67) (by decide +kernel)) rfl
theorem ke_X7_copyFrom : Cond.selects yX7_copyFrom.cls yX7_copyFrom yX7_copyFrom ∈ T0 := tb4 (List.mem_of_getElem? (i := 217) (by decide +kernel)) rfl
theorem ke_X7_countNotes : Cond.selects yX7_countNotes.cls yX7_countNotes yX7_countNotes ∈ T0 := tb3 (List.mem_of_getElem? (i := 227) (by decide +kernel)) rfl
theorem ke_X7_hasHouse : Cond.selects yX7_hasHouse.cls yX7_hasHouse yX7_hasHouse ∈ T0 := tb2 (List.mem_of_getElem? (i := 184) (by decide +kernel)) rfl
theorem ke_X7_hasLaw : Cond.selects yX7_hasLaw.cls yX7_hasLaw yX7_hasLaw ∈ T0 := tb2 (List.mem_of_getElem? (i := 218) (by decide +kernel)) rfl
theorem ke_X7_keysOf : Cond.selects yX7_keysOf.cls yX7_keysOf yX7_keysOf ∈ T0 := tb2 (List.mem_of_getElem? (i := 188) (by decide +kernel)) rfl
theorem ke_X7_lawInForce : Cond.selects yX7_lawInForce.cls yX7_lawInForce yX7_lawInForce ∈ T0 := tb2 (List.mem_of_getElem? (i := 214) (by decide +kernel)) rfl
theorem ke_X7_motifHasKeys : Cond.selects yX7_motifHasKeys.cls yX7_motifHasKeys yX7_motifHasKeys ∈ T0 := tb4 (List.mem_of_getElem? (i := 235) (by decide +kernel)) rfl
theorem ke_X7_motifStands : Cond.selects yX7_motifStands.cls yX7_motifStands yX7_motifStands ∈ T0 := tb4 (List.mem_of_getElem? (i := 239) (by decide +kernel)) rfl
theorem ke_X7_shiftBy : Cond.selects yX7_shiftBy.cls yX7_shiftBy yX7_shiftBy ∈ T0 := tb4 (List.mem_of_getElem? (i := 74) (by decide +kernel)) rfl
theorem ke_X8_add : Cond.selects yX8_add.cls yX8_add yX8_add ∈ T0 := tb3 (List.mem_of_getElem? (i := 15) (by decide +kernel)) rfl
theorem ke_X8_byteAt : Cond.selects yX8_byteAt.cls yX8_byteAt yX8_byteAt ∈ T0 := tb3 (List.mem_of_getElem? (i := 27) (by decide +kernel)) rfl
theorem ke_X8_numberAt : Cond.selects yX8_numberAt.cls yX8_numberAt yX8_numberAt ∈ T0 := tb3 (List.mem_of_getElem? (i := 64) (by decide +kernel)) rfl
theorem ke_X8_tokenEnd : Cond.selects yX8_tokenEnd.cls yX8_tokenEnd yX8_tokenEnd ∈ T0 := tb3 (List.mem_of_getElem? (i := 47) (by decide +kernel)) rfl
theorem ke_X8_wordAt : Cond.selects yX8_wordAt.cls yX8_wordAt yX8_wordAt ∈ T0 := tb3 (List.mem_of_getElem? (i := 72) (by decide +kernel)) rfl
theorem ke_X9_begin : Cond.selects yX9_begin.cls yX9_begin yX9_begin ∈ T0 := tb3 (List.mem_of_getElem? (i := 137) (by decide +kernel)) rfl
theorem ke_X9_clear : Cond.selects yX9_clear.cls yX9_clear yX9_clear ∈ T0 := tb3 (List.mem_of_getElem? (i := 129) (by decide +kernel)) rfl
theorem ke_X9_copy : Cond.selects yX9_copy.cls yX9_copy yX9_copy ∈ T0 := tb3 (List.mem_of_getElem? (i := 206) (by decide +kernel)) rfl
theorem ke_X9_emit : Cond.selects yX9_emit.cls yX9_emit yX9_emit ∈ T0 := tb3 (List.mem_of_getElem? (i := 157) (by decide +kernel)) rfl
theorem ke_X9_landHere : Cond.selects yX9_landHere.cls yX9_landHere yX9_landHere ∈ T0 := tb3 (List.mem_of_getElem? (i := 198) (by decide +kernel)) rfl
theorem ke_X11_asks : Cond.selects yX11_asks.cls yX11_asks yX11_asks ∈ T0 := tb6 (List.mem_of_getElem? (i := 63) (by decide +kernel)) rfl
theorem ke_X11_back : Cond.selects yX11_back.cls yX11_back yX11_back ∈ T0 := tb6 (List.mem_of_getElem? (i := 17) (by decide +kernel)) rfl
theorem ke_X11_best : Cond.selects yX11_best.cls yX11_best yX11_best ∈ T0 := tb7 (List.mem_of_getElem? (i := 112) (by decide +kernel)) rfl
theorem ke_X11_compare : Cond.selects yX11_compare.cls yX11_compare yX11_compare ∈ T0 := tb7 (List.mem_of_getElem? (i := 75) (by decide +kernel)) rfl
theorem ke_X11_count : Cond.selects yX11_count.cls yX11_count yX11_count ∈ T0 := tb8 (List.mem_of_getElem? (i := 23) (by decide +kernel)) rfl
theorem ke_X11_cover : Cond.selects yX11_cover.cls yX11_cover yX11_cover ∈ T0 := tb7 (List.mem_of_getElem? (i := 96) (by decide +kernel)) rfl
theorem ke_X11_creaks : Cond.selects yX11_creaks.cls yX11_creaks yX11_creaks ∈ T0 := tb6 (List.mem_of_getElem? (i := 154) (by decide +kernel)) rfl
theorem ke_X11_drawn : Cond.selects yX11_drawn.cls yX11_drawn yX11_drawn ∈ T0 := tb8 (List.mem_of_getElem? (i := 19) (by decide +kernel)) rfl
theorem ke_X11_drill : Cond.selects yX11_drill.cls yX11_drill yX11_drill ∈ T0 := tb7 (List.mem_of_getElem? (i := 29) (by decide +kernel)) rfl
theorem ke_X11_end : Cond.selects yX11_end.cls yX11_end yX11_end ∈ T0 := tb6 (List.mem_of_getElem? (i := 162) (by decide +kernel)) rfl
theorem ke_X11_evenings : Cond.selects yX11_evenings.cls yX11_evenings yX11_evenings ∈ T0 := tb8 (List.mem_of_getElem? (i := 4) (by decide +kernel)) rfl
theorem ke_X11_fault : Cond.selects yX11_fault.cls yX11_fault yX11_fault ∈ T0 := tb7 (List.mem_of_getElem? (i := 17) (by decide +kernel)) rfl
theorem ke_X11_feed : Cond.selects yX11_feed.cls yX11_feed yX11_feed ∈ T0 := tb6 (List.mem_of_getElem? (i := 158) (by decide +kernel)) rfl
theorem ke_X11_few : Cond.selects yX11_few.cls yX11_few yX11_few ∈ T0 := tb7 (List.mem_of_getElem? (i := 155) (by decide +kernel)) rfl
theorem ke_X11_find : Cond.selects yX11_find.cls yX11_find yX11_find ∈ T0 := tb7 (List.mem_of_getElem? (i := 124) (by decide +kernel)) rfl
theorem ke_X11_force : Cond.selects yX11_force.cls yX11_force yX11_force ∈ T0 := tb7 (List.mem_of_getElem? (i := 21) (by decide +kernel)) rfl
theorem ke_X11_forget : Cond.selects yX11_forget.cls yX11_forget yX11_forget ∈ T0 := tb7 (List.mem_of_getElem? (i := 120) (by decide +kernel)) rfl
theorem ke_X11_give : Cond.selects yX11_give.cls yX11_give yX11_give ∈ T0 := tb7 (List.mem_of_getElem? (i := 182) (by decide +kernel)) rfl
theorem ke_X11_house : Cond.selects yX11_house.cls yX11_house yX11_house ∈ T0 := tb6 (List.mem_of_getElem? (i := 25) (by decide +kernel)) rfl
theorem ke_X11_image : Cond.selects yX11_image.cls yX11_image yX11_image ∈ T0 := tb6 (List.mem_of_getElem? (i := 2) (by decide +kernel)) rfl
theorem ke_X11_law : Cond.selects yX11_law.cls yX11_law yX11_law ∈ T0 := tb6 (List.mem_of_getElem? (i := 166) (by decide +kernel)) rfl
theorem ke_X11_least : Cond.selects yX11_least.cls yX11_least yX11_least ∈ T0 := tb7 (List.mem_of_getElem? (i := 64) (by decide +kernel)) rfl
theorem ke_X11_might : Cond.selects yX11_might.cls yX11_might yX11_might ∈ T0 := tb7 (List.mem_of_getElem? (i := 92) (by decide +kernel)) rfl
theorem ke_X11_motif : Cond.selects yX11_motif.cls yX11_motif yX11_motif ∈ T0 := tb7 (List.mem_of_getElem? (i := 116) (by decide +kernel)) rfl
theorem ke_X11_music : Cond.selects yX11_music.cls yX11_music yX11_music ∈ T0 := tb6 (List.mem_of_getElem? (i := 52) (by decide +kernel)) rfl
theorem ke_X11_note : Cond.selects yX11_note.cls yX11_note yX11_note ∈ T0 := tb7 (List.mem_of_getElem? (i := 166) (by decide +kernel)) rfl
theorem ke_X11_of : Cond.selects yX11_of.cls yX11_of yX11_of ∈ T0 := tb6 (List.mem_of_getElem? (i := 33) (by decide +kernel)) rfl
theorem ke_X11_orders : Cond.selects yX11_orders.cls yX11_orders yX11_orders ∈ T0 := tb7 (List.mem_of_getElem? (i := 210) (by decide +kernel)) rfl
theorem ke_X11_owes : Cond.selects yX11_owes.cls yX11_owes yX11_owes ∈ T0 := tb7 (List.mem_of_getElem? (i := 136) (by decide +kernel)) rfl
theorem ke_X11_owner : Cond.selects yX11_owner.cls yX11_owner yX11_owner ∈ T0 := tb6 (List.mem_of_getElem? (i := 45) (by decide +kernel)) rfl
theorem ke_X11_pass : Cond.selects yX11_pass.cls yX11_pass yX11_pass ∈ T0 := tb7 (List.mem_of_getElem? (i := 198) (by decide +kernel)) rfl
theorem ke_X11_row : Cond.selects yX11_row.cls yX11_row yX11_row ∈ T0 := tb6 (List.mem_of_getElem? (i := 150) (by decide +kernel)) rfl
theorem ke_X11_run : Cond.selects yX11_run.cls yX11_run yX11_run ∈ T0 := tb7 (List.mem_of_getElem? (i := 108) (by decide +kernel)) rfl
theorem ke_X11_settled : Cond.selects yX11_settled.cls yX11_settled yX11_settled ∈ T0 := tb7 (List.mem_of_getElem? (i := 144) (by decide +kernel)) rfl
theorem ke_X11_shift : Cond.selects yX11_shift.cls yX11_shift yX11_shift ∈ T0 := tb7 (List.mem_of_getElem? (i := 190) (by decide +kernel)) rfl
theorem ke_X11_status : Cond.selects yX11_status.cls yX11_status yX11_status ∈ T0 := tb8 (List.mem_of_getElem? (i := 27) (by decide +kernel)) rfl
theorem ke_X11_stopped : Cond.selects yX11_stopped.cls yX11_stopped yX11_stopped ∈ T0 := tb7 (List.mem_of_getElem? (i := 206) (by decide +kernel)) rfl
theorem ke_X11_terms : Cond.selects yX11_terms.cls yX11_terms yX11_terms ∈ T0 := tb6 (List.mem_of_getElem? (i := 140) (by decide +kernel)) rfl
theorem ke_X11_undo : Cond.selects yX11_undo.cls yX11_undo yX11_undo ∈ T0 := tb7 (List.mem_of_getElem? (i := 162) (by decide +kernel)) rfl
theorem ke_X11_ways : Cond.selects yX11_ways.cls yX11_ways yX11_ways ∈ T0 := tb7 (List.mem_of_getElem? (i := 88) (by decide +kernel)) rfl
theorem ke_X11_who : Cond.selects yX11_who.cls yX11_who yX11_who ∈ T0 := tb7 (List.mem_of_getElem? (i := 80) (by decide +kernel)) rfl
theorem ke_J0_charAt_5068e : Cond.selects yJ0_charAt_5068e.cls yJ0_charAt_5068e yJ0_charAt_5068e ∈ T0 := tb3 (List.mem_of_getElem? (i := 87) (by decide +kernel)) rfl
theorem ke_J0_coder_7d493 : Cond.selects yJ0_coder_7d493.cls yJ0_coder_7d493 yJ0_coder_7d493 ∈ T0 := tb3 (List.mem_of_getElem? (i := 81) (by decide +kernel)) rfl
theorem ke_J0_isLatin1_aae02 : Cond.selects yJ0_isLatin1_aae02.cls yJ0_isLatin1_aae02 yJ0_isLatin1_aae02 ∈ T0 := tb3 (List.mem_of_getElem? (i := 91) (by decide +kernel)) rfl
theorem ke_J0_length_8abf5 : Cond.selects yJ0_length_8abf5.cls yJ0_length_8abf5 yJ0_length_8abf5 ∈ T0 := tb3 (List.mem_of_getElem? (i := 77) (by decide +kernel)) rfl
theorem ke_X10_accept : Cond.selects yX10_accept.cls yX10_accept yX10_accept ∈ T0 := prv (n := 17) (List.mem_append_left _ (List.mem_of_getElem? (i := 1) (by decide +kernel)))
theorem ke_X10_change : Cond.selects yX10_change.cls yX10_change yX10_change ∈ T0 := prv (n := 17) (List.mem_append_right _ (List.mem_append_right _ (List.mem_append_left _ (List.mem_of_getElem? (i := 0) (by decide +kernel)))))
theorem ke_X10_mindedIfShifted : Cond.selects yX10_mindedIfShifted.cls yX10_mindedIfShifted yX10_mindedIfShifted ∈ T0 := prv (n := 17) (List.mem_append_right _ (List.mem_append_right _ (List.mem_append_left _ (List.mem_of_getElem? (i := 3) (by decide +kernel)))))
theorem ke_X10_refuse : Cond.selects yX10_refuse.cls yX10_refuse yX10_refuse ∈ T0 := prv (n := 17) (List.mem_append_left _ (List.mem_of_getElem? (i := 0) (by decide +kernel)))
theorem ke_X10_spendEvening : Cond.selects yX10_spendEvening.cls yX10_spendEvening yX10_spendEvening ∈ T0 := prv (n := 17) (List.mem_append_right _ (List.mem_append_right _ (List.mem_append_left _ (List.mem_of_getElem? (i := 5) (by decide +kernel)))))
theorem ke_X0_changeNote : Cond.selects yX0_changeNote.cls yX0_changeNote yX0_changeNote ∈ T0 := prv (n := 4) (List.mem_append_right _ (List.mem_append_left _ (List.mem_of_getElem? (i := 10) (by decide +kernel))))
theorem ke_X0_giveKey : Cond.selects yX0_giveKey.cls yX0_giveKey yX0_giveKey ∈ T0 := prv (n := 4) (List.mem_append_right _ (List.mem_append_left _ (List.mem_of_getElem? (i := 12) (by decide +kernel))))
theorem ke_X0_keep : Cond.selects yX0_keep.cls yX0_keep yX0_keep ∈ T0 := prv (n := 4) (List.mem_append_right _ (List.mem_append_left _ (List.mem_of_getElem? (i := 11) (by decide +kernel))))
theorem ke_X0_passDay : Cond.selects yX0_passDay.cls yX0_passDay yX0_passDay ∈ T0 := prv (n := 4) (List.mem_append_right _ (List.mem_append_left _ (List.mem_of_getElem? (i := 14) (by decide +kernel))))
theorem ke_X0_shiftMusic : Cond.selects yX0_shiftMusic.cls yX0_shiftMusic yX0_shiftMusic ∈ T0 := prv (n := 4) (List.mem_append_right _ (List.mem_append_left _ (List.mem_of_getElem? (i := 13) (by decide +kernel))))
theorem ke_X1_balanceOf : Cond.selects yX1_balanceOf.cls yX1_balanceOf yX1_balanceOf ∈ T0 := prv (n := 2) (List.mem_append_right _ (List.mem_append_right _ (List.mem_append_left _ (List.mem_of_getElem? (i := 4) (by decide +kernel)))))
theorem ke_X2_tellWords : Cond.selects yX2_tellWords.cls yX2_tellWords yX2_tellWords ∈ T0 := prv (n := 4) (List.mem_append_left _ (List.mem_of_getElem? (i := 2) (by decide +kernel)))
theorem ke_X3_covered : Cond.selects yX3_covered.cls yX3_covered yX3_covered ∈ T0 := prv (n := 10) (List.mem_append_right _ (List.mem_append_left _ (List.mem_of_getElem? (i := 6) (by decide +kernel))))
theorem ke_X3_coveredBy : Cond.selects yX3_coveredBy.cls yX3_coveredBy yX3_coveredBy ∈ T0 := prv (n := 10) (List.mem_append_right _ (List.mem_append_left _ (List.mem_of_getElem? (i := 5) (by decide +kernel))))
theorem ke_X3_coveredFrom : Cond.selects yX3_coveredFrom.cls yX3_coveredFrom yX3_coveredFrom ∈ T0 := prv (n := 10) (List.mem_append_right _ (List.mem_append_left _ (List.mem_of_getElem? (i := 7) (by decide +kernel))))
theorem ke_X3_leaveKeyTo : Cond.selects yX3_leaveKeyTo.cls yX3_leaveKeyTo yX3_leaveKeyTo ∈ T0 := prv (n := 10) (List.mem_append_right _ (List.mem_append_right _ (List.mem_append_left _ (List.mem_of_getElem? (i := 2) (by decide +kernel)))))
theorem ke_X3_lookAt : Cond.selects yX3_lookAt.cls yX3_lookAt yX3_lookAt ∈ T0 := prv (n := 10) (List.mem_append_right _ (List.mem_append_left _ (List.mem_of_getElem? (i := 4) (by decide +kernel))))
theorem ke_X3_weighParts : Cond.selects yX3_weighParts.cls yX3_weighParts yX3_weighParts ∈ T0 := prv (n := 10) (List.mem_append_right _ (List.mem_append_right _ (List.mem_append_left _ (List.mem_of_getElem? (i := 1) (by decide +kernel)))))
theorem ke_X4_addToken : Cond.selects yX4_addToken.cls yX4_addToken yX4_addToken ∈ T0 := prv (n := 12) (List.mem_append_left _ (List.mem_of_getElem? (i := 4) (by decide +kernel)))
theorem ke_X4_both : Cond.selects yX4_both.cls yX4_both yX4_both ∈ T0 := prv (n := 12) (List.mem_append_right _ (List.mem_append_left _ (List.mem_of_getElem? (i := 0) (by decide +kernel))))
theorem ke_X4_next : Cond.selects yX4_next.cls yX4_next yX4_next ∈ T0 := prv (n := 12) (List.mem_append_left _ (List.mem_of_getElem? (i := 7) (by decide +kernel)))
theorem ke_X4_part : Cond.selects yX4_part.cls yX4_part yX4_part ∈ T0 := prv (n := 12) (List.mem_append_left _ (List.mem_of_getElem? (i := 10) (by decide +kernel)))
theorem ke_X4_plain : Cond.selects yX4_plain.cls yX4_plain yX4_plain ∈ T0 := prv (n := 12) (List.mem_append_right _ (List.mem_append_left _ (List.mem_of_getElem? (i := 1) (by decide +kernel))))
theorem ke_X4_product : Cond.selects yX4_product.cls yX4_product yX4_product ∈ T0 := prv (n := 12) (List.mem_append_left _ (List.mem_of_getElem? (i := 9) (by decide +kernel)))
theorem ke_X4_readCondition : Cond.selects yX4_readCondition.cls yX4_readCondition yX4_readCondition ∈ T0 := prv (n := 12) (List.mem_append_left _ (List.mem_of_getElem? (i := 14) (by decide +kernel)))
theorem ke_X4_readOrder : Cond.selects yX4_readOrder.cls yX4_readOrder yX4_readOrder ∈ T0 := prv (n := 12) (List.mem_append_left _ (List.mem_of_getElem? (i := 6) (by decide +kernel)))
theorem ke_X4_readOrderWord : Cond.selects yX4_readOrderWord.cls yX4_readOrderWord yX4_readOrderWord ∈ T0 := prv (n := 12) (List.mem_append_left _ (List.mem_of_getElem? (i := 11) (by decide +kernel)))
theorem ke_X4_readRule : Cond.selects yX4_readRule.cls yX4_readRule yX4_readRule ∈ T0 := prv (n := 12) (List.mem_append_right _ (List.mem_append_left _ (List.mem_of_getElem? (i := 2) (by decide +kernel))))
theorem ke_X4_readRuleWord : Cond.selects yX4_readRuleWord.cls yX4_readRuleWord yX4_readRuleWord ∈ T0 := prv (n := 12) (List.mem_append_left _ (List.mem_of_getElem? (i := 12) (by decide +kernel)))
theorem ke_X4_readTimes : Cond.selects yX4_readTimes.cls yX4_readTimes yX4_readTimes ∈ T0 := prv (n := 12) (List.mem_append_left _ (List.mem_of_getElem? (i := 13) (by decide +kernel)))
theorem ke_X4_splitTape : Cond.selects yX4_splitTape.cls yX4_splitTape yX4_splitTape ∈ T0 := prv (n := 12) (List.mem_append_left _ (List.mem_of_getElem? (i := 3) (by decide +kernel)))
theorem ke_X4_sum : Cond.selects yX4_sum.cls yX4_sum yX4_sum ∈ T0 := prv (n := 12) (List.mem_append_left _ (List.mem_of_getElem? (i := 8) (by decide +kernel)))
theorem ke_X4_test : Cond.selects yX4_test.cls yX4_test yX4_test ∈ T0 := prv (n := 12) (List.mem_append_left _ (List.mem_of_getElem? (i := 15) (by decide +kernel)))
theorem ke_X6_runOnce : Cond.selects yX6_runOnce.cls yX6_runOnce yX6_runOnce ∈ T0 := prv (n := 5) (List.mem_append_right _ (List.mem_append_left _ (List.mem_of_getElem? (i := 8) (by decide +kernel))))
theorem ke_X6_sumOf : Cond.selects yX6_sumOf.cls yX6_sumOf yX6_sumOf ∈ T0 := prv (n := 5) (List.mem_append_right _ (List.mem_append_left _ (List.mem_of_getElem? (i := 9) (by decide +kernel))))
theorem ke_X6_takeAllBack : Cond.selects yX6_takeAllBack.cls yX6_takeAllBack yX6_takeAllBack ∈ T0 := prv (n := 5) (List.mem_append_right _ (List.mem_append_left _ (List.mem_of_getElem? (i := 15) (by decide +kernel))))
theorem ke_X6_tellWords : Cond.selects yX6_tellWords.cls yX6_tellWords yX6_tellWords ∈ T0 := prv (n := 5) (List.mem_append_right _ (List.mem_append_left _ (List.mem_of_getElem? (i := 3) (by decide +kernel))))
theorem ke_X8_sameSigns : Cond.selects yX8_sameSigns.cls yX8_sameSigns yX8_sameSigns ∈ T0 := prv (n := 2) (List.mem_append_left _ (List.mem_of_getElem? (i := 5) (by decide +kernel)))
theorem ke_X11_bothOf : Cond.selects yX11_bothOf.cls yX11_bothOf yX11_bothOf ∈ T0 := prv (n := 53) (List.mem_append_right _ (List.mem_append_right _ (List.mem_append_right _ (List.mem_append_left _ (List.mem_of_getElem? (i := 9) (by decide +kernel))))))
theorem ke_X11_bounded : Cond.selects yX11_bounded.cls yX11_bounded yX11_bounded ∈ T0 := prv (n := 53) (List.mem_append_right _ (List.mem_append_right _ (List.mem_append_right _ (List.mem_append_left _ (List.mem_of_getElem? (i := 7) (by decide +kernel))))))
theorem ke_X11_canHold : Cond.selects yX11_canHold.cls yX11_canHold yX11_canHold ∈ T0 := prv (n := 53) (List.mem_append_right _ (List.mem_append_right _ (List.mem_append_right _ (List.mem_append_right _ (List.mem_append_right _ (List.mem_append_left _ (List.mem_of_getElem? (i := 5) (by decide +kernel))))))))
theorem ke_X11_canPlay : Cond.selects yX11_canPlay.cls yX11_canPlay yX11_canPlay ∈ T0 := prv (n := 53) (List.mem_append_right _ (List.mem_append_right _ (List.mem_append_right _ (List.mem_append_left _ (List.mem_of_getElem? (i := 12) (by decide +kernel))))))
theorem ke_X11_codeAt : Cond.selects yX11_codeAt.cls yX11_codeAt yX11_codeAt ∈ T0 := prv (n := 53) (List.mem_append_right _ (List.mem_append_right _ (List.mem_append_right _ (List.mem_append_left _ (List.mem_of_getElem? (i := 0) (by decide +kernel))))))
theorem ke_X11_draws : Cond.selects yX11_draws.cls yX11_draws yX11_draws ∈ T0 := prv (n := 53) (List.mem_append_right _ (List.mem_append_right _ (List.mem_append_right _ (List.mem_append_right _ (List.mem_append_right _ (List.mem_append_right _ ((List.mem_of_getElem? (i := 13) (by decide +kernel)))))))))
theorem ke_X11_faults : Cond.selects yX11_faults.cls yX11_faults yX11_faults ∈ T0 := prv (n := 53) (List.mem_append_right _ (List.mem_append_right _ (List.mem_append_right _ (List.mem_append_right _ (List.mem_append_left _ (List.mem_of_getElem? (i := 8) (by decide +kernel)))))))
theorem ke_X11_fine : Cond.selects yX11_fine.cls yX11_fine yX11_fine ∈ T0 := prv (n := 53) (List.mem_append_right _ (List.mem_append_right _ (List.mem_append_right _ (List.mem_append_right _ (List.mem_append_left _ (List.mem_of_getElem? (i := 4) (by decide +kernel)))))))
theorem ke_X11_givesKept : Cond.selects yX11_givesKept.cls yX11_givesKept yX11_givesKept ∈ T0 := prv (n := 53) (List.mem_append_right _ (List.mem_append_right _ (List.mem_append_right _ (List.mem_append_right _ (List.mem_append_right _ (List.mem_append_right _ ((List.mem_of_getElem? (i := 3) (by decide +kernel)))))))))
theorem ke_X11_givesNothing : Cond.selects yX11_givesNothing.cls yX11_givesNothing yX11_givesNothing ∈ T0 := prv (n := 53) (List.mem_append_right _ (List.mem_append_right _ (List.mem_append_right _ (List.mem_append_right _ (List.mem_append_right _ (List.mem_append_left _ (List.mem_of_getElem? (i := 6) (by decide +kernel))))))))
theorem ke_X11_goesAlong : Cond.selects yX11_goesAlong.cls yX11_goesAlong yX11_goesAlong ∈ T0 := prv (n := 53) (List.mem_append_right _ (List.mem_append_right _ (List.mem_append_right _ (List.mem_append_right _ (List.mem_append_right _ (List.mem_append_right _ ((List.mem_of_getElem? (i := 8) (by decide +kernel)))))))))
theorem ke_X11_good : Cond.selects yX11_good.cls yX11_good yX11_good ∈ T0 := prv (n := 53) (List.mem_append_right _ (List.mem_append_right _ (List.mem_append_left _ (List.mem_of_getElem? (i := 7) (by decide +kernel)))))
theorem ke_X11_goodAnew : Cond.selects yX11_goodAnew.cls yX11_goodAnew yX11_goodAnew ∈ T0 := prv (n := 53) (List.mem_append_right _ (List.mem_append_right _ (List.mem_append_left _ (List.mem_of_getElem? (i := 8) (by decide +kernel)))))
theorem ke_X11_goodOr : Cond.selects yX11_goodOr.cls yX11_goodOr yX11_goodOr ∈ T0 := prv (n := 53) (List.mem_append_right _ (List.mem_append_right _ (List.mem_append_right _ (List.mem_append_right _ (List.mem_append_right _ (List.mem_append_right _ ((List.mem_of_getElem? (i := 2) (by decide +kernel)))))))))
theorem ke_X11_happens : Cond.selects yX11_happens.cls yX11_happens yX11_happens ∈ T0 := prv (n := 53) (List.mem_append_right _ (List.mem_append_right _ (List.mem_append_right _ (List.mem_append_right _ (List.mem_append_right _ (List.mem_append_right _ ((List.mem_of_getElem? (i := 12) (by decide +kernel)))))))))
theorem ke_X11_hasSet : Cond.selects yX11_hasSet.cls yX11_hasSet yX11_hasSet ∈ T0 := prv (n := 53) (List.mem_append_right _ (List.mem_append_right _ (List.mem_append_right _ (List.mem_append_right _ (List.mem_append_right _ (List.mem_append_left _ (List.mem_of_getElem? (i := 11) (by decide +kernel))))))))
theorem ke_X11_hasWord : Cond.selects yX11_hasWord.cls yX11_hasWord yX11_hasWord ∈ T0 := prv (n := 53) (List.mem_append_right _ (List.mem_append_right _ (List.mem_append_right _ (List.mem_append_right _ (List.mem_append_right _ (List.mem_append_right _ ((List.mem_of_getElem? (i := 9) (by decide +kernel)))))))))
theorem ke_X11_isFound : Cond.selects yX11_isFound.cls yX11_isFound yX11_isFound ∈ T0 := prv (n := 53) (List.mem_append_right _ (List.mem_append_right _ (List.mem_append_right _ (List.mem_append_right _ (List.mem_append_right _ (List.mem_append_left _ (List.mem_of_getElem? (i := 13) (by decide +kernel))))))))
theorem ke_X11_isHouse : Cond.selects yX11_isHouse.cls yX11_isHouse yX11_isHouse ∈ T0 := prv (n := 53) (List.mem_append_right _ (List.mem_append_right _ (List.mem_append_left _ (List.mem_of_getElem? (i := 10) (by decide +kernel)))))
theorem ke_X11_isLaw : Cond.selects yX11_isLaw.cls yX11_isLaw yX11_isLaw ∈ T0 := prv (n := 53) (List.mem_append_right _ (List.mem_append_right _ (List.mem_append_right _ (List.mem_append_right _ (List.mem_append_right _ (List.mem_append_left _ (List.mem_of_getElem? (i := 1) (by decide +kernel))))))))
theorem ke_X11_isSilent : Cond.selects yX11_isSilent.cls yX11_isSilent yX11_isSilent ∈ T0 := prv (n := 53) (List.mem_append_right _ (List.mem_append_right _ (List.mem_append_right _ (List.mem_append_right _ (List.mem_append_right _ (List.mem_append_left _ (List.mem_of_getElem? (i := 12) (by decide +kernel))))))))
theorem ke_X11_keeps : Cond.selects yX11_keeps.cls yX11_keeps yX11_keeps ∈ T0 := prv (n := 53) (List.mem_append_right _ (List.mem_append_right _ (List.mem_append_right _ (List.mem_append_right _ (List.mem_append_right _ (List.mem_append_right _ ((List.mem_of_getElem? (i := 1) (by decide +kernel)))))))))
theorem ke_X11_lays : Cond.selects yX11_lays.cls yX11_lays yX11_lays ∈ T0 := prv (n := 53) (List.mem_append_right _ (List.mem_append_right _ (List.mem_append_right _ (List.mem_append_right _ (List.mem_append_right _ (List.mem_append_left _ (List.mem_of_getElem? (i := 0) (by decide +kernel))))))))
theorem ke_X11_laysAside : Cond.selects yX11_laysAside.cls yX11_laysAside yX11_laysAside ∈ T0 := prv (n := 53) (List.mem_append_right _ (List.mem_append_right _ (List.mem_append_right _ (List.mem_append_right _ (List.mem_append_right _ (List.mem_append_right _ ((List.mem_of_getElem? (i := 6) (by decide +kernel)))))))))
theorem ke_X11_laysCrowds : Cond.selects yX11_laysCrowds.cls yX11_laysCrowds yX11_laysCrowds ∈ T0 := prv (n := 53) (List.mem_append_right _ (List.mem_append_right _ (List.mem_append_right _ (List.mem_append_right _ (List.mem_append_right _ (List.mem_append_left _ (List.mem_of_getElem? (i := 10) (by decide +kernel))))))))
theorem ke_X11_laysDebts : Cond.selects yX11_laysDebts.cls yX11_laysDebts yX11_laysDebts ∈ T0 := prv (n := 53) (List.mem_append_right _ (List.mem_append_right _ (List.mem_append_right _ (List.mem_append_right _ (List.mem_append_right _ (List.mem_append_left _ (List.mem_of_getElem? (i := 14) (by decide +kernel))))))))
theorem ke_X11_laysParts : Cond.selects yX11_laysParts.cls yX11_laysParts yX11_laysParts ∈ T0 := prv (n := 53) (List.mem_append_right _ (List.mem_append_right _ (List.mem_append_right _ (List.mem_append_right _ (List.mem_append_right _ (List.mem_append_left _ (List.mem_of_getElem? (i := 4) (by decide +kernel))))))))
theorem ke_X11_laysWay : Cond.selects yX11_laysWay.cls yX11_laysWay yX11_laysWay ∈ T0 := prv (n := 53) (List.mem_append_right _ (List.mem_append_right _ (List.mem_append_right _ (List.mem_append_right _ (List.mem_append_right _ (List.mem_append_left _ (List.mem_of_getElem? (i := 9) (by decide +kernel))))))))
theorem ke_X11_leaf : Cond.selects yX11_leaf.cls yX11_leaf yX11_leaf ∈ T0 := prv (n := 53) (List.mem_append_right _ (List.mem_append_right _ (List.mem_append_right _ (List.mem_append_right _ (List.mem_append_left _ (List.mem_of_getElem? (i := 10) (by decide +kernel)))))))
theorem ke_X11_leastAt : Cond.selects yX11_leastAt.cls yX11_leastAt yX11_leastAt ∈ T0 := prv (n := 53) (List.mem_append_right _ (List.mem_append_right _ (List.mem_append_right _ (List.mem_append_right _ (List.mem_append_right _ (List.mem_append_left _ (List.mem_of_getElem? (i := 2) (by decide +kernel))))))))
theorem ke_X11_leastOf : Cond.selects yX11_leastOf.cls yX11_leastOf yX11_leastOf ∈ T0 := prv (n := 53) (List.mem_append_right _ (List.mem_append_right _ (List.mem_append_right _ (List.mem_append_right _ (List.mem_append_right _ (List.mem_append_left _ (List.mem_of_getElem? (i := 7) (by decide +kernel))))))))
theorem ke_X11_leastOfAll : Cond.selects yX11_leastOfAll.cls yX11_leastOfAll yX11_leastOfAll ∈ T0 := prv (n := 53) (List.mem_append_right _ (List.mem_append_right _ (List.mem_append_right _ (List.mem_append_right _ (List.mem_append_right _ (List.mem_append_left _ (List.mem_of_getElem? (i := 8) (by decide +kernel))))))))
theorem ke_X11_many : Cond.selects yX11_many.cls yX11_many yX11_many ∈ T0 := prv (n := 53) (List.mem_append_right _ (List.mem_append_right _ (List.mem_append_left _ (List.mem_of_getElem? (i := 9) (by decide +kernel)))))
theorem ke_X11_mindedAt : Cond.selects yX11_mindedAt.cls yX11_mindedAt yX11_mindedAt ∈ T0 := prv (n := 53) (List.mem_append_right _ (List.mem_append_right _ (List.mem_append_left _ (List.mem_of_getElem? (i := 13) (by decide +kernel)))))
theorem ke_X11_mindedOf : Cond.selects yX11_mindedOf.cls yX11_mindedOf yX11_mindedOf ∈ T0 := prv (n := 53) (List.mem_append_right _ (List.mem_append_right _ (List.mem_append_right _ (List.mem_append_right _ (List.mem_append_right _ (List.mem_append_left _ (List.mem_of_getElem? (i := 3) (by decide +kernel))))))))
theorem ke_X11_musicAt : Cond.selects yX11_musicAt.cls yX11_musicAt yX11_musicAt ∈ T0 := prv (n := 53) (List.mem_append_right _ (List.mem_append_right _ (List.mem_append_left _ (List.mem_of_getElem? (i := 12) (by decide +kernel)))))
theorem ke_X11_must : Cond.selects yX11_must.cls yX11_must yX11_must ∈ T0 := prv (n := 53) (List.mem_append_right _ (List.mem_append_right _ (List.mem_append_right _ (List.mem_append_right _ (List.mem_append_left _ (List.mem_of_getElem? (i := 9) (by decide +kernel)))))))
theorem ke_X11_mustNumber : Cond.selects yX11_mustNumber.cls yX11_mustNumber yX11_mustNumber ∈ T0 := prv (n := 53) (List.mem_append_right _ (List.mem_append_right _ (List.mem_append_right _ (List.mem_append_right _ (List.mem_append_left _ (List.mem_of_getElem? (i := 11) (by decide +kernel)))))))
theorem ke_X11_notes0 : Cond.selects yX11_notes0.cls yX11_notes0 yX11_notes0 ∈ T0 := prv (n := 53) (List.mem_append_right _ (List.mem_append_right _ (List.mem_append_right _ (List.mem_append_left _ (List.mem_of_getElem? (i := 6) (by decide +kernel))))))
theorem ke_X11_notesKept : Cond.selects yX11_notesKept.cls yX11_notesKept yX11_notesKept ∈ T0 := prv (n := 53) (List.mem_append_right _ (List.mem_append_right _ (List.mem_append_right _ (List.mem_append_right _ (List.mem_append_right _ (List.mem_append_right _ ((List.mem_of_getElem? (i := 0) (by decide +kernel)))))))))
theorem ke_X11_obeys : Cond.selects yX11_obeys.cls yX11_obeys yX11_obeys ∈ T0 := prv (n := 53) (List.mem_append_right _ (List.mem_append_right _ (List.mem_append_right _ (List.mem_append_right _ (List.mem_append_right _ (List.mem_append_right _ ((List.mem_of_getElem? (i := 10) (by decide +kernel)))))))))
theorem ke_X11_orderValue : Cond.selects yX11_orderValue.cls yX11_orderValue yX11_orderValue ∈ T0 := prv (n := 53) (List.mem_append_right _ (List.mem_append_right _ (List.mem_append_right _ (List.mem_append_left _ (List.mem_of_getElem? (i := 5) (by decide +kernel))))))
theorem ke_X11_owedMore : Cond.selects yX11_owedMore.cls yX11_owedMore yX11_owedMore ∈ T0 := prv (n := 53) (List.mem_append_right _ (List.mem_append_right _ (List.mem_append_right _ (List.mem_append_right _ (List.mem_append_right _ (List.mem_append_left _ (List.mem_of_getElem? (i := 15) (by decide +kernel))))))))
theorem ke_X11_ownedBy : Cond.selects yX11_ownedBy.cls yX11_ownedBy yX11_ownedBy ∈ T0 := prv (n := 53) (List.mem_append_right _ (List.mem_append_right _ (List.mem_append_left _ (List.mem_of_getElem? (i := 11) (by decide +kernel)))))
theorem ke_X11_partOf : Cond.selects yX11_partOf.cls yX11_partOf yX11_partOf ∈ T0 := prv (n := 53) (List.mem_append_right _ (List.mem_append_right _ (List.mem_append_right _ (List.mem_append_left _ (List.mem_of_getElem? (i := 3) (by decide +kernel))))))
theorem ke_X11_passes0 : Cond.selects yX11_passes0.cls yX11_passes0 yX11_passes0 ∈ T0 := prv (n := 53) (List.mem_append_right _ (List.mem_append_right _ (List.mem_append_right _ (List.mem_append_left _ (List.mem_of_getElem? (i := 4) (by decide +kernel))))))
theorem ke_X11_passesKept : Cond.selects yX11_passesKept.cls yX11_passesKept yX11_passesKept ∈ T0 := prv (n := 53) (List.mem_append_right _ (List.mem_append_right _ (List.mem_append_right _ (List.mem_append_right _ (List.mem_append_right _ (List.mem_append_right _ ((List.mem_of_getElem? (i := 5) (by decide +kernel)))))))))
theorem ke_X11_plainOf : Cond.selects yX11_plainOf.cls yX11_plainOf yX11_plainOf ∈ T0 := prv (n := 53) (List.mem_append_right _ (List.mem_append_right _ (List.mem_append_right _ (List.mem_append_left _ (List.mem_of_getElem? (i := 10) (by decide +kernel))))))
theorem ke_X11_positiveOf : Cond.selects yX11_positiveOf.cls yX11_positiveOf yX11_positiveOf ∈ T0 := prv (n := 53) (List.mem_append_right _ (List.mem_append_right _ (List.mem_append_right _ (List.mem_append_left _ (List.mem_of_getElem? (i := 11) (by decide +kernel))))))
theorem ke_X11_readBoth : Cond.selects yX11_readBoth.cls yX11_readBoth yX11_readBoth ∈ T0 := prv (n := 53) (List.mem_append_right _ (List.mem_append_right _ (List.mem_append_right _ (List.mem_append_right _ (List.mem_append_left _ (List.mem_of_getElem? (i := 13) (by decide +kernel)))))))
theorem ke_X11_readClause : Cond.selects yX11_readClause.cls yX11_readClause yX11_readClause ∈ T0 := prv (n := 53) (List.mem_append_right _ (List.mem_append_right _ (List.mem_append_right _ (List.mem_append_right _ (List.mem_append_left _ (List.mem_of_getElem? (i := 15) (by decide +kernel)))))))
theorem ke_X11_readOne : Cond.selects yX11_readOne.cls yX11_readOne yX11_readOne ∈ T0 := prv (n := 53) (List.mem_append_right _ (List.mem_append_right _ (List.mem_append_right _ (List.mem_append_right _ (List.mem_append_left _ (List.mem_of_getElem? (i := 1) (by decide +kernel)))))))
theorem ke_X11_readOrder : Cond.selects yX11_readOrder.cls yX11_readOrder yX11_readOrder ∈ T0 := prv (n := 53) (List.mem_append_right _ (List.mem_append_right _ (List.mem_append_right _ (List.mem_append_right _ (List.mem_append_left _ (List.mem_of_getElem? (i := 2) (by decide +kernel)))))))
theorem ke_X11_readPart : Cond.selects yX11_readPart.cls yX11_readPart yX11_readPart ∈ T0 := prv (n := 53) (List.mem_append_right _ (List.mem_append_right _ (List.mem_append_right _ (List.mem_append_right _ (List.mem_append_left _ (List.mem_of_getElem? (i := 7) (by decide +kernel)))))))
theorem ke_X11_readPlain : Cond.selects yX11_readPlain.cls yX11_readPlain yX11_readPlain ∈ T0 := prv (n := 53) (List.mem_append_right _ (List.mem_append_right _ (List.mem_append_right _ (List.mem_append_right _ (List.mem_append_left _ (List.mem_of_getElem? (i := 14) (by decide +kernel)))))))
theorem ke_X11_readSum : Cond.selects yX11_readSum.cls yX11_readSum yX11_readSum ∈ T0 := prv (n := 53) (List.mem_append_right _ (List.mem_append_right _ (List.mem_append_right _ (List.mem_append_right _ (List.mem_append_left _ (List.mem_of_getElem? (i := 5) (by decide +kernel)))))))
theorem ke_X11_readTerm : Cond.selects yX11_readTerm.cls yX11_readTerm yX11_readTerm ∈ T0 := prv (n := 53) (List.mem_append_right _ (List.mem_append_right _ (List.mem_append_right _ (List.mem_append_right _ (List.mem_append_left _ (List.mem_of_getElem? (i := 6) (by decide +kernel)))))))
theorem ke_X11_readTest : Cond.selects yX11_readTest.cls yX11_readTest yX11_readTest ∈ T0 := prv (n := 53) (List.mem_append_right _ (List.mem_append_right _ (List.mem_append_right _ (List.mem_append_right _ (List.mem_append_left _ (List.mem_of_getElem? (i := 12) (by decide +kernel)))))))
theorem ke_X11_reads : Cond.selects yX11_reads.cls yX11_reads yX11_reads ∈ T0 := prv (n := 53) (List.mem_append_right _ (List.mem_append_right _ (List.mem_append_right _ (List.mem_append_left _ (List.mem_of_getElem? (i := 14) (by decide +kernel))))))
theorem ke_X11_readsAs : Cond.selects yX11_readsAs.cls yX11_readsAs yX11_readsAs ∈ T0 := prv (n := 53) (List.mem_append_right _ (List.mem_append_right _ (List.mem_append_right _ (List.mem_append_left _ (List.mem_of_getElem? (i := 13) (by decide +kernel))))))
theorem ke_X11_refuses : Cond.selects yX11_refuses.cls yX11_refuses yX11_refuses ∈ T0 := prv (n := 53) (List.mem_append_right _ (List.mem_append_right _ (List.mem_append_left _ (List.mem_of_getElem? (i := 6) (by decide +kernel)))))
theorem ke_X11_runs : Cond.selects yX11_runs.cls yX11_runs yX11_runs ∈ T0 := prv (n := 53) (List.mem_append_right _ (List.mem_append_right _ (List.mem_append_right _ (List.mem_append_right _ (List.mem_append_right _ (List.mem_append_right _ ((List.mem_of_getElem? (i := 7) (by decide +kernel)))))))))
theorem ke_X11_setsAsked : Cond.selects yX11_setsAsked.cls yX11_setsAsked yX11_setsAsked ∈ T0 := prv (n := 53) (List.mem_append_right _ (List.mem_append_right _ (List.mem_append_left _ (List.mem_of_getElem? (i := 15) (by decide +kernel)))))
theorem ke_X11_shiftsKept : Cond.selects yX11_shiftsKept.cls yX11_shiftsKept yX11_shiftsKept ∈ T0 := prv (n := 53) (List.mem_append_right _ (List.mem_append_right _ (List.mem_append_right _ (List.mem_append_right _ (List.mem_append_right _ (List.mem_append_right _ ((List.mem_of_getElem? (i := 4) (by decide +kernel)))))))))
theorem ke_X11_splits : Cond.selects yX11_splits.cls yX11_splits yX11_splits ∈ T0 := prv (n := 53) (List.mem_append_right _ (List.mem_append_right _ (List.mem_append_right _ (List.mem_append_left _ (List.mem_of_getElem? (i := 15) (by decide +kernel))))))
theorem ke_X11_sumOf : Cond.selects yX11_sumOf.cls yX11_sumOf yX11_sumOf ∈ T0 := prv (n := 53) (List.mem_append_right _ (List.mem_append_right _ (List.mem_append_right _ (List.mem_append_left _ (List.mem_of_getElem? (i := 1) (by decide +kernel))))))
theorem ke_X11_takes0 : Cond.selects yX11_takes0.cls yX11_takes0 yX11_takes0 ∈ T0 := prv (n := 53) (List.mem_append_right _ (List.mem_append_right _ (List.mem_append_right _ (List.mem_append_right _ (List.mem_append_left _ (List.mem_of_getElem? (i := 3) (by decide +kernel)))))))
theorem ke_X11_takesBack : Cond.selects yX11_takesBack.cls yX11_takesBack yX11_takesBack ∈ T0 := prv (n := 53) (List.mem_append_right _ (List.mem_append_right _ (List.mem_append_right _ (List.mem_append_right _ (List.mem_append_right _ (List.mem_append_right _ ((List.mem_of_getElem? (i := 11) (by decide +kernel)))))))))
theorem ke_X11_tells : Cond.selects yX11_tells.cls yX11_tells yX11_tells ∈ T0 := prv (n := 53) (List.mem_append_right _ (List.mem_append_right _ (List.mem_append_left _ (List.mem_of_getElem? (i := 14) (by decide +kernel)))))
theorem ke_X11_termOf : Cond.selects yX11_termOf.cls yX11_termOf yX11_termOf ∈ T0 := prv (n := 53) (List.mem_append_right _ (List.mem_append_right _ (List.mem_append_right _ (List.mem_append_left _ (List.mem_of_getElem? (i := 2) (by decide +kernel))))))
theorem ke_X11_testOf : Cond.selects yX11_testOf.cls yX11_testOf yX11_testOf ∈ T0 := prv (n := 53) (List.mem_append_right _ (List.mem_append_right _ (List.mem_append_right _ (List.mem_append_left _ (List.mem_of_getElem? (i := 8) (by decide +kernel))))))
theorem ke_X11_wordOf : Cond.selects yX11_wordOf.cls yX11_wordOf yX11_wordOf ∈ T0 := prv (n := 53) (List.mem_append_right _ (List.mem_append_right _ (List.mem_append_right _ (List.mem_append_right _ (List.mem_append_left _ (List.mem_of_getElem? (i := 0) (by decide +kernel)))))))
def M_X0_init : MD := (yX0_init, cX0_init, 1, none)
def M_X0_clear : MD := (yX0_clear, cX0_clear, 1, none)
def M_X0_make : MD := (yX0_make, cX0_make, 5, some .int)
def M_X0_changeNote : MD := (yX0_changeNote, cX0_changeNote, 4, some .int)
def M_X0_giveKey : MD := (yX0_giveKey, cX0_giveKey, 5, some .int)
def M_X0_shiftMusic : MD := (yX0_shiftMusic, cX0_shiftMusic, 3, some .int)
def M_X0_passDay : MD := (yX0_passDay, cX0_passDay, 2, some .int)
def M_X0_keep : MD := (yX0_keep, cX0_keep, 4, none)
def M_X0_keepLatest : MD := (yX0_keepLatest, cX0_keepLatest, 2, none)
def M_X0_takeBack : MD := (yX0_takeBack, cX0_takeBack, 4, some .int)
def M_X1_init : MD := (yX1_init, cX1_init, 1, none)
def M_X1_tally : MD := (yX1_tally, cX1_tally, 7, some .boolean)
def M_X1_payments : MD := (yX1_payments, cX1_payments, 6, some .int)
def M_X1_balanceOf : MD := (yX1_balanceOf, cX1_balanceOf, 5, some .int)
def M_X2_init : MD := (yX2_init, cX2_init, 1, none)
def M_X2_ask : MD := (yX2_ask, cX2_ask, 13, none)
def M_X2_tellWords : MD := (yX2_tellWords, cX2_tellWords, 5, none)
def M_X3_init : MD := (yX3_init, cX3_init, 2, none)
def M_X3_firstLost : MD := (yX3_firstLost, cX3_firstLost, 3, some .int)
def M_X3_canHave : MD := (yX3_canHave, cX3_canHave, 4, some .boolean)
def M_X3_mindedAt : MD := (yX3_mindedAt, cX3_mindedAt, 5, some .int)
def M_X3_mindedInAll : MD := (yX3_mindedInAll, cX3_mindedInAll, 6, some .int)
def M_X3_lightestWay : MD := (yX3_lightestWay, cX3_lightestWay, 7, some .long)
def M_X3_player : MD := (yX3_player, cX3_player, 2, some .int)
def M_X3_howManyWays : MD := (yX3_howManyWays, cX3_howManyWays, 7, some .int)
def M_X3_whoCould : MD := (yX3_whoCould, cX3_whoCould, 7, some .int)
def M_X3_fewestHouses : MD := (yX3_fewestHouses, cX3_fewestHouses, 5, some .int)
def M_X3_lookAt : MD := (yX3_lookAt, cX3_lookAt, 6, none)
def M_X3_leaveKeyTo : MD := (yX3_leaveKeyTo, cX3_leaveKeyTo, 4, none)
def M_X3_coveredBy : MD := (yX3_coveredBy, cX3_coveredBy, 4, some .boolean)
def M_X3_covered : MD := (yX3_covered, cX3_covered, 6, some .boolean)
def M_X3_coveredFrom : MD := (yX3_coveredFrom, cX3_coveredFrom, 8, some .boolean)
def M_X3_weighParts : MD := (yX3_weighParts, cX3_weighParts, 7, none)
def M_X3_rowPlace : MD := (yX3_rowPlace, cX3_rowPlace, 1, some .int)
def M_X3_lowestKey : MD := (yX3_lowestKey, cX3_lowestKey, 2, some .int)
def M_X4_init : MD := (yX4_init, cX4_init, 2, none)
def M_X4_read : MD := (yX4_read, cX4_read, 4, some .boolean)
def M_X4_splitTape : MD := (yX4_splitTape, cX4_splitTape, 4, none)
def M_X4_addToken : MD := (yX4_addToken, cX4_addToken, 4, none)
def M_X4_next : MD := (yX4_next, cX4_next, 1, none)
def M_X4_readRule : MD := (yX4_readRule, cX4_readRule, 3, some .boolean)
def M_X4_readOrder : MD := (yX4_readOrder, cX4_readOrder, 3, some .boolean)
def M_X4_readTimes : MD := (yX4_readTimes, cX4_readTimes, 2, some .boolean)
def M_X4_readCondition : MD := (yX4_readCondition, cX4_readCondition, 2, some .boolean)
def M_X4_test : MD := (yX4_test, cX4_test, 3, some .boolean)
def M_X4_both : MD := (yX4_both, cX4_both, 3, some .boolean)
def M_X4_plain : MD := (yX4_plain, cX4_plain, 3, some .boolean)
def M_X4_sum : MD := (yX4_sum, cX4_sum, 3, some .boolean)
def M_X4_product : MD := (yX4_product, cX4_product, 3, some .boolean)
def M_X4_part : MD := (yX4_part, cX4_part, 1, some .boolean)
def M_X4_readRuleWord : MD := (yX4_readRuleWord, cX4_readRuleWord, 1, some .boolean)
def M_X4_readOrderWord : MD := (yX4_readOrderWord, cX4_readOrderWord, 4, some .boolean)
def M_X4_comparison : MD := (yX4_comparison, cX4_comparison, 1, some .int)
def M_X4_multiplication : MD := (yX4_multiplication, cX4_multiplication, 1, some .int)
def M_X4_orderWord : MD := (yX4_orderWord, cX4_orderWord, 1, some .int)
def M_X5_init : MD := (yX5_init, cX5_init, 1, none)
def M_X5_reckon : MD := (yX5_reckon, cX5_reckon, 9, some .long)
def M_X5_join : MD := (yX5_join, cX5_join, 7, some .long)
def M_X6_init : MD := (yX6_init, cX6_init, 1, none)
def M_X6_runAll : MD := (yX6_runAll, cX6_runAll, 7, some .int)
def M_X6_runOnce : MD := (yX6_runOnce, cX6_runOnce, 12, some .boolean)
def M_X6_sumOf : MD := (yX6_sumOf, cX6_sumOf, 3, some .long)
def M_X6_tellWords : MD := (yX6_tellWords, cX6_tellWords, 3, none)
def M_X6_takeAllBack : MD := (yX6_takeAllBack, cX6_takeAllBack, 4, none)
def M_X7_init : MD := (yX7_init, cX7_init, 1, none)
def M_X7_copyFrom : MD := (yX7_copyFrom, cX7_copyFrom, 3, none)
def M_X7_hasHouse : MD := (yX7_hasHouse, cX7_hasHouse, 2, some .boolean)
def M_X7_hasLaw : MD := (yX7_hasLaw, cX7_hasLaw, 2, some .boolean)
def M_X7_lawInForce : MD := (yX7_lawInForce, cX7_lawInForce, 1, some (.object "KeyHouses$Text"))
def M_X7_keysOf : MD := (yX7_keysOf, cX7_keysOf, 4, some .int)
def M_X7_countNotes : MD := (yX7_countNotes, cX7_countNotes, 3, some .int)
def M_X7_canShift : MD := (yX7_canShift, cX7_canShift, 3, some .boolean)
def M_X7_shiftBy : MD := (yX7_shiftBy, cX7_shiftBy, 3, none)
def M_X7_motifHasKeys : MD := (yX7_motifHasKeys, cX7_motifHasKeys, 2, some .boolean)
def M_X7_motifStands : MD := (yX7_motifStands, cX7_motifStands, 4, some .boolean)
def M_X7_shifted : MD := (yX7_shifted, cX7_shifted, 2, some .int)
def M_X8_init : MD := (yX8_init, cX8_init, 1, none)
def M_X8_add : MD := (yX8_add, cX8_add, 3, none)
def M_X8_byteAt : MD := (yX8_byteAt, cX8_byteAt, 2, some .int)
def M_X8_tokenEnd : MD := (yX8_tokenEnd, cX8_tokenEnd, 3, some .int)
def M_X8_numberAt : MD := (yX8_numberAt, cX8_numberAt, 5, some .int)
def M_X8_wordAt : MD := (yX8_wordAt, cX8_wordAt, 6, some .int)
def M_X8_sameSigns : MD := (yX8_sameSigns, cX8_sameSigns, 5, some .boolean)
def M_X9_init : MD := (yX9_init, cX9_init, 3, none)
def M_X9_copy : MD := (yX9_copy, cX9_copy, 2, some (.object "KeyHouses$Text"))
def M_X9_clear : MD := (yX9_clear, cX9_clear, 1, none)
def M_X9_begin : MD := (yX9_begin, cX9_begin, 3, none)
def M_X9_emit : MD := (yX9_emit, cX9_emit, 3, none)
def M_X9_landHere : MD := (yX9_landHere, cX9_landHere, 2, none)
def M_X10_init : MD := (yX10_init, cX10_init, 2, none)
def M_X10_house : MD := (yX10_house, cX10_house, 3, some .int)
def M_X10_of : MD := (yX10_of, cX10_of, 3, some .int)
def M_X10_owner : MD := (yX10_owner, cX10_owner, 2, some .int)
def M_X10_music : MD := (yX10_music, cX10_music, 2, some .int)
def M_X10_asks : MD := (yX10_asks, cX10_asks, 5, some .int)
def M_X10_terms : MD := (yX10_terms, cX10_terms, 4, some .int)
def M_X10_feed : MD := (yX10_feed, cX10_feed, 6, some .int)
def M_X10_end : MD := (yX10_end, cX10_end, 2, some .int)
def M_X10_row : MD := (yX10_row, cX10_row, 3, some .int)
def M_X10_creaks : MD := (yX10_creaks, cX10_creaks, 1, some .int)
def M_X10_law : MD := (yX10_law, cX10_law, 1, some .int)
def M_X10_orders : MD := (yX10_orders, cX10_orders, 2, some .int)
def M_X10_fault : MD := (yX10_fault, cX10_fault, 1, some .int)
def M_X10_stopped : MD := (yX10_stopped, cX10_stopped, 1, some .int)
def M_X10_force : MD := (yX10_force, cX10_force, 3, some .int)
def M_X10_note : MD := (yX10_note, cX10_note, 3, some .int)
def M_X10_give : MD := (yX10_give, cX10_give, 3, some .int)
def M_X10_shift : MD := (yX10_shift, cX10_shift, 2, some .int)
def M_X10_pass : MD := (yX10_pass, cX10_pass, 1, some .int)
def M_X10_undo : MD := (yX10_undo, cX10_undo, 2, some .int)
def M_X10_drill : MD := (yX10_drill, cX10_drill, 1, some .int)
def M_X10_least : MD := (yX10_least, cX10_least, 2, some .int)
def M_X10_who : MD := (yX10_who, cX10_who, 3, some .int)
def M_X10_ways : MD := (yX10_ways, cX10_ways, 2, some .int)
def M_X10_might : MD := (yX10_might, cX10_might, 3, some .int)
def M_X10_cover : MD := (yX10_cover, cX10_cover, 3, some .int)
def M_X10_run : MD := (yX10_run, cX10_run, 7, some .int)
def M_X10_best : MD := (yX10_best, cX10_best, 6, some .int)
def M_X10_motif : MD := (yX10_motif, cX10_motif, 2, some .int)
def M_X10_forget : MD := (yX10_forget, cX10_forget, 2, some .int)
def M_X10_find : MD := (yX10_find, cX10_find, 6, some .int)
def M_X10_owes : MD := (yX10_owes, cX10_owes, 3, some .int)
def M_X10_settled : MD := (yX10_settled, cX10_settled, 1, some .int)
def M_X10_few : MD := (yX10_few, cX10_few, 7, some .long)
def M_X10_compare : MD := (yX10_compare, cX10_compare, 2, some .int)
def M_X10_evenings : MD := (yX10_evenings, cX10_evenings, 6, some .int)
def M_X10_drawn : MD := (yX10_drawn, cX10_drawn, 3, some .int)
def M_X10_image : MD := (yX10_image, cX10_image, 2, some .int)
def M_X10_back : MD := (yX10_back, cX10_back, 2, some .int)
def M_X10_count : MD := (yX10_count, cX10_count, 2, some .int)
def M_X10_status : MD := (yX10_status, cX10_status, 1, some .int)
def M_X10_refuse : MD := (yX10_refuse, cX10_refuse, 2, some .int)
def M_X10_accept : MD := (yX10_accept, cX10_accept, 2, some .int)
def M_X10_change : MD := (yX10_change, cX10_change, 5, some .int)
def M_X10_mindedIfShifted : MD := (yX10_mindedIfShifted, cX10_mindedIfShifted, 2, some .int)
def M_X10_spendEvening : MD := (yX10_spendEvening, cX10_spendEvening, 6, some .int)
def M_X10_stir : MD := (yX10_stir, cX10_stir, 1, some .int)
def M_X10_mostTerm : MD := (yX10_mostTerm, cX10_mostTerm, 1, some .int)
def M_X10_isKey : MD := (yX10_isKey, cX10_isKey, 1, some .boolean)
def M_X10_isBeat : MD := (yX10_isBeat, cX10_isBeat, 1, some .boolean)
def M_X10_isLetter : MD := (yX10_isLetter, cX10_isLetter, 1, some .boolean)
def M_X10_isDigit : MD := (yX10_isDigit, cX10_isDigit, 1, some .boolean)
def M_X11_lies : MD := (yX11_lies, cX11_lies, 3, some .boolean)
def M_X11_lesser : MD := (yX11_lesser, cX11_lesser, 2, some .int)
def M_X11_greater : MD := (yX11_greater, cX11_greater, 2, some .int)
def M_X11_refuses : MD := (yX11_refuses, cX11_refuses, 2, some .int)
def M_X11_good : MD := (yX11_good, cX11_good, 2, some .int)
def M_X11_goodAnew : MD := (yX11_goodAnew, cX11_goodAnew, 2, some .int)
def M_X11_isIn : MD := (yX11_isIn, cX11_isIn, 2, some .boolean)
def M_X11_ones : MD := (yX11_ones, cX11_ones, 3, some .int)
def M_X11_isKey : MD := (yX11_isKey, cX11_isKey, 1, some .boolean)
def M_X11_isBeat : MD := (yX11_isBeat, cX11_isBeat, 1, some .boolean)
def M_X11_init : MD := (yX11_init, cX11_init, 2, none)
def M_X11_laysAside : MD := (yX11_laysAside, cX11_laysAside, 3, none)
def M_X11_takesBack : MD := (yX11_takesBack, cX11_takesBack, 3, none)
def M_X11_image : MD := (yX11_image, cX11_image, 3, some .int)
def M_X11_back : MD := (yX11_back, cX11_back, 3, some .int)
def M_X11_many : MD := (yX11_many, cX11_many, 1, some .int)
def M_X11_isHouse : MD := (yX11_isHouse, cX11_isHouse, 2, some .boolean)
def M_X11_musicAt : MD := (yX11_musicAt, cX11_musicAt, 2, some .int)
def M_X11_notes0 : MD := (yX11_notes0, cX11_notes0, 3, some .int)
def M_X11_house : MD := (yX11_house, cX11_house, 4, some .int)
def M_X11_ownedBy : MD := (yX11_ownedBy, cX11_ownedBy, 4, some .int)
def M_X11_of : MD := (yX11_of, cX11_of, 3, some .int)
def M_X11_owner : MD := (yX11_owner, cX11_owner, 2, some .int)
def M_X11_music : MD := (yX11_music, cX11_music, 2, some .int)
def M_X11_asks : MD := (yX11_asks, cX11_asks, 5, some .int)
def M_X11_isTerm : MD := (yX11_isTerm, cX11_isTerm, 2, some .boolean)
def M_X11_termAt : MD := (yX11_termAt, cX11_termAt, 1, some .int)
def M_X11_terms : MD := (yX11_terms, cX11_terms, 4, some .int)
def M_X11_row : MD := (yX11_row, cX11_row, 4, some .int)
def M_X11_creaks : MD := (yX11_creaks, cX11_creaks, 1, some .int)
def M_X11_feed : MD := (yX11_feed, cX11_feed, 7, some .int)
def M_X11_end : MD := (yX11_end, cX11_end, 2, some .int)
def M_X11_isSmall : MD := (yX11_isSmall, cX11_isSmall, 1, some .boolean)
def M_X11_isDigit : MD := (yX11_isDigit, cX11_isDigit, 1, some .boolean)
def M_X11_wordOf : MD := (yX11_wordOf, cX11_wordOf, 8, some .int)
def M_X11_splits : MD := (yX11_splits, cX11_splits, 6, none)
def M_X11_fine : MD := (yX11_fine, cX11_fine, 1, some .boolean)
def M_X11_faults : MD := (yX11_faults, cX11_faults, 1, none)
def M_X11_takes0 : MD := (yX11_takes0, cX11_takes0, 3, some .boolean)
def M_X11_must : MD := (yX11_must, cX11_must, 2, none)
def M_X11_leaf : MD := (yX11_leaf, cX11_leaf, 1, none)
def M_X11_sign : MD := (yX11_sign, cX11_sign, 1, some .int)
def M_X11_mustNumber : MD := (yX11_mustNumber, cX11_mustNumber, 3, none)
def M_X11_readClause : MD := (yX11_readClause, cX11_readClause, 1, none)
def M_X11_readOrder : MD := (yX11_readOrder, cX11_readOrder, 1, none)
def M_X11_readOne : MD := (yX11_readOne, cX11_readOne, 1, none)
def M_X11_readTest : MD := (yX11_readTest, cX11_readTest, 2, none)
def M_X11_readBoth : MD := (yX11_readBoth, cX11_readBoth, 2, none)
def M_X11_readPlain : MD := (yX11_readPlain, cX11_readPlain, 4, none)
def M_X11_readSum : MD := (yX11_readSum, cX11_readSum, 2, none)
def M_X11_readTerm : MD := (yX11_readTerm, cX11_readTerm, 2, none)
def M_X11_readPart : MD := (yX11_readPart, cX11_readPart, 3, none)
def M_X11_reads : MD := (yX11_reads, cX11_reads, 2, some .boolean)
def M_X11_readsAs : MD := (yX11_readsAs, cX11_readsAs, 2, some .boolean)
def M_X11_lays : MD := (yX11_lays, cX11_lays, 3, none)
def M_X11_law : MD := (yX11_law, cX11_law, 1, some .int)
def M_X11_fault : MD := (yX11_fault, cX11_fault, 1, some .int)
def M_X11_isLaw : MD := (yX11_isLaw, cX11_isLaw, 2, some .boolean)
def M_X11_force : MD := (yX11_force, cX11_force, 3, some .int)
def M_X11_codeAt : MD := (yX11_codeAt, cX11_codeAt, 2, some .int)
def M_X11_passes0 : MD := (yX11_passes0, cX11_passes0, 3, some .boolean)
def M_X11_bounded : MD := (yX11_bounded, cX11_bounded, 4, some .long)
def M_X11_sumOf : MD := (yX11_sumOf, cX11_sumOf, 7, some .long)
def M_X11_termOf : MD := (yX11_termOf, cX11_termOf, 7, some .long)
def M_X11_partOf : MD := (yX11_partOf, cX11_partOf, 4, some .long)
def M_X11_orderValue : MD := (yX11_orderValue, cX11_orderValue, 3, some .int)
def M_X11_testOf : MD := (yX11_testOf, cX11_testOf, 4, some .boolean)
def M_X11_bothOf : MD := (yX11_bothOf, cX11_bothOf, 4, some .boolean)
def M_X11_plainOf : MD := (yX11_plainOf, cX11_plainOf, 3, some .boolean)
def M_X11_positiveOf : MD := (yX11_positiveOf, cX11_positiveOf, 7, some .boolean)
def M_X11_setsAsked : MD := (yX11_setsAsked, cX11_setsAsked, 4, none)
def M_X11_tells : MD := (yX11_tells, cX11_tells, 13, some .int)
def M_X11_mindedAt : MD := (yX11_mindedAt, cX11_mindedAt, 4, some .int)
def M_X11_canPlay : MD := (yX11_canPlay, cX11_canPlay, 4, some .boolean)
def M_X11_canHold : MD := (yX11_canHold, cX11_canHold, 5, some .boolean)
def M_X11_laysParts : MD := (yX11_laysParts, cX11_laysParts, 7, none)
def M_X11_givesNothing : MD := (yX11_givesNothing, cX11_givesNothing, 2, none)
def M_X11_leastOf : MD := (yX11_leastOf, cX11_leastOf, 6, some .int)
def M_X11_mindedOf : MD := (yX11_mindedOf, cX11_mindedOf, 3, some .int)
def M_X11_leastAt : MD := (yX11_leastAt, cX11_leastAt, 2, some .int)
def M_X11_drill : MD := (yX11_drill, cX11_drill, 2, some .int)
def M_X11_leastOfAll : MD := (yX11_leastOfAll, cX11_leastOfAll, 5, some .int)
def M_X11_least : MD := (yX11_least, cX11_least, 3, some .int)
def M_X11_compare : MD := (yX11_compare, cX11_compare, 4, some .int)
def M_X11_laysWay : MD := (yX11_laysWay, cX11_laysWay, 6, some .boolean)
def M_X11_who : MD := (yX11_who, cX11_who, 3, some .int)
def M_X11_ways : MD := (yX11_ways, cX11_ways, 7, some .int)
def M_X11_might : MD := (yX11_might, cX11_might, 5, some .int)
def M_X11_hasSet : MD := (yX11_hasSet, cX11_hasSet, 6, some .boolean)
def M_X11_laysCrowds : MD := (yX11_laysCrowds, cX11_laysCrowds, 6, none)
def M_X11_cover : MD := (yX11_cover, cX11_cover, 5, some .int)
def M_X11_run : MD := (yX11_run, cX11_run, 7, some .int)
def M_X11_shifted : MD := (yX11_shifted, cX11_shifted, 4, some .int)
def M_X11_best : MD := (yX11_best, cX11_best, 6, some .int)
def M_X11_motif : MD := (yX11_motif, cX11_motif, 3, some .int)
def M_X11_forget : MD := (yX11_forget, cX11_forget, 2, some .int)
def M_X11_isFound : MD := (yX11_isFound, cX11_isFound, 5, some .boolean)
def M_X11_isSilent : MD := (yX11_isSilent, cX11_isSilent, 3, some .boolean)
def M_X11_find : MD := (yX11_find, cX11_find, 6, some .int)
def M_X11_laysDebts : MD := (yX11_laysDebts, cX11_laysDebts, 4, some .boolean)
def M_X11_owes : MD := (yX11_owes, cX11_owes, 3, some .int)
def M_X11_owedMore : MD := (yX11_owedMore, cX11_owedMore, 5, some .int)
def M_X11_settled : MD := (yX11_settled, cX11_settled, 4, some .int)
def M_X11_few : MD := (yX11_few, cX11_few, 6, some .long)
def M_X11_keeps : MD := (yX11_keeps, cX11_keeps, 4, none)
def M_X11_undo : MD := (yX11_undo, cX11_undo, 3, some .int)
def M_X11_goodOr : MD := (yX11_goodOr, cX11_goodOr, 2, some .int)
def M_X11_notesKept : MD := (yX11_notesKept, cX11_notesKept, 3, some .int)
def M_X11_givesKept : MD := (yX11_givesKept, cX11_givesKept, 4, some .int)
def M_X11_shiftsKept : MD := (yX11_shiftsKept, cX11_shiftsKept, 3, some .int)
def M_X11_passesKept : MD := (yX11_passesKept, cX11_passesKept, 1, some .int)
def M_X11_note : MD := (yX11_note, cX11_note, 3, some .int)
def M_X11_give : MD := (yX11_give, cX11_give, 3, some .int)
def M_X11_shift : MD := (yX11_shift, cX11_shift, 2, some .int)
def M_X11_pass : MD := (yX11_pass, cX11_pass, 1, some .int)
def M_X11_stopped : MD := (yX11_stopped, cX11_stopped, 1, some .int)
def M_X11_orders : MD := (yX11_orders, cX11_orders, 5, some .int)
def M_X11_hasWord : MD := (yX11_hasWord, cX11_hasWord, 4, some .boolean)
def M_X11_goesAlong : MD := (yX11_goesAlong, cX11_goesAlong, 5, none)
def M_X11_small : MD := (yX11_small, cX11_small, 2, some .int)
def M_X11_obeys : MD := (yX11_obeys, cX11_obeys, 3, some .int)
def M_X11_runs : MD := (yX11_runs, cX11_runs, 5, some .boolean)
def M_X11_draws : MD := (yX11_draws, cX11_draws, 2, some .int)
def M_X11_happens : MD := (yX11_happens, cX11_happens, 5, none)
def M_X11_evenings : MD := (yX11_evenings, cX11_evenings, 5, some .int)
def M_X11_drawn : MD := (yX11_drawn, cX11_drawn, 3, some .int)
def M_X11_count : MD := (yX11_count, cX11_count, 2, some .int)
def M_X11_status : MD := (yX11_status, cX11_status, 1, some .int)
def M_J6_bitCount_0f7a4 : MD := (yJ6_bitCount_0f7a4, cJ6_bitCount_0f7a4, 1, some .int)
def M_J9_max_7cf53 : MD := (yJ9_max_7cf53, cJ9_max_7cf53, 2, some .int)
def M_J9_max_f86c9 : MD := (yJ9_max_f86c9, cJ9_max_f86c9, 4, some .long)
def M_J9_min_7cf53 : MD := (yJ9_min_7cf53, cJ9_min_7cf53, 2, some .int)
def M_J9_min_f86c9 : MD := (yJ9_min_f86c9, cJ9_min_f86c9, 4, some .long)
def M_J0_length_8abf5 : MD := (yJ0_length_8abf5, cJ0_length_8abf5, 1, some .int)
def M_J0_charAt_5068e : MD := (yJ0_charAt_5068e, cJ0_charAt_5068e, 2, some .char)
def M_J0_coder_7d493 : MD := (yJ0_coder_7d493, cJ0_coder_7d493, 1, some .byte)
def M_J0_isLatin1_aae02 : MD := (yJ0_isLatin1_aae02, cJ0_isLatin1_aae02, 1, some .boolean)
def M_J0_checkIndex_df160 : MD := (yJ0_checkIndex_df160, cJ0_checkIndex_df160, 2, none)
def M_J1_charAt_3b067 : MD := (yJ1_charAt_3b067, cJ1_charAt_3b067, 2, some .char)
def M_J2_getChar_3b067 : MD := (yJ2_getChar_3b067, cJ2_getChar_3b067, 2, some .char)
def M_J2_length_9d52b : MD := (yJ2_length_9d52b, cJ2_length_9d52b, 1, some .int)
def M_J2_charAt_3b067 : MD := (yJ2_charAt_3b067, cJ2_charAt_3b067, 2, some .char)
def M_J2_checkIndex_2214a : MD := (yJ2_checkIndex_2214a, cJ2_checkIndex_2214a, 2, none)
def M_J7_fill_d0a16 : MD := (yJ7_fill_d0a16, cJ7_fill_d0a16, 5, none)
def M_J7_fill_53178 : MD := (yJ7_fill_53178, cJ7_fill_53178, 4, none)
def M_J3_checkIndex_8e157 : MD := (yJ3_checkIndex_8e157, cJ3_checkIndex_8e157, 3, some .int)
def M_L_law : MD := (yL_law, cL_law, 4, some .boolean)
theorem kc_X10_init : Cond.code M_X10_init.1 M_X10_init.2.1 M_X10_init.2.2.1 M_X10_init.2.2.2 ∈ T0 := tb1 (List.mem_of_getElem? (i := 25) rfl) rfl
theorem mok_X10_init : MOk M_X10_init 0 := ⟨kc_X10_init, by decide +kernel, by decide +kernel, kz_X10, by decide⟩
theorem kc_X10_accept : Cond.code M_X10_accept.1 M_X10_accept.2.1 M_X10_accept.2.2.1 M_X10_accept.2.2.2 ∈ T0 := tb2 (List.mem_of_getElem? (i := 177) rfl) rfl
theorem mok_X10_accept : MOk M_X10_accept 1 := ⟨kc_X10_accept, by decide +kernel, by decide +kernel, kz_X10, by decide⟩
theorem kc_X10_asks : Cond.code M_X10_asks.1 M_X10_asks.2.1 M_X10_asks.2.2.1 M_X10_asks.2.2.2 ∈ T0 := tb2 (List.mem_of_getElem? (i := 207) rfl) rfl
theorem mok_X10_asks : MOk M_X10_asks 4 := ⟨kc_X10_asks, by decide +kernel, by decide +kernel, kz_X10, by decide⟩
theorem kc_X10_back : Cond.code M_X10_back.1 M_X10_back.2.1 M_X10_back.2.2.1 M_X10_back.2.2.2 ∈ T0 := tb5 (List.mem_of_getElem? (i := 64) rfl) rfl
theorem mok_X10_back : MOk M_X10_back 1 := ⟨kc_X10_back, by decide +kernel, by decide +kernel, kz_X10, by decide⟩
theorem kc_X10_best : Cond.code M_X10_best.1 M_X10_best.2.1 M_X10_best.2.2.1 M_X10_best.2.2.2 ∈ T0 := tb4 (List.mem_of_getElem? (i := 209) rfl) rfl
theorem mok_X10_best : MOk M_X10_best 1 := ⟨kc_X10_best, by decide +kernel, by decide +kernel, kz_X10, by decide⟩
theorem kc_X10_change : Cond.code M_X10_change.1 M_X10_change.2.1 M_X10_change.2.2.1 M_X10_change.2.2.2 ∈ T0 := tb4 (List.mem_of_getElem? (i := 110) rfl) rfl
theorem mok_X10_change : MOk M_X10_change 3 := ⟨kc_X10_change, by decide +kernel, by decide +kernel, kz_X10, by decide⟩
theorem kc_X10_compare : Cond.code M_X10_compare.1 M_X10_compare.2.1 M_X10_compare.2.2.1 M_X10_compare.2.2.2 ∈ T0 := tb5 (List.mem_of_getElem? (i := 39) rfl) rfl
theorem mok_X10_compare : MOk M_X10_compare 1 := ⟨kc_X10_compare, by decide +kernel, by decide +kernel, kz_X10, by decide⟩
theorem kc_X10_count : Cond.code M_X10_count.1 M_X10_count.2.1 M_X10_count.2.2.1 M_X10_count.2.2.2 ∈ T0 := tb5 (List.mem_of_getElem? (i := 68) rfl) rfl
theorem mok_X10_count : MOk M_X10_count 1 := ⟨kc_X10_count, by decide +kernel, by decide +kernel, kz_X10, by decide⟩
theorem kc_X10_cover : Cond.code M_X10_cover.1 M_X10_cover.2.1 M_X10_cover.2.2.1 M_X10_cover.2.2.2 ∈ T0 := tb4 (List.mem_of_getElem? (i := 195) rfl) rfl
theorem mok_X10_cover : MOk M_X10_cover 1 := ⟨kc_X10_cover, by decide +kernel, by decide +kernel, kz_X10, by decide⟩
theorem kc_X10_creaks : Cond.code M_X10_creaks.1 M_X10_creaks.2.1 M_X10_creaks.2.2.1 M_X10_creaks.2.2.2 ∈ T0 := tb3 (List.mem_of_getElem? (i := 32) rfl) rfl
theorem mok_X10_creaks : MOk M_X10_creaks 0 := ⟨kc_X10_creaks, by decide +kernel, by decide +kernel, kz_X10, by decide⟩
theorem kc_X10_drawn : Cond.code M_X10_drawn.1 M_X10_drawn.2.1 M_X10_drawn.2.2.1 M_X10_drawn.2.2.2 ∈ T0 := tb5 (List.mem_of_getElem? (i := 56) rfl) rfl
theorem mok_X10_drawn : MOk M_X10_drawn 2 := ⟨kc_X10_drawn, by decide +kernel, by decide +kernel, kz_X10, by decide⟩
theorem kc_X10_drill : Cond.code M_X10_drill.1 M_X10_drill.2.1 M_X10_drill.2.2.1 M_X10_drill.2.2.2 ∈ T0 := tb4 (List.mem_of_getElem? (i := 133) rfl) rfl
theorem mok_X10_drill : MOk M_X10_drill 0 := ⟨kc_X10_drill, by decide +kernel, by decide +kernel, kz_X10, by decide⟩
theorem kc_X10_end : Cond.code M_X10_end.1 M_X10_end.2.1 M_X10_end.2.2.1 M_X10_end.2.2.2 ∈ T0 := tb3 (List.mem_of_getElem? (i := 20) rfl) rfl
theorem mok_X10_end : MOk M_X10_end 1 := ⟨kc_X10_end, by decide +kernel, by decide +kernel, kz_X10, by decide⟩
theorem kc_X10_evenings : Cond.code M_X10_evenings.1 M_X10_evenings.2.1 M_X10_evenings.2.2.1 M_X10_evenings.2.2.2 ∈ T0 := tb5 (List.mem_of_getElem? (i := 43) rfl) rfl
theorem mok_X10_evenings : MOk M_X10_evenings 2 := ⟨kc_X10_evenings, by decide +kernel, by decide +kernel, kz_X10, by decide⟩
theorem kc_X10_fault : Cond.code M_X10_fault.1 M_X10_fault.2.1 M_X10_fault.2.2.1 M_X10_fault.2.2.2 ∈ T0 := tb4 (List.mem_of_getElem? (i := 93) rfl) rfl
theorem mok_X10_fault : MOk M_X10_fault 0 := ⟨kc_X10_fault, by decide +kernel, by decide +kernel, kz_X10, by decide⟩
theorem kc_X10_feed : Cond.code M_X10_feed.1 M_X10_feed.2.1 M_X10_feed.2.2.1 M_X10_feed.2.2.2 ∈ T0 := tb3 (List.mem_of_getElem? (i := 12) rfl) rfl
theorem mok_X10_feed : MOk M_X10_feed 5 := ⟨kc_X10_feed, by decide +kernel, by decide +kernel, kz_X10, by decide⟩
theorem kc_X10_few : Cond.code M_X10_few.1 M_X10_few.2.1 M_X10_few.2.2.1 M_X10_few.2.2.2 ∈ T0 := tb5 (List.mem_of_getElem? (i := 31) rfl) rfl
theorem mok_X10_few : MOk M_X10_few 2 := ⟨kc_X10_few, by decide +kernel, by decide +kernel, kz_X10, by decide⟩
theorem kc_X10_find : Cond.code M_X10_find.1 M_X10_find.2.1 M_X10_find.2.2.1 M_X10_find.2.2.2 ∈ T0 := tb4 (List.mem_of_getElem? (i := 232) rfl) rfl
theorem mok_X10_find : MOk M_X10_find 1 := ⟨kc_X10_find, by decide +kernel, by decide +kernel, kz_X10, by decide⟩
theorem kc_X10_force : Cond.code M_X10_force.1 M_X10_force.2.1 M_X10_force.2.2.1 M_X10_force.2.2.2 ∈ T0 := tb4 (List.mem_of_getElem? (i := 101) rfl) rfl
theorem mok_X10_force : MOk M_X10_force 1 := ⟨kc_X10_force, by decide +kernel, by decide +kernel, kz_X10, by decide⟩
theorem kc_X10_forget : Cond.code M_X10_forget.1 M_X10_forget.2.1 M_X10_forget.2.2.1 M_X10_forget.2.2.2 ∈ T0 := tb4 (List.mem_of_getElem? (i := 228) rfl) rfl
theorem mok_X10_forget : MOk M_X10_forget 0 := ⟨kc_X10_forget, by decide +kernel, by decide +kernel, kz_X10, by decide⟩
theorem kc_X10_give : Cond.code M_X10_give.1 M_X10_give.2.1 M_X10_give.2.2.1 M_X10_give.2.2.2 ∈ T0 := tb4 (List.mem_of_getElem? (i := 116) rfl) rfl
theorem mok_X10_give : MOk M_X10_give 2 := ⟨kc_X10_give, by decide +kernel, by decide +kernel, kz_X10, by decide⟩
theorem kc_X10_house : Cond.code M_X10_house.1 M_X10_house.2.1 M_X10_house.2.2.1 M_X10_house.2.2.2 ∈ T0 := tb2 (List.mem_of_getElem? (i := 165) rfl) rfl
theorem mok_X10_house : MOk M_X10_house 2 := ⟨kc_X10_house, by decide +kernel, by decide +kernel, kz_X10, by decide⟩
theorem kc_X10_image : Cond.code M_X10_image.1 M_X10_image.2.1 M_X10_image.2.2.1 M_X10_image.2.2.2 ∈ T0 := tb5 (List.mem_of_getElem? (i := 60) rfl) rfl
theorem mok_X10_image : MOk M_X10_image 1 := ⟨kc_X10_image, by decide +kernel, by decide +kernel, kz_X10, by decide⟩
theorem kc_X10_isBeat : Cond.code M_X10_isBeat.1 M_X10_isBeat.2.1 M_X10_isBeat.2.2.1 M_X10_isBeat.2.2.2 ∈ T0 := tb2 (List.mem_of_getElem? (i := 203) rfl) rfl
theorem mok_X10_isBeat : MOk M_X10_isBeat 1 := ⟨kc_X10_isBeat, by decide +kernel, by decide +kernel, kz_X10, by decide⟩
theorem kc_X10_isDigit : Cond.code M_X10_isDigit.1 M_X10_isDigit.2.1 M_X10_isDigit.2.2.1 M_X10_isDigit.2.2.2 ∈ T0 := tb3 (List.mem_of_getElem? (i := 55) rfl) rfl
theorem mok_X10_isDigit : MOk M_X10_isDigit 1 := ⟨kc_X10_isDigit, by decide +kernel, by decide +kernel, kz_X10, by decide⟩
theorem kc_X10_isKey : Cond.code M_X10_isKey.1 M_X10_isKey.2.1 M_X10_isKey.2.2.1 M_X10_isKey.2.2.2 ∈ T0 := tb2 (List.mem_of_getElem? (i := 196) rfl) rfl
theorem mok_X10_isKey : MOk M_X10_isKey 1 := ⟨kc_X10_isKey, by decide +kernel, by decide +kernel, kz_X10, by decide⟩
theorem kc_X10_isLetter : Cond.code M_X10_isLetter.1 M_X10_isLetter.2.1 M_X10_isLetter.2.2.1 M_X10_isLetter.2.2.2 ∈ T0 := tb3 (List.mem_of_getElem? (i := 52) rfl) rfl
theorem mok_X10_isLetter : MOk M_X10_isLetter 1 := ⟨kc_X10_isLetter, by decide +kernel, by decide +kernel, kz_X10, by decide⟩
theorem kc_X10_law : Cond.code M_X10_law.1 M_X10_law.2.1 M_X10_law.2.2.1 M_X10_law.2.2.2 ∈ T0 := tb3 (List.mem_of_getElem? (i := 36) rfl) rfl
theorem mok_X10_law : MOk M_X10_law 0 := ⟨kc_X10_law, by decide +kernel, by decide +kernel, kz_X10, by decide⟩
theorem kc_X10_least : Cond.code M_X10_least.1 M_X10_least.2.1 M_X10_least.2.2.1 M_X10_least.2.2.2 ∈ T0 := tb4 (List.mem_of_getElem? (i := 138) rfl) rfl
theorem mok_X10_least : MOk M_X10_least 1 := ⟨kc_X10_least, by decide +kernel, by decide +kernel, kz_X10, by decide⟩
theorem kc_X10_might : Cond.code M_X10_might.1 M_X10_might.2.1 M_X10_might.2.2.1 M_X10_might.2.2.2 ∈ T0 := tb4 (List.mem_of_getElem? (i := 182) rfl) rfl
theorem mok_X10_might : MOk M_X10_might 2 := ⟨kc_X10_might, by decide +kernel, by decide +kernel, kz_X10, by decide⟩
theorem kc_X10_mindedIfShifted : Cond.code M_X10_mindedIfShifted.1 M_X10_mindedIfShifted.2.1 M_X10_mindedIfShifted.2.2.1 M_X10_mindedIfShifted.2.2.2 ∈ T0 := tb4 (List.mem_of_getElem? (i := 213) rfl) rfl
theorem mok_X10_mindedIfShifted : MOk M_X10_mindedIfShifted 1 := ⟨kc_X10_mindedIfShifted, by decide +kernel, by decide +kernel, kz_X10, by decide⟩
theorem kc_X10_mostTerm : Cond.code M_X10_mostTerm.1 M_X10_mostTerm.2.1 M_X10_mostTerm.2.2.1 M_X10_mostTerm.2.2.2 ∈ T0 := tb3 (List.mem_of_getElem? (i := 8) rfl) rfl
theorem mok_X10_mostTerm : MOk M_X10_mostTerm 1 := ⟨kc_X10_mostTerm, by decide +kernel, by decide +kernel, kz_X10, by decide⟩
theorem kc_X10_motif : Cond.code M_X10_motif.1 M_X10_motif.2.1 M_X10_motif.2.2.1 M_X10_motif.2.2.2 ∈ T0 := tb4 (List.mem_of_getElem? (i := 224) rfl) rfl
theorem mok_X10_motif : MOk M_X10_motif 1 := ⟨kc_X10_motif, by decide +kernel, by decide +kernel, kz_X10, by decide⟩
theorem kc_X10_music : Cond.code M_X10_music.1 M_X10_music.2.1 M_X10_music.2.2.1 M_X10_music.2.2.2 ∈ T0 := tb2 (List.mem_of_getElem? (i := 200) rfl) rfl
theorem mok_X10_music : MOk M_X10_music 1 := ⟨kc_X10_music, by decide +kernel, by decide +kernel, kz_X10, by decide⟩
theorem kc_X10_note : Cond.code M_X10_note.1 M_X10_note.2.1 M_X10_note.2.2.1 M_X10_note.2.2.2 ∈ T0 := tb4 (List.mem_of_getElem? (i := 106) rfl) rfl
theorem mok_X10_note : MOk M_X10_note 2 := ⟨kc_X10_note, by decide +kernel, by decide +kernel, kz_X10, by decide⟩
theorem kc_X10_of : Cond.code M_X10_of.1 M_X10_of.2.1 M_X10_of.2.2.1 M_X10_of.2.2.2 ∈ T0 := tb2 (List.mem_of_getElem? (i := 181) rfl) rfl
theorem mok_X10_of : MOk M_X10_of 2 := ⟨kc_X10_of, by decide +kernel, by decide +kernel, kz_X10, by decide⟩
theorem kc_X10_orders : Cond.code M_X10_orders.1 M_X10_orders.2.1 M_X10_orders.2.2.1 M_X10_orders.2.2.2 ∈ T0 := tb3 (List.mem_of_getElem? (i := 216) rfl) rfl
theorem mok_X10_orders : MOk M_X10_orders 0 := ⟨kc_X10_orders, by decide +kernel, by decide +kernel, kz_X10, by decide⟩
theorem kc_X10_owes : Cond.code M_X10_owes.1 M_X10_owes.2.1 M_X10_owes.2.2.1 M_X10_owes.2.2.2 ∈ T0 := tb5 (List.mem_of_getElem? (i := 5) rfl) rfl
theorem mok_X10_owes : MOk M_X10_owes 2 := ⟨kc_X10_owes, by decide +kernel, by decide +kernel, kz_X10, by decide⟩
theorem kc_X10_owner : Cond.code M_X10_owner.1 M_X10_owner.2.1 M_X10_owner.2.2.1 M_X10_owner.2.2.2 ∈ T0 := tb2 (List.mem_of_getElem? (i := 193) rfl) rfl
theorem mok_X10_owner : MOk M_X10_owner 1 := ⟨kc_X10_owner, by decide +kernel, by decide +kernel, kz_X10, by decide⟩
theorem kc_X10_pass : Cond.code M_X10_pass.1 M_X10_pass.2.1 M_X10_pass.2.2.1 M_X10_pass.2.2.2 ∈ T0 := tb4 (List.mem_of_getElem? (i := 124) rfl) rfl
theorem mok_X10_pass : MOk M_X10_pass 0 := ⟨kc_X10_pass, by decide +kernel, by decide +kernel, kz_X10, by decide⟩
theorem kc_X10_refuse : Cond.code M_X10_refuse.1 M_X10_refuse.2.1 M_X10_refuse.2.2.1 M_X10_refuse.2.2.2 ∈ T0 := tb2 (List.mem_of_getElem? (i := 169) rfl) rfl
theorem mok_X10_refuse : MOk M_X10_refuse 1 := ⟨kc_X10_refuse, by decide +kernel, by decide +kernel, kz_X10, by decide⟩
theorem kc_X10_row : Cond.code M_X10_row.1 M_X10_row.2.1 M_X10_row.2.2.1 M_X10_row.2.2.2 ∈ T0 := tb3 (List.mem_of_getElem? (i := 24) rfl) rfl
theorem mok_X10_row : MOk M_X10_row 0 := ⟨kc_X10_row, by decide +kernel, by decide +kernel, kz_X10, by decide⟩
theorem kc_X10_run : Cond.code M_X10_run.1 M_X10_run.2.1 M_X10_run.2.2.1 M_X10_run.2.2.2 ∈ T0 := tb4 (List.mem_of_getElem? (i := 204) rfl) rfl
theorem mok_X10_run : MOk M_X10_run 2 := ⟨kc_X10_run, by decide +kernel, by decide +kernel, kz_X10, by decide⟩
theorem kc_X10_settled : Cond.code M_X10_settled.1 M_X10_settled.2.1 M_X10_settled.2.2.1 M_X10_settled.2.2.2 ∈ T0 := tb5 (List.mem_of_getElem? (i := 18) rfl) rfl
theorem mok_X10_settled : MOk M_X10_settled 0 := ⟨kc_X10_settled, by decide +kernel, by decide +kernel, kz_X10, by decide⟩
theorem kc_X10_shift : Cond.code M_X10_shift.1 M_X10_shift.2.1 M_X10_shift.2.2.1 M_X10_shift.2.2.2 ∈ T0 := tb4 (List.mem_of_getElem? (i := 120) rfl) rfl
theorem mok_X10_shift : MOk M_X10_shift 1 := ⟨kc_X10_shift, by decide +kernel, by decide +kernel, kz_X10, by decide⟩
theorem kc_X10_spendEvening : Cond.code M_X10_spendEvening.1 M_X10_spendEvening.2.1 M_X10_spendEvening.2.2.1 M_X10_spendEvening.2.2.2 ∈ T0 := tb5 (List.mem_of_getElem? (i := 48) rfl) rfl
theorem mok_X10_spendEvening : MOk M_X10_spendEvening 1 := ⟨kc_X10_spendEvening, by decide +kernel, by decide +kernel, kz_X10, by decide⟩
theorem kc_X10_status : Cond.code M_X10_status.1 M_X10_status.2.1 M_X10_status.2.2.1 M_X10_status.2.2.2 ∈ T0 := tb5 (List.mem_of_getElem? (i := 73) rfl) rfl
theorem mok_X10_status : MOk M_X10_status 0 := ⟨kc_X10_status, by decide +kernel, by decide +kernel, kz_X10, by decide⟩
theorem kc_X10_stir : Cond.code M_X10_stir.1 M_X10_stir.2.1 M_X10_stir.2.2.1 M_X10_stir.2.2.2 ∈ T0 := tb5 (List.mem_of_getElem? (i := 51) rfl) rfl
theorem mok_X10_stir : MOk M_X10_stir 1 := ⟨kc_X10_stir, by decide +kernel, by decide +kernel, kz_X10, by decide⟩
theorem kc_X10_stopped : Cond.code M_X10_stopped.1 M_X10_stopped.2.1 M_X10_stopped.2.2.1 M_X10_stopped.2.2.2 ∈ T0 := tb4 (List.mem_of_getElem? (i := 97) rfl) rfl
theorem mok_X10_stopped : MOk M_X10_stopped 0 := ⟨kc_X10_stopped, by decide +kernel, by decide +kernel, kz_X10, by decide⟩
theorem kc_X10_terms : Cond.code M_X10_terms.1 M_X10_terms.2.1 M_X10_terms.2.2.1 M_X10_terms.2.2.2 ∈ T0 := tb3 (List.mem_of_getElem? (i := 5) rfl) rfl
theorem mok_X10_terms : MOk M_X10_terms 2 := ⟨kc_X10_terms, by decide +kernel, by decide +kernel, kz_X10, by decide⟩
theorem kc_X10_undo : Cond.code M_X10_undo.1 M_X10_undo.2.1 M_X10_undo.2.2.1 M_X10_undo.2.2.2 ∈ T0 := tb4 (List.mem_of_getElem? (i := 128) rfl) rfl
theorem mok_X10_undo : MOk M_X10_undo 0 := ⟨kc_X10_undo, by decide +kernel, by decide +kernel, kz_X10, by decide⟩
theorem kc_X10_ways : Cond.code M_X10_ways.1 M_X10_ways.2.1 M_X10_ways.2.2.1 M_X10_ways.2.2.2 ∈ T0 := tb4 (List.mem_of_getElem? (i := 173) rfl) rfl
theorem mok_X10_ways : MOk M_X10_ways 1 := ⟨kc_X10_ways, by decide +kernel, by decide +kernel, kz_X10, by decide⟩
theorem kc_X10_who : Cond.code M_X10_who.1 M_X10_who.2.1 M_X10_who.2.2.1 M_X10_who.2.2.2 ∈ T0 := tb4 (List.mem_of_getElem? (i := 163) rfl) rfl
theorem mok_X10_who : MOk M_X10_who 2 := ⟨kc_X10_who, by decide +kernel, by decide +kernel, kz_X10, by decide⟩
theorem kc_X0_init : Cond.code M_X0_init.1 M_X0_init.2.1 M_X0_init.2.2.1 M_X0_init.2.2.2 ∈ T0 := tb2 (List.mem_of_getElem? (i := 69) rfl) rfl
theorem mok_X0_init : MOk M_X0_init 0 := ⟨kc_X0_init, by decide +kernel, by decide +kernel, kz_X0, by decide⟩
theorem kc_X0_changeNote : Cond.code M_X0_changeNote.1 M_X0_changeNote.2.1 M_X0_changeNote.2.2.1 M_X0_changeNote.2.2.2 ∈ T0 := tb4 (List.mem_of_getElem? (i := 44) rfl) rfl
theorem mok_X0_changeNote : MOk M_X0_changeNote 3 := ⟨kc_X0_changeNote, by decide +kernel, by decide +kernel, kz_X0, by decide⟩
theorem kc_X0_clear : Cond.code M_X0_clear.1 M_X0_clear.2.1 M_X0_clear.2.2.1 M_X0_clear.2.2.2 ∈ T0 := tb2 (List.mem_of_getElem? (i := 173) rfl) rfl
theorem mok_X0_clear : MOk M_X0_clear 0 := ⟨kc_X0_clear, by decide +kernel, by decide +kernel, kz_X0, by decide⟩
theorem kc_X0_giveKey : Cond.code M_X0_giveKey.1 M_X0_giveKey.2.1 M_X0_giveKey.2.2.1 M_X0_giveKey.2.2.2 ∈ T0 := tb4 (List.mem_of_getElem? (i := 59) rfl) rfl
theorem mok_X0_giveKey : MOk M_X0_giveKey 3 := ⟨kc_X0_giveKey, by decide +kernel, by decide +kernel, kz_X0, by decide⟩
theorem kc_X0_keep : Cond.code M_X0_keep.1 M_X0_keep.2.1 M_X0_keep.2.2.1 M_X0_keep.2.2.2 ∈ T0 := tb4 (List.mem_of_getElem? (i := 50) rfl) rfl
theorem mok_X0_keep : MOk M_X0_keep 3 := ⟨kc_X0_keep, by decide +kernel, by decide +kernel, kz_X0, by decide⟩
theorem kc_X0_keepLatest : Cond.code M_X0_keepLatest.1 M_X0_keepLatest.2.1 M_X0_keepLatest.2.2.1 M_X0_keepLatest.2.2.2 ∈ T0 := tb4 (List.mem_of_getElem? (i := 54) rfl) rfl
theorem mok_X0_keepLatest : MOk M_X0_keepLatest 0 := ⟨kc_X0_keepLatest, by decide +kernel, by decide +kernel, kz_X0, by decide⟩
theorem kc_X0_make : Cond.code M_X0_make.1 M_X0_make.2.1 M_X0_make.2.2.1 M_X0_make.2.2.2 ∈ T0 := tb4 (List.mem_of_getElem? (i := 40) rfl) rfl
theorem mok_X0_make : MOk M_X0_make 4 := ⟨kc_X0_make, by decide +kernel, by decide +kernel, kz_X0, by decide⟩
theorem kc_X0_passDay : Cond.code M_X0_passDay.1 M_X0_passDay.2.1 M_X0_passDay.2.2.1 M_X0_passDay.2.2.2 ∈ T0 := tb4 (List.mem_of_getElem? (i := 80) rfl) rfl
theorem mok_X0_passDay : MOk M_X0_passDay 1 := ⟨kc_X0_passDay, by decide +kernel, by decide +kernel, kz_X0, by decide⟩
theorem kc_X0_shiftMusic : Cond.code M_X0_shiftMusic.1 M_X0_shiftMusic.2.1 M_X0_shiftMusic.2.2.1 M_X0_shiftMusic.2.2.2 ∈ T0 := tb4 (List.mem_of_getElem? (i := 64) rfl) rfl
theorem mok_X0_shiftMusic : MOk M_X0_shiftMusic 2 := ⟨kc_X0_shiftMusic, by decide +kernel, by decide +kernel, kz_X0, by decide⟩
theorem kc_X0_takeBack : Cond.code M_X0_takeBack.1 M_X0_takeBack.2.1 M_X0_takeBack.2.2.1 M_X0_takeBack.2.2.2 ∈ T0 := tb4 (List.mem_of_getElem? (i := 88) rfl) rfl
theorem mok_X0_takeBack : MOk M_X0_takeBack 1 := ⟨kc_X0_takeBack, by decide +kernel, by decide +kernel, kz_X0, by decide⟩
theorem kc_X1_init : Cond.code M_X1_init.1 M_X1_init.2.1 M_X1_init.2.2.1 M_X1_init.2.2.2 ∈ T0 := tb2 (List.mem_of_getElem? (i := 55) rfl) rfl
theorem mok_X1_init : MOk M_X1_init 0 := ⟨kc_X1_init, by decide +kernel, by decide +kernel, kz_X1, by decide⟩
theorem kc_X1_balanceOf : Cond.code M_X1_balanceOf.1 M_X1_balanceOf.2.1 M_X1_balanceOf.2.2.1 M_X1_balanceOf.2.2.2 ∈ T0 := tb5 (List.mem_of_getElem? (i := 27) rfl) rfl
theorem mok_X1_balanceOf : MOk M_X1_balanceOf 2 := ⟨kc_X1_balanceOf, by decide +kernel, by decide +kernel, kz_X1, by decide⟩
theorem kc_X1_payments : Cond.code M_X1_payments.1 M_X1_payments.2.1 M_X1_payments.2.2.1 M_X1_payments.2.2.2 ∈ T0 := tb5 (List.mem_of_getElem? (i := 22) rfl) rfl
theorem mok_X1_payments : MOk M_X1_payments 1 := ⟨kc_X1_payments, by decide +kernel, by decide +kernel, kz_X1, by decide⟩
theorem kc_X1_tally : Cond.code M_X1_tally.1 M_X1_tally.2.1 M_X1_tally.2.2.1 M_X1_tally.2.2.2 ∈ T0 := tb5 (List.mem_of_getElem? (i := 9) rfl) rfl
theorem mok_X1_tally : MOk M_X1_tally 2 := ⟨kc_X1_tally, by decide +kernel, by decide +kernel, kz_X1, by decide⟩
theorem kc_X2_init : Cond.code M_X2_init.1 M_X2_init.2.1 M_X2_init.2.2.1 M_X2_init.2.2.2 ∈ T0 := tb1 (List.mem_of_getElem? (i := 224) rfl) rfl
theorem mok_X2_init : MOk M_X2_init 0 := ⟨kc_X2_init, by decide +kernel, by decide +kernel, kz_X2, by decide⟩
theorem kc_X2_ask : Cond.code M_X2_ask.1 M_X2_ask.2.1 M_X2_ask.2.2.1 M_X2_ask.2.2.2 ∈ T0 := tb2 (List.mem_of_getElem? (i := 211) rfl) rfl
theorem mok_X2_ask : MOk M_X2_ask 5 := ⟨kc_X2_ask, by decide +kernel, by decide +kernel, kz_X2, by decide⟩
theorem kc_X2_tellWords : Cond.code M_X2_tellWords.1 M_X2_tellWords.2.1 M_X2_tellWords.2.2.1 M_X2_tellWords.2.2.2 ∈ T0 := tb2 (List.mem_of_getElem? (i := 223) rfl) rfl
theorem mok_X2_tellWords : MOk M_X2_tellWords 4 := ⟨kc_X2_tellWords, by decide +kernel, by decide +kernel, kz_X2, by decide⟩
theorem kc_X3_init : Cond.code M_X3_init.1 M_X3_init.2.1 M_X3_init.2.2.1 M_X3_init.2.2.2 ∈ T0 := tb2 (List.mem_of_getElem? (i := 18) rfl) rfl
theorem mok_X3_init : MOk M_X3_init 1 := ⟨kc_X3_init, by decide +kernel, by decide +kernel, kz_X3, by decide⟩
theorem kc_X3_canHave : Cond.code M_X3_canHave.1 M_X3_canHave.2.1 M_X3_canHave.2.2.1 M_X3_canHave.2.2.2 ∈ T0 := tb4 (List.mem_of_getElem? (i := 2) rfl) rfl
theorem mok_X3_canHave : MOk M_X3_canHave 3 := ⟨kc_X3_canHave, by decide +kernel, by decide +kernel, kz_X3, by decide⟩
theorem kc_X3_covered : Cond.code M_X3_covered.1 M_X3_covered.2.1 M_X3_covered.2.2.1 M_X3_covered.2.2.2 ∈ T0 := tb4 (List.mem_of_getElem? (i := 18) rfl) rfl
theorem mok_X3_covered : MOk M_X3_covered 2 := ⟨kc_X3_covered, by decide +kernel, by decide +kernel, kz_X3, by decide⟩
theorem kc_X3_coveredBy : Cond.code M_X3_coveredBy.1 M_X3_coveredBy.2.1 M_X3_coveredBy.2.2.1 M_X3_coveredBy.2.2.2 ∈ T0 := tb4 (List.mem_of_getElem? (i := 14) rfl) rfl
theorem mok_X3_coveredBy : MOk M_X3_coveredBy 1 := ⟨kc_X3_coveredBy, by decide +kernel, by decide +kernel, kz_X3, by decide⟩
theorem kc_X3_coveredFrom : Cond.code M_X3_coveredFrom.1 M_X3_coveredFrom.2.1 M_X3_coveredFrom.2.2.1 M_X3_coveredFrom.2.2.2 ∈ T0 := tb4 (List.mem_of_getElem? (i := 25) rfl) rfl
theorem mok_X3_coveredFrom : MOk M_X3_coveredFrom 4 := ⟨kc_X3_coveredFrom, by decide +kernel, by decide +kernel, kz_X3, by decide⟩
theorem kc_X3_fewestHouses : Cond.code M_X3_fewestHouses.1 M_X3_fewestHouses.2.1 M_X3_fewestHouses.2.2.1 M_X3_fewestHouses.2.2.2 ∈ T0 := tb4 (List.mem_of_getElem? (i := 199) rfl) rfl
theorem mok_X3_fewestHouses : MOk M_X3_fewestHouses 1 := ⟨kc_X3_fewestHouses, by decide +kernel, by decide +kernel, kz_X3, by decide⟩
theorem kc_X3_firstLost : Cond.code M_X3_firstLost.1 M_X3_firstLost.2.1 M_X3_firstLost.2.2.1 M_X3_firstLost.2.2.2 ∈ T0 := tb3 (List.mem_of_getElem? (i := 238) rfl) rfl
theorem mok_X3_firstLost : MOk M_X3_firstLost 1 := ⟨kc_X3_firstLost, by decide +kernel, by decide +kernel, kz_X3, by decide⟩
theorem kc_X3_howManyWays : Cond.code M_X3_howManyWays.1 M_X3_howManyWays.2.1 M_X3_howManyWays.2.2.1 M_X3_howManyWays.2.2.2 ∈ T0 := tb4 (List.mem_of_getElem? (i := 177) rfl) rfl
theorem mok_X3_howManyWays : MOk M_X3_howManyWays 2 := ⟨kc_X3_howManyWays, by decide +kernel, by decide +kernel, kz_X3, by decide⟩
theorem kc_X3_leaveKeyTo : Cond.code M_X3_leaveKeyTo.1 M_X3_leaveKeyTo.2.1 M_X3_leaveKeyTo.2.2.1 M_X3_leaveKeyTo.2.2.2 ∈ T0 := tb4 (List.mem_of_getElem? (i := 191) rfl) rfl
theorem mok_X3_leaveKeyTo : MOk M_X3_leaveKeyTo 2 := ⟨kc_X3_leaveKeyTo, by decide +kernel, by decide +kernel, kz_X3, by decide⟩
theorem kc_X3_lightestWay : Cond.code M_X3_lightestWay.1 M_X3_lightestWay.2.1 M_X3_lightestWay.2.2.1 M_X3_lightestWay.2.2.2 ∈ T0 := tb4 (List.mem_of_getElem? (i := 146) rfl) rfl
theorem mok_X3_lightestWay : MOk M_X3_lightestWay 2 := ⟨kc_X3_lightestWay, by decide +kernel, by decide +kernel, kz_X3, by decide⟩
theorem kc_X3_lookAt : Cond.code M_X3_lookAt.1 M_X3_lookAt.2.1 M_X3_lookAt.2.2.1 M_X3_lookAt.2.2.2 ∈ T0 := tb4 (List.mem_of_getElem? (i := 6) rfl) rfl
theorem mok_X3_lookAt : MOk M_X3_lookAt 3 := ⟨kc_X3_lookAt, by decide +kernel, by decide +kernel, kz_X3, by decide⟩
theorem kc_X3_lowestKey : Cond.code M_X3_lowestKey.1 M_X3_lowestKey.2.1 M_X3_lowestKey.2.2.1 M_X3_lowestKey.2.2.2 ∈ T0 := tb4 (List.mem_of_getElem? (i := 21) rfl) rfl
theorem mok_X3_lowestKey : MOk M_X3_lowestKey 1 := ⟨kc_X3_lowestKey, by decide +kernel, by decide +kernel, kz_X3, by decide⟩
theorem kc_X3_mindedAt : Cond.code M_X3_mindedAt.1 M_X3_mindedAt.2.1 M_X3_mindedAt.2.2.1 M_X3_mindedAt.2.2.2 ∈ T0 := tb4 (List.mem_of_getElem? (i := 159) rfl) rfl
theorem mok_X3_mindedAt : MOk M_X3_mindedAt 2 := ⟨kc_X3_mindedAt, by decide +kernel, by decide +kernel, kz_X3, by decide⟩
theorem kc_X3_mindedInAll : Cond.code M_X3_mindedInAll.1 M_X3_mindedInAll.2.1 M_X3_mindedInAll.2.2.1 M_X3_mindedInAll.2.2.2 ∈ T0 := tb4 (List.mem_of_getElem? (i := 142) rfl) rfl
theorem mok_X3_mindedInAll : MOk M_X3_mindedInAll 1 := ⟨kc_X3_mindedInAll, by decide +kernel, by decide +kernel, kz_X3, by decide⟩
theorem kc_X3_player : Cond.code M_X3_player.1 M_X3_player.2.1 M_X3_player.2.2.1 M_X3_player.2.2.2 ∈ T0 := tb4 (List.mem_of_getElem? (i := 169) rfl) rfl
theorem mok_X3_player : MOk M_X3_player 1 := ⟨kc_X3_player, by decide +kernel, by decide +kernel, kz_X3, by decide⟩
theorem kc_X3_rowPlace : Cond.code M_X3_rowPlace.1 M_X3_rowPlace.2.1 M_X3_rowPlace.2.2.1 M_X3_rowPlace.2.2.2 ∈ T0 := tb4 (List.mem_of_getElem? (i := 10) rfl) rfl
theorem mok_X3_rowPlace : MOk M_X3_rowPlace 1 := ⟨kc_X3_rowPlace, by decide +kernel, by decide +kernel, kz_X3, by decide⟩
theorem kc_X3_weighParts : Cond.code M_X3_weighParts.1 M_X3_weighParts.2.1 M_X3_weighParts.2.2.1 M_X3_weighParts.2.2.2 ∈ T0 := tb4 (List.mem_of_getElem? (i := 154) rfl) rfl
theorem mok_X3_weighParts : MOk M_X3_weighParts 1 := ⟨kc_X3_weighParts, by decide +kernel, by decide +kernel, kz_X3, by decide⟩
theorem kc_X3_whoCould : Cond.code M_X3_whoCould.1 M_X3_whoCould.2.1 M_X3_whoCould.2.2.1 M_X3_whoCould.2.2.2 ∈ T0 := tb4 (List.mem_of_getElem? (i := 186) rfl) rfl
theorem mok_X3_whoCould : MOk M_X3_whoCould 3 := ⟨kc_X3_whoCould, by decide +kernel, by decide +kernel, kz_X3, by decide⟩
theorem kc_X4_init : Cond.code M_X4_init.1 M_X4_init.2.1 M_X4_init.2.2.1 M_X4_init.2.2.2 ∈ T0 := tb1 (List.mem_of_getElem? (i := 123) rfl) rfl
theorem mok_X4_init : MOk M_X4_init 1 := ⟨kc_X4_init, by decide +kernel, by decide +kernel, kz_X4, by decide⟩
theorem kc_X4_addToken : Cond.code M_X4_addToken.1 M_X4_addToken.2.1 M_X4_addToken.2.2.1 M_X4_addToken.2.2.2 ∈ T0 := tb3 (List.mem_of_getElem? (i := 60) rfl) rfl
theorem mok_X4_addToken : MOk M_X4_addToken 2 := ⟨kc_X4_addToken, by decide +kernel, by decide +kernel, kz_X4, by decide⟩
theorem kc_X4_both : Cond.code M_X4_both.1 M_X4_both.2.1 M_X4_both.2.2.1 M_X4_both.2.2.2 ∈ T0 := tb3 (List.mem_of_getElem? (i := 188) rfl) rfl
theorem mok_X4_both : MOk M_X4_both 0 := ⟨kc_X4_both, by decide +kernel, by decide +kernel, kz_X4, by decide⟩
theorem kc_X4_comparison : Cond.code M_X4_comparison.1 M_X4_comparison.2.1 M_X4_comparison.2.2.1 M_X4_comparison.2.2.2 ∈ T0 := tb3 (List.mem_of_getElem? (i := 195) rfl) rfl
theorem mok_X4_comparison : MOk M_X4_comparison 1 := ⟨kc_X4_comparison, by decide +kernel, by decide +kernel, kz_X4, by decide⟩
theorem kc_X4_multiplication : Cond.code M_X4_multiplication.1 M_X4_multiplication.2.1 M_X4_multiplication.2.2.1 M_X4_multiplication.2.2.2 ∈ T0 := tb3 (List.mem_of_getElem? (i := 172) rfl) rfl
theorem mok_X4_multiplication : MOk M_X4_multiplication 1 := ⟨kc_X4_multiplication, by decide +kernel, by decide +kernel, kz_X4, by decide⟩
theorem kc_X4_next : Cond.code M_X4_next.1 M_X4_next.2.1 M_X4_next.2.2.1 M_X4_next.2.2.2 ∈ T0 := tb3 (List.mem_of_getElem? (i := 142) rfl) rfl
theorem mok_X4_next : MOk M_X4_next 0 := ⟨kc_X4_next, by decide +kernel, by decide +kernel, kz_X4, by decide⟩
theorem kc_X4_orderWord : Cond.code M_X4_orderWord.1 M_X4_orderWord.2.1 M_X4_orderWord.2.2.1 M_X4_orderWord.2.2.2 ∈ T0 := tb3 (List.mem_of_getElem? (i := 165) rfl) rfl
theorem mok_X4_orderWord : MOk M_X4_orderWord 1 := ⟨kc_X4_orderWord, by decide +kernel, by decide +kernel, kz_X4, by decide⟩
theorem kc_X4_part : Cond.code M_X4_part.1 M_X4_part.2.1 M_X4_part.2.2.1 M_X4_part.2.2.2 ∈ T0 := tb3 (List.mem_of_getElem? (i := 154) rfl) rfl
theorem mok_X4_part : MOk M_X4_part 0 := ⟨kc_X4_part, by decide +kernel, by decide +kernel, kz_X4, by decide⟩
theorem kc_X4_plain : Cond.code M_X4_plain.1 M_X4_plain.2.1 M_X4_plain.2.2.1 M_X4_plain.2.2.2 ∈ T0 := tb3 (List.mem_of_getElem? (i := 192) rfl) rfl
theorem mok_X4_plain : MOk M_X4_plain 0 := ⟨kc_X4_plain, by decide +kernel, by decide +kernel, kz_X4, by decide⟩
theorem kc_X4_product : Cond.code M_X4_product.1 M_X4_product.2.1 M_X4_product.2.2.1 M_X4_product.2.2.2 ∈ T0 := tb3 (List.mem_of_getElem? (i := 150) rfl) rfl
theorem mok_X4_product : MOk M_X4_product 0 := ⟨kc_X4_product, by decide +kernel, by decide +kernel, kz_X4, by decide⟩
theorem kc_X4_read : Cond.code M_X4_read.1 M_X4_read.2.1 M_X4_read.2.2.1 M_X4_read.2.2.2 ∈ T0 := tb3 (List.mem_of_getElem? (i := 40) rfl) rfl
theorem mok_X4_read : MOk M_X4_read 1 := ⟨kc_X4_read, by decide +kernel, by decide +kernel, kz_X4, by decide⟩
theorem kc_X4_readCondition : Cond.code M_X4_readCondition.1 M_X4_readCondition.2.1 M_X4_readCondition.2.2.1 M_X4_readCondition.2.2.2 ∈ T0 := tb3 (List.mem_of_getElem? (i := 180) rfl) rfl
theorem mok_X4_readCondition : MOk M_X4_readCondition 1 := ⟨kc_X4_readCondition, by decide +kernel, by decide +kernel, kz_X4, by decide⟩
theorem kc_X4_readOrder : Cond.code M_X4_readOrder.1 M_X4_readOrder.2.1 M_X4_readOrder.2.2.1 M_X4_readOrder.2.2.2 ∈ T0 := tb3 (List.mem_of_getElem? (i := 134) rfl) rfl
theorem mok_X4_readOrder : MOk M_X4_readOrder 1 := ⟨kc_X4_readOrder, by decide +kernel, by decide +kernel, kz_X4, by decide⟩
theorem kc_X4_readOrderWord : Cond.code M_X4_readOrderWord.1 M_X4_readOrderWord.2.1 M_X4_readOrderWord.2.2.1 M_X4_readOrderWord.2.2.2 ∈ T0 := tb3 (List.mem_of_getElem? (i := 162) rfl) rfl
theorem mok_X4_readOrderWord : MOk M_X4_readOrderWord 0 := ⟨kc_X4_readOrderWord, by decide +kernel, by decide +kernel, kz_X4, by decide⟩
theorem kc_X4_readRule : Cond.code M_X4_readRule.1 M_X4_readRule.2.1 M_X4_readRule.2.2.1 M_X4_readRule.2.2.2 ∈ T0 := tb3 (List.mem_of_getElem? (i := 203) rfl) rfl
theorem mok_X4_readRule : MOk M_X4_readRule 1 := ⟨kc_X4_readRule, by decide +kernel, by decide +kernel, kz_X4, by decide⟩
theorem kc_X4_readRuleWord : Cond.code M_X4_readRuleWord.1 M_X4_readRuleWord.2.1 M_X4_readRuleWord.2.2.1 M_X4_readRuleWord.2.2.2 ∈ T0 := tb3 (List.mem_of_getElem? (i := 169) rfl) rfl
theorem mok_X4_readRuleWord : MOk M_X4_readRuleWord 0 := ⟨kc_X4_readRuleWord, by decide +kernel, by decide +kernel, kz_X4, by decide⟩
theorem kc_X4_readTimes : Cond.code M_X4_readTimes.1 M_X4_readTimes.2.1 M_X4_readTimes.2.2.1 M_X4_readTimes.2.2.2 ∈ T0 := tb3 (List.mem_of_getElem? (i := 176) rfl) rfl
theorem mok_X4_readTimes : MOk M_X4_readTimes 1 := ⟨kc_X4_readTimes, by decide +kernel, by decide +kernel, kz_X4, by decide⟩
theorem kc_X4_splitTape : Cond.code M_X4_splitTape.1 M_X4_splitTape.2.1 M_X4_splitTape.2.2.1 M_X4_splitTape.2.2.2 ∈ T0 := tb3 (List.mem_of_getElem? (i := 44) rfl) rfl
theorem mok_X4_splitTape : MOk M_X4_splitTape 0 := ⟨kc_X4_splitTape, by decide +kernel, by decide +kernel, kz_X4, by decide⟩
theorem kc_X4_sum : Cond.code M_X4_sum.1 M_X4_sum.2.1 M_X4_sum.2.2.1 M_X4_sum.2.2.2 ∈ T0 := tb3 (List.mem_of_getElem? (i := 146) rfl) rfl
theorem mok_X4_sum : MOk M_X4_sum 0 := ⟨kc_X4_sum, by decide +kernel, by decide +kernel, kz_X4, by decide⟩
theorem kc_X4_test : Cond.code M_X4_test.1 M_X4_test.2.1 M_X4_test.2.2.1 M_X4_test.2.2.2 ∈ T0 := tb3 (List.mem_of_getElem? (i := 184) rfl) rfl
theorem mok_X4_test : MOk M_X4_test 0 := ⟨kc_X4_test, by decide +kernel, by decide +kernel, kz_X4, by decide⟩
theorem kc_X5_init : Cond.code M_X5_init.1 M_X5_init.2.1 M_X5_init.2.2.1 M_X5_init.2.2.2 ∈ T0 := tb1 (List.mem_of_getElem? (i := 230) rfl) rfl
theorem mok_X5_init : MOk M_X5_init 0 := ⟨kc_X5_init, by decide +kernel, by decide +kernel, kz_X5, by decide⟩
theorem kc_X5_join : Cond.code M_X5_join.1 M_X5_join.2.1 M_X5_join.2.2.1 M_X5_join.2.2.2 ∈ T0 := tb2 (List.mem_of_getElem? (i := 231) rfl) rfl
theorem mok_X5_join : MOk M_X5_join 3 := ⟨kc_X5_join, by decide +kernel, by decide +kernel, kz_X5, by decide⟩
theorem kc_X5_reckon : Cond.code M_X5_reckon.1 M_X5_reckon.2.1 M_X5_reckon.2.2.1 M_X5_reckon.2.2.2 ∈ T0 := tb2 (List.mem_of_getElem? (i := 227) rfl) rfl
theorem mok_X5_reckon : MOk M_X5_reckon 3 := ⟨kc_X5_reckon, by decide +kernel, by decide +kernel, kz_X5, by decide⟩
theorem kc_X6_init : Cond.code M_X6_init.1 M_X6_init.2.1 M_X6_init.2.2.1 M_X6_init.2.2.2 ∈ T0 := tb2 (List.mem_of_getElem? (i := 89) rfl) rfl
theorem mok_X6_init : MOk M_X6_init 0 := ⟨kc_X6_init, by decide +kernel, by decide +kernel, kz_X6, by decide⟩
theorem kc_X6_runAll : Cond.code M_X6_runAll.1 M_X6_runAll.2.1 M_X6_runAll.2.2.1 M_X6_runAll.2.2.2 ∈ T0 := tb3 (List.mem_of_getElem? (i := 220) rfl) rfl
theorem mok_X6_runAll : MOk M_X6_runAll 4 := ⟨kc_X6_runAll, by decide +kernel, by decide +kernel, kz_X6, by decide⟩
theorem kc_X6_runOnce : Cond.code M_X6_runOnce.1 M_X6_runOnce.2.1 M_X6_runOnce.2.2.1 M_X6_runOnce.2.2.2 ∈ T0 := tb4 (List.mem_of_getElem? (i := 30) rfl) rfl
theorem mok_X6_runOnce : MOk M_X6_runOnce 4 := ⟨kc_X6_runOnce, by decide +kernel, by decide +kernel, kz_X6, by decide⟩
theorem kc_X6_sumOf : Cond.code M_X6_sumOf.1 M_X6_sumOf.2.1 M_X6_sumOf.2.2.1 M_X6_sumOf.2.2.2 ∈ T0 := tb4 (List.mem_of_getElem? (i := 36) rfl) rfl
theorem mok_X6_sumOf : MOk M_X6_sumOf 2 := ⟨kc_X6_sumOf, by decide +kernel, by decide +kernel, kz_X6, by decide⟩
theorem kc_X6_takeAllBack : Cond.code M_X6_takeAllBack.1 M_X6_takeAllBack.2.1 M_X6_takeAllBack.2.2.1 M_X6_takeAllBack.2.2.2 ∈ T0 := tb4 (List.mem_of_getElem? (i := 84) rfl) rfl
theorem mok_X6_takeAllBack : MOk M_X6_takeAllBack 2 := ⟨kc_X6_takeAllBack, by decide +kernel, by decide +kernel, kz_X6, by decide⟩
theorem kc_X6_tellWords : Cond.code M_X6_tellWords.1 M_X6_tellWords.2.1 M_X6_tellWords.2.2.1 M_X6_tellWords.2.2.2 ∈ T0 := tb3 (List.mem_of_getElem? (i := 224) rfl) rfl
theorem mok_X6_tellWords : MOk M_X6_tellWords 1 := ⟨kc_X6_tellWords, by decide +kernel, by decide +kernel, kz_X6, by decide⟩
theorem kc_X7_init : Cond.code M_X7_init.1 M_X7_init.2.1 M_X7_init.2.2.1 M_X7_init.2.2.2 ∈ T0 := tb1 (List.mem_of_getElem? (i := 33) rfl) rfl
theorem mok_X7_init : MOk M_X7_init 0 := ⟨kc_X7_init, by decide +kernel, by decide +kernel, kz_X7, by decide⟩
theorem kc_X7_canShift : Cond.code M_X7_canShift.1 M_X7_canShift.2.1 M_X7_canShift.2.2.1 M_X7_canShift.2.2.2 ∈ T0 := tb4 (List.mem_of_getElem? (i := 68) rfl) rfl
theorem mok_X7_canShift : MOk M_X7_canShift 1 := ⟨kc_X7_canShift, by decide +kernel, by decide +kernel, kz_X7, by decide⟩
theorem kc_X7_copyFrom : Cond.code M_X7_copyFrom.1 M_X7_copyFrom.2.1 M_X7_copyFrom.2.2.1 M_X7_copyFrom.2.2.2 ∈ T0 := tb4 (List.mem_of_getElem? (i := 218) rfl) rfl
theorem mok_X7_copyFrom : MOk M_X7_copyFrom 1 := ⟨kc_X7_copyFrom, by decide +kernel, by decide +kernel, kz_X7, by decide⟩
theorem kc_X7_countNotes : Cond.code M_X7_countNotes.1 M_X7_countNotes.2.1 M_X7_countNotes.2.2.1 M_X7_countNotes.2.2.2 ∈ T0 := tb3 (List.mem_of_getElem? (i := 228) rfl) rfl
theorem mok_X7_countNotes : MOk M_X7_countNotes 0 := ⟨kc_X7_countNotes, by decide +kernel, by decide +kernel, kz_X7, by decide⟩
theorem kc_X7_hasHouse : Cond.code M_X7_hasHouse.1 M_X7_hasHouse.2.1 M_X7_hasHouse.2.2.1 M_X7_hasHouse.2.2.2 ∈ T0 := tb2 (List.mem_of_getElem? (i := 185) rfl) rfl
theorem mok_X7_hasHouse : MOk M_X7_hasHouse 1 := ⟨kc_X7_hasHouse, by decide +kernel, by decide +kernel, kz_X7, by decide⟩
theorem kc_X7_hasLaw : Cond.code M_X7_hasLaw.1 M_X7_hasLaw.2.1 M_X7_hasLaw.2.2.1 M_X7_hasLaw.2.2.2 ∈ T0 := tb2 (List.mem_of_getElem? (i := 219) rfl) rfl
theorem mok_X7_hasLaw : MOk M_X7_hasLaw 1 := ⟨kc_X7_hasLaw, by decide +kernel, by decide +kernel, kz_X7, by decide⟩
theorem kc_X7_keysOf : Cond.code M_X7_keysOf.1 M_X7_keysOf.2.1 M_X7_keysOf.2.2.1 M_X7_keysOf.2.2.2 ∈ T0 := tb2 (List.mem_of_getElem? (i := 189) rfl) rfl
theorem mok_X7_keysOf : MOk M_X7_keysOf 1 := ⟨kc_X7_keysOf, by decide +kernel, by decide +kernel, kz_X7, by decide⟩
theorem kc_X7_lawInForce : Cond.code M_X7_lawInForce.1 M_X7_lawInForce.2.1 M_X7_lawInForce.2.2.1 M_X7_lawInForce.2.2.2 ∈ T0 := tb2 (List.mem_of_getElem? (i := 215) rfl) rfl
theorem mok_X7_lawInForce : MOk M_X7_lawInForce 0 := ⟨kc_X7_lawInForce, by decide +kernel, by decide +kernel, kz_X7, by decide⟩
theorem kc_X7_motifHasKeys : Cond.code M_X7_motifHasKeys.1 M_X7_motifHasKeys.2.1 M_X7_motifHasKeys.2.2.1 M_X7_motifHasKeys.2.2.2 ∈ T0 := tb4 (List.mem_of_getElem? (i := 236) rfl) rfl
theorem mok_X7_motifHasKeys : MOk M_X7_motifHasKeys 0 := ⟨kc_X7_motifHasKeys, by decide +kernel, by decide +kernel, kz_X7, by decide⟩
theorem kc_X7_motifStands : Cond.code M_X7_motifStands.1 M_X7_motifStands.2.1 M_X7_motifStands.2.2.1 M_X7_motifStands.2.2.2 ∈ T0 := tb5 (List.mem_of_getElem? (i := 0) rfl) rfl
theorem mok_X7_motifStands : MOk M_X7_motifStands 2 := ⟨kc_X7_motifStands, by decide +kernel, by decide +kernel, kz_X7, by decide⟩
theorem kc_X7_shiftBy : Cond.code M_X7_shiftBy.1 M_X7_shiftBy.2.1 M_X7_shiftBy.2.2.1 M_X7_shiftBy.2.2.2 ∈ T0 := tb4 (List.mem_of_getElem? (i := 75) rfl) rfl
theorem mok_X7_shiftBy : MOk M_X7_shiftBy 1 := ⟨kc_X7_shiftBy, by decide +kernel, by decide +kernel, kz_X7, by decide⟩
theorem kc_X7_shifted : Cond.code M_X7_shifted.1 M_X7_shifted.2.1 M_X7_shifted.2.2.1 M_X7_shifted.2.2.2 ∈ T0 := tb4 (List.mem_of_getElem? (i := 71) rfl) rfl
theorem mok_X7_shifted : MOk M_X7_shifted 2 := ⟨kc_X7_shifted, by decide +kernel, by decide +kernel, kz_X7, by decide⟩
theorem kc_X8_init : Cond.code M_X8_init.1 M_X8_init.2.1 M_X8_init.2.2.1 M_X8_init.2.2.2 ∈ T0 := tb1 (List.mem_of_getElem? (i := 106) rfl) rfl
theorem mok_X8_init : MOk M_X8_init 0 := ⟨kc_X8_init, by decide +kernel, by decide +kernel, kz_X8, by decide⟩
theorem kc_X8_add : Cond.code M_X8_add.1 M_X8_add.2.1 M_X8_add.2.2.1 M_X8_add.2.2.2 ∈ T0 := tb3 (List.mem_of_getElem? (i := 16) rfl) rfl
theorem mok_X8_add : MOk M_X8_add 1 := ⟨kc_X8_add, by decide +kernel, by decide +kernel, kz_X8, by decide⟩
theorem kc_X8_byteAt : Cond.code M_X8_byteAt.1 M_X8_byteAt.2.1 M_X8_byteAt.2.2.1 M_X8_byteAt.2.2.2 ∈ T0 := tb3 (List.mem_of_getElem? (i := 28) rfl) rfl
theorem mok_X8_byteAt : MOk M_X8_byteAt 1 := ⟨kc_X8_byteAt, by decide +kernel, by decide +kernel, kz_X8, by decide⟩
theorem kc_X8_numberAt : Cond.code M_X8_numberAt.1 M_X8_numberAt.2.1 M_X8_numberAt.2.2.1 M_X8_numberAt.2.2.2 ∈ T0 := tb3 (List.mem_of_getElem? (i := 65) rfl) rfl
theorem mok_X8_numberAt : MOk M_X8_numberAt 2 := ⟨kc_X8_numberAt, by decide +kernel, by decide +kernel, kz_X8, by decide⟩
theorem kc_X8_sameSigns : Cond.code M_X8_sameSigns.1 M_X8_sameSigns.2.1 M_X8_sameSigns.2.2.1 M_X8_sameSigns.2.2.2 ∈ T0 := tb3 (List.mem_of_getElem? (i := 126) rfl) rfl
theorem mok_X8_sameSigns : MOk M_X8_sameSigns 3 := ⟨kc_X8_sameSigns, by decide +kernel, by decide +kernel, kz_X8, by decide⟩
theorem kc_X8_tokenEnd : Cond.code M_X8_tokenEnd.1 M_X8_tokenEnd.2.1 M_X8_tokenEnd.2.2.1 M_X8_tokenEnd.2.2.2 ∈ T0 := tb3 (List.mem_of_getElem? (i := 48) rfl) rfl
theorem mok_X8_tokenEnd : MOk M_X8_tokenEnd 1 := ⟨kc_X8_tokenEnd, by decide +kernel, by decide +kernel, kz_X8, by decide⟩
theorem kc_X8_wordAt : Cond.code M_X8_wordAt.1 M_X8_wordAt.2.1 M_X8_wordAt.2.2.1 M_X8_wordAt.2.2.2 ∈ T0 := tb3 (List.mem_of_getElem? (i := 73) rfl) rfl
theorem mok_X8_wordAt : MOk M_X8_wordAt 2 := ⟨kc_X8_wordAt, by decide +kernel, by decide +kernel, kz_X8, by decide⟩
theorem kc_X9_init : Cond.code M_X9_init.1 M_X9_init.2.1 M_X9_init.2.2.1 M_X9_init.2.2.2 ∈ T0 := tb1 (List.mem_of_getElem? (i := 129) rfl) rfl
theorem mok_X9_init : MOk M_X9_init 2 := ⟨kc_X9_init, by decide +kernel, by decide +kernel, kz_X9, by decide⟩
theorem kc_X9_begin : Cond.code M_X9_begin.1 M_X9_begin.2.1 M_X9_begin.2.2.1 M_X9_begin.2.2.2 ∈ T0 := tb3 (List.mem_of_getElem? (i := 138) rfl) rfl
theorem mok_X9_begin : MOk M_X9_begin 2 := ⟨kc_X9_begin, by decide +kernel, by decide +kernel, kz_X9, by decide⟩
theorem kc_X9_clear : Cond.code M_X9_clear.1 M_X9_clear.2.1 M_X9_clear.2.2.1 M_X9_clear.2.2.2 ∈ T0 := tb3 (List.mem_of_getElem? (i := 130) rfl) rfl
theorem mok_X9_clear : MOk M_X9_clear 0 := ⟨kc_X9_clear, by decide +kernel, by decide +kernel, kz_X9, by decide⟩
theorem kc_X9_copy : Cond.code M_X9_copy.1 M_X9_copy.2.1 M_X9_copy.2.2.1 M_X9_copy.2.2.2 ∈ T0 := tb3 (List.mem_of_getElem? (i := 207) rfl) rfl
theorem mok_X9_copy : MOk M_X9_copy 0 := ⟨kc_X9_copy, by decide +kernel, by decide +kernel, kz_X9, by decide⟩
theorem kc_X9_emit : Cond.code M_X9_emit.1 M_X9_emit.2.1 M_X9_emit.2.2.1 M_X9_emit.2.2.2 ∈ T0 := tb3 (List.mem_of_getElem? (i := 158) rfl) rfl
theorem mok_X9_emit : MOk M_X9_emit 2 := ⟨kc_X9_emit, by decide +kernel, by decide +kernel, kz_X9, by decide⟩
theorem kc_X9_landHere : Cond.code M_X9_landHere.1 M_X9_landHere.2.1 M_X9_landHere.2.2.1 M_X9_landHere.2.2.2 ∈ T0 := tb3 (List.mem_of_getElem? (i := 199) rfl) rfl
theorem mok_X9_landHere : MOk M_X9_landHere 1 := ⟨kc_X9_landHere, by decide +kernel, by decide +kernel, kz_X9, by decide⟩
theorem kc_X11_init : Cond.code M_X11_init.1 M_X11_init.2.1 M_X11_init.2.2.1 M_X11_init.2.2.2 ∈ T0 := tb5 (List.mem_of_getElem? (i := 78) rfl) rfl
theorem mok_X11_init : MOk M_X11_init 0 := ⟨kc_X11_init, by decide +kernel, by decide +kernel, kz_X11, by decide⟩
theorem kc_X11_asks : Cond.code M_X11_asks.1 M_X11_asks.2.1 M_X11_asks.2.2.1 M_X11_asks.2.2.2 ∈ T0 := tb6 (List.mem_of_getElem? (i := 64) rfl) rfl
theorem mok_X11_asks : MOk M_X11_asks 4 := ⟨kc_X11_asks, by decide +kernel, by decide +kernel, kz_X11, by decide⟩
theorem kc_X11_back : Cond.code M_X11_back.1 M_X11_back.2.1 M_X11_back.2.2.1 M_X11_back.2.2.2 ∈ T0 := tb6 (List.mem_of_getElem? (i := 18) rfl) rfl
theorem mok_X11_back : MOk M_X11_back 1 := ⟨kc_X11_back, by decide +kernel, by decide +kernel, kz_X11, by decide⟩
theorem kc_X11_best : Cond.code M_X11_best.1 M_X11_best.2.1 M_X11_best.2.2.1 M_X11_best.2.2.2 ∈ T0 := tb7 (List.mem_of_getElem? (i := 113) rfl) rfl
theorem mok_X11_best : MOk M_X11_best 1 := ⟨kc_X11_best, by decide +kernel, by decide +kernel, kz_X11, by decide⟩
theorem kc_X11_bothOf : Cond.code M_X11_bothOf.1 M_X11_bothOf.2.1 M_X11_bothOf.2.2.1 M_X11_bothOf.2.2.2 ∈ T0 := tb6 (List.mem_of_getElem? (i := 124) rfl) rfl
theorem mok_X11_bothOf : MOk M_X11_bothOf 1 := ⟨kc_X11_bothOf, by decide +kernel, by decide +kernel, kz_X11, by decide⟩
theorem kc_X11_bounded : Cond.code M_X11_bounded.1 M_X11_bounded.2.1 M_X11_bounded.2.2.1 M_X11_bounded.2.2.2 ∈ T0 := tb6 (List.mem_of_getElem? (i := 114) rfl) rfl
theorem mok_X11_bounded : MOk M_X11_bounded 2 := ⟨kc_X11_bounded, by decide +kernel, by decide +kernel, kz_X11, by decide⟩
theorem kc_X11_canHold : Cond.code M_X11_canHold.1 M_X11_canHold.2.1 M_X11_canHold.2.2.1 M_X11_canHold.2.2.2 ∈ T0 := tb7 (List.mem_of_getElem? (i := 50) rfl) rfl
theorem mok_X11_canHold : MOk M_X11_canHold 2 := ⟨kc_X11_canHold, by decide +kernel, by decide +kernel, kz_X11, by decide⟩
theorem kc_X11_canPlay : Cond.code M_X11_canPlay.1 M_X11_canPlay.2.1 M_X11_canPlay.2.2.1 M_X11_canPlay.2.2.2 ∈ T0 := tb6 (List.mem_of_getElem? (i := 137) rfl) rfl
theorem mok_X11_canPlay : MOk M_X11_canPlay 3 := ⟨kc_X11_canPlay, by decide +kernel, by decide +kernel, kz_X11, by decide⟩
theorem kc_X11_codeAt : Cond.code M_X11_codeAt.1 M_X11_codeAt.2.1 M_X11_codeAt.2.2.1 M_X11_codeAt.2.2.2 ∈ T0 := tb6 (List.mem_of_getElem? (i := 80) rfl) rfl
theorem mok_X11_codeAt : MOk M_X11_codeAt 1 := ⟨kc_X11_codeAt, by decide +kernel, by decide +kernel, kz_X11, by decide⟩
theorem kc_X11_compare : Cond.code M_X11_compare.1 M_X11_compare.2.1 M_X11_compare.2.2.1 M_X11_compare.2.2.2 ∈ T0 := tb7 (List.mem_of_getElem? (i := 76) rfl) rfl
theorem mok_X11_compare : MOk M_X11_compare 1 := ⟨kc_X11_compare, by decide +kernel, by decide +kernel, kz_X11, by decide⟩
theorem kc_X11_count : Cond.code M_X11_count.1 M_X11_count.2.1 M_X11_count.2.2.1 M_X11_count.2.2.2 ∈ T0 := tb8 (List.mem_of_getElem? (i := 24) rfl) rfl
theorem mok_X11_count : MOk M_X11_count 1 := ⟨kc_X11_count, by decide +kernel, by decide +kernel, kz_X11, by decide⟩
theorem kc_X11_cover : Cond.code M_X11_cover.1 M_X11_cover.2.1 M_X11_cover.2.2.1 M_X11_cover.2.2.2 ∈ T0 := tb7 (List.mem_of_getElem? (i := 97) rfl) rfl
theorem mok_X11_cover : MOk M_X11_cover 1 := ⟨kc_X11_cover, by decide +kernel, by decide +kernel, kz_X11, by decide⟩
theorem kc_X11_creaks : Cond.code M_X11_creaks.1 M_X11_creaks.2.1 M_X11_creaks.2.2.1 M_X11_creaks.2.2.2 ∈ T0 := tb6 (List.mem_of_getElem? (i := 155) rfl) rfl
theorem mok_X11_creaks : MOk M_X11_creaks 0 := ⟨kc_X11_creaks, by decide +kernel, by decide +kernel, kz_X11, by decide⟩
theorem kc_X11_drawn : Cond.code M_X11_drawn.1 M_X11_drawn.2.1 M_X11_drawn.2.2.1 M_X11_drawn.2.2.2 ∈ T0 := tb8 (List.mem_of_getElem? (i := 20) rfl) rfl
theorem mok_X11_drawn : MOk M_X11_drawn 2 := ⟨kc_X11_drawn, by decide +kernel, by decide +kernel, kz_X11, by decide⟩
theorem kc_X11_draws : Cond.code M_X11_draws.1 M_X11_draws.2.1 M_X11_draws.2.2.1 M_X11_draws.2.2.2 ∈ T0 := tb8 (List.mem_of_getElem? (i := 13) rfl) rfl
theorem mok_X11_draws : MOk M_X11_draws 1 := ⟨kc_X11_draws, by decide +kernel, by decide +kernel, kz_X11, by decide⟩
theorem kc_X11_drill : Cond.code M_X11_drill.1 M_X11_drill.2.1 M_X11_drill.2.2.1 M_X11_drill.2.2.2 ∈ T0 := tb7 (List.mem_of_getElem? (i := 30) rfl) rfl
theorem mok_X11_drill : MOk M_X11_drill 0 := ⟨kc_X11_drill, by decide +kernel, by decide +kernel, kz_X11, by decide⟩
theorem kc_X11_end : Cond.code M_X11_end.1 M_X11_end.2.1 M_X11_end.2.2.1 M_X11_end.2.2.2 ∈ T0 := tb6 (List.mem_of_getElem? (i := 163) rfl) rfl
theorem mok_X11_end : MOk M_X11_end 1 := ⟨kc_X11_end, by decide +kernel, by decide +kernel, kz_X11, by decide⟩
theorem kc_X11_evenings : Cond.code M_X11_evenings.1 M_X11_evenings.2.1 M_X11_evenings.2.2.1 M_X11_evenings.2.2.2 ∈ T0 := tb8 (List.mem_of_getElem? (i := 5) rfl) rfl
theorem mok_X11_evenings : MOk M_X11_evenings 2 := ⟨kc_X11_evenings, by decide +kernel, by decide +kernel, kz_X11, by decide⟩
theorem kc_X11_fault : Cond.code M_X11_fault.1 M_X11_fault.2.1 M_X11_fault.2.2.1 M_X11_fault.2.2.2 ∈ T0 := tb7 (List.mem_of_getElem? (i := 18) rfl) rfl
theorem mok_X11_fault : MOk M_X11_fault 0 := ⟨kc_X11_fault, by decide +kernel, by decide +kernel, kz_X11, by decide⟩
theorem kc_X11_faults : Cond.code M_X11_faults.1 M_X11_faults.2.1 M_X11_faults.2.2.1 M_X11_faults.2.2.2 ∈ T0 := tb6 (List.mem_of_getElem? (i := 222) rfl) rfl
theorem mok_X11_faults : MOk M_X11_faults 0 := ⟨kc_X11_faults, by decide +kernel, by decide +kernel, kz_X11, by decide⟩
theorem kc_X11_feed : Cond.code M_X11_feed.1 M_X11_feed.2.1 M_X11_feed.2.2.1 M_X11_feed.2.2.2 ∈ T0 := tb6 (List.mem_of_getElem? (i := 159) rfl) rfl
theorem mok_X11_feed : MOk M_X11_feed 5 := ⟨kc_X11_feed, by decide +kernel, by decide +kernel, kz_X11, by decide⟩
theorem kc_X11_few : Cond.code M_X11_few.1 M_X11_few.2.1 M_X11_few.2.2.1 M_X11_few.2.2.2 ∈ T0 := tb7 (List.mem_of_getElem? (i := 156) rfl) rfl
theorem mok_X11_few : MOk M_X11_few 2 := ⟨kc_X11_few, by decide +kernel, by decide +kernel, kz_X11, by decide⟩
theorem kc_X11_find : Cond.code M_X11_find.1 M_X11_find.2.1 M_X11_find.2.2.1 M_X11_find.2.2.2 ∈ T0 := tb7 (List.mem_of_getElem? (i := 125) rfl) rfl
theorem mok_X11_find : MOk M_X11_find 1 := ⟨kc_X11_find, by decide +kernel, by decide +kernel, kz_X11, by decide⟩
theorem kc_X11_fine : Cond.code M_X11_fine.1 M_X11_fine.2.1 M_X11_fine.2.2.1 M_X11_fine.2.2.2 ∈ T0 := tb6 (List.mem_of_getElem? (i := 206) rfl) rfl
theorem mok_X11_fine : MOk M_X11_fine 0 := ⟨kc_X11_fine, by decide +kernel, by decide +kernel, kz_X11, by decide⟩
theorem kc_X11_force : Cond.code M_X11_force.1 M_X11_force.2.1 M_X11_force.2.2.1 M_X11_force.2.2.2 ∈ T0 := tb7 (List.mem_of_getElem? (i := 22) rfl) rfl
theorem mok_X11_force : MOk M_X11_force 1 := ⟨kc_X11_force, by decide +kernel, by decide +kernel, kz_X11, by decide⟩
theorem kc_X11_forget : Cond.code M_X11_forget.1 M_X11_forget.2.1 M_X11_forget.2.2.1 M_X11_forget.2.2.2 ∈ T0 := tb7 (List.mem_of_getElem? (i := 121) rfl) rfl
theorem mok_X11_forget : MOk M_X11_forget 0 := ⟨kc_X11_forget, by decide +kernel, by decide +kernel, kz_X11, by decide⟩
theorem kc_X11_give : Cond.code M_X11_give.1 M_X11_give.2.1 M_X11_give.2.2.1 M_X11_give.2.2.2 ∈ T0 := tb7 (List.mem_of_getElem? (i := 183) rfl) rfl
theorem mok_X11_give : MOk M_X11_give 2 := ⟨kc_X11_give, by decide +kernel, by decide +kernel, kz_X11, by decide⟩
theorem kc_X11_givesKept : Cond.code M_X11_givesKept.1 M_X11_givesKept.2.1 M_X11_givesKept.2.2.1 M_X11_givesKept.2.2.2 ∈ T0 := tb7 (List.mem_of_getElem? (i := 187) rfl) rfl
theorem mok_X11_givesKept : MOk M_X11_givesKept 2 := ⟨kc_X11_givesKept, by decide +kernel, by decide +kernel, kz_X11, by decide⟩
theorem kc_X11_givesNothing : Cond.code M_X11_givesNothing.1 M_X11_givesNothing.2.1 M_X11_givesNothing.2.2.1 M_X11_givesNothing.2.2.2 ∈ T0 := tb7 (List.mem_of_getElem? (i := 57) rfl) rfl
theorem mok_X11_givesNothing : MOk M_X11_givesNothing 0 := ⟨kc_X11_givesNothing, by decide +kernel, by decide +kernel, kz_X11, by decide⟩
theorem kc_X11_goesAlong : Cond.code M_X11_goesAlong.1 M_X11_goesAlong.2.1 M_X11_goesAlong.2.2.1 M_X11_goesAlong.2.2.2 ∈ T0 := tb7 (List.mem_of_getElem? (i := 223) rfl) rfl
theorem mok_X11_goesAlong : MOk M_X11_goesAlong 2 := ⟨kc_X11_goesAlong, by decide +kernel, by decide +kernel, kz_X11, by decide⟩
theorem kc_X11_good : Cond.code M_X11_good.1 M_X11_good.2.1 M_X11_good.2.2.1 M_X11_good.2.2.2 ∈ T0 := tb6 (List.mem_of_getElem? (i := 14) rfl) rfl
theorem mok_X11_good : MOk M_X11_good 1 := ⟨kc_X11_good, by decide +kernel, by decide +kernel, kz_X11, by decide⟩
theorem kc_X11_goodAnew : Cond.code M_X11_goodAnew.1 M_X11_goodAnew.2.1 M_X11_goodAnew.2.2.1 M_X11_goodAnew.2.2.2 ∈ T0 := tb6 (List.mem_of_getElem? (i := 22) rfl) rfl
theorem mok_X11_goodAnew : MOk M_X11_goodAnew 1 := ⟨kc_X11_goodAnew, by decide +kernel, by decide +kernel, kz_X11, by decide⟩
theorem kc_X11_goodOr : Cond.code M_X11_goodOr.1 M_X11_goodOr.2.1 M_X11_goodOr.2.2.1 M_X11_goodOr.2.2.2 ∈ T0 := tb7 (List.mem_of_getElem? (i := 179) rfl) rfl
theorem mok_X11_goodOr : MOk M_X11_goodOr 1 := ⟨kc_X11_goodOr, by decide +kernel, by decide +kernel, kz_X11, by decide⟩
theorem kc_X11_greater : Cond.code M_X11_greater.1 M_X11_greater.2.1 M_X11_greater.2.2.1 M_X11_greater.2.2.2 ∈ T0 := tb7 (List.mem_of_getElem? (i := 152) rfl) rfl
theorem mok_X11_greater : MOk M_X11_greater 2 := ⟨kc_X11_greater, by decide +kernel, by decide +kernel, kz_X11, by decide⟩
theorem kc_X11_happens : Cond.code M_X11_happens.1 M_X11_happens.2.1 M_X11_happens.2.2.1 M_X11_happens.2.2.2 ∈ T0 := tb8 (List.mem_of_getElem? (i := 9) rfl) rfl
theorem mok_X11_happens : MOk M_X11_happens 0 := ⟨kc_X11_happens, by decide +kernel, by decide +kernel, kz_X11, by decide⟩
theorem kc_X11_hasSet : Cond.code M_X11_hasSet.1 M_X11_hasSet.2.1 M_X11_hasSet.2.2.1 M_X11_hasSet.2.2.2 ∈ T0 := tb7 (List.mem_of_getElem? (i := 105) rfl) rfl
theorem mok_X11_hasSet : MOk M_X11_hasSet 3 := ⟨kc_X11_hasSet, by decide +kernel, by decide +kernel, kz_X11, by decide⟩
theorem kc_X11_hasWord : Cond.code M_X11_hasWord.1 M_X11_hasWord.2.1 M_X11_hasWord.2.2.1 M_X11_hasWord.2.2.2 ∈ T0 := tb7 (List.mem_of_getElem? (i := 227) rfl) rfl
theorem mok_X11_hasWord : MOk M_X11_hasWord 2 := ⟨kc_X11_hasWord, by decide +kernel, by decide +kernel, kz_X11, by decide⟩
theorem kc_X11_house : Cond.code M_X11_house.1 M_X11_house.2.1 M_X11_house.2.2.1 M_X11_house.2.2.2 ∈ T0 := tb6 (List.mem_of_getElem? (i := 26) rfl) rfl
theorem mok_X11_house : MOk M_X11_house 2 := ⟨kc_X11_house, by decide +kernel, by decide +kernel, kz_X11, by decide⟩
theorem kc_X11_image : Cond.code M_X11_image.1 M_X11_image.2.1 M_X11_image.2.2.1 M_X11_image.2.2.2 ∈ T0 := tb6 (List.mem_of_getElem? (i := 3) rfl) rfl
theorem mok_X11_image : MOk M_X11_image 1 := ⟨kc_X11_image, by decide +kernel, by decide +kernel, kz_X11, by decide⟩
theorem kc_X11_isBeat : Cond.code M_X11_isBeat.1 M_X11_isBeat.2.1 M_X11_isBeat.2.2.1 M_X11_isBeat.2.2.2 ∈ T0 := tb6 (List.mem_of_getElem? (i := 56) rfl) rfl
theorem mok_X11_isBeat : MOk M_X11_isBeat 1 := ⟨kc_X11_isBeat, by decide +kernel, by decide +kernel, kz_X11, by decide⟩
theorem kc_X11_isDigit : Cond.code M_X11_isDigit.1 M_X11_isDigit.2.1 M_X11_isDigit.2.2.1 M_X11_isDigit.2.2.2 ∈ T0 := tb6 (List.mem_of_getElem? (i := 185) rfl) rfl
theorem mok_X11_isDigit : MOk M_X11_isDigit 1 := ⟨kc_X11_isDigit, by decide +kernel, by decide +kernel, kz_X11, by decide⟩
theorem kc_X11_isFound : Cond.code M_X11_isFound.1 M_X11_isFound.2.1 M_X11_isFound.2.2.1 M_X11_isFound.2.2.2 ∈ T0 := tb7 (List.mem_of_getElem? (i := 133) rfl) rfl
theorem mok_X11_isFound : MOk M_X11_isFound 2 := ⟨kc_X11_isFound, by decide +kernel, by decide +kernel, kz_X11, by decide⟩
theorem kc_X11_isHouse : Cond.code M_X11_isHouse.1 M_X11_isHouse.2.1 M_X11_isHouse.2.2.1 M_X11_isHouse.2.2.2 ∈ T0 := tb6 (List.mem_of_getElem? (i := 38) rfl) rfl
theorem mok_X11_isHouse : MOk M_X11_isHouse 1 := ⟨kc_X11_isHouse, by decide +kernel, by decide +kernel, kz_X11, by decide⟩
theorem kc_X11_isIn : Cond.code M_X11_isIn.1 M_X11_isIn.2.1 M_X11_isIn.2.2.1 M_X11_isIn.2.2.2 ∈ T0 := tb7 (List.mem_of_getElem? (i := 45) rfl) rfl
theorem mok_X11_isIn : MOk M_X11_isIn 2 := ⟨kc_X11_isIn, by decide +kernel, by decide +kernel, kz_X11, by decide⟩
theorem kc_X11_isKey : Cond.code M_X11_isKey.1 M_X11_isKey.2.1 M_X11_isKey.2.2.1 M_X11_isKey.2.2.2 ∈ T0 := tb6 (List.mem_of_getElem? (i := 49) rfl) rfl
theorem mok_X11_isKey : MOk M_X11_isKey 1 := ⟨kc_X11_isKey, by decide +kernel, by decide +kernel, kz_X11, by decide⟩
theorem kc_X11_isLaw : Cond.code M_X11_isLaw.1 M_X11_isLaw.2.1 M_X11_isLaw.2.2.1 M_X11_isLaw.2.2.2 ∈ T0 := tb7 (List.mem_of_getElem? (i := 26) rfl) rfl
theorem mok_X11_isLaw : MOk M_X11_isLaw 1 := ⟨kc_X11_isLaw, by decide +kernel, by decide +kernel, kz_X11, by decide⟩
theorem kc_X11_isSilent : Cond.code M_X11_isSilent.1 M_X11_isSilent.2.1 M_X11_isSilent.2.2.1 M_X11_isSilent.2.2.2 ∈ T0 := tb7 (List.mem_of_getElem? (i := 129) rfl) rfl
theorem mok_X11_isSilent : MOk M_X11_isSilent 0 := ⟨kc_X11_isSilent, by decide +kernel, by decide +kernel, kz_X11, by decide⟩
theorem kc_X11_isSmall : Cond.code M_X11_isSmall.1 M_X11_isSmall.2.1 M_X11_isSmall.2.2.1 M_X11_isSmall.2.2.2 ∈ T0 := tb6 (List.mem_of_getElem? (i := 182) rfl) rfl
theorem mok_X11_isSmall : MOk M_X11_isSmall 1 := ⟨kc_X11_isSmall, by decide +kernel, by decide +kernel, kz_X11, by decide⟩
theorem kc_X11_isTerm : Cond.code M_X11_isTerm.1 M_X11_isTerm.2.1 M_X11_isTerm.2.2.1 M_X11_isTerm.2.2.2 ∈ T0 := tb6 (List.mem_of_getElem? (i := 144) rfl) rfl
theorem mok_X11_isTerm : MOk M_X11_isTerm 2 := ⟨kc_X11_isTerm, by decide +kernel, by decide +kernel, kz_X11, by decide⟩
theorem kc_X11_keeps : Cond.code M_X11_keeps.1 M_X11_keeps.2.1 M_X11_keeps.2.2.1 M_X11_keeps.2.2.2 ∈ T0 := tb7 (List.mem_of_getElem? (i := 175) rfl) rfl
theorem mok_X11_keeps : MOk M_X11_keeps 1 := ⟨kc_X11_keeps, by decide +kernel, by decide +kernel, kz_X11, by decide⟩
theorem kc_X11_law : Cond.code M_X11_law.1 M_X11_law.2.1 M_X11_law.2.2.1 M_X11_law.2.2.2 ∈ T0 := tb6 (List.mem_of_getElem? (i := 167) rfl) rfl
theorem mok_X11_law : MOk M_X11_law 0 := ⟨kc_X11_law, by decide +kernel, by decide +kernel, kz_X11, by decide⟩
theorem kc_X11_lays : Cond.code M_X11_lays.1 M_X11_lays.2.1 M_X11_lays.2.2.1 M_X11_lays.2.2.2 ∈ T0 := tb7 (List.mem_of_getElem? (i := 14) rfl) rfl
theorem mok_X11_lays : MOk M_X11_lays 1 := ⟨kc_X11_lays, by decide +kernel, by decide +kernel, kz_X11, by decide⟩
theorem kc_X11_laysAside : Cond.code M_X11_laysAside.1 M_X11_laysAside.2.1 M_X11_laysAside.2.2.1 M_X11_laysAside.2.2.2 ∈ T0 := tb7 (List.mem_of_getElem? (i := 215) rfl) rfl
theorem mok_X11_laysAside : MOk M_X11_laysAside 1 := ⟨kc_X11_laysAside, by decide +kernel, by decide +kernel, kz_X11, by decide⟩
theorem kc_X11_laysCrowds : Cond.code M_X11_laysCrowds.1 M_X11_laysCrowds.2.1 M_X11_laysCrowds.2.2.1 M_X11_laysCrowds.2.2.2 ∈ T0 := tb7 (List.mem_of_getElem? (i := 101) rfl) rfl
theorem mok_X11_laysCrowds : MOk M_X11_laysCrowds 1 := ⟨kc_X11_laysCrowds, by decide +kernel, by decide +kernel, kz_X11, by decide⟩
theorem kc_X11_laysDebts : Cond.code M_X11_laysDebts.1 M_X11_laysDebts.2.1 M_X11_laysDebts.2.2.1 M_X11_laysDebts.2.2.2 ∈ T0 := tb7 (List.mem_of_getElem? (i := 141) rfl) rfl
theorem mok_X11_laysDebts : MOk M_X11_laysDebts 0 := ⟨kc_X11_laysDebts, by decide +kernel, by decide +kernel, kz_X11, by decide⟩
theorem kc_X11_laysParts : Cond.code M_X11_laysParts.1 M_X11_laysParts.2.1 M_X11_laysParts.2.2.1 M_X11_laysParts.2.2.2 ∈ T0 := tb7 (List.mem_of_getElem? (i := 42) rfl) rfl
theorem mok_X11_laysParts : MOk M_X11_laysParts 2 := ⟨kc_X11_laysParts, by decide +kernel, by decide +kernel, kz_X11, by decide⟩
theorem kc_X11_laysWay : Cond.code M_X11_laysWay.1 M_X11_laysWay.2.1 M_X11_laysWay.2.2.1 M_X11_laysWay.2.2.2 ∈ T0 := tb7 (List.mem_of_getElem? (i := 85) rfl) rfl
theorem mok_X11_laysWay : MOk M_X11_laysWay 1 := ⟨kc_X11_laysWay, by decide +kernel, by decide +kernel, kz_X11, by decide⟩
theorem kc_X11_leaf : Cond.code M_X11_leaf.1 M_X11_leaf.2.1 M_X11_leaf.2.2.1 M_X11_leaf.2.2.2 ∈ T0 := tb6 (List.mem_of_getElem? (i := 230) rfl) rfl
theorem mok_X11_leaf : MOk M_X11_leaf 0 := ⟨kc_X11_leaf, by decide +kernel, by decide +kernel, kz_X11, by decide⟩
theorem kc_X11_least : Cond.code M_X11_least.1 M_X11_least.2.1 M_X11_least.2.2.1 M_X11_least.2.2.2 ∈ T0 := tb7 (List.mem_of_getElem? (i := 65) rfl) rfl
theorem mok_X11_least : MOk M_X11_least 1 := ⟨kc_X11_least, by decide +kernel, by decide +kernel, kz_X11, by decide⟩
theorem kc_X11_leastAt : Cond.code M_X11_leastAt.1 M_X11_leastAt.2.1 M_X11_leastAt.2.2.1 M_X11_leastAt.2.2.2 ∈ T0 := tb7 (List.mem_of_getElem? (i := 34) rfl) rfl
theorem mok_X11_leastAt : MOk M_X11_leastAt 1 := ⟨kc_X11_leastAt, by decide +kernel, by decide +kernel, kz_X11, by decide⟩
theorem kc_X11_leastOf : Cond.code M_X11_leastOf.1 M_X11_leastOf.2.1 M_X11_leastOf.2.2.1 M_X11_leastOf.2.2.2 ∈ T0 := tb7 (List.mem_of_getElem? (i := 61) rfl) rfl
theorem mok_X11_leastOf : MOk M_X11_leastOf 1 := ⟨kc_X11_leastOf, by decide +kernel, by decide +kernel, kz_X11, by decide⟩
theorem kc_X11_leastOfAll : Cond.code M_X11_leastOfAll.1 M_X11_leastOfAll.2.1 M_X11_leastOfAll.2.2.1 M_X11_leastOfAll.2.2.2 ∈ T0 := tb7 (List.mem_of_getElem? (i := 69) rfl) rfl
theorem mok_X11_leastOfAll : MOk M_X11_leastOfAll 1 := ⟨kc_X11_leastOfAll, by decide +kernel, by decide +kernel, kz_X11, by decide⟩
theorem kc_X11_lesser : Cond.code M_X11_lesser.1 M_X11_lesser.2.1 M_X11_lesser.2.2.1 M_X11_lesser.2.2.2 ∈ T0 := tb7 (List.mem_of_getElem? (i := 53) rfl) rfl
theorem mok_X11_lesser : MOk M_X11_lesser 2 := ⟨kc_X11_lesser, by decide +kernel, by decide +kernel, kz_X11, by decide⟩
theorem kc_X11_lies : Cond.code M_X11_lies.1 M_X11_lies.2.1 M_X11_lies.2.2.1 M_X11_lies.2.2.2 ∈ T0 := tb6 (List.mem_of_getElem? (i := 6) rfl) rfl
theorem mok_X11_lies : MOk M_X11_lies 3 := ⟨kc_X11_lies, by decide +kernel, by decide +kernel, kz_X11, by decide⟩
theorem kc_X11_many : Cond.code M_X11_many.1 M_X11_many.2.1 M_X11_many.2.2.1 M_X11_many.2.2.2 ∈ T0 := tb6 (List.mem_of_getElem? (i := 30) rfl) rfl
theorem mok_X11_many : MOk M_X11_many 0 := ⟨kc_X11_many, by decide +kernel, by decide +kernel, kz_X11, by decide⟩
theorem kc_X11_might : Cond.code M_X11_might.1 M_X11_might.2.1 M_X11_might.2.2.1 M_X11_might.2.2.2 ∈ T0 := tb7 (List.mem_of_getElem? (i := 93) rfl) rfl
theorem mok_X11_might : MOk M_X11_might 2 := ⟨kc_X11_might, by decide +kernel, by decide +kernel, kz_X11, by decide⟩
theorem kc_X11_mindedAt : Cond.code M_X11_mindedAt.1 M_X11_mindedAt.2.1 M_X11_mindedAt.2.2.1 M_X11_mindedAt.2.2.2 ∈ T0 := tb6 (List.mem_of_getElem? (i := 68) rfl) rfl
theorem mok_X11_mindedAt : MOk M_X11_mindedAt 3 := ⟨kc_X11_mindedAt, by decide +kernel, by decide +kernel, kz_X11, by decide⟩
theorem kc_X11_mindedOf : Cond.code M_X11_mindedOf.1 M_X11_mindedOf.2.1 M_X11_mindedOf.2.2.1 M_X11_mindedOf.2.2.2 ∈ T0 := tb7 (List.mem_of_getElem? (i := 38) rfl) rfl
theorem mok_X11_mindedOf : MOk M_X11_mindedOf 2 := ⟨kc_X11_mindedOf, by decide +kernel, by decide +kernel, kz_X11, by decide⟩
theorem kc_X11_motif : Cond.code M_X11_motif.1 M_X11_motif.2.1 M_X11_motif.2.2.1 M_X11_motif.2.2.2 ∈ T0 := tb7 (List.mem_of_getElem? (i := 117) rfl) rfl
theorem mok_X11_motif : MOk M_X11_motif 1 := ⟨kc_X11_motif, by decide +kernel, by decide +kernel, kz_X11, by decide⟩
theorem kc_X11_music : Cond.code M_X11_music.1 M_X11_music.2.1 M_X11_music.2.2.1 M_X11_music.2.2.2 ∈ T0 := tb6 (List.mem_of_getElem? (i := 53) rfl) rfl
theorem mok_X11_music : MOk M_X11_music 1 := ⟨kc_X11_music, by decide +kernel, by decide +kernel, kz_X11, by decide⟩
theorem kc_X11_musicAt : Cond.code M_X11_musicAt.1 M_X11_musicAt.2.1 M_X11_musicAt.2.2.1 M_X11_musicAt.2.2.2 ∈ T0 := tb6 (List.mem_of_getElem? (i := 60) rfl) rfl
theorem mok_X11_musicAt : MOk M_X11_musicAt 1 := ⟨kc_X11_musicAt, by decide +kernel, by decide +kernel, kz_X11, by decide⟩
theorem kc_X11_must : Cond.code M_X11_must.1 M_X11_must.2.1 M_X11_must.2.2.1 M_X11_must.2.2.2 ∈ T0 := tb6 (List.mem_of_getElem? (i := 226) rfl) rfl
theorem mok_X11_must : MOk M_X11_must 1 := ⟨kc_X11_must, by decide +kernel, by decide +kernel, kz_X11, by decide⟩
theorem kc_X11_mustNumber : Cond.code M_X11_mustNumber.1 M_X11_mustNumber.2.1 M_X11_mustNumber.2.2.1 M_X11_mustNumber.2.2.2 ∈ T0 := tb6 (List.mem_of_getElem? (i := 234) rfl) rfl
theorem mok_X11_mustNumber : MOk M_X11_mustNumber 2 := ⟨kc_X11_mustNumber, by decide +kernel, by decide +kernel, kz_X11, by decide⟩
theorem kc_X11_note : Cond.code M_X11_note.1 M_X11_note.2.1 M_X11_note.2.2.1 M_X11_note.2.2.2 ∈ T0 := tb7 (List.mem_of_getElem? (i := 167) rfl) rfl
theorem mok_X11_note : MOk M_X11_note 2 := ⟨kc_X11_note, by decide +kernel, by decide +kernel, kz_X11, by decide⟩
theorem kc_X11_notes0 : Cond.code M_X11_notes0.1 M_X11_notes0.2.1 M_X11_notes0.2.2.1 M_X11_notes0.2.2.2 ∈ T0 := tb6 (List.mem_of_getElem? (i := 107) rfl) rfl
theorem mok_X11_notes0 : MOk M_X11_notes0 0 := ⟨kc_X11_notes0, by decide +kernel, by decide +kernel, kz_X11, by decide⟩
theorem kc_X11_notesKept : Cond.code M_X11_notesKept.1 M_X11_notesKept.2.1 M_X11_notesKept.2.2.1 M_X11_notesKept.2.2.2 ∈ T0 := tb7 (List.mem_of_getElem? (i := 171) rfl) rfl
theorem mok_X11_notesKept : MOk M_X11_notesKept 2 := ⟨kc_X11_notesKept, by decide +kernel, by decide +kernel, kz_X11, by decide⟩
theorem kc_X11_obeys : Cond.code M_X11_obeys.1 M_X11_obeys.2.1 M_X11_obeys.2.2.1 M_X11_obeys.2.2.2 ∈ T0 := tb7 (List.mem_of_getElem? (i := 232) rfl) rfl
theorem mok_X11_obeys : MOk M_X11_obeys 0 := ⟨kc_X11_obeys, by decide +kernel, by decide +kernel, kz_X11, by decide⟩
theorem kc_X11_of : Cond.code M_X11_of.1 M_X11_of.2.1 M_X11_of.2.2.1 M_X11_of.2.2.2 ∈ T0 := tb6 (List.mem_of_getElem? (i := 34) rfl) rfl
theorem mok_X11_of : MOk M_X11_of 2 := ⟨kc_X11_of, by decide +kernel, by decide +kernel, kz_X11, by decide⟩
theorem kc_X11_ones : Cond.code M_X11_ones.1 M_X11_ones.2.1 M_X11_ones.2.2.1 M_X11_ones.2.2.2 ∈ T0 := tb6 (List.mem_of_getElem? (i := 110) rfl) rfl
theorem mok_X11_ones : MOk M_X11_ones 1 := ⟨kc_X11_ones, by decide +kernel, by decide +kernel, kz_X11, by decide⟩
theorem kc_X11_orderValue : Cond.code M_X11_orderValue.1 M_X11_orderValue.2.1 M_X11_orderValue.2.2.1 M_X11_orderValue.2.2.2 ∈ T0 := tb6 (List.mem_of_getElem? (i := 103) rfl) rfl
theorem mok_X11_orderValue : MOk M_X11_orderValue 2 := ⟨kc_X11_orderValue, by decide +kernel, by decide +kernel, kz_X11, by decide⟩
theorem kc_X11_orders : Cond.code M_X11_orders.1 M_X11_orders.2.1 M_X11_orders.2.2.1 M_X11_orders.2.2.2 ∈ T0 := tb7 (List.mem_of_getElem? (i := 211) rfl) rfl
theorem mok_X11_orders : MOk M_X11_orders 0 := ⟨kc_X11_orders, by decide +kernel, by decide +kernel, kz_X11, by decide⟩
theorem kc_X11_owedMore : Cond.code M_X11_owedMore.1 M_X11_owedMore.2.1 M_X11_owedMore.2.2.1 M_X11_owedMore.2.2.2 ∈ T0 := tb7 (List.mem_of_getElem? (i := 149) rfl) rfl
theorem mok_X11_owedMore : MOk M_X11_owedMore 1 := ⟨kc_X11_owedMore, by decide +kernel, by decide +kernel, kz_X11, by decide⟩
theorem kc_X11_owes : Cond.code M_X11_owes.1 M_X11_owes.2.1 M_X11_owes.2.2.1 M_X11_owes.2.2.2 ∈ T0 := tb7 (List.mem_of_getElem? (i := 137) rfl) rfl
theorem mok_X11_owes : MOk M_X11_owes 2 := ⟨kc_X11_owes, by decide +kernel, by decide +kernel, kz_X11, by decide⟩
theorem kc_X11_ownedBy : Cond.code M_X11_ownedBy.1 M_X11_ownedBy.2.1 M_X11_ownedBy.2.2.1 M_X11_ownedBy.2.2.2 ∈ T0 := tb6 (List.mem_of_getElem? (i := 42) rfl) rfl
theorem mok_X11_ownedBy : MOk M_X11_ownedBy 1 := ⟨kc_X11_ownedBy, by decide +kernel, by decide +kernel, kz_X11, by decide⟩
theorem kc_X11_owner : Cond.code M_X11_owner.1 M_X11_owner.2.1 M_X11_owner.2.2.1 M_X11_owner.2.2.2 ∈ T0 := tb6 (List.mem_of_getElem? (i := 46) rfl) rfl
theorem mok_X11_owner : MOk M_X11_owner 1 := ⟨kc_X11_owner, by decide +kernel, by decide +kernel, kz_X11, by decide⟩
theorem kc_X11_partOf : Cond.code M_X11_partOf.1 M_X11_partOf.2.1 M_X11_partOf.2.2.1 M_X11_partOf.2.2.2 ∈ T0 := tb6 (List.mem_of_getElem? (i := 92) rfl) rfl
theorem mok_X11_partOf : MOk M_X11_partOf 1 := ⟨kc_X11_partOf, by decide +kernel, by decide +kernel, kz_X11, by decide⟩
theorem kc_X11_pass : Cond.code M_X11_pass.1 M_X11_pass.2.1 M_X11_pass.2.2.1 M_X11_pass.2.2.2 ∈ T0 := tb7 (List.mem_of_getElem? (i := 199) rfl) rfl
theorem mok_X11_pass : MOk M_X11_pass 0 := ⟨kc_X11_pass, by decide +kernel, by decide +kernel, kz_X11, by decide⟩
theorem kc_X11_passes0 : Cond.code M_X11_passes0.1 M_X11_passes0.2.1 M_X11_passes0.2.2.1 M_X11_passes0.2.2.2 ∈ T0 := tb6 (List.mem_of_getElem? (i := 99) rfl) rfl
theorem mok_X11_passes0 : MOk M_X11_passes0 1 := ⟨kc_X11_passes0, by decide +kernel, by decide +kernel, kz_X11, by decide⟩
theorem kc_X11_passesKept : Cond.code M_X11_passesKept.1 M_X11_passesKept.2.1 M_X11_passesKept.2.2.1 M_X11_passesKept.2.2.2 ∈ T0 := tb7 (List.mem_of_getElem? (i := 203) rfl) rfl
theorem mok_X11_passesKept : MOk M_X11_passesKept 0 := ⟨kc_X11_passesKept, by decide +kernel, by decide +kernel, kz_X11, by decide⟩
theorem kc_X11_plainOf : Cond.code M_X11_plainOf.1 M_X11_plainOf.2.1 M_X11_plainOf.2.2.1 M_X11_plainOf.2.2.2 ∈ T0 := tb6 (List.mem_of_getElem? (i := 128) rfl) rfl
theorem mok_X11_plainOf : MOk M_X11_plainOf 1 := ⟨kc_X11_plainOf, by decide +kernel, by decide +kernel, kz_X11, by decide⟩
theorem kc_X11_positiveOf : Cond.code M_X11_positiveOf.1 M_X11_positiveOf.2.1 M_X11_positiveOf.2.2.1 M_X11_positiveOf.2.2.2 ∈ T0 := tb6 (List.mem_of_getElem? (i := 132) rfl) rfl
theorem mok_X11_positiveOf : MOk M_X11_positiveOf 1 := ⟨kc_X11_positiveOf, by decide +kernel, by decide +kernel, kz_X11, by decide⟩
theorem kc_X11_readBoth : Cond.code M_X11_readBoth.1 M_X11_readBoth.2.1 M_X11_readBoth.2.2.1 M_X11_readBoth.2.2.2 ∈ T0 := tb7 (List.mem_of_getElem? (i := 2) rfl) rfl
theorem mok_X11_readBoth : MOk M_X11_readBoth 1 := ⟨kc_X11_readBoth, by decide +kernel, by decide +kernel, kz_X11, by decide⟩
theorem kc_X11_readClause : Cond.code M_X11_readClause.1 M_X11_readClause.2.1 M_X11_readClause.2.2.1 M_X11_readClause.2.2.2 ∈ T0 := tb7 (List.mem_of_getElem? (i := 10) rfl) rfl
theorem mok_X11_readClause : MOk M_X11_readClause 0 := ⟨kc_X11_readClause, by decide +kernel, by decide +kernel, kz_X11, by decide⟩
theorem kc_X11_readOne : Cond.code M_X11_readOne.1 M_X11_readOne.2.1 M_X11_readOne.2.2.1 M_X11_readOne.2.2.2 ∈ T0 := tb6 (List.mem_of_getElem? (i := 194) rfl) rfl
theorem mok_X11_readOne : MOk M_X11_readOne 0 := ⟨kc_X11_readOne, by decide +kernel, by decide +kernel, kz_X11, by decide⟩
theorem kc_X11_readOrder : Cond.code M_X11_readOrder.1 M_X11_readOrder.2.1 M_X11_readOrder.2.2.1 M_X11_readOrder.2.2.2 ∈ T0 := tb6 (List.mem_of_getElem? (i := 198) rfl) rfl
theorem mok_X11_readOrder : MOk M_X11_readOrder 0 := ⟨kc_X11_readOrder, by decide +kernel, by decide +kernel, kz_X11, by decide⟩
theorem kc_X11_readPart : Cond.code M_X11_readPart.1 M_X11_readPart.2.1 M_X11_readPart.2.2.1 M_X11_readPart.2.2.2 ∈ T0 := tb6 (List.mem_of_getElem? (i := 218) rfl) rfl
theorem mok_X11_readPart : MOk M_X11_readPart 1 := ⟨kc_X11_readPart, by decide +kernel, by decide +kernel, kz_X11, by decide⟩
theorem kc_X11_readPlain : Cond.code M_X11_readPlain.1 M_X11_readPlain.2.1 M_X11_readPlain.2.2.1 M_X11_readPlain.2.2.2 ∈ T0 := tb7 (List.mem_of_getElem? (i := 6) rfl) rfl
theorem mok_X11_readPlain : MOk M_X11_readPlain 1 := ⟨kc_X11_readPlain, by decide +kernel, by decide +kernel, kz_X11, by decide⟩
theorem kc_X11_readSum : Cond.code M_X11_readSum.1 M_X11_readSum.2.1 M_X11_readSum.2.2.1 M_X11_readSum.2.2.2 ∈ T0 := tb6 (List.mem_of_getElem? (i := 210) rfl) rfl
theorem mok_X11_readSum : MOk M_X11_readSum 1 := ⟨kc_X11_readSum, by decide +kernel, by decide +kernel, kz_X11, by decide⟩
theorem kc_X11_readTerm : Cond.code M_X11_readTerm.1 M_X11_readTerm.2.1 M_X11_readTerm.2.2.1 M_X11_readTerm.2.2.2 ∈ T0 := tb6 (List.mem_of_getElem? (i := 214) rfl) rfl
theorem mok_X11_readTerm : MOk M_X11_readTerm 1 := ⟨kc_X11_readTerm, by decide +kernel, by decide +kernel, kz_X11, by decide⟩
theorem kc_X11_readTest : Cond.code M_X11_readTest.1 M_X11_readTest.2.1 M_X11_readTest.2.2.1 M_X11_readTest.2.2.2 ∈ T0 := tb6 (List.mem_of_getElem? (i := 238) rfl) rfl
theorem mok_X11_readTest : MOk M_X11_readTest 1 := ⟨kc_X11_readTest, by decide +kernel, by decide +kernel, kz_X11, by decide⟩
theorem kc_X11_reads : Cond.code M_X11_reads.1 M_X11_reads.2.1 M_X11_reads.2.2.1 M_X11_reads.2.2.2 ∈ T0 := tb6 (List.mem_of_getElem? (i := 175) rfl) rfl
theorem mok_X11_reads : MOk M_X11_reads 0 := ⟨kc_X11_reads, by decide +kernel, by decide +kernel, kz_X11, by decide⟩
theorem kc_X11_readsAs : Cond.code M_X11_readsAs.1 M_X11_readsAs.2.1 M_X11_readsAs.2.2.1 M_X11_readsAs.2.2.2 ∈ T0 := tb6 (List.mem_of_getElem? (i := 171) rfl) rfl
theorem mok_X11_readsAs : MOk M_X11_readsAs 1 := ⟨kc_X11_readsAs, by decide +kernel, by decide +kernel, kz_X11, by decide⟩
theorem kc_X11_refuses : Cond.code M_X11_refuses.1 M_X11_refuses.2.1 M_X11_refuses.2.2.1 M_X11_refuses.2.2.2 ∈ T0 := tb6 (List.mem_of_getElem? (i := 10) rfl) rfl
theorem mok_X11_refuses : MOk M_X11_refuses 1 := ⟨kc_X11_refuses, by decide +kernel, by decide +kernel, kz_X11, by decide⟩
theorem kc_X11_row : Cond.code M_X11_row.1 M_X11_row.2.1 M_X11_row.2.2.1 M_X11_row.2.2.2 ∈ T0 := tb6 (List.mem_of_getElem? (i := 151) rfl) rfl
theorem mok_X11_row : MOk M_X11_row 0 := ⟨kc_X11_row, by decide +kernel, by decide +kernel, kz_X11, by decide⟩
theorem kc_X11_run : Cond.code M_X11_run.1 M_X11_run.2.1 M_X11_run.2.2.1 M_X11_run.2.2.2 ∈ T0 := tb7 (List.mem_of_getElem? (i := 109) rfl) rfl
theorem mok_X11_run : MOk M_X11_run 2 := ⟨kc_X11_run, by decide +kernel, by decide +kernel, kz_X11, by decide⟩
theorem kc_X11_runs : Cond.code M_X11_runs.1 M_X11_runs.2.1 M_X11_runs.2.2.1 M_X11_runs.2.2.2 ∈ T0 := tb7 (List.mem_of_getElem? (i := 219) rfl) rfl
theorem mok_X11_runs : MOk M_X11_runs 1 := ⟨kc_X11_runs, by decide +kernel, by decide +kernel, kz_X11, by decide⟩
theorem kc_X11_setsAsked : Cond.code M_X11_setsAsked.1 M_X11_setsAsked.2.1 M_X11_setsAsked.2.2.1 M_X11_setsAsked.2.2.2 ∈ T0 := tb6 (List.mem_of_getElem? (i := 76) rfl) rfl
theorem mok_X11_setsAsked : MOk M_X11_setsAsked 3 := ⟨kc_X11_setsAsked, by decide +kernel, by decide +kernel, kz_X11, by decide⟩
theorem kc_X11_settled : Cond.code M_X11_settled.1 M_X11_settled.2.1 M_X11_settled.2.2.1 M_X11_settled.2.2.2 ∈ T0 := tb7 (List.mem_of_getElem? (i := 145) rfl) rfl
theorem mok_X11_settled : MOk M_X11_settled 0 := ⟨kc_X11_settled, by decide +kernel, by decide +kernel, kz_X11, by decide⟩
theorem kc_X11_shift : Cond.code M_X11_shift.1 M_X11_shift.2.1 M_X11_shift.2.2.1 M_X11_shift.2.2.2 ∈ T0 := tb7 (List.mem_of_getElem? (i := 191) rfl) rfl
theorem mok_X11_shift : MOk M_X11_shift 1 := ⟨kc_X11_shift, by decide +kernel, by decide +kernel, kz_X11, by decide⟩
theorem kc_X11_shifted : Cond.code M_X11_shifted.1 M_X11_shifted.2.1 M_X11_shifted.2.2.1 M_X11_shifted.2.2.2 ∈ T0 := tb7 (List.mem_of_getElem? (i := 72) rfl) rfl
theorem mok_X11_shifted : MOk M_X11_shifted 2 := ⟨kc_X11_shifted, by decide +kernel, by decide +kernel, kz_X11, by decide⟩
theorem kc_X11_shiftsKept : Cond.code M_X11_shiftsKept.1 M_X11_shiftsKept.2.1 M_X11_shiftsKept.2.2.1 M_X11_shiftsKept.2.2.2 ∈ T0 := tb7 (List.mem_of_getElem? (i := 195) rfl) rfl
theorem mok_X11_shiftsKept : MOk M_X11_shiftsKept 1 := ⟨kc_X11_shiftsKept, by decide +kernel, by decide +kernel, kz_X11, by decide⟩
theorem kc_X11_sign : Cond.code M_X11_sign.1 M_X11_sign.2.1 M_X11_sign.2.2.1 M_X11_sign.2.2.2 ∈ T0 := tb6 (List.mem_of_getElem? (i := 95) rfl) rfl
theorem mok_X11_sign : MOk M_X11_sign 1 := ⟨kc_X11_sign, by decide +kernel, by decide +kernel, kz_X11, by decide⟩
theorem kc_X11_small : Cond.code M_X11_small.1 M_X11_small.2.1 M_X11_small.2.2.1 M_X11_small.2.2.2 ∈ T0 := tb7 (List.mem_of_getElem? (i := 235) rfl) rfl
theorem mok_X11_small : MOk M_X11_small 1 := ⟨kc_X11_small, by decide +kernel, by decide +kernel, kz_X11, by decide⟩
theorem kc_X11_splits : Cond.code M_X11_splits.1 M_X11_splits.2.1 M_X11_splits.2.2.1 M_X11_splits.2.2.2 ∈ T0 := tb6 (List.mem_of_getElem? (i := 179) rfl) rfl
theorem mok_X11_splits : MOk M_X11_splits 1 := ⟨kc_X11_splits, by decide +kernel, by decide +kernel, kz_X11, by decide⟩
theorem kc_X11_status : Cond.code M_X11_status.1 M_X11_status.2.1 M_X11_status.2.2.1 M_X11_status.2.2.2 ∈ T0 := tb8 (List.mem_of_getElem? (i := 28) rfl) rfl
theorem mok_X11_status : MOk M_X11_status 0 := ⟨kc_X11_status, by decide +kernel, by decide +kernel, kz_X11, by decide⟩
theorem kc_X11_stopped : Cond.code M_X11_stopped.1 M_X11_stopped.2.1 M_X11_stopped.2.2.1 M_X11_stopped.2.2.2 ∈ T0 := tb7 (List.mem_of_getElem? (i := 207) rfl) rfl
theorem mok_X11_stopped : MOk M_X11_stopped 0 := ⟨kc_X11_stopped, by decide +kernel, by decide +kernel, kz_X11, by decide⟩
theorem kc_X11_sumOf : Cond.code M_X11_sumOf.1 M_X11_sumOf.2.1 M_X11_sumOf.2.2.1 M_X11_sumOf.2.2.2 ∈ T0 := tb6 (List.mem_of_getElem? (i := 84) rfl) rfl
theorem mok_X11_sumOf : MOk M_X11_sumOf 1 := ⟨kc_X11_sumOf, by decide +kernel, by decide +kernel, kz_X11, by decide⟩
theorem kc_X11_takes0 : Cond.code M_X11_takes0.1 M_X11_takes0.2.1 M_X11_takes0.2.2.1 M_X11_takes0.2.2.2 ∈ T0 := tb6 (List.mem_of_getElem? (i := 202) rfl) rfl
theorem mok_X11_takes0 : MOk M_X11_takes0 1 := ⟨kc_X11_takes0, by decide +kernel, by decide +kernel, kz_X11, by decide⟩
theorem kc_X11_takesBack : Cond.code M_X11_takesBack.1 M_X11_takesBack.2.1 M_X11_takesBack.2.2.1 M_X11_takesBack.2.2.2 ∈ T0 := tb8 (List.mem_of_getElem? (i := 1) rfl) rfl
theorem mok_X11_takesBack : MOk M_X11_takesBack 1 := ⟨kc_X11_takesBack, by decide +kernel, by decide +kernel, kz_X11, by decide⟩
theorem kc_X11_tells : Cond.code M_X11_tells.1 M_X11_tells.2.1 M_X11_tells.2.2.1 M_X11_tells.2.2.2 ∈ T0 := tb6 (List.mem_of_getElem? (i := 72) rfl) rfl
theorem mok_X11_tells : MOk M_X11_tells 5 := ⟨kc_X11_tells, by decide +kernel, by decide +kernel, kz_X11, by decide⟩
theorem kc_X11_termAt : Cond.code M_X11_termAt.1 M_X11_termAt.2.1 M_X11_termAt.2.2.1 M_X11_termAt.2.2.2 ∈ T0 := tb6 (List.mem_of_getElem? (i := 147) rfl) rfl
theorem mok_X11_termAt : MOk M_X11_termAt 1 := ⟨kc_X11_termAt, by decide +kernel, by decide +kernel, kz_X11, by decide⟩
theorem kc_X11_termOf : Cond.code M_X11_termOf.1 M_X11_termOf.2.1 M_X11_termOf.2.2.1 M_X11_termOf.2.2.2 ∈ T0 := tb6 (List.mem_of_getElem? (i := 88) rfl) rfl
theorem mok_X11_termOf : MOk M_X11_termOf 1 := ⟨kc_X11_termOf, by decide +kernel, by decide +kernel, kz_X11, by decide⟩
theorem kc_X11_terms : Cond.code M_X11_terms.1 M_X11_terms.2.1 M_X11_terms.2.2.1 M_X11_terms.2.2.2 ∈ T0 := tb6 (List.mem_of_getElem? (i := 141) rfl) rfl
theorem mok_X11_terms : MOk M_X11_terms 2 := ⟨kc_X11_terms, by decide +kernel, by decide +kernel, kz_X11, by decide⟩
theorem kc_X11_testOf : Cond.code M_X11_testOf.1 M_X11_testOf.2.1 M_X11_testOf.2.2.1 M_X11_testOf.2.2.2 ∈ T0 := tb6 (List.mem_of_getElem? (i := 120) rfl) rfl
theorem mok_X11_testOf : MOk M_X11_testOf 1 := ⟨kc_X11_testOf, by decide +kernel, by decide +kernel, kz_X11, by decide⟩
theorem kc_X11_undo : Cond.code M_X11_undo.1 M_X11_undo.2.1 M_X11_undo.2.2.1 M_X11_undo.2.2.2 ∈ T0 := tb7 (List.mem_of_getElem? (i := 163) rfl) rfl
theorem mok_X11_undo : MOk M_X11_undo 0 := ⟨kc_X11_undo, by decide +kernel, by decide +kernel, kz_X11, by decide⟩
theorem kc_X11_ways : Cond.code M_X11_ways.1 M_X11_ways.2.1 M_X11_ways.2.2.1 M_X11_ways.2.2.2 ∈ T0 := tb7 (List.mem_of_getElem? (i := 89) rfl) rfl
theorem mok_X11_ways : MOk M_X11_ways 1 := ⟨kc_X11_ways, by decide +kernel, by decide +kernel, kz_X11, by decide⟩
theorem kc_X11_who : Cond.code M_X11_who.1 M_X11_who.2.1 M_X11_who.2.2.1 M_X11_who.2.2.2 ∈ T0 := tb7 (List.mem_of_getElem? (i := 81) rfl) rfl
theorem mok_X11_who : MOk M_X11_who 2 := ⟨kc_X11_who, by decide +kernel, by decide +kernel, kz_X11, by decide⟩
theorem kc_X11_wordOf : Cond.code M_X11_wordOf.1 M_X11_wordOf.2.1 M_X11_wordOf.2.2.1 M_X11_wordOf.2.2.2 ∈ T0 := tb6 (List.mem_of_getElem? (i := 189) rfl) rfl
theorem mok_X11_wordOf : MOk M_X11_wordOf 2 := ⟨kc_X11_wordOf, by decide +kernel, by decide +kernel, kz_X11, by decide⟩
theorem kc_J6_bitCount_0f7a4 : Cond.code M_J6_bitCount_0f7a4.1 M_J6_bitCount_0f7a4.2.1 M_J6_bitCount_0f7a4.2.2.1 M_J6_bitCount_0f7a4.2.2.2 ∈ T0 := tb3 (List.mem_of_getElem? (i := 231) rfl) rfl
theorem mok_J6_bitCount_0f7a4 : MOk M_J6_bitCount_0f7a4 1 := ⟨kc_J6_bitCount_0f7a4, by decide +kernel, by decide +kernel, kz_J6, by decide⟩
theorem kc_J9_max_7cf53 : Cond.code M_J9_max_7cf53.1 M_J9_max_7cf53.2.1 M_J9_max_7cf53.2.2.1 M_J9_max_7cf53.2.2.2 ∈ T0 := tb1 (List.mem_of_getElem? (i := 133) rfl) rfl
theorem kc_J9_max_f86c9 : Cond.code M_J9_max_f86c9.1 M_J9_max_f86c9.2.1 M_J9_max_f86c9.2.2.1 M_J9_max_f86c9.2.2.2 ∈ T0 := tb3 (List.mem_of_getElem? (i := 1) rfl) rfl
theorem kc_J9_min_7cf53 : Cond.code M_J9_min_7cf53.1 M_J9_min_7cf53.2.1 M_J9_min_7cf53.2.2.1 M_J9_min_7cf53.2.2.2 ∈ T0 := tb3 (List.mem_of_getElem? (i := 68) rfl) rfl
theorem kc_J9_min_f86c9 : Cond.code M_J9_min_f86c9.1 M_J9_min_f86c9.2.1 M_J9_min_f86c9.2.2.1 M_J9_min_f86c9.2.2.2 ∈ T0 := tb2 (List.mem_of_getElem? (i := 238) rfl) rfl
theorem kc_J0_charAt_5068e : Cond.code M_J0_charAt_5068e.1 M_J0_charAt_5068e.2.1 M_J0_charAt_5068e.2.2.1 M_J0_charAt_5068e.2.2.2 ∈ T0 := tb3 (List.mem_of_getElem? (i := 88) rfl) rfl
theorem mok_J0_charAt_5068e : MOk M_J0_charAt_5068e 1 := ⟨kc_J0_charAt_5068e, by decide +kernel, by decide +kernel, kz_J0, by decide⟩
theorem kc_J0_checkIndex_df160 : Cond.code M_J0_checkIndex_df160.1 M_J0_checkIndex_df160.2.1 M_J0_checkIndex_df160.2.2.1 M_J0_checkIndex_df160.2.2.2 ∈ T0 := tb3 (List.mem_of_getElem? (i := 98) rfl) rfl
theorem mok_J0_checkIndex_df160 : MOk M_J0_checkIndex_df160 2 := ⟨kc_J0_checkIndex_df160, by decide +kernel, by decide +kernel, kz_J0, by decide⟩
theorem kc_J0_coder_7d493 : Cond.code M_J0_coder_7d493.1 M_J0_coder_7d493.2.1 M_J0_coder_7d493.2.2.1 M_J0_coder_7d493.2.2.2 ∈ T0 := tb3 (List.mem_of_getElem? (i := 82) rfl) rfl
theorem mok_J0_coder_7d493 : MOk M_J0_coder_7d493 0 := ⟨kc_J0_coder_7d493, by decide +kernel, by decide +kernel, kz_J0, by decide⟩
theorem kc_J0_isLatin1_aae02 : Cond.code M_J0_isLatin1_aae02.1 M_J0_isLatin1_aae02.2.1 M_J0_isLatin1_aae02.2.2.1 M_J0_isLatin1_aae02.2.2.2 ∈ T0 := tb3 (List.mem_of_getElem? (i := 92) rfl) rfl
theorem mok_J0_isLatin1_aae02 : MOk M_J0_isLatin1_aae02 0 := ⟨kc_J0_isLatin1_aae02, by decide +kernel, by decide +kernel, kz_J0, by decide⟩
theorem kc_J0_length_8abf5 : Cond.code M_J0_length_8abf5.1 M_J0_length_8abf5.2.1 M_J0_length_8abf5.2.2.1 M_J0_length_8abf5.2.2.2 ∈ T0 := tb3 (List.mem_of_getElem? (i := 78) rfl) rfl
theorem mok_J0_length_8abf5 : MOk M_J0_length_8abf5 0 := ⟨kc_J0_length_8abf5, by decide +kernel, by decide +kernel, kz_J0, by decide⟩
theorem kc_J1_charAt_3b067 : Cond.code M_J1_charAt_3b067.1 M_J1_charAt_3b067.2.1 M_J1_charAt_3b067.2.2.1 M_J1_charAt_3b067.2.2.2 ∈ T0 := tb3 (List.mem_of_getElem? (i := 95) rfl) rfl
theorem mok_J1_charAt_3b067 : MOk M_J1_charAt_3b067 2 := ⟨kc_J1_charAt_3b067, by decide +kernel, by decide +kernel, kz_J1, by decide⟩
theorem kc_J2_charAt_3b067 : Cond.code M_J2_charAt_3b067.1 M_J2_charAt_3b067.2.1 M_J2_charAt_3b067.2.2.1 M_J2_charAt_3b067.2.2.2 ∈ T0 := tb3 (List.mem_of_getElem? (i := 106) rfl) rfl
theorem mok_J2_charAt_3b067 : MOk M_J2_charAt_3b067 2 := ⟨kc_J2_charAt_3b067, by decide +kernel, by decide +kernel, kz_J2, by decide⟩
theorem kc_J2_checkIndex_2214a : Cond.code M_J2_checkIndex_2214a.1 M_J2_checkIndex_2214a.2.1 M_J2_checkIndex_2214a.2.2.1 M_J2_checkIndex_2214a.2.2.2 ∈ T0 := tb3 (List.mem_of_getElem? (i := 109) rfl) rfl
theorem mok_J2_checkIndex_2214a : MOk M_J2_checkIndex_2214a 2 := ⟨kc_J2_checkIndex_2214a, by decide +kernel, by decide +kernel, kz_J2, by decide⟩
theorem kc_J2_getChar_3b067 : Cond.code M_J2_getChar_3b067.1 M_J2_getChar_3b067.2.1 M_J2_getChar_3b067.2.2.1 M_J2_getChar_3b067.2.2.2 ∈ T0 := tb3 (List.mem_of_getElem? (i := 116) rfl) rfl
theorem mok_J2_getChar_3b067 : MOk M_J2_getChar_3b067 2 := ⟨kc_J2_getChar_3b067, by decide +kernel, by decide +kernel, kz_J2, by decide⟩
theorem kc_J2_length_9d52b : Cond.code M_J2_length_9d52b.1 M_J2_length_9d52b.2.1 M_J2_length_9d52b.2.2.1 M_J2_length_9d52b.2.2.2 ∈ T0 := tb3 (List.mem_of_getElem? (i := 112) rfl) rfl
theorem mok_J2_length_9d52b : MOk M_J2_length_9d52b 1 := ⟨kc_J2_length_9d52b, by decide +kernel, by decide +kernel, kz_J2, by decide⟩
theorem kc_J7_fill_53178 : Cond.code M_J7_fill_53178.1 M_J7_fill_53178.2.1 M_J7_fill_53178.2.2.1 M_J7_fill_53178.2.2.2 ∈ T0 := tb1 (List.mem_of_getElem? (i := 39) rfl) rfl
theorem mok_J7_fill_53178 : MOk M_J7_fill_53178 2 := ⟨kc_J7_fill_53178, by decide +kernel, by decide +kernel, kz_J7, by decide⟩
theorem kc_J7_fill_d0a16 : Cond.code M_J7_fill_d0a16.1 M_J7_fill_d0a16.2.1 M_J7_fill_d0a16.2.2.1 M_J7_fill_d0a16.2.2.2 ∈ T0 := tb4 (List.mem_of_getElem? (i := 150) rfl) rfl
theorem mok_J7_fill_d0a16 : MOk M_J7_fill_d0a16 2 := ⟨kc_J7_fill_d0a16, by decide +kernel, by decide +kernel, kz_J7, by decide⟩
theorem kc_J3_checkIndex_8e157 : Cond.code M_J3_checkIndex_8e157.1 M_J3_checkIndex_8e157.2.1 M_J3_checkIndex_8e157.2.2.1 M_J3_checkIndex_8e157.2.2.2 ∈ T0 := tb3 (List.mem_of_getElem? (i := 103) rfl) rfl
theorem mok_J3_checkIndex_8e157 : MOk M_J3_checkIndex_8e157 3 := ⟨kc_J3_checkIndex_8e157, by decide +kernel, by decide +kernel, kz_J3, by decide⟩
theorem kc_objectInit : Cond.code Lib.objectInit ⟨#[0xb1]⟩ 1 none ∈ T0 := tb1 (List.mem_of_getElem? (i := 28) rfl) rfl
theorem inT0X0 : ∀ w ∈ u_ws RX0 TX0 4, w ∈ T0 := by
  intro w hw
  obtain ⟨k, hk, rfl⟩ := List.mem_map.mp hw
  have hk := List.mem_range.mp hk
  match k, hk with
  | 0, _ => exact tb2 (List.mem_of_getElem? (i := 76) (by decide +kernel)) rfl
  | 1, _ => exact tb2 (List.mem_of_getElem? (i := 78) (by decide +kernel)) rfl
  | 2, _ => exact tb2 (List.mem_of_getElem? (i := 80) (by decide +kernel)) rfl
  | 3, _ => exact tb2 (List.mem_of_getElem? (i := 82) (by decide +kernel)) rfl
  | k + 4, h => exact absurd h (by omega)
theorem clsX0 : Cls 0 RX0 TX0 4 tyX0 := ⟨by decide, rfl, rfl, fun _ => rfl, inT0X0, tyX0_ok, nmX0⟩
theorem inT0X1 : ∀ w ∈ u_ws RX1 TX1 2, w ∈ T0 := by
  intro w hw
  obtain ⟨k, hk, rfl⟩ := List.mem_map.mp hw
  have hk := List.mem_range.mp hk
  match k, hk with
  | 0, _ => exact tb2 (List.mem_of_getElem? (i := 60) (by decide +kernel)) rfl
  | 1, _ => exact tb2 (List.mem_of_getElem? (i := 62) (by decide +kernel)) rfl
  | k + 2, h => exact absurd h (by omega)
theorem clsX1 : Cls 1 RX1 TX1 2 tyX1 := ⟨by decide, rfl, rfl, fun _ => rfl, inT0X1, tyX1_ok, nmX1⟩
theorem inT0X2 : ∀ w ∈ u_ws RX2 TX2 4, w ∈ T0 := by
  intro w hw
  obtain ⟨k, hk, rfl⟩ := List.mem_map.mp hw
  have hk := List.mem_range.mp hk
  match k, hk with
  | 0, _ => exact tb2 (List.mem_of_getElem? (i := 5) (by decide +kernel)) rfl
  | 1, _ => exact tb2 (List.mem_of_getElem? (i := 7) (by decide +kernel)) rfl
  | 2, _ => exact tb2 (List.mem_of_getElem? (i := 9) (by decide +kernel)) rfl
  | 3, _ => exact tb2 (List.mem_of_getElem? (i := 11) (by decide +kernel)) rfl
  | k + 4, h => exact absurd h (by omega)
theorem clsX2 : Cls 2 RX2 TX2 4 tyX2 := ⟨by decide, rfl, rfl, fun _ => rfl, inT0X2, tyX2_ok, nmX2⟩
theorem inT0X3 : ∀ w ∈ u_ws RX3 TX3 10, w ∈ T0 := by
  intro w hw
  obtain ⟨k, hk, rfl⟩ := List.mem_map.mp hw
  have hk := List.mem_range.mp hk
  match k, hk with
  | 0, _ => exact tb2 (List.mem_of_getElem? (i := 30) (by decide +kernel)) rfl
  | 1, _ => exact tb2 (List.mem_of_getElem? (i := 32) (by decide +kernel)) rfl
  | 2, _ => exact tb2 (List.mem_of_getElem? (i := 34) (by decide +kernel)) rfl
  | 3, _ => exact tb2 (List.mem_of_getElem? (i := 36) (by decide +kernel)) rfl
  | 4, _ => exact tb2 (List.mem_of_getElem? (i := 38) (by decide +kernel)) rfl
  | 5, _ => exact tb2 (List.mem_of_getElem? (i := 40) (by decide +kernel)) rfl
  | 6, _ => exact tb2 (List.mem_of_getElem? (i := 42) (by decide +kernel)) rfl
  | 7, _ => exact tb2 (List.mem_of_getElem? (i := 44) (by decide +kernel)) rfl
  | 8, _ => exact tb2 (List.mem_of_getElem? (i := 46) (by decide +kernel)) rfl
  | 9, _ => exact tb2 (List.mem_of_getElem? (i := 48) (by decide +kernel)) rfl
  | k + 10, h => exact absurd h (by omega)
theorem clsX3 : Cls 3 RX3 TX3 10 tyX3 := ⟨by decide, rfl, rfl, fun _ => rfl, inT0X3, tyX3_ok, nmX3⟩
theorem inT0X4 : ∀ w ∈ u_ws RX4 TX4 12, w ∈ T0 := by
  intro w hw
  obtain ⟨k, hk, rfl⟩ := List.mem_map.mp hw
  have hk := List.mem_range.mp hk
  match k, hk with
  | 0, _ => exact tb1 (List.mem_of_getElem? (i := 195) (by decide +kernel)) rfl
  | 1, _ => exact tb1 (List.mem_of_getElem? (i := 197) (by decide +kernel)) rfl
  | 2, _ => exact tb1 (List.mem_of_getElem? (i := 199) (by decide +kernel)) rfl
  | 3, _ => exact tb1 (List.mem_of_getElem? (i := 201) (by decide +kernel)) rfl
  | 4, _ => exact tb1 (List.mem_of_getElem? (i := 203) (by decide +kernel)) rfl
  | 5, _ => exact tb1 (List.mem_of_getElem? (i := 205) (by decide +kernel)) rfl
  | 6, _ => exact tb1 (List.mem_of_getElem? (i := 207) (by decide +kernel)) rfl
  | 7, _ => exact tb1 (List.mem_of_getElem? (i := 209) (by decide +kernel)) rfl
  | 8, _ => exact tb1 (List.mem_of_getElem? (i := 211) (by decide +kernel)) rfl
  | 9, _ => exact tb1 (List.mem_of_getElem? (i := 213) (by decide +kernel)) rfl
  | 10, _ => exact tb1 (List.mem_of_getElem? (i := 215) (by decide +kernel)) rfl
  | 11, _ => exact tb1 (List.mem_of_getElem? (i := 217) (by decide +kernel)) rfl
  | k + 12, h => exact absurd h (by omega)
theorem clsX4 : Cls 4 RX4 TX4 12 tyX4 := ⟨by decide, rfl, rfl, fun _ => rfl, inT0X4, tyX4_ok, nmX4⟩
theorem inT0X5 : ∀ w ∈ u_ws RX5 TX5 1, w ∈ T0 := by
  intro w hw
  obtain ⟨k, hk, rfl⟩ := List.mem_map.mp hw
  have hk := List.mem_range.mp hk
  match k, hk with
  | 0, _ => exact tb1 (List.mem_of_getElem? (i := 233) (by decide +kernel)) rfl
  | k + 1, h => exact absurd h (by omega)
theorem clsX5 : Cls 5 RX5 TX5 1 tyX5 := ⟨by decide, rfl, rfl, fun _ => rfl, inT0X5, tyX5_ok, nmX5⟩
theorem inT0X6 : ∀ w ∈ u_ws RX6 TX6 5, w ∈ T0 := by
  intro w hw
  obtain ⟨k, hk, rfl⟩ := List.mem_map.mp hw
  have hk := List.mem_range.mp hk
  match k, hk with
  | 0, _ => exact tb2 (List.mem_of_getElem? (i := 99) (by decide +kernel)) rfl
  | 1, _ => exact tb2 (List.mem_of_getElem? (i := 101) (by decide +kernel)) rfl
  | 2, _ => exact tb2 (List.mem_of_getElem? (i := 103) (by decide +kernel)) rfl
  | 3, _ => exact tb2 (List.mem_of_getElem? (i := 105) (by decide +kernel)) rfl
  | 4, _ => exact tb2 (List.mem_of_getElem? (i := 107) (by decide +kernel)) rfl
  | k + 5, h => exact absurd h (by omega)
theorem clsX6 : Cls 6 RX6 TX6 5 tyX6 := ⟨by decide, rfl, rfl, fun _ => rfl, inT0X6, tyX6_ok, nmX6⟩
theorem inT0X7 : ∀ w ∈ u_ws RX7 TX7 11, w ∈ T0 := by
  intro w hw
  obtain ⟨k, hk, rfl⟩ := List.mem_map.mp hw
  have hk := List.mem_range.mp hk
  match k, hk with
  | 0, _ => exact tb1 (List.mem_of_getElem? (i := 77) (by decide +kernel)) rfl
  | 1, _ => exact tb1 (List.mem_of_getElem? (i := 79) (by decide +kernel)) rfl
  | 2, _ => exact tb1 (List.mem_of_getElem? (i := 81) (by decide +kernel)) rfl
  | 3, _ => exact tb1 (List.mem_of_getElem? (i := 83) (by decide +kernel)) rfl
  | 4, _ => exact tb1 (List.mem_of_getElem? (i := 85) (by decide +kernel)) rfl
  | 5, _ => exact tb1 (List.mem_of_getElem? (i := 87) (by decide +kernel)) rfl
  | 6, _ => exact tb1 (List.mem_of_getElem? (i := 89) (by decide +kernel)) rfl
  | 7, _ => exact tb1 (List.mem_of_getElem? (i := 91) (by decide +kernel)) rfl
  | 8, _ => exact tb1 (List.mem_of_getElem? (i := 93) (by decide +kernel)) rfl
  | 9, _ => exact tb1 (List.mem_of_getElem? (i := 95) (by decide +kernel)) rfl
  | 10, _ => exact tb1 (List.mem_of_getElem? (i := 97) (by decide +kernel)) rfl
  | k + 11, h => exact absurd h (by omega)
theorem clsX7 : Cls 7 RX7 TX7 11 tyX7 := ⟨by decide, rfl, rfl, fun _ => rfl, inT0X7, tyX7_ok, nmX7⟩
theorem inT0X8 : ∀ w ∈ u_ws RX8 TX8 2, w ∈ T0 := by
  intro w hw
  obtain ⟨k, hk, rfl⟩ := List.mem_map.mp hw
  have hk := List.mem_range.mp hk
  match k, hk with
  | 0, _ => exact tb1 (List.mem_of_getElem? (i := 112) (by decide +kernel)) rfl
  | 1, _ => exact tb1 (List.mem_of_getElem? (i := 114) (by decide +kernel)) rfl
  | k + 2, h => exact absurd h (by omega)
theorem clsX8 : Cls 8 RX8 TX8 2 tyX8 := ⟨by decide, rfl, rfl, fun _ => rfl, inT0X8, tyX8_ok, nmX8⟩
theorem inT0X9 : ∀ w ∈ u_ws RX9 TX9 9, w ∈ T0 := by
  intro w hw
  obtain ⟨k, hk, rfl⟩ := List.mem_map.mp hw
  have hk := List.mem_range.mp hk
  match k, hk with
  | 0, _ => exact tb1 (List.mem_of_getElem? (i := 162) (by decide +kernel)) rfl
  | 1, _ => exact tb1 (List.mem_of_getElem? (i := 164) (by decide +kernel)) rfl
  | 2, _ => exact tb1 (List.mem_of_getElem? (i := 166) (by decide +kernel)) rfl
  | 3, _ => exact tb1 (List.mem_of_getElem? (i := 168) (by decide +kernel)) rfl
  | 4, _ => exact tb1 (List.mem_of_getElem? (i := 170) (by decide +kernel)) rfl
  | 5, _ => exact tb1 (List.mem_of_getElem? (i := 172) (by decide +kernel)) rfl
  | 6, _ => exact tb1 (List.mem_of_getElem? (i := 174) (by decide +kernel)) rfl
  | 7, _ => exact tb1 (List.mem_of_getElem? (i := 176) (by decide +kernel)) rfl
  | 8, _ => exact tb1 (List.mem_of_getElem? (i := 178) (by decide +kernel)) rfl
  | k + 9, h => exact absurd h (by omega)
theorem clsX9 : Cls 9 RX9 TX9 9 tyX9 := ⟨by decide, rfl, rfl, fun _ => rfl, inT0X9, tyX9_ok, nmX9⟩
theorem inT0X10 : ∀ w ∈ u_ws RX10 TX10 17, w ∈ T0 := by
  intro w hw
  obtain ⟨k, hk, rfl⟩ := List.mem_map.mp hw
  have hk := List.mem_range.mp hk
  match k, hk with
  | 0, _ => exact tb2 (List.mem_of_getElem? (i := 127) (by decide +kernel)) rfl
  | 1, _ => exact tb2 (List.mem_of_getElem? (i := 129) (by decide +kernel)) rfl
  | 2, _ => exact tb2 (List.mem_of_getElem? (i := 131) (by decide +kernel)) rfl
  | 3, _ => exact tb2 (List.mem_of_getElem? (i := 133) (by decide +kernel)) rfl
  | 4, _ => exact tb2 (List.mem_of_getElem? (i := 135) (by decide +kernel)) rfl
  | 5, _ => exact tb2 (List.mem_of_getElem? (i := 137) (by decide +kernel)) rfl
  | 6, _ => exact tb2 (List.mem_of_getElem? (i := 139) (by decide +kernel)) rfl
  | 7, _ => exact tb2 (List.mem_of_getElem? (i := 141) (by decide +kernel)) rfl
  | 8, _ => exact tb2 (List.mem_of_getElem? (i := 143) (by decide +kernel)) rfl
  | 9, _ => exact tb2 (List.mem_of_getElem? (i := 145) (by decide +kernel)) rfl
  | 10, _ => exact tb2 (List.mem_of_getElem? (i := 147) (by decide +kernel)) rfl
  | 11, _ => exact tb2 (List.mem_of_getElem? (i := 149) (by decide +kernel)) rfl
  | 12, _ => exact tb2 (List.mem_of_getElem? (i := 151) (by decide +kernel)) rfl
  | 13, _ => exact tb2 (List.mem_of_getElem? (i := 153) (by decide +kernel)) rfl
  | 14, _ => exact tb2 (List.mem_of_getElem? (i := 155) (by decide +kernel)) rfl
  | 15, _ => exact tb2 (List.mem_of_getElem? (i := 157) (by decide +kernel)) rfl
  | 16, _ => exact tb2 (List.mem_of_getElem? (i := 159) (by decide +kernel)) rfl
  | k + 17, h => exact absurd h (by omega)
theorem clsX10 : Cls 10 RX10 TX10 17 tyX10 := ⟨by decide, rfl, rfl, fun _ => rfl, inT0X10, tyX10_ok, nmX10⟩
theorem inT0X11 : ∀ w ∈ u_ws RX11 TX11 53, w ∈ T0 := by
  intro w hw
  obtain ⟨k, hk, rfl⟩ := List.mem_map.mp hw
  have hk := List.mem_range.mp hk
  match k, hk with
  | 0, _ => exact tb5 (List.mem_of_getElem? (i := 133) (by decide +kernel)) rfl
  | 1, _ => exact tb5 (List.mem_of_getElem? (i := 135) (by decide +kernel)) rfl
  | 2, _ => exact tb5 (List.mem_of_getElem? (i := 137) (by decide +kernel)) rfl
  | 3, _ => exact tb5 (List.mem_of_getElem? (i := 139) (by decide +kernel)) rfl
  | 4, _ => exact tb5 (List.mem_of_getElem? (i := 141) (by decide +kernel)) rfl
  | 5, _ => exact tb5 (List.mem_of_getElem? (i := 143) (by decide +kernel)) rfl
  | 6, _ => exact tb5 (List.mem_of_getElem? (i := 145) (by decide +kernel)) rfl
  | 7, _ => exact tb5 (List.mem_of_getElem? (i := 147) (by decide +kernel)) rfl
  | 8, _ => exact tb5 (List.mem_of_getElem? (i := 149) (by decide +kernel)) rfl
  | 9, _ => exact tb5 (List.mem_of_getElem? (i := 151) (by decide +kernel)) rfl
  | 10, _ => exact tb5 (List.mem_of_getElem? (i := 153) (by decide +kernel)) rfl
  | 11, _ => exact tb5 (List.mem_of_getElem? (i := 155) (by decide +kernel)) rfl
  | 12, _ => exact tb5 (List.mem_of_getElem? (i := 157) (by decide +kernel)) rfl
  | 13, _ => exact tb5 (List.mem_of_getElem? (i := 159) (by decide +kernel)) rfl
  | 14, _ => exact tb5 (List.mem_of_getElem? (i := 161) (by decide +kernel)) rfl
  | 15, _ => exact tb5 (List.mem_of_getElem? (i := 163) (by decide +kernel)) rfl
  | 16, _ => exact tb5 (List.mem_of_getElem? (i := 165) (by decide +kernel)) rfl
  | 17, _ => exact tb5 (List.mem_of_getElem? (i := 167) (by decide +kernel)) rfl
  | 18, _ => exact tb5 (List.mem_of_getElem? (i := 169) (by decide +kernel)) rfl
  | 19, _ => exact tb5 (List.mem_of_getElem? (i := 171) (by decide +kernel)) rfl
  | 20, _ => exact tb5 (List.mem_of_getElem? (i := 173) (by decide +kernel)) rfl
  | 21, _ => exact tb5 (List.mem_of_getElem? (i := 175) (by decide +kernel)) rfl
  | 22, _ => exact tb5 (List.mem_of_getElem? (i := 177) (by decide +kernel)) rfl
  | 23, _ => exact tb5 (List.mem_of_getElem? (i := 179) (by decide +kernel)) rfl
  | 24, _ => exact tb5 (List.mem_of_getElem? (i := 181) (by decide +kernel)) rfl
  | 25, _ => exact tb5 (List.mem_of_getElem? (i := 183) (by decide +kernel)) rfl
  | 26, _ => exact tb5 (List.mem_of_getElem? (i := 185) (by decide +kernel)) rfl
  | 27, _ => exact tb5 (List.mem_of_getElem? (i := 187) (by decide +kernel)) rfl
  | 28, _ => exact tb5 (List.mem_of_getElem? (i := 189) (by decide +kernel)) rfl
  | 29, _ => exact tb5 (List.mem_of_getElem? (i := 191) (by decide +kernel)) rfl
  | 30, _ => exact tb5 (List.mem_of_getElem? (i := 193) (by decide +kernel)) rfl
  | 31, _ => exact tb5 (List.mem_of_getElem? (i := 195) (by decide +kernel)) rfl
  | 32, _ => exact tb5 (List.mem_of_getElem? (i := 197) (by decide +kernel)) rfl
  | 33, _ => exact tb5 (List.mem_of_getElem? (i := 199) (by decide +kernel)) rfl
  | 34, _ => exact tb5 (List.mem_of_getElem? (i := 201) (by decide +kernel)) rfl
  | 35, _ => exact tb5 (List.mem_of_getElem? (i := 203) (by decide +kernel)) rfl
  | 36, _ => exact tb5 (List.mem_of_getElem? (i := 205) (by decide +kernel)) rfl
  | 37, _ => exact tb5 (List.mem_of_getElem? (i := 207) (by decide +kernel)) rfl
  | 38, _ => exact tb5 (List.mem_of_getElem? (i := 209) (by decide +kernel)) rfl
  | 39, _ => exact tb5 (List.mem_of_getElem? (i := 211) (by decide +kernel)) rfl
  | 40, _ => exact tb5 (List.mem_of_getElem? (i := 213) (by decide +kernel)) rfl
  | 41, _ => exact tb5 (List.mem_of_getElem? (i := 215) (by decide +kernel)) rfl
  | 42, _ => exact tb5 (List.mem_of_getElem? (i := 217) (by decide +kernel)) rfl
  | 43, _ => exact tb5 (List.mem_of_getElem? (i := 219) (by decide +kernel)) rfl
  | 44, _ => exact tb5 (List.mem_of_getElem? (i := 221) (by decide +kernel)) rfl
  | 45, _ => exact tb5 (List.mem_of_getElem? (i := 223) (by decide +kernel)) rfl
  | 46, _ => exact tb5 (List.mem_of_getElem? (i := 225) (by decide +kernel)) rfl
  | 47, _ => exact tb5 (List.mem_of_getElem? (i := 227) (by decide +kernel)) rfl
  | 48, _ => exact tb5 (List.mem_of_getElem? (i := 229) (by decide +kernel)) rfl
  | 49, _ => exact tb5 (List.mem_of_getElem? (i := 231) (by decide +kernel)) rfl
  | 50, _ => exact tb5 (List.mem_of_getElem? (i := 233) (by decide +kernel)) rfl
  | 51, _ => exact tb5 (List.mem_of_getElem? (i := 235) (by decide +kernel)) rfl
  | 52, _ => exact tb5 (List.mem_of_getElem? (i := 237) (by decide +kernel)) rfl
  | k + 53, h => exact absurd h (by omega)
theorem clsX11 : Cls 11 RX11 TX11 53 tyX11 := ⟨by decide, rfl, rfl, fun _ => rfl, inT0X11, tyX11_ok, nmX11⟩
