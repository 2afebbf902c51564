/-! ===== literals beside nI (written by a program) ===== -/
theorem zq_a1 (a : Nat) : nI a + 1 = nI (a + 1) := nI_add a 1
theorem zq_ab1 (a : Nat) : 1 + nI a = nI (1 + a) := nI_add 1 a
theorem zq_le1 {a : Nat} (h : a < 2 ^ 31) : (nI a ≤ 1) = (a ≤ 1) := propext (nI_leI (b := 1) h (by decide))
theorem zq_ge1 {a : Nat} (h : a < 2 ^ 31) : (1 ≤ nI a) = (1 ≤ a) := propext (nI_leI (a := 1) (by decide) h)
theorem zq_lt1 {a : Nat} (h : a < 2 ^ 31) : (nI a < 1) = (a < 1) := propext (nI_ltI (b := 1) h (by decide))
theorem zq_gt1 {a : Nat} (h : a < 2 ^ 31) : (1 < nI a) = (1 < a) := propext (nI_ltI (a := 1) (by decide) h)
theorem zq_eq1 {a : Nat} (h : a < 2 ^ 31) : (nI a = 1) = (a = 1) := propext (nI_eq (b := 1) h (by decide))
theorem zq_a2 (a : Nat) : nI a + 2 = nI (a + 2) := nI_add a 2
theorem zq_ab2 (a : Nat) : 2 + nI a = nI (2 + a) := nI_add 2 a
theorem zq_le2 {a : Nat} (h : a < 2 ^ 31) : (nI a ≤ 2) = (a ≤ 2) := propext (nI_leI (b := 2) h (by decide))
theorem zq_ge2 {a : Nat} (h : a < 2 ^ 31) : (2 ≤ nI a) = (2 ≤ a) := propext (nI_leI (a := 2) (by decide) h)
theorem zq_lt2 {a : Nat} (h : a < 2 ^ 31) : (nI a < 2) = (a < 2) := propext (nI_ltI (b := 2) h (by decide))
theorem zq_gt2 {a : Nat} (h : a < 2 ^ 31) : (2 < nI a) = (2 < a) := propext (nI_ltI (a := 2) (by decide) h)
theorem zq_eq2 {a : Nat} (h : a < 2 ^ 31) : (nI a = 2) = (a = 2) := propext (nI_eq (b := 2) h (by decide))
theorem zq_a3 (a : Nat) : nI a + 3 = nI (a + 3) := nI_add a 3
theorem zq_ab3 (a : Nat) : 3 + nI a = nI (3 + a) := nI_add 3 a
theorem zq_le3 {a : Nat} (h : a < 2 ^ 31) : (nI a ≤ 3) = (a ≤ 3) := propext (nI_leI (b := 3) h (by decide))
theorem zq_ge3 {a : Nat} (h : a < 2 ^ 31) : (3 ≤ nI a) = (3 ≤ a) := propext (nI_leI (a := 3) (by decide) h)
theorem zq_lt3 {a : Nat} (h : a < 2 ^ 31) : (nI a < 3) = (a < 3) := propext (nI_ltI (b := 3) h (by decide))
theorem zq_gt3 {a : Nat} (h : a < 2 ^ 31) : (3 < nI a) = (3 < a) := propext (nI_ltI (a := 3) (by decide) h)
theorem zq_eq3 {a : Nat} (h : a < 2 ^ 31) : (nI a = 3) = (a = 3) := propext (nI_eq (b := 3) h (by decide))
theorem zq_a4 (a : Nat) : nI a + 4 = nI (a + 4) := nI_add a 4
theorem zq_ab4 (a : Nat) : 4 + nI a = nI (4 + a) := nI_add 4 a
theorem zq_le4 {a : Nat} (h : a < 2 ^ 31) : (nI a ≤ 4) = (a ≤ 4) := propext (nI_leI (b := 4) h (by decide))
theorem zq_ge4 {a : Nat} (h : a < 2 ^ 31) : (4 ≤ nI a) = (4 ≤ a) := propext (nI_leI (a := 4) (by decide) h)
theorem zq_lt4 {a : Nat} (h : a < 2 ^ 31) : (nI a < 4) = (a < 4) := propext (nI_ltI (b := 4) h (by decide))
theorem zq_gt4 {a : Nat} (h : a < 2 ^ 31) : (4 < nI a) = (4 < a) := propext (nI_ltI (a := 4) (by decide) h)
theorem zq_eq4 {a : Nat} (h : a < 2 ^ 31) : (nI a = 4) = (a = 4) := propext (nI_eq (b := 4) h (by decide))
theorem zq_a5 (a : Nat) : nI a + 5 = nI (a + 5) := nI_add a 5
theorem zq_ab5 (a : Nat) : 5 + nI a = nI (5 + a) := nI_add 5 a
theorem zq_le5 {a : Nat} (h : a < 2 ^ 31) : (nI a ≤ 5) = (a ≤ 5) := propext (nI_leI (b := 5) h (by decide))
theorem zq_ge5 {a : Nat} (h : a < 2 ^ 31) : (5 ≤ nI a) = (5 ≤ a) := propext (nI_leI (a := 5) (by decide) h)
theorem zq_lt5 {a : Nat} (h : a < 2 ^ 31) : (nI a < 5) = (a < 5) := propext (nI_ltI (b := 5) h (by decide))
theorem zq_gt5 {a : Nat} (h : a < 2 ^ 31) : (5 < nI a) = (5 < a) := propext (nI_ltI (a := 5) (by decide) h)
theorem zq_eq5 {a : Nat} (h : a < 2 ^ 31) : (nI a = 5) = (a = 5) := propext (nI_eq (b := 5) h (by decide))
theorem zq_a6 (a : Nat) : nI a + 6 = nI (a + 6) := nI_add a 6
theorem zq_ab6 (a : Nat) : 6 + nI a = nI (6 + a) := nI_add 6 a
theorem zq_le6 {a : Nat} (h : a < 2 ^ 31) : (nI a ≤ 6) = (a ≤ 6) := propext (nI_leI (b := 6) h (by decide))
theorem zq_ge6 {a : Nat} (h : a < 2 ^ 31) : (6 ≤ nI a) = (6 ≤ a) := propext (nI_leI (a := 6) (by decide) h)
theorem zq_lt6 {a : Nat} (h : a < 2 ^ 31) : (nI a < 6) = (a < 6) := propext (nI_ltI (b := 6) h (by decide))
theorem zq_gt6 {a : Nat} (h : a < 2 ^ 31) : (6 < nI a) = (6 < a) := propext (nI_ltI (a := 6) (by decide) h)
theorem zq_eq6 {a : Nat} (h : a < 2 ^ 31) : (nI a = 6) = (a = 6) := propext (nI_eq (b := 6) h (by decide))
theorem zq_a7 (a : Nat) : nI a + 7 = nI (a + 7) := nI_add a 7
theorem zq_ab7 (a : Nat) : 7 + nI a = nI (7 + a) := nI_add 7 a
theorem zq_le7 {a : Nat} (h : a < 2 ^ 31) : (nI a ≤ 7) = (a ≤ 7) := propext (nI_leI (b := 7) h (by decide))
theorem zq_ge7 {a : Nat} (h : a < 2 ^ 31) : (7 ≤ nI a) = (7 ≤ a) := propext (nI_leI (a := 7) (by decide) h)
theorem zq_lt7 {a : Nat} (h : a < 2 ^ 31) : (nI a < 7) = (a < 7) := propext (nI_ltI (b := 7) h (by decide))
theorem zq_gt7 {a : Nat} (h : a < 2 ^ 31) : (7 < nI a) = (7 < a) := propext (nI_ltI (a := 7) (by decide) h)
theorem zq_eq7 {a : Nat} (h : a < 2 ^ 31) : (nI a = 7) = (a = 7) := propext (nI_eq (b := 7) h (by decide))
theorem zq_a8 (a : Nat) : nI a + 8 = nI (a + 8) := nI_add a 8
theorem zq_ab8 (a : Nat) : 8 + nI a = nI (8 + a) := nI_add 8 a
theorem zq_le8 {a : Nat} (h : a < 2 ^ 31) : (nI a ≤ 8) = (a ≤ 8) := propext (nI_leI (b := 8) h (by decide))
theorem zq_ge8 {a : Nat} (h : a < 2 ^ 31) : (8 ≤ nI a) = (8 ≤ a) := propext (nI_leI (a := 8) (by decide) h)
theorem zq_lt8 {a : Nat} (h : a < 2 ^ 31) : (nI a < 8) = (a < 8) := propext (nI_ltI (b := 8) h (by decide))
theorem zq_gt8 {a : Nat} (h : a < 2 ^ 31) : (8 < nI a) = (8 < a) := propext (nI_ltI (a := 8) (by decide) h)
theorem zq_eq8 {a : Nat} (h : a < 2 ^ 31) : (nI a = 8) = (a = 8) := propext (nI_eq (b := 8) h (by decide))
theorem zq_a9 (a : Nat) : nI a + 9 = nI (a + 9) := nI_add a 9
theorem zq_ab9 (a : Nat) : 9 + nI a = nI (9 + a) := nI_add 9 a
theorem zq_le9 {a : Nat} (h : a < 2 ^ 31) : (nI a ≤ 9) = (a ≤ 9) := propext (nI_leI (b := 9) h (by decide))
theorem zq_ge9 {a : Nat} (h : a < 2 ^ 31) : (9 ≤ nI a) = (9 ≤ a) := propext (nI_leI (a := 9) (by decide) h)
theorem zq_lt9 {a : Nat} (h : a < 2 ^ 31) : (nI a < 9) = (a < 9) := propext (nI_ltI (b := 9) h (by decide))
theorem zq_gt9 {a : Nat} (h : a < 2 ^ 31) : (9 < nI a) = (9 < a) := propext (nI_ltI (a := 9) (by decide) h)
theorem zq_eq9 {a : Nat} (h : a < 2 ^ 31) : (nI a = 9) = (a = 9) := propext (nI_eq (b := 9) h (by decide))
theorem zq_a11 (a : Nat) : nI a + 11 = nI (a + 11) := nI_add a 11
theorem zq_ab11 (a : Nat) : 11 + nI a = nI (11 + a) := nI_add 11 a
theorem zq_le11 {a : Nat} (h : a < 2 ^ 31) : (nI a ≤ 11) = (a ≤ 11) := propext (nI_leI (b := 11) h (by decide))
theorem zq_ge11 {a : Nat} (h : a < 2 ^ 31) : (11 ≤ nI a) = (11 ≤ a) := propext (nI_leI (a := 11) (by decide) h)
theorem zq_lt11 {a : Nat} (h : a < 2 ^ 31) : (nI a < 11) = (a < 11) := propext (nI_ltI (b := 11) h (by decide))
theorem zq_gt11 {a : Nat} (h : a < 2 ^ 31) : (11 < nI a) = (11 < a) := propext (nI_ltI (a := 11) (by decide) h)
theorem zq_eq11 {a : Nat} (h : a < 2 ^ 31) : (nI a = 11) = (a = 11) := propext (nI_eq (b := 11) h (by decide))
theorem zq_a13 (a : Nat) : nI a + 13 = nI (a + 13) := nI_add a 13
theorem zq_ab13 (a : Nat) : 13 + nI a = nI (13 + a) := nI_add 13 a
theorem zq_le13 {a : Nat} (h : a < 2 ^ 31) : (nI a ≤ 13) = (a ≤ 13) := propext (nI_leI (b := 13) h (by decide))
theorem zq_ge13 {a : Nat} (h : a < 2 ^ 31) : (13 ≤ nI a) = (13 ≤ a) := propext (nI_leI (a := 13) (by decide) h)
theorem zq_lt13 {a : Nat} (h : a < 2 ^ 31) : (nI a < 13) = (a < 13) := propext (nI_ltI (b := 13) h (by decide))
theorem zq_gt13 {a : Nat} (h : a < 2 ^ 31) : (13 < nI a) = (13 < a) := propext (nI_ltI (a := 13) (by decide) h)
theorem zq_eq13 {a : Nat} (h : a < 2 ^ 31) : (nI a = 13) = (a = 13) := propext (nI_eq (b := 13) h (by decide))
theorem zq_a23 (a : Nat) : nI a + 23 = nI (a + 23) := nI_add a 23
theorem zq_ab23 (a : Nat) : 23 + nI a = nI (23 + a) := nI_add 23 a
theorem zq_le23 {a : Nat} (h : a < 2 ^ 31) : (nI a ≤ 23) = (a ≤ 23) := propext (nI_leI (b := 23) h (by decide))
theorem zq_ge23 {a : Nat} (h : a < 2 ^ 31) : (23 ≤ nI a) = (23 ≤ a) := propext (nI_leI (a := 23) (by decide) h)
theorem zq_lt23 {a : Nat} (h : a < 2 ^ 31) : (nI a < 23) = (a < 23) := propext (nI_ltI (b := 23) h (by decide))
theorem zq_gt23 {a : Nat} (h : a < 2 ^ 31) : (23 < nI a) = (23 < a) := propext (nI_ltI (a := 23) (by decide) h)
theorem zq_eq23 {a : Nat} (h : a < 2 ^ 31) : (nI a = 23) = (a = 23) := propext (nI_eq (b := 23) h (by decide))
theorem zq_a32 (a : Nat) : nI a + 32 = nI (a + 32) := nI_add a 32
theorem zq_ab32 (a : Nat) : 32 + nI a = nI (32 + a) := nI_add 32 a
theorem zq_le32 {a : Nat} (h : a < 2 ^ 31) : (nI a ≤ 32) = (a ≤ 32) := propext (nI_leI (b := 32) h (by decide))
theorem zq_ge32 {a : Nat} (h : a < 2 ^ 31) : (32 ≤ nI a) = (32 ≤ a) := propext (nI_leI (a := 32) (by decide) h)
theorem zq_lt32 {a : Nat} (h : a < 2 ^ 31) : (nI a < 32) = (a < 32) := propext (nI_ltI (b := 32) h (by decide))
theorem zq_gt32 {a : Nat} (h : a < 2 ^ 31) : (32 < nI a) = (32 < a) := propext (nI_ltI (a := 32) (by decide) h)
theorem zq_eq32 {a : Nat} (h : a < 2 ^ 31) : (nI a = 32) = (a = 32) := propext (nI_eq (b := 32) h (by decide))
theorem zq_a64 (a : Nat) : nI a + 64 = nI (a + 64) := nI_add a 64
theorem zq_ab64 (a : Nat) : 64 + nI a = nI (64 + a) := nI_add 64 a
theorem zq_le64 {a : Nat} (h : a < 2 ^ 31) : (nI a ≤ 64) = (a ≤ 64) := propext (nI_leI (b := 64) h (by decide))
theorem zq_ge64 {a : Nat} (h : a < 2 ^ 31) : (64 ≤ nI a) = (64 ≤ a) := propext (nI_leI (a := 64) (by decide) h)
theorem zq_lt64 {a : Nat} (h : a < 2 ^ 31) : (nI a < 64) = (a < 64) := propext (nI_ltI (b := 64) h (by decide))
theorem zq_gt64 {a : Nat} (h : a < 2 ^ 31) : (64 < nI a) = (64 < a) := propext (nI_ltI (a := 64) (by decide) h)
theorem zq_eq64 {a : Nat} (h : a < 2 ^ 31) : (nI a = 64) = (a = 64) := propext (nI_eq (b := 64) h (by decide))
theorem zq_a75 (a : Nat) : nI a + 75 = nI (a + 75) := nI_add a 75
theorem zq_ab75 (a : Nat) : 75 + nI a = nI (75 + a) := nI_add 75 a
theorem zq_le75 {a : Nat} (h : a < 2 ^ 31) : (nI a ≤ 75) = (a ≤ 75) := propext (nI_leI (b := 75) h (by decide))
theorem zq_ge75 {a : Nat} (h : a < 2 ^ 31) : (75 ≤ nI a) = (75 ≤ a) := propext (nI_leI (a := 75) (by decide) h)
theorem zq_lt75 {a : Nat} (h : a < 2 ^ 31) : (nI a < 75) = (a < 75) := propext (nI_ltI (b := 75) h (by decide))
theorem zq_gt75 {a : Nat} (h : a < 2 ^ 31) : (75 < nI a) = (75 < a) := propext (nI_ltI (a := 75) (by decide) h)
theorem zq_eq75 {a : Nat} (h : a < 2 ^ 31) : (nI a = 75) = (a = 75) := propext (nI_eq (b := 75) h (by decide))
theorem zq_a80 (a : Nat) : nI a + 80 = nI (a + 80) := nI_add a 80
theorem zq_ab80 (a : Nat) : 80 + nI a = nI (80 + a) := nI_add 80 a
theorem zq_le80 {a : Nat} (h : a < 2 ^ 31) : (nI a ≤ 80) = (a ≤ 80) := propext (nI_leI (b := 80) h (by decide))
theorem zq_ge80 {a : Nat} (h : a < 2 ^ 31) : (80 ≤ nI a) = (80 ≤ a) := propext (nI_leI (a := 80) (by decide) h)
theorem zq_lt80 {a : Nat} (h : a < 2 ^ 31) : (nI a < 80) = (a < 80) := propext (nI_ltI (b := 80) h (by decide))
theorem zq_gt80 {a : Nat} (h : a < 2 ^ 31) : (80 < nI a) = (80 < a) := propext (nI_ltI (a := 80) (by decide) h)
theorem zq_eq80 {a : Nat} (h : a < 2 ^ 31) : (nI a = 80) = (a = 80) := propext (nI_eq (b := 80) h (by decide))
theorem zq_a128 (a : Nat) : nI a + 128 = nI (a + 128) := nI_add a 128
theorem zq_ab128 (a : Nat) : 128 + nI a = nI (128 + a) := nI_add 128 a
theorem zq_le128 {a : Nat} (h : a < 2 ^ 31) : (nI a ≤ 128) = (a ≤ 128) := propext (nI_leI (b := 128) h (by decide))
theorem zq_ge128 {a : Nat} (h : a < 2 ^ 31) : (128 ≤ nI a) = (128 ≤ a) := propext (nI_leI (a := 128) (by decide) h)
theorem zq_lt128 {a : Nat} (h : a < 2 ^ 31) : (nI a < 128) = (a < 128) := propext (nI_ltI (b := 128) h (by decide))
theorem zq_gt128 {a : Nat} (h : a < 2 ^ 31) : (128 < nI a) = (128 < a) := propext (nI_ltI (a := 128) (by decide) h)
theorem zq_eq128 {a : Nat} (h : a < 2 ^ 31) : (nI a = 128) = (a = 128) := propext (nI_eq (b := 128) h (by decide))
theorem zq_a255 (a : Nat) : nI a + 255 = nI (a + 255) := nI_add a 255
theorem zq_ab255 (a : Nat) : 255 + nI a = nI (255 + a) := nI_add 255 a
theorem zq_le255 {a : Nat} (h : a < 2 ^ 31) : (nI a ≤ 255) = (a ≤ 255) := propext (nI_leI (b := 255) h (by decide))
theorem zq_ge255 {a : Nat} (h : a < 2 ^ 31) : (255 ≤ nI a) = (255 ≤ a) := propext (nI_leI (a := 255) (by decide) h)
theorem zq_lt255 {a : Nat} (h : a < 2 ^ 31) : (nI a < 255) = (a < 255) := propext (nI_ltI (b := 255) h (by decide))
theorem zq_gt255 {a : Nat} (h : a < 2 ^ 31) : (255 < nI a) = (255 < a) := propext (nI_ltI (a := 255) (by decide) h)
theorem zq_eq255 {a : Nat} (h : a < 2 ^ 31) : (nI a = 255) = (a = 255) := propext (nI_eq (b := 255) h (by decide))
theorem zq_a256 (a : Nat) : nI a + 256 = nI (a + 256) := nI_add a 256
theorem zq_ab256 (a : Nat) : 256 + nI a = nI (256 + a) := nI_add 256 a
theorem zq_le256 {a : Nat} (h : a < 2 ^ 31) : (nI a ≤ 256) = (a ≤ 256) := propext (nI_leI (b := 256) h (by decide))
theorem zq_ge256 {a : Nat} (h : a < 2 ^ 31) : (256 ≤ nI a) = (256 ≤ a) := propext (nI_leI (a := 256) (by decide) h)
theorem zq_lt256 {a : Nat} (h : a < 2 ^ 31) : (nI a < 256) = (a < 256) := propext (nI_ltI (b := 256) h (by decide))
theorem zq_gt256 {a : Nat} (h : a < 2 ^ 31) : (256 < nI a) = (256 < a) := propext (nI_ltI (a := 256) (by decide) h)
theorem zq_eq256 {a : Nat} (h : a < 2 ^ 31) : (nI a = 256) = (a = 256) := propext (nI_eq (b := 256) h (by decide))
theorem zq_a300 (a : Nat) : nI a + 300 = nI (a + 300) := nI_add a 300
theorem zq_ab300 (a : Nat) : 300 + nI a = nI (300 + a) := nI_add 300 a
theorem zq_le300 {a : Nat} (h : a < 2 ^ 31) : (nI a ≤ 300) = (a ≤ 300) := propext (nI_leI (b := 300) h (by decide))
theorem zq_ge300 {a : Nat} (h : a < 2 ^ 31) : (300 ≤ nI a) = (300 ≤ a) := propext (nI_leI (a := 300) (by decide) h)
theorem zq_lt300 {a : Nat} (h : a < 2 ^ 31) : (nI a < 300) = (a < 300) := propext (nI_ltI (b := 300) h (by decide))
theorem zq_gt300 {a : Nat} (h : a < 2 ^ 31) : (300 < nI a) = (300 < a) := propext (nI_ltI (a := 300) (by decide) h)
theorem zq_eq300 {a : Nat} (h : a < 2 ^ 31) : (nI a = 300) = (a = 300) := propext (nI_eq (b := 300) h (by decide))
theorem zq_m13 (a : Nat) : 13 * nI a = nI (13 * a) := pk_mul 13 a
theorem zq_m8 (a : Nat) : 8 * nI a = nI (8 * a) := pk_mul 8 a
theorem zq_s9 {a : Nat} (h : 9 ≤ a) : nI a - 9 = nI (a - 9) := pk_sub h
theorem zq_s1 {a : Nat} (h : 1 ≤ a) : nI a - 1 = nI (a - 1) := pk_sub h
theorem zq_lt0 {a : Nat} (h : a < 2 ^ 31) : (nI a < 0) = False := eq_false (nI_pos h)
theorem zq_ge0 {a : Nat} (h : a < 2 ^ 31) : (0 ≤ nI a) = True := eq_true (nI_pos' h)
theorem zq_eq0 {a : Nat} (h : a < 2 ^ 31) : (nI a = 0) = (a = 0) := propext (nI_eq (b := 0) h (by decide))
theorem zq_le0 {a : Nat} (h : a < 2 ^ 31) : (nI a ≤ 0) = (a = 0) := propext ((nI_leI (b := 0) h (by decide)).trans ⟨fun z => by omega, fun z => by omega⟩)
theorem zq_m1 {a : Nat} (h : a < 2 ^ 31) : (nI a = -1) = False := eq_false (zn_m1 a h)
theorem zq_lem1 {a : Nat} (h : a < 2 ^ 31) : (nI a ≤ -1) = False := eq_false (fun z => by
  rw [Int32.le_iff_toInt_le, nI_toInt h, show (-1 : Int32).toInt = -1 from by decide] at z
  omega)
theorem zq_le {a b : Nat} (ha : a < 2 ^ 31) (hb : b < 2 ^ 31) : (nI a ≤ nI b) = (a ≤ b) := propext (nI_leI ha hb)
theorem zq_lt {a b : Nat} (ha : a < 2 ^ 31) (hb : b < 2 ^ 31) : (nI a < nI b) = (a < b) := propext (nI_ltI ha hb)
theorem zq_eq {a b : Nat} (ha : a < 2 ^ 31) (hb : b < 2 ^ 31) : (nI a = nI b) = (a = b) := propext (nI_eq ha hb)
theorem zq_in {a N : Nat} (h : a < N) (hN : N < 2 ^ 31) : vp_in (nI a) N = True := eq_true (vp_in_nI h hN)
theorem zq_f (B : Nat → Nat) (j : Nat) : zb_f B j = nI (B j) := rfl
theorem zq_v {α : Sort _} {P : α → Prop} {a b : α} (e : a = b) (h : P b) : P a := e ▸ h
