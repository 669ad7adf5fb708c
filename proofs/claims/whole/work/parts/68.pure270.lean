/-! reading and writing the reference's rows -/
theorem klm1 : kl 182 = 400 := by decide +kernel
theorem rdm1 {h : HF} {i : Nat} {f : Int → RO} (hi : i < 400) : zrd h (181 + 1) (i : Int) f = f (h 182 i) := by rw [zrd_ok (a := 181 + 1) ⟨by omega, by rw [show kl (181 + 1) = 400 from klm1]; omega⟩, Int.toNat_natCast]
theorem wtm1 {h : HF} {i : Nat} {v : Int} {f : HF → RO} (hi : i < 400) : zwr h (181 + 1) (i : Int) v f = f (stp h 182 i v) := by rw [zwr_ok (a := 181 + 1) ⟨by omega, by rw [show kl (181 + 1) = 400 from klm1]; omega⟩, Int.toNat_natCast]
theorem klm2 : kl 183 = 210 := by decide +kernel
theorem rdm2 {h : HF} {i : Nat} {f : Int → RO} (hi : i < 210) : zrd h (181 + 2) (i : Int) f = f (h 183 i) := by rw [zrd_ok (a := 181 + 2) ⟨by omega, by rw [show kl (181 + 2) = 210 from klm2]; omega⟩, Int.toNat_natCast]
theorem wtm2 {h : HF} {i : Nat} {v : Int} {f : HF → RO} (hi : i < 210) : zwr h (181 + 2) (i : Int) v f = f (stp h 183 i v) := by rw [zwr_ok (a := 181 + 2) ⟨by omega, by rw [show kl (181 + 2) = 210 from klm2]; omega⟩, Int.toNat_natCast]
theorem klm3 : kl 184 = 10 := by decide +kernel
theorem rdm3 {h : HF} {i : Nat} {f : Int → RO} (hi : i < 10) : zrd h (181 + 3) (i : Int) f = f (h 184 i) := by rw [zrd_ok (a := 181 + 3) ⟨by omega, by rw [show kl (181 + 3) = 10 from klm3]; omega⟩, Int.toNat_natCast]
theorem wtm3 {h : HF} {i : Nat} {v : Int} {f : HF → RO} (hi : i < 10) : zwr h (181 + 3) (i : Int) v f = f (stp h 184 i v) := by rw [zwr_ok (a := 181 + 3) ⟨by omega, by rw [show kl (181 + 3) = 10 from klm3]; omega⟩, Int.toNat_natCast]
theorem klm4 : kl 185 = 10 := by decide +kernel
theorem rdm4 {h : HF} {i : Nat} {f : Int → RO} (hi : i < 10) : zrd h (181 + 4) (i : Int) f = f (h 185 i) := by rw [zrd_ok (a := 181 + 4) ⟨by omega, by rw [show kl (181 + 4) = 10 from klm4]; omega⟩, Int.toNat_natCast]
theorem wtm4 {h : HF} {i : Nat} {v : Int} {f : HF → RO} (hi : i < 10) : zwr h (181 + 4) (i : Int) v f = f (stp h 185 i v) := by rw [zwr_ok (a := 181 + 4) ⟨by omega, by rw [show kl (181 + 4) = 10 from klm4]; omega⟩, Int.toNat_natCast]
theorem klm5 : kl 186 = 40 := by decide +kernel
theorem rdm5 {h : HF} {i : Nat} {f : Int → RO} (hi : i < 40) : zrd h (181 + 5) (i : Int) f = f (h 186 i) := by rw [zrd_ok (a := 181 + 5) ⟨by omega, by rw [show kl (181 + 5) = 40 from klm5]; omega⟩, Int.toNat_natCast]
theorem wtm5 {h : HF} {i : Nat} {v : Int} {f : HF → RO} (hi : i < 40) : zwr h (181 + 5) (i : Int) v f = f (stp h 186 i v) := by rw [zwr_ok (a := 181 + 5) ⟨by omega, by rw [show kl (181 + 5) = 40 from klm5]; omega⟩, Int.toNat_natCast]
theorem klm6 : kl 187 = 1960 := by decide +kernel
theorem rdm6 {h : HF} {i : Nat} {f : Int → RO} (hi : i < 1960) : zrd h (181 + 6) (i : Int) f = f (h 187 i) := by rw [zrd_ok (a := 181 + 6) ⟨by omega, by rw [show kl (181 + 6) = 1960 from klm6]; omega⟩, Int.toNat_natCast]
theorem wtm6 {h : HF} {i : Nat} {v : Int} {f : HF → RO} (hi : i < 1960) : zwr h (181 + 6) (i : Int) v f = f (stp h 187 i v) := by rw [zwr_ok (a := 181 + 6) ⟨by omega, by rw [show kl (181 + 6) = 1960 from klm6]; omega⟩, Int.toNat_natCast]
theorem klm7 : kl 188 = 16 := by decide +kernel
theorem rdm7 {h : HF} {i : Nat} {f : Int → RO} (hi : i < 16) : zrd h (181 + 7) (i : Int) f = f (h 188 i) := by rw [zrd_ok (a := 181 + 7) ⟨by omega, by rw [show kl (181 + 7) = 16 from klm7]; omega⟩, Int.toNat_natCast]
theorem wtm7 {h : HF} {i : Nat} {v : Int} {f : HF → RO} (hi : i < 16) : zwr h (181 + 7) (i : Int) v f = f (stp h 188 i v) := by rw [zwr_ok (a := 181 + 7) ⟨by omega, by rw [show kl (181 + 7) = 16 from klm7]; omega⟩, Int.toNat_natCast]
theorem klm8 : kl 189 = 16 := by decide +kernel
theorem rdm8 {h : HF} {i : Nat} {f : Int → RO} (hi : i < 16) : zrd h (181 + 8) (i : Int) f = f (h 189 i) := by rw [zrd_ok (a := 181 + 8) ⟨by omega, by rw [show kl (181 + 8) = 16 from klm8]; omega⟩, Int.toNat_natCast]
theorem wtm8 {h : HF} {i : Nat} {v : Int} {f : HF → RO} (hi : i < 16) : zwr h (181 + 8) (i : Int) v f = f (stp h 189 i v) := by rw [zwr_ok (a := 181 + 8) ⟨by omega, by rw [show kl (181 + 8) = 16 from klm8]; omega⟩, Int.toNat_natCast]
theorem klm9 : kl 190 = 16 := by decide +kernel
theorem rdm9 {h : HF} {i : Nat} {f : Int → RO} (hi : i < 16) : zrd h (181 + 9) (i : Int) f = f (h 190 i) := by rw [zrd_ok (a := 181 + 9) ⟨by omega, by rw [show kl (181 + 9) = 16 from klm9]; omega⟩, Int.toNat_natCast]
theorem wtm9 {h : HF} {i : Nat} {v : Int} {f : HF → RO} (hi : i < 16) : zwr h (181 + 9) (i : Int) v f = f (stp h 190 i v) := by rw [zwr_ok (a := 181 + 9) ⟨by omega, by rw [show kl (181 + 9) = 16 from klm9]; omega⟩, Int.toNat_natCast]
theorem klm10 : kl 191 = 64 := by decide +kernel
theorem rdm10 {h : HF} {i : Nat} {f : Int → RO} (hi : i < 64) : zrd h (181 + 10) (i : Int) f = f (h 191 i) := by rw [zrd_ok (a := 181 + 10) ⟨by omega, by rw [show kl (181 + 10) = 64 from klm10]; omega⟩, Int.toNat_natCast]
theorem wtm10 {h : HF} {i : Nat} {v : Int} {f : HF → RO} (hi : i < 64) : zwr h (181 + 10) (i : Int) v f = f (stp h 191 i v) := by rw [zwr_ok (a := 181 + 10) ⟨by omega, by rw [show kl (181 + 10) = 64 from klm10]; omega⟩, Int.toNat_natCast]
theorem klm11 : kl 192 = 3136 := by decide +kernel
theorem rdm11 {h : HF} {i : Nat} {f : Int → RO} (hi : i < 3136) : zrd h (181 + 11) (i : Int) f = f (h 192 i) := by rw [zrd_ok (a := 181 + 11) ⟨by omega, by rw [show kl (181 + 11) = 3136 from klm11]; omega⟩, Int.toNat_natCast]
theorem wtm11 {h : HF} {i : Nat} {v : Int} {f : HF → RO} (hi : i < 3136) : zwr h (181 + 11) (i : Int) v f = f (stp h 192 i v) := by rw [zwr_ok (a := 181 + 11) ⟨by omega, by rw [show kl (181 + 11) = 3136 from klm11]; omega⟩, Int.toNat_natCast]
theorem klm12 : kl 193 = 7 := by decide +kernel
theorem rdm12 {h : HF} {i : Nat} {f : Int → RO} (hi : i < 7) : zrd h (181 + 12) (i : Int) f = f (h 193 i) := by rw [zrd_ok (a := 181 + 12) ⟨by omega, by rw [show kl (181 + 12) = 7 from klm12]; omega⟩, Int.toNat_natCast]
theorem wtm12 {h : HF} {i : Nat} {v : Int} {f : HF → RO} (hi : i < 7) : zwr h (181 + 12) (i : Int) v f = f (stp h 193 i v) := by rw [zwr_ok (a := 181 + 12) ⟨by omega, by rw [show kl (181 + 12) = 7 from klm12]; omega⟩, Int.toNat_natCast]
theorem klm13 : kl 194 = 400 := by decide +kernel
theorem rdm13 {h : HF} {i : Nat} {f : Int → RO} (hi : i < 400) : zrd h (181 + 13) (i : Int) f = f (h 194 i) := by rw [zrd_ok (a := 181 + 13) ⟨by omega, by rw [show kl (181 + 13) = 400 from klm13]; omega⟩, Int.toNat_natCast]
theorem wtm13 {h : HF} {i : Nat} {v : Int} {f : HF → RO} (hi : i < 400) : zwr h (181 + 13) (i : Int) v f = f (stp h 194 i v) := by rw [zwr_ok (a := 181 + 13) ⟨by omega, by rw [show kl (181 + 13) = 400 from klm13]; omega⟩, Int.toNat_natCast]
theorem klm14 : kl 195 = 400 := by decide +kernel
theorem rdm14 {h : HF} {i : Nat} {f : Int → RO} (hi : i < 400) : zrd h (181 + 14) (i : Int) f = f (h 195 i) := by rw [zrd_ok (a := 181 + 14) ⟨by omega, by rw [show kl (181 + 14) = 400 from klm14]; omega⟩, Int.toNat_natCast]
theorem wtm14 {h : HF} {i : Nat} {v : Int} {f : HF → RO} (hi : i < 400) : zwr h (181 + 14) (i : Int) v f = f (stp h 195 i v) := by rw [zwr_ok (a := 181 + 14) ⟨by omega, by rw [show kl (181 + 14) = 400 from klm14]; omega⟩, Int.toNat_natCast]
theorem klm15 : kl 196 = 400 := by decide +kernel
theorem rdm15 {h : HF} {i : Nat} {f : Int → RO} (hi : i < 400) : zrd h (181 + 15) (i : Int) f = f (h 196 i) := by rw [zrd_ok (a := 181 + 15) ⟨by omega, by rw [show kl (181 + 15) = 400 from klm15]; omega⟩, Int.toNat_natCast]
theorem wtm15 {h : HF} {i : Nat} {v : Int} {f : HF → RO} (hi : i < 400) : zwr h (181 + 15) (i : Int) v f = f (stp h 196 i v) := by rw [zwr_ok (a := 181 + 15) ⟨by omega, by rw [show kl (181 + 15) = 400 from klm15]; omega⟩, Int.toNat_natCast]
theorem klm16 : kl 197 = 400 := by decide +kernel
theorem rdm16 {h : HF} {i : Nat} {f : Int → RO} (hi : i < 400) : zrd h (181 + 16) (i : Int) f = f (h 197 i) := by rw [zrd_ok (a := 181 + 16) ⟨by omega, by rw [show kl (181 + 16) = 400 from klm16]; omega⟩, Int.toNat_natCast]
theorem wtm16 {h : HF} {i : Nat} {v : Int} {f : HF → RO} (hi : i < 400) : zwr h (181 + 16) (i : Int) v f = f (stp h 197 i v) := by rw [zwr_ok (a := 181 + 16) ⟨by omega, by rw [show kl (181 + 16) = 400 from klm16]; omega⟩, Int.toNat_natCast]
theorem klm17 : kl 198 = 80 := by decide +kernel
theorem rdm17 {h : HF} {i : Nat} {f : Int → RO} (hi : i < 80) : zrd h (181 + 17) (i : Int) f = f (h 198 i) := by rw [zrd_ok (a := 181 + 17) ⟨by omega, by rw [show kl (181 + 17) = 80 from klm17]; omega⟩, Int.toNat_natCast]
theorem wtm17 {h : HF} {i : Nat} {v : Int} {f : HF → RO} (hi : i < 80) : zwr h (181 + 17) (i : Int) v f = f (stp h 198 i v) := by rw [zwr_ok (a := 181 + 17) ⟨by omega, by rw [show kl (181 + 17) = 80 from klm17]; omega⟩, Int.toNat_natCast]
theorem klm18 : kl 199 = 5 := by decide +kernel
theorem rdm18 {h : HF} {i : Nat} {f : Int → RO} (hi : i < 5) : zrd h (181 + 18) (i : Int) f = f (h 199 i) := by rw [zrd_ok (a := 181 + 18) ⟨by omega, by rw [show kl (181 + 18) = 5 from klm18]; omega⟩, Int.toNat_natCast]
theorem wtm18 {h : HF} {i : Nat} {v : Int} {f : HF → RO} (hi : i < 5) : zwr h (181 + 18) (i : Int) v f = f (stp h 199 i v) := by rw [zwr_ok (a := 181 + 18) ⟨by omega, by rw [show kl (181 + 18) = 5 from klm18]; omega⟩, Int.toNat_natCast]
theorem klm19 : kl 200 = 200 := by decide +kernel
theorem rdm19 {h : HF} {i : Nat} {f : Int → RO} (hi : i < 200) : zrd h (181 + 19) (i : Int) f = f (h 200 i) := by rw [zrd_ok (a := 181 + 19) ⟨by omega, by rw [show kl (181 + 19) = 200 from klm19]; omega⟩, Int.toNat_natCast]
theorem wtm19 {h : HF} {i : Nat} {v : Int} {f : HF → RO} (hi : i < 200) : zwr h (181 + 19) (i : Int) v f = f (stp h 200 i v) := by rw [zwr_ok (a := 181 + 19) ⟨by omega, by rw [show kl (181 + 19) = 200 from klm19]; omega⟩, Int.toNat_natCast]
theorem klm20 : kl 201 = 200 := by decide +kernel
theorem rdm20 {h : HF} {i : Nat} {f : Int → RO} (hi : i < 200) : zrd h (181 + 20) (i : Int) f = f (h 201 i) := by rw [zrd_ok (a := 181 + 20) ⟨by omega, by rw [show kl (181 + 20) = 200 from klm20]; omega⟩, Int.toNat_natCast]
theorem wtm20 {h : HF} {i : Nat} {v : Int} {f : HF → RO} (hi : i < 200) : zwr h (181 + 20) (i : Int) v f = f (stp h 201 i v) := by rw [zwr_ok (a := 181 + 20) ⟨by omega, by rw [show kl (181 + 20) = 200 from klm20]; omega⟩, Int.toNat_natCast]
theorem klm21 : kl 202 = 5 := by decide +kernel
theorem rdm21 {h : HF} {i : Nat} {f : Int → RO} (hi : i < 5) : zrd h (181 + 21) (i : Int) f = f (h 202 i) := by rw [zrd_ok (a := 181 + 21) ⟨by omega, by rw [show kl (181 + 21) = 5 from klm21]; omega⟩, Int.toNat_natCast]
theorem wtm21 {h : HF} {i : Nat} {v : Int} {f : HF → RO} (hi : i < 5) : zwr h (181 + 21) (i : Int) v f = f (stp h 202 i v) := by rw [zwr_ok (a := 181 + 21) ⟨by omega, by rw [show kl (181 + 21) = 5 from klm21]; omega⟩, Int.toNat_natCast]
theorem klm22 : kl 203 = 35 := by decide +kernel
theorem rdm22 {h : HF} {i : Nat} {f : Int → RO} (hi : i < 35) : zrd h (181 + 22) (i : Int) f = f (h 203 i) := by rw [zrd_ok (a := 181 + 22) ⟨by omega, by rw [show kl (181 + 22) = 35 from klm22]; omega⟩, Int.toNat_natCast]
theorem wtm22 {h : HF} {i : Nat} {v : Int} {f : HF → RO} (hi : i < 35) : zwr h (181 + 22) (i : Int) v f = f (stp h 203 i v) := by rw [zwr_ok (a := 181 + 22) ⟨by omega, by rw [show kl (181 + 22) = 35 from klm22]; omega⟩, Int.toNat_natCast]
theorem klm23 : kl 204 = 35 := by decide +kernel
theorem rdm23 {h : HF} {i : Nat} {f : Int → RO} (hi : i < 35) : zrd h (181 + 23) (i : Int) f = f (h 204 i) := by rw [zrd_ok (a := 181 + 23) ⟨by omega, by rw [show kl (181 + 23) = 35 from klm23]; omega⟩, Int.toNat_natCast]
theorem wtm23 {h : HF} {i : Nat} {v : Int} {f : HF → RO} (hi : i < 35) : zwr h (181 + 23) (i : Int) v f = f (stp h 204 i v) := by rw [zwr_ok (a := 181 + 23) ⟨by omega, by rw [show kl (181 + 23) = 35 from klm23]; omega⟩, Int.toNat_natCast]
theorem klm24 : kl 205 = 5 := by decide +kernel
theorem rdm24 {h : HF} {i : Nat} {f : Int → RO} (hi : i < 5) : zrd h (181 + 24) (i : Int) f = f (h 205 i) := by rw [zrd_ok (a := 181 + 24) ⟨by omega, by rw [show kl (181 + 24) = 5 from klm24]; omega⟩, Int.toNat_natCast]
theorem wtm24 {h : HF} {i : Nat} {v : Int} {f : HF → RO} (hi : i < 5) : zwr h (181 + 24) (i : Int) v f = f (stp h 205 i v) := by rw [zwr_ok (a := 181 + 24) ⟨by omega, by rw [show kl (181 + 24) = 5 from klm24]; omega⟩, Int.toNat_natCast]
theorem klm25 : kl 206 = 49 := by decide +kernel
theorem rdm25 {h : HF} {i : Nat} {f : Int → RO} (hi : i < 49) : zrd h (181 + 25) (i : Int) f = f (h 206 i) := by rw [zrd_ok (a := 181 + 25) ⟨by omega, by rw [show kl (181 + 25) = 49 from klm25]; omega⟩, Int.toNat_natCast]
theorem wtm25 {h : HF} {i : Nat} {v : Int} {f : HF → RO} (hi : i < 49) : zwr h (181 + 25) (i : Int) v f = f (stp h 206 i v) := by rw [zwr_ok (a := 181 + 25) ⟨by omega, by rw [show kl (181 + 25) = 49 from klm25]; omega⟩, Int.toNat_natCast]
theorem klm26 : kl 207 = 7 := by decide +kernel
theorem rdm26 {h : HF} {i : Nat} {f : Int → RO} (hi : i < 7) : zrd h (181 + 26) (i : Int) f = f (h 207 i) := by rw [zrd_ok (a := 181 + 26) ⟨by omega, by rw [show kl (181 + 26) = 7 from klm26]; omega⟩, Int.toNat_natCast]
theorem wtm26 {h : HF} {i : Nat} {v : Int} {f : HF → RO} (hi : i < 7) : zwr h (181 + 26) (i : Int) v f = f (stp h 207 i v) := by rw [zwr_ok (a := 181 + 26) ⟨by omega, by rw [show kl (181 + 26) = 7 from klm26]; omega⟩, Int.toNat_natCast]
theorem klm27 : kl 208 = 7 := by decide +kernel
theorem rdm27 {h : HF} {i : Nat} {f : Int → RO} (hi : i < 7) : zrd h (181 + 27) (i : Int) f = f (h 208 i) := by rw [zrd_ok (a := 181 + 27) ⟨by omega, by rw [show kl (181 + 27) = 7 from klm27]; omega⟩, Int.toNat_natCast]
theorem wtm27 {h : HF} {i : Nat} {v : Int} {f : HF → RO} (hi : i < 7) : zwr h (181 + 27) (i : Int) v f = f (stp h 208 i v) := by rw [zwr_ok (a := 181 + 27) ⟨by omega, by rw [show kl (181 + 27) = 7 from klm27]; omega⟩, Int.toNat_natCast]
theorem klm28 : kl 209 = 7 := by decide +kernel
theorem rdm28 {h : HF} {i : Nat} {f : Int → RO} (hi : i < 7) : zrd h (181 + 28) (i : Int) f = f (h 209 i) := by rw [zrd_ok (a := 181 + 28) ⟨by omega, by rw [show kl (181 + 28) = 7 from klm28]; omega⟩, Int.toNat_natCast]
theorem wtm28 {h : HF} {i : Nat} {v : Int} {f : HF → RO} (hi : i < 7) : zwr h (181 + 28) (i : Int) v f = f (stp h 209 i v) := by rw [zwr_ok (a := 181 + 28) ⟨by omega, by rw [show kl (181 + 28) = 7 from klm28]; omega⟩, Int.toNat_natCast]
theorem klm29 : kl 210 = 7 := by decide +kernel
theorem rdm29 {h : HF} {i : Nat} {f : Int → RO} (hi : i < 7) : zrd h (181 + 29) (i : Int) f = f (h 210 i) := by rw [zrd_ok (a := 181 + 29) ⟨by omega, by rw [show kl (181 + 29) = 7 from klm29]; omega⟩, Int.toNat_natCast]
theorem wtm29 {h : HF} {i : Nat} {v : Int} {f : HF → RO} (hi : i < 7) : zwr h (181 + 29) (i : Int) v f = f (stp h 210 i v) := by rw [zwr_ok (a := 181 + 29) ⟨by omega, by rw [show kl (181 + 29) = 7 from klm29]; omega⟩, Int.toNat_natCast]
theorem klm30 : kl 211 = 7 := by decide +kernel
theorem rdm30 {h : HF} {i : Nat} {f : Int → RO} (hi : i < 7) : zrd h (181 + 30) (i : Int) f = f (h 211 i) := by rw [zrd_ok (a := 181 + 30) ⟨by omega, by rw [show kl (181 + 30) = 7 from klm30]; omega⟩, Int.toNat_natCast]
theorem wtm30 {h : HF} {i : Nat} {v : Int} {f : HF → RO} (hi : i < 7) : zwr h (181 + 30) (i : Int) v f = f (stp h 211 i v) := by rw [zwr_ok (a := 181 + 30) ⟨by omega, by rw [show kl (181 + 30) = 7 from klm30]; omega⟩, Int.toNat_natCast]
theorem klm31 : kl 212 = 7 := by decide +kernel
theorem rdm31 {h : HF} {i : Nat} {f : Int → RO} (hi : i < 7) : zrd h (181 + 31) (i : Int) f = f (h 212 i) := by rw [zrd_ok (a := 181 + 31) ⟨by omega, by rw [show kl (181 + 31) = 7 from klm31]; omega⟩, Int.toNat_natCast]
theorem wtm31 {h : HF} {i : Nat} {v : Int} {f : HF → RO} (hi : i < 7) : zwr h (181 + 31) (i : Int) v f = f (stp h 212 i v) := by rw [zwr_ok (a := 181 + 31) ⟨by omega, by rw [show kl (181 + 31) = 7 from klm31]; omega⟩, Int.toNat_natCast]
theorem klm32 : kl 213 = 196 := by decide +kernel
theorem rdm32 {h : HF} {i : Nat} {f : Int → RO} (hi : i < 196) : zrd h (181 + 32) (i : Int) f = f (h 213 i) := by rw [zrd_ok (a := 181 + 32) ⟨by omega, by rw [show kl (181 + 32) = 196 from klm32]; omega⟩, Int.toNat_natCast]
theorem wtm32 {h : HF} {i : Nat} {v : Int} {f : HF → RO} (hi : i < 196) : zwr h (181 + 32) (i : Int) v f = f (stp h 213 i v) := by rw [zwr_ok (a := 181 + 32) ⟨by omega, by rw [show kl (181 + 32) = 196 from klm32]; omega⟩, Int.toNat_natCast]
theorem klm33 : kl 214 = 196 := by decide +kernel
theorem rdm33 {h : HF} {i : Nat} {f : Int → RO} (hi : i < 196) : zrd h (181 + 33) (i : Int) f = f (h 214 i) := by rw [zrd_ok (a := 181 + 33) ⟨by omega, by rw [show kl (181 + 33) = 196 from klm33]; omega⟩, Int.toNat_natCast]
theorem wtm33 {h : HF} {i : Nat} {v : Int} {f : HF → RO} (hi : i < 196) : zwr h (181 + 33) (i : Int) v f = f (stp h 214 i v) := by rw [zwr_ok (a := 181 + 33) ⟨by omega, by rw [show kl (181 + 33) = 196 from klm33]; omega⟩, Int.toNat_natCast]
theorem klm34 : kl 215 = 300 := by decide +kernel
theorem rdm34 {h : HF} {i : Nat} {f : Int → RO} (hi : i < 300) : zrd h (181 + 34) (i : Int) f = f (h 215 i) := by rw [zrd_ok (a := 181 + 34) ⟨by omega, by rw [show kl (181 + 34) = 300 from klm34]; omega⟩, Int.toNat_natCast]
theorem wtm34 {h : HF} {i : Nat} {v : Int} {f : HF → RO} (hi : i < 300) : zwr h (181 + 34) (i : Int) v f = f (stp h 215 i v) := by rw [zwr_ok (a := 181 + 34) ⟨by omega, by rw [show kl (181 + 34) = 300 from klm34]; omega⟩, Int.toNat_natCast]
theorem klm35 : kl 216 = 7 := by decide +kernel
theorem rdm35 {h : HF} {i : Nat} {f : Int → RO} (hi : i < 7) : zrd h (181 + 35) (i : Int) f = f (h 216 i) := by rw [zrd_ok (a := 181 + 35) ⟨by omega, by rw [show kl (181 + 35) = 7 from klm35]; omega⟩, Int.toNat_natCast]
theorem wtm35 {h : HF} {i : Nat} {v : Int} {f : HF → RO} (hi : i < 7) : zwr h (181 + 35) (i : Int) v f = f (stp h 216 i v) := by rw [zwr_ok (a := 181 + 35) ⟨by omega, by rw [show kl (181 + 35) = 7 from klm35]; omega⟩, Int.toNat_natCast]
