section ZW
variable {G : zG} {R : Room} {kc ks : Nat} {Z : State → Array Value → List Frame → State → Prop} {M : zM} {pc : Nat} {L : List (Option zV)} {st : List zV} {h : zH}
theorem z_w {v : zV} (k : zvok v → zB G R kc ks Z M pc L (v :: st) h) : zB G R kc ks Z M pc L (v :: st) h := z_know (fun _ vs _ => k (zvs_h vs))
end ZW
theorem zln_rel {ci off n : Nat} (hci : ci < 30) (ht : ∀ k < 526, zkdN k = ci → zlnN (k + off) = n) {r : Int} (hv : zvok (vr ci r)) : zln (r + off) = n := by
  obtain ⟨k, rfl, hk, hkd⟩ := zvok_r hci hv
  unfold zln
  rw [show ((k : Int) + (off : Int)).toNat = k + off by omega, ht k hk hkd]
theorem zR_zln (r : Int) : zR (zln r) := by
  have h1 : zlnN r.toNat ≤ 30000 := by
    by_cases h : r.toNat < 526
    · exact zln_small _ h
    · have : zlnN r.toNat = 0 := by
        unfold zlnN
        rw [List.getD_eq_getElem?_getD, List.getElem?_eq_none (by rw [zlen_ok]; omega)]
        rfl
      omega
  unfold zln
  constructor <;> omega
theorem zR_mod (x : Int) {n : Int} (hn : 0 < n ∧ n < 2147483648) : zR (x % n) := by
  have h1 := Int.emod_nonneg x (show n ≠ 0 by omega)
  have h2 := Int.emod_lt_of_pos x hn.1
  constructor <;> omega
theorem kcw : nativeFrameWords "java/lang/System" "arraycopy" 5 + 11 ≤ 60 := by decide +kernel
theorem zl_1 : zln 1 = 900 := by decide +kernel
theorem zl_2 : zln 2 = 16 := by decide +kernel
theorem zl_3 : zln 3 = 10 := by decide +kernel
theorem zl_5 : zln 5 = 160 := by decide +kernel
theorem zl_6 : zln 6 = 160 := by decide +kernel
theorem zl_7 : zln 7 = 640 := by decide +kernel
theorem zl_8 : zln 8 = 64 := by decide +kernel
theorem zl_9 : zln 9 = 64 := by decide +kernel
theorem zl_10 : zln 10 = 256 := by decide +kernel
theorem zl_11 : zln 11 = 256 := by decide +kernel
theorem zl_14 : zln 14 = 901 := by decide +kernel
theorem zl_15 : zln 15 = 901 := by decide +kernel
theorem zl_16 : zln 16 = 901 := by decide +kernel
theorem zl_18 : zln 18 = 13 := by decide +kernel
theorem zl_19 : zln 19 = 13 := by decide +kernel
theorem zl_20 : zln 20 = 13 := by decide +kernel
theorem zl_21 : zln 21 = 13 := by decide +kernel
theorem zl_80 : zln 80 = 24 := by decide +kernel
theorem zl_81 : zln 81 = 4 := by decide +kernel
theorem zl_234 : zln 234 = 1600 := by decide +kernel
theorem zl_235 : zln 235 = 1600 := by decide +kernel
theorem zl_236 : zln 236 = 1600 := by decide +kernel
theorem zl_237 : zln 237 = 1600 := by decide +kernel
theorem zl_238 : zln 238 = 1600 := by decide +kernel
theorem zl_239 : zln 239 = 1600 := by decide +kernel
theorem zl_240 : zln 240 = 256 := by decide +kernel
theorem zl_241 : zln 241 = 256 := by decide +kernel
theorem zl_243 : zln 243 = 160 := by decide +kernel
theorem zl_245 : zln 245 = 128 := by decide +kernel
theorem zl_246 : zln 246 = 256 := by decide +kernel
theorem zl_467 : zln 467 = 900 := by decide +kernel
theorem zl_468 : zln 468 = 28672 := by decide +kernel
theorem zl_469 : zln 469 = 24 := by decide +kernel
theorem zl_470 : zln 470 = 24 := by decide +kernel
theorem zl_471 : zln 471 = 24 := by decide +kernel
theorem zl_472 : zln 472 = 576 := by decide +kernel
theorem zl_473 : zln 473 = 576 := by decide +kernel
theorem zl_474 : zln 474 = 12 := by decide +kernel
theorem zl_475 : zln 475 = 4 := by decide +kernel
theorem zl_476 : zln 476 = 4 := by decide +kernel
theorem zl_477 : zln 477 = 4 := by decide +kernel
theorem zl_478 : zln 478 = 96 := by decide +kernel
theorem zl_479 : zln 479 = 96 := by decide +kernel
theorem zl_480 : zln 480 = 96 := by decide +kernel
theorem zl_481 : zln 481 = 2304 := by decide +kernel
theorem zl_482 : zln 482 = 2304 := by decide +kernel
theorem zl_483 : zln 483 = 32 := by decide +kernel
theorem zl_484 : zln 484 = 32 := by decide +kernel
theorem zl_485 : zln 485 = 4 := by decide +kernel
theorem zl_486 : zln 486 = 160 := by decide +kernel
theorem zl_487 : zln 487 = 160 := by decide +kernel
theorem zl_488 : zln 488 = 161 := by decide +kernel
theorem zl_489 : zln 489 = 14000 := by decide +kernel
theorem zl_490 : zln 490 = 14000 := by decide +kernel
theorem zl_491 : zln 491 = 64 := by decide +kernel
theorem zl_492 : zln 492 = 64 := by decide +kernel
theorem zl_493 : zln 493 = 14 := by decide +kernel
theorem zl_494 : zln 494 = 14 := by decide +kernel
theorem zl_495 : zln 495 = 14 := by decide +kernel
theorem zl_496 : zln 496 = 14 := by decide +kernel
theorem zl_497 : zln 497 = 1792 := by decide +kernel
theorem zl_498 : zln 498 = 2240 := by decide +kernel
theorem zl_499 : zln 499 = 2240 := by decide +kernel
theorem zl_500 : zln 500 = 896 := by decide +kernel
theorem zl_501 : zln 501 = 896 := by decide +kernel
theorem zl_502 : zln 502 = 14 := by decide +kernel
theorem zl_503 : zln 503 = 2240 := by decide +kernel
theorem zl_504 : zln 504 = 2240 := by decide +kernel
theorem zl_505 : zln 505 = 80 := by decide +kernel
theorem zl_506 : zln 506 = 2 := by decide +kernel
theorem zl_507 : zln 507 = 10240 := by decide +kernel
theorem zl_508 : zln 508 = 80 := by decide +kernel
theorem zl_509 : zln 509 = 80 := by decide +kernel
theorem zl_510 : zln 510 = 80 := by decide +kernel
theorem zl_511 : zln 511 = 80 := by decide +kernel
theorem zl_512 : zln 512 = 2 := by decide +kernel
theorem zl_513 : zln 513 = 1600 := by decide +kernel
theorem zl_514 : zln 514 = 16 := by decide +kernel
theorem zl_515 : zln 515 = 160 := by decide +kernel
theorem zl_516 : zln 516 = 256 := by decide +kernel
theorem zl_517 : zln 517 = 256 := by decide +kernel
theorem zl_518 : zln 518 = 256 := by decide +kernel
theorem zl_519 : zln 519 = 1600 := by decide +kernel
theorem zl_520 : zln 520 = 1600 := by decide +kernel
theorem zl_521 : zln 521 = 1600 := by decide +kernel
theorem zl_522 : zln 522 = 1600 := by decide +kernel
theorem zl_523 : zln 523 = 10240 := by decide +kernel
theorem zl_524 : zln 524 = 5120 := by decide +kernel
def zids3 : List Nat := [22, 24, 26, 28, 30, 32, 34, 36, 38, 40, 42, 44, 46, 48, 50, 52, 54, 56, 58, 60, 62, 64, 66, 68, 70, 72, 74, 76, 78, 85, 87, 89, 91, 93, 95, 97, 99, 101, 103, 105, 107, 109, 111, 113, 115, 117, 119, 121, 123, 125, 127, 129, 131, 133, 135, 137, 139, 141, 143, 145, 147, 149, 151, 153, 155, 247, 252, 254, 256, 258, 260, 262, 264, 266, 268, 270, 272, 274]
theorem zid3 : ∀ k < 526, zkdN k = 3 → k ∈ zids3 := by decide +kernel
def zids4 : List Nat := [157, 176, 195, 214, 276, 295, 314, 333, 352, 371, 390, 409, 428, 447]
theorem zid4 : ∀ k < 526, zkdN k = 4 → k ∈ zids4 := by decide +kernel
def zids7 : List Nat := [164, 183, 202, 221, 283, 302, 321, 340, 359, 378, 397, 416, 435, 454]
theorem zid7 : ∀ k < 526, zkdN k = 7 → k ∈ zids7 := by decide +kernel
def zids9 : List Nat := [82, 249]
theorem zid9 : ∀ k < 526, zkdN k = 9 → k ∈ zids9 := by decide +kernel
theorem zl4_1 {r : Int} (hv : zvok (vr 4 r)) : zln (r + 1) = 160 := zln_rel (ci := 4) (off := 1) (n := 160) (by decide) (fun k h1 h2 => (show ∀ k ∈ zids4, zlnN (k + 1) = 160 by decide +kernel) k (zid4 k h1 h2)) hv
theorem zl4_2 {r : Int} (hv : zvok (vr 4 r)) : zln (r + 2) = 160 := zln_rel (ci := 4) (off := 2) (n := 160) (by decide) (fun k h1 h2 => (show ∀ k ∈ zids4, zlnN (k + 2) = 160 by decide +kernel) k (zid4 k h1 h2)) hv
theorem zl4_3 {r : Int} (hv : zvok (vr 4 r)) : zln (r + 3) = 320 := zln_rel (ci := 4) (off := 3) (n := 320) (by decide) (fun k h1 h2 => (show ∀ k ∈ zids4, zlnN (k + 3) = 320 by decide +kernel) k (zid4 k h1 h2)) hv
theorem zl4_4 {r : Int} (hv : zvok (vr 4 r)) : zln (r + 4) = 64 := zln_rel (ci := 4) (off := 4) (n := 64) (by decide) (fun k h1 h2 => (show ∀ k ∈ zids4, zlnN (k + 4) = 64 by decide +kernel) k (zid4 k h1 h2)) hv
theorem zl4_5 {r : Int} (hv : zvok (vr 4 r)) : zln (r + 5) = 64 := zln_rel (ci := 4) (off := 5) (n := 64) (by decide) (fun k h1 h2 => (show ∀ k ∈ zids4, zlnN (k + 5) = 64 by decide +kernel) k (zid4 k h1 h2)) hv
theorem zl4_6 {r : Int} (hv : zvok (vr 4 r)) : zln (r + 6) = 128 := zln_rel (ci := 4) (off := 6) (n := 128) (by decide) (fun k h1 h2 => (show ∀ k ∈ zids4, zlnN (k + 6) = 128 by decide +kernel) k (zid4 k h1 h2)) hv
theorem zl4_8 {r : Int} (hv : zvok (vr 4 r)) : zln (r + 8) = 40 := zln_rel (ci := 4) (off := 8) (n := 40) (by decide) (fun k h1 h2 => (show ∀ k ∈ zids4, zlnN (k + 8) = 40 by decide +kernel) k (zid4 k h1 h2)) hv
theorem zl4_12 {r : Int} (hv : zvok (vr 4 r)) : zln (r + 12) = 40 := zln_rel (ci := 4) (off := 12) (n := 40) (by decide) (fun k h1 h2 => (show ∀ k ∈ zids4, zlnN (k + 12) = 40 by decide +kernel) k (zid4 k h1 h2)) hv
theorem zl4_15 {r : Int} (hv : zvok (vr 4 r)) : zln (r + 15) = 40 := zln_rel (ci := 4) (off := 15) (n := 40) (by decide) (fun k h1 h2 => (show ∀ k ∈ zids4, zlnN (k + 15) = 40 by decide +kernel) k (zid4 k h1 h2)) hv
theorem zl4_16 {r : Int} (hv : zvok (vr 4 r)) : zln (r + 16) = 40 := zln_rel (ci := 4) (off := 16) (n := 40) (by decide) (fun k h1 h2 => (show ∀ k ∈ zids4, zlnN (k + 16) = 40 by decide +kernel) k (zid4 k h1 h2)) hv
theorem zl7_1 {r : Int} (hv : zvok (vr 7 r)) : zln (r + 1) = 40 := zln_rel (ci := 7) (off := 1) (n := 40) (by decide) (fun k h1 h2 => (show ∀ k ∈ zids7, zlnN (k + 1) = 40 by decide +kernel) k (zid7 k h1 h2)) hv
theorem zl7_2 {r : Int} (hv : zvok (vr 7 r)) : zln (r + 2) = 5120 := zln_rel (ci := 7) (off := 2) (n := 5120) (by decide) (fun k h1 h2 => (show ∀ k ∈ zids7, zlnN (k + 2) = 5120 by decide +kernel) k (zid7 k h1 h2)) hv
theorem zl7_3 {r : Int} (hv : zvok (vr 7 r)) : zln (r + 3) = 40 := zln_rel (ci := 7) (off := 3) (n := 40) (by decide) (fun k h1 h2 => (show ∀ k ∈ zids7, zlnN (k + 3) = 40 by decide +kernel) k (zid7 k h1 h2)) hv
theorem zl7_4 {r : Int} (hv : zvok (vr 7 r)) : zln (r + 4) = 40 := zln_rel (ci := 7) (off := 4) (n := 40) (by decide) (fun k h1 h2 => (show ∀ k ∈ zids7, zlnN (k + 4) = 40 by decide +kernel) k (zid7 k h1 h2)) hv
theorem zl7_5 {r : Int} (hv : zvok (vr 7 r)) : zln (r + 5) = 40 := zln_rel (ci := 7) (off := 5) (n := 40) (by decide) (fun k h1 h2 => (show ∀ k ∈ zids7, zlnN (k + 5) = 40 by decide +kernel) k (zid7 k h1 h2)) hv
theorem zl7_6 {r : Int} (hv : zvok (vr 7 r)) : zln (r + 6) = 40 := zln_rel (ci := 7) (off := 6) (n := 40) (by decide) (fun k h1 h2 => (show ∀ k ∈ zids7, zlnN (k + 6) = 40 by decide +kernel) k (zid7 k h1 h2)) hv
theorem zl7_7 {r : Int} (hv : zvok (vr 7 r)) : zln (r + 7) = 128 := zln_rel (ci := 7) (off := 7) (n := 128) (by decide) (fun k h1 h2 => (show ∀ k ∈ zids7, zlnN (k + 7) = 128 by decide +kernel) k (zid7 k h1 h2)) hv
theorem zl7_8 {r : Int} (hv : zvok (vr 7 r)) : zln (r + 8) = 40 := zln_rel (ci := 7) (off := 8) (n := 40) (by decide) (fun k h1 h2 => (show ∀ k ∈ zids7, zlnN (k + 8) = 40 by decide +kernel) k (zid7 k h1 h2)) hv
theorem zl7_9 {r : Int} (hv : zvok (vr 7 r)) : zln (r + 9) = 40 := zln_rel (ci := 7) (off := 9) (n := 40) (by decide) (fun k h1 h2 => (show ∀ k ∈ zids7, zlnN (k + 9) = 40 by decide +kernel) k (zid7 k h1 h2)) hv
theorem zl7_10 {r : Int} (hv : zvok (vr 7 r)) : zln (r + 10) = 1600 := zln_rel (ci := 7) (off := 10) (n := 1600) (by decide) (fun k h1 h2 => (show ∀ k ∈ zids7, zlnN (k + 10) = 1600 by decide +kernel) k (zid7 k h1 h2)) hv
theorem zl7_11 {r : Int} (hv : zvok (vr 7 r)) : zln (r + 11) = 40 := zln_rel (ci := 7) (off := 11) (n := 40) (by decide) (fun k h1 h2 => (show ∀ k ∈ zids7, zlnN (k + 11) = 40 by decide +kernel) k (zid7 k h1 h2)) hv
theorem zl9_1 {r : Int} (hv : zvok (vr 9 r)) : zln (r + 1) = 12 := zln_rel (ci := 9) (off := 1) (n := 12) (by decide) (fun k h1 h2 => (show ∀ k ∈ zids9, zlnN (k + 1) = 12 by decide +kernel) k (zid9 k h1 h2)) hv
theorem zl9_2 {r : Int} (hv : zvok (vr 9 r)) : zln (r + 2) = 12 := zln_rel (ci := 9) (off := 2) (n := 12) (by decide) (fun k h1 h2 => (show ∀ k ∈ zids9, zlnN (k + 2) = 12 by decide +kernel) k (zid9 k h1 h2)) hv
