/-! kinds of the cells met (printed by wip/whole/gen_eq.py) -/
theorem zc_0 : zkd 0 = (0, 0) := by decide +kernel
theorem zc_1 : zkd 1 = (7, 0) := by decide +kernel
theorem zc_2 : zkd 2 = (7, 1) := by decide +kernel
theorem zc_3 : zkd 3 = (7, 2) := by decide +kernel
theorem zc_4 : zkd 4 = (7, 3) := by decide +kernel
theorem zc_5 : zkd 5 = (7, 4) := by decide +kernel
theorem zc_6 : zkd 6 = (7, 5) := by decide +kernel
theorem zc_7 : zkd 7 = (7, 6) := by decide +kernel
theorem zc_8 : zkd 8 = (7, 7) := by decide +kernel
theorem zc_9 : zkd 9 = (7, 8) := by decide +kernel
theorem zc_10 : zkd 10 = (7, 9) := by decide +kernel
theorem zc_11 : zkd 11 = (7, 10) := by decide +kernel
theorem zc_12 : zkd 12 = (7, 11) := by decide +kernel
theorem zc_13 : zkd 13 = (7, 12) := by decide +kernel
theorem zc_14 : zkd 14 = (7, 13) := by decide +kernel
theorem zc_15 : zkd 15 = (7, 14) := by decide +kernel
theorem zc_16 : zkd 16 = (7, 15) := by decide +kernel
theorem zc_17 : zkd 17 = (7, 16) := by decide +kernel
theorem zc_60 : zkd 60 = (6, 0) := by decide +kernel
theorem zc_61 : zkd 61 = (6, 1) := by decide +kernel
theorem zc_64 : zkd 64 = (19, 0) := by decide +kernel
theorem zc_65 : zkd 65 = (16, 0) := by decide +kernel
theorem zc_66 : zkd 66 = (1, 400) := by decide +kernel
theorem zc_67 : zkd 67 = (10, 0) := by decide +kernel
theorem zc_86 : zkd 86 = (10, 0) := by decide +kernel
theorem zc_87 : zkd 87 = (1, 36) := by decide +kernel
theorem zc_88 : zkd 88 = (1, 12) := by decide +kernel
theorem zc_89 : zkd 89 = (1, 12) := by decide +kernel
theorem zc_90 : zkd 90 = (1, 12) := by decide +kernel
theorem zc_91 : zkd 91 = (2, 12) := by decide +kernel
theorem zc_92 : zkd 92 = (5, 0) := by decide +kernel
theorem zc_105 : zkd 105 = (10, 0) := by decide +kernel
theorem zc_106 : zkd 106 = (1, 36) := by decide +kernel
theorem zc_124 : zkd 124 = (5, 1) := by decide +kernel
theorem zc_125 : zkd 125 = (5, 2) := by decide +kernel
theorem zc_126 : zkd 126 = (1, 36) := by decide +kernel
theorem zc_127 : zkd 127 = (14, 0) := by decide +kernel
theorem zc_259 : zkd 259 = (17, 0) := by decide +kernel
theorem zc_262 : zkd 262 = (11, 0) := by decide +kernel
theorem zc_263 : zkd 263 = (14, 0) := by decide +kernel
theorem zc_395 : zkd 395 = (17, 0) := by decide +kernel
theorem zc_398 : zkd 398 = (5, 0) := by decide +kernel
theorem zc_411 : zkd 411 = (15, 0) := by decide +kernel
theorem zc_412 : zkd 412 = (14, 0) := by decide +kernel
theorem zc_413 : zkd 413 = (5, 3) := by decide +kernel
theorem zc_544 : zkd 544 = (1, 16) := by decide +kernel
theorem zc_545 : zkd 545 = (1, 36) := by decide +kernel
theorem zc_546 : zkd 546 = (5, 4) := by decide +kernel
theorem zc_547 : zkd 547 = (1, 36) := by decide +kernel
theorem zc_564 : zkd 564 = (5, 5) := by decide +kernel
theorem zc_577 : zkd 577 = (5, 6) := by decide +kernel
theorem zc_628 : zkd 628 = (2, 4096) := by decide +kernel
theorem zc_629 : zkd 629 = (2, 4096) := by decide +kernel
theorem zc_630 : zkd 630 = (18, 0) := by decide +kernel
theorem zc_631 : zkd 631 = (1, 1024) := by decide +kernel
theorem zc_632 : zkd 632 = (12, 0) := by decide +kernel
theorem zc_633 : zkd 633 = (1, 16) := by decide +kernel
theorem zc_634 : zkd 634 = (1, 16) := by decide +kernel
theorem zc_635 : zkd 635 = (1, 16) := by decide +kernel
theorem zc_636 : zkd 636 = (1, 16) := by decide +kernel
theorem zc_637 : zkd 637 = (1, 16) := by decide +kernel
theorem zc_866 : zkd 866 = (20, 0) := by decide +kernel
theorem zc_867 : zkd 867 = (1, 268) := by decide +kernel
theorem zc_868 : zkd 868 = (1, 2680) := by decide +kernel
theorem zc_869 : zkd 869 = (1, 536) := by decide +kernel
theorem zc_870 : zkd 870 = (3, 2) := by decide +kernel
theorem zc_871 : zkd 871 = (1, 268) := by decide +kernel
theorem zc_872 : zkd 872 = (1, 6) := by decide +kernel
theorem zc_873 : zkd 873 = (1, 8) := by decide +kernel
theorem zc_874 : zkd 874 = (1, 6) := by decide +kernel
theorem zc_875 : zkd 875 = (3, 256) := by decide +kernel
theorem zc_876 : zkd 876 = (1, 1800) := by decide +kernel
theorem zc_877 : zkd 877 = (1, 36) := by decide +kernel
theorem zc_878 : zkd 878 = (1, 36) := by decide +kernel
theorem zc_879 : zkd 879 = (1, 36) := by decide +kernel
theorem zc_880 : zkd 880 = (1, 36) := by decide +kernel
theorem zc_881 : zkd 881 = (1, 36) := by decide +kernel
theorem zc_882 : zkd 882 = (4, 400) := by decide +kernel
theorem zc_883 : zkd 883 = (1, 268) := by decide +kernel
theorem zf_0_8 {q : Nat} (h : zkd q = (10, 0)) : zkd (q + 1) = (1, 36) := zk_fld (a := 10) (off := 1) (by decide) (by decide +kernel) h
theorem zf_0_9 {q : Nat} (h : zkd q = (10, 0)) : zkd (q + 2) = (1, 12) := zk_fld (a := 10) (off := 2) (by decide) (by decide +kernel) h
theorem zf_0_10 {q : Nat} (h : zkd q = (10, 0)) : zkd (q + 3) = (1, 12) := zk_fld (a := 10) (off := 3) (by decide) (by decide +kernel) h
theorem zf_0_11 {q : Nat} (h : zkd q = (10, 0)) : zkd (q + 4) = (1, 12) := zk_fld (a := 10) (off := 4) (by decide) (by decide +kernel) h
theorem zf_0_12 {q : Nat} (h : zkd q = (10, 0)) : zkd (q + 5) = (2, 12) := zk_fld (a := 10) (off := 5) (by decide) (by decide +kernel) h
theorem zf_0_13 {q : Nat} (h : zkd q = (10, 0)) : zkd (q + 6) = (5, 0) := zk_fld (a := 10) (off := 6) (by decide) (by decide +kernel) h
theorem zf_3_4 {q : Nat} (h : zkd q = (13, 0)) : zkd (q + 1) = (2, 8) := zk_fld (a := 13) (off := 1) (by decide) (by decide +kernel) h
theorem zf_3_5 {q : Nat} (h : zkd q = (13, 0)) : zkd (q + 2) = (2, 8) := zk_fld (a := 13) (off := 2) (by decide) (by decide +kernel) h
theorem zf_3_6 {q : Nat} (h : zkd q = (13, 0)) : zkd (q + 3) = (2, 8) := zk_fld (a := 13) (off := 3) (by decide) (by decide +kernel) h
theorem zf_3_7 {q : Nat} (h : zkd q = (13, 0)) : zkd (q + 4) = (2, 8) := zk_fld (a := 13) (off := 4) (by decide) (by decide +kernel) h
theorem zf_3_8 {q : Nat} (h : zkd q = (13, 0)) : zkd (q + 5) = (1, 8) := zk_fld (a := 13) (off := 5) (by decide) (by decide +kernel) h
theorem zf_3_11 {q : Nat} (h : zkd q = (13, 0)) : zkd (q + 6) = (2, 7) := zk_fld (a := 13) (off := 6) (by decide) (by decide +kernel) h
theorem zf_3_12 {q : Nat} (h : zkd q = (13, 0)) : zkd (q + 7) = (2, 7) := zk_fld (a := 13) (off := 7) (by decide) (by decide +kernel) h
theorem zf_3_13 {q : Nat} (h : zkd q = (13, 0)) : zkd (q + 8) = (2, 7) := zk_fld (a := 13) (off := 8) (by decide) (by decide +kernel) h
theorem zf_3_14 {q : Nat} (h : zkd q = (13, 0)) : zkd (q + 9) = (2, 7) := zk_fld (a := 13) (off := 9) (by decide) (by decide +kernel) h
theorem zf_4_0 {q : Nat} (h : zkd q = (14, 0)) : zkd (q + 1) = (5, 3) := zk_fld (a := 14) (off := 1) (by decide) (by decide +kernel) h
theorem zf_4_1 {q : Nat} (h : zkd q = (14, 0)) : zkd (q + 2) = (13, 0) := zk_fld (a := 14) (off := 2) (by decide) (by decide +kernel) h
theorem zf_7_0 {q : Nat} (h : zkd q = (17, 0)) : zkd (q + 1) = (1, 128) := zk_fld (a := 17) (off := 1) (by decide) (by decide +kernel) h
theorem zf_7_1 {q : Nat} (h : zkd q = (17, 0)) : zkd (q + 2) = (1, 128) := zk_fld (a := 17) (off := 2) (by decide) (by decide +kernel) h
theorem zl_0 {q : Nat} {i : Int32} (h : zkd q = (5, 0)) (hi : zin i 12 = true) : zkd (q + 1 + Int32.toNatClampNeg i) = (1, 6) := by
  have g := zk_elt (k := (1, 6)) (n := 12) (off := 1) (sd := 1) (by decide +kernel) h hi
  rw [Nat.one_mul] at g
  exact g
theorem zl_1 {q : Nat} {i : Int32} (h : zkd q = (5, 1)) (hi : zin i 10 = true) : zkd (q + 514 + 19 * Int32.toNatClampNeg i) = (10, 0) := zk_elt (n := 10) (off := 514) (sd := 19) (by decide +kernel) h hi
theorem zl_2 {q : Nat} {i : Int32} (h : zkd q = (5, 2)) (hi : zin i 2 = true) : zkd (q + 703 + 19 * Int32.toNatClampNeg i) = (10, 0) := zk_elt (n := 2) (off := 703) (sd := 19) (by decide +kernel) h hi
theorem zl_3 {q : Nat} {i : Int32} (h : zkd q = (5, 3)) (hi : zin i 12 = true) : zkd (q + 11 + 10 * Int32.toNatClampNeg i) = (13, 0) := zk_elt (n := 12) (off := 11) (sd := 10) (by decide +kernel) h hi
theorem zl_4 {q : Nat} {i : Int32} (h : zkd q = (5, 4)) (hi : zin i 17 = true) : zkd (q + 1 + Int32.toNatClampNeg i) = (1, 36) := by
  have g := zk_elt (k := (1, 36)) (n := 17) (off := 1) (sd := 1) (by decide +kernel) h hi
  rw [Nat.one_mul] at g
  exact g
theorem zl_5 {q : Nat} {i : Int32} (h : zkd q = (5, 5)) (hi : zin i 12 = true) : zkd (q + 1 + Int32.toNatClampNeg i) = (1, 17) := by
  have g := zk_elt (k := (1, 17)) (n := 12) (off := 1) (sd := 1) (by decide +kernel) h hi
  rw [Nat.one_mul] at g
  exact g
theorem zl_6 {q : Nat} {i : Int32} (h : zkd q = (5, 6)) (hi : zin i 50 = true) : zkd (q + 1 + Int32.toNatClampNeg i) = (1, 16) := by
  have g := zk_elt (k := (1, 16)) (n := 50) (off := 1) (sd := 1) (by decide +kernel) h hi
  rw [Nat.one_mul] at g
  exact g
