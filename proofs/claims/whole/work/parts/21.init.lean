def kX1_init : KK := (cX1_init, "ThawGives$Pass", 1, none)
theorem dX1_init_7 : Dc kX1_init 7 (.newarray .int) 2 9 := ⟨by show decode cX1_init 7 = _; decide +kernel, rfl⟩
theorem dX1_init_15 : Dc kX1_init 15 (.newarray .int) 2 17 := ⟨by show decode cX1_init 15 = _; decide +kernel, rfl⟩
theorem dX1_init_23 : Dc kX1_init 23 (.newarray .int) 2 25 := ⟨by show decode cX1_init 23 = _; decide +kernel, rfl⟩
def tX1_init : List (Nat × Instr × Nat × Nat) := [(0, .aload_n 0, 1, 1), (1, .invokespecial 3, 3, 4), (4, .aload_n 0, 1, 5), (5, .bipush 100, 2, 7), (9, .putfield 9, 3, 12), (12, .aload_n 0, 1, 13), (13, .bipush 100, 2, 15), (17, .putfield 15, 3, 20), (20, .aload_n 0, 1, 21), (21, .bipush 100, 2, 23), (25, .putfield 18, 3, 28), (28, .aload_n 0, 1, 29), (29, .iconst 0, 1, 30), (30, .putfield 21, 3, 33), (33, .aload_n 0, 1, 34), (34, .iconst 0, 1, 35), (35, .putfield 25, 3, 38), (38, .return_, 1, 39)]
theorem tX1_init_ok : ∀ q ∈ tX1_init, Dc kX1_init q.1 q.2.1 q.2.2.1 q.2.2.2 := tok (by decide +kernel)
theorem dX1_init_0 : Dc kX1_init 0 (.aload_n 0) 1 1 := tX1_init_ok (0, .aload_n 0, 1, 1) (List.mem_of_getElem? (i := 0) rfl)
theorem dX1_init_1 : Dc kX1_init 1 (.invokespecial 3) 3 4 := tX1_init_ok (1, .invokespecial 3, 3, 4) (List.mem_of_getElem? (i := 1) rfl)
theorem dX1_init_4 : Dc kX1_init 4 (.aload_n 0) 1 5 := tX1_init_ok (4, .aload_n 0, 1, 5) (List.mem_of_getElem? (i := 2) rfl)
theorem dX1_init_5 : Dc kX1_init 5 (.bipush 100) 2 7 := tX1_init_ok (5, .bipush 100, 2, 7) (List.mem_of_getElem? (i := 3) rfl)
theorem dX1_init_9 : Dc kX1_init 9 (.putfield 9) 3 12 := tX1_init_ok (9, .putfield 9, 3, 12) (List.mem_of_getElem? (i := 4) rfl)
theorem dX1_init_12 : Dc kX1_init 12 (.aload_n 0) 1 13 := tX1_init_ok (12, .aload_n 0, 1, 13) (List.mem_of_getElem? (i := 5) rfl)
theorem dX1_init_13 : Dc kX1_init 13 (.bipush 100) 2 15 := tX1_init_ok (13, .bipush 100, 2, 15) (List.mem_of_getElem? (i := 6) rfl)
theorem dX1_init_17 : Dc kX1_init 17 (.putfield 15) 3 20 := tX1_init_ok (17, .putfield 15, 3, 20) (List.mem_of_getElem? (i := 7) rfl)
theorem dX1_init_20 : Dc kX1_init 20 (.aload_n 0) 1 21 := tX1_init_ok (20, .aload_n 0, 1, 21) (List.mem_of_getElem? (i := 8) rfl)
theorem dX1_init_21 : Dc kX1_init 21 (.bipush 100) 2 23 := tX1_init_ok (21, .bipush 100, 2, 23) (List.mem_of_getElem? (i := 9) rfl)
theorem dX1_init_25 : Dc kX1_init 25 (.putfield 18) 3 28 := tX1_init_ok (25, .putfield 18, 3, 28) (List.mem_of_getElem? (i := 10) rfl)
theorem dX1_init_28 : Dc kX1_init 28 (.aload_n 0) 1 29 := tX1_init_ok (28, .aload_n 0, 1, 29) (List.mem_of_getElem? (i := 11) rfl)
theorem dX1_init_29 : Dc kX1_init 29 (.iconst 0) 1 30 := tX1_init_ok (29, .iconst 0, 1, 30) (List.mem_of_getElem? (i := 12) rfl)
theorem dX1_init_30 : Dc kX1_init 30 (.putfield 21) 3 33 := tX1_init_ok (30, .putfield 21, 3, 33) (List.mem_of_getElem? (i := 13) rfl)
theorem dX1_init_33 : Dc kX1_init 33 (.aload_n 0) 1 34 := tX1_init_ok (33, .aload_n 0, 1, 34) (List.mem_of_getElem? (i := 14) rfl)
theorem dX1_init_34 : Dc kX1_init 34 (.iconst 0) 1 35 := tX1_init_ok (34, .iconst 0, 1, 35) (List.mem_of_getElem? (i := 15) rfl)
theorem dX1_init_35 : Dc kX1_init 35 (.putfield 25) 3 38 := tX1_init_ok (35, .putfield 25, 3, 38) (List.mem_of_getElem? (i := 16) rfl)
theorem dX1_init_38 : Dc kX1_init 38 (.return_) 1 39 := tX1_init_ok (38, .return_, 1, 39) (List.mem_of_getElem? (i := 17) rfl)
theorem wc_X1_init : Cond.code yX1_init kX1_init.1 kX1_init.2.2.1 kX1_init.2.2.2 ∈ lw_good := good_in (inT1 (List.mem_of_getElem? (i := 139) (by decide +kernel))) rfl
theorem wi_X1_init : Cond.instanceMethod yX1_init ∈ lw_good := good_in (inT1 (List.mem_of_getElem? (i := 138) (by decide +kernel))) rfl
theorem wz_1 : Cond.instantiable "ThawGives$Pass" 5 ∈ lw_good := good_in (inT1 (List.mem_of_getElem? (i := 136) (by decide +kernel))) rfl
def kX0_init : KK := (cX0_init, "ThawGives$Acts", 1, none)
theorem dX0_init_7 : Dc kX0_init 7 (.newarray .int) 2 9 := ⟨by show decode cX0_init 7 = _; decide +kernel, rfl⟩
def tX0_init : List (Nat × Instr × Nat × Nat) := [(0, .aload_n 0, 1, 1), (1, .invokespecial 3, 3, 4), (4, .aload_n 0, 1, 5), (5, .bipush 20, 2, 7), (9, .putfield 11, 3, 12), (12, .aload_n 0, 1, 13), (13, .iconst 0, 1, 14), (14, .putfield 15, 3, 17), (17, .aload_n 0, 1, 18), (18, .iconst 0, 1, 19), (19, .putfield 19, 3, 22), (22, .aload_n 0, 1, 23), (23, .iconst 0, 1, 24), (24, .putfield 22, 3, 27), (27, .aload_n 0, 1, 28), (28, .iconst 0, 1, 29), (29, .putfield 25, 3, 32), (32, .return_, 1, 33)]
theorem tX0_init_ok : ∀ q ∈ tX0_init, Dc kX0_init q.1 q.2.1 q.2.2.1 q.2.2.2 := tok (by decide +kernel)
theorem dX0_init_0 : Dc kX0_init 0 (.aload_n 0) 1 1 := tX0_init_ok (0, .aload_n 0, 1, 1) (List.mem_of_getElem? (i := 0) rfl)
theorem dX0_init_1 : Dc kX0_init 1 (.invokespecial 3) 3 4 := tX0_init_ok (1, .invokespecial 3, 3, 4) (List.mem_of_getElem? (i := 1) rfl)
theorem dX0_init_4 : Dc kX0_init 4 (.aload_n 0) 1 5 := tX0_init_ok (4, .aload_n 0, 1, 5) (List.mem_of_getElem? (i := 2) rfl)
theorem dX0_init_5 : Dc kX0_init 5 (.bipush 20) 2 7 := tX0_init_ok (5, .bipush 20, 2, 7) (List.mem_of_getElem? (i := 3) rfl)
theorem dX0_init_9 : Dc kX0_init 9 (.putfield 11) 3 12 := tX0_init_ok (9, .putfield 11, 3, 12) (List.mem_of_getElem? (i := 4) rfl)
theorem dX0_init_12 : Dc kX0_init 12 (.aload_n 0) 1 13 := tX0_init_ok (12, .aload_n 0, 1, 13) (List.mem_of_getElem? (i := 5) rfl)
theorem dX0_init_13 : Dc kX0_init 13 (.iconst 0) 1 14 := tX0_init_ok (13, .iconst 0, 1, 14) (List.mem_of_getElem? (i := 6) rfl)
theorem dX0_init_14 : Dc kX0_init 14 (.putfield 15) 3 17 := tX0_init_ok (14, .putfield 15, 3, 17) (List.mem_of_getElem? (i := 7) rfl)
theorem dX0_init_17 : Dc kX0_init 17 (.aload_n 0) 1 18 := tX0_init_ok (17, .aload_n 0, 1, 18) (List.mem_of_getElem? (i := 8) rfl)
theorem dX0_init_18 : Dc kX0_init 18 (.iconst 0) 1 19 := tX0_init_ok (18, .iconst 0, 1, 19) (List.mem_of_getElem? (i := 9) rfl)
theorem dX0_init_19 : Dc kX0_init 19 (.putfield 19) 3 22 := tX0_init_ok (19, .putfield 19, 3, 22) (List.mem_of_getElem? (i := 10) rfl)
theorem dX0_init_22 : Dc kX0_init 22 (.aload_n 0) 1 23 := tX0_init_ok (22, .aload_n 0, 1, 23) (List.mem_of_getElem? (i := 11) rfl)
theorem dX0_init_23 : Dc kX0_init 23 (.iconst 0) 1 24 := tX0_init_ok (23, .iconst 0, 1, 24) (List.mem_of_getElem? (i := 12) rfl)
theorem dX0_init_24 : Dc kX0_init 24 (.putfield 22) 3 27 := tX0_init_ok (24, .putfield 22, 3, 27) (List.mem_of_getElem? (i := 13) rfl)
theorem dX0_init_27 : Dc kX0_init 27 (.aload_n 0) 1 28 := tX0_init_ok (27, .aload_n 0, 1, 28) (List.mem_of_getElem? (i := 14) rfl)
theorem dX0_init_28 : Dc kX0_init 28 (.iconst 0) 1 29 := tX0_init_ok (28, .iconst 0, 1, 29) (List.mem_of_getElem? (i := 15) rfl)
theorem dX0_init_29 : Dc kX0_init 29 (.putfield 25) 3 32 := tX0_init_ok (29, .putfield 25, 3, 32) (List.mem_of_getElem? (i := 16) rfl)
theorem dX0_init_32 : Dc kX0_init 32 (.return_) 1 33 := tX0_init_ok (32, .return_, 1, 33) (List.mem_of_getElem? (i := 17) rfl)
theorem wc_X0_init : Cond.code yX0_init kX0_init.1 kX0_init.2.2.1 kX0_init.2.2.2 ∈ lw_good := good_in (inT1 (List.mem_of_getElem? (i := 185) (by decide +kernel))) rfl
theorem wi_X0_init : Cond.instanceMethod yX0_init ∈ lw_good := good_in (inT1 (List.mem_of_getElem? (i := 184) (by decide +kernel))) rfl
theorem wz_0 : Cond.instantiable "ThawGives$Acts" 5 ∈ lw_good := good_in (inT1 (List.mem_of_getElem? (i := 182) (by decide +kernel))) rfl
def kX2_init : KK := (cX2_init, "ThawGives$Rows", 2, none)
theorem dX2_init_7 : Dc kX2_init 7 (.newarray .int) 2 9 := ⟨by show decode cX2_init 7 = _; decide +kernel, rfl⟩
theorem dX2_init_15 : Dc kX2_init 15 (.newarray .int) 2 17 := ⟨by show decode cX2_init 15 = _; decide +kernel, rfl⟩
theorem dX2_init_23 : Dc kX2_init 23 (.newarray .int) 2 25 := ⟨by show decode cX2_init 23 = _; decide +kernel, rfl⟩
def tX2_init : List (Nat × Instr × Nat × Nat) := [(0, .aload_n 0, 1, 1), (1, .invokespecial 3, 3, 4), (4, .aload_n 0, 1, 5), (5, .bipush 10, 2, 7), (9, .putfield 11, 3, 12), (12, .aload_n 0, 1, 13), (13, .bipush 10, 2, 15), (17, .putfield 15, 3, 20), (20, .aload_n 0, 1, 21), (21, .bipush 10, 2, 23), (25, .putfield 18, 3, 28), (28, .aload_n 0, 1, 29), (29, .iconst 0, 1, 30), (30, .putfield 21, 3, 33), (33, .aload_n 0, 1, 34), (34, .iload_n 1, 1, 35), (35, .bipush 10, 2, 37), (37, .invokestatic 25, 3, 40), (40, .putfield 31, 3, 43), (43, .return_, 1, 44)]
theorem tX2_init_ok : ∀ q ∈ tX2_init, Dc kX2_init q.1 q.2.1 q.2.2.1 q.2.2.2 := tok (by decide +kernel)
theorem dX2_init_0 : Dc kX2_init 0 (.aload_n 0) 1 1 := tX2_init_ok (0, .aload_n 0, 1, 1) (List.mem_of_getElem? (i := 0) rfl)
theorem dX2_init_1 : Dc kX2_init 1 (.invokespecial 3) 3 4 := tX2_init_ok (1, .invokespecial 3, 3, 4) (List.mem_of_getElem? (i := 1) rfl)
theorem dX2_init_4 : Dc kX2_init 4 (.aload_n 0) 1 5 := tX2_init_ok (4, .aload_n 0, 1, 5) (List.mem_of_getElem? (i := 2) rfl)
theorem dX2_init_5 : Dc kX2_init 5 (.bipush 10) 2 7 := tX2_init_ok (5, .bipush 10, 2, 7) (List.mem_of_getElem? (i := 3) rfl)
theorem dX2_init_9 : Dc kX2_init 9 (.putfield 11) 3 12 := tX2_init_ok (9, .putfield 11, 3, 12) (List.mem_of_getElem? (i := 4) rfl)
theorem dX2_init_12 : Dc kX2_init 12 (.aload_n 0) 1 13 := tX2_init_ok (12, .aload_n 0, 1, 13) (List.mem_of_getElem? (i := 5) rfl)
theorem dX2_init_13 : Dc kX2_init 13 (.bipush 10) 2 15 := tX2_init_ok (13, .bipush 10, 2, 15) (List.mem_of_getElem? (i := 6) rfl)
theorem dX2_init_17 : Dc kX2_init 17 (.putfield 15) 3 20 := tX2_init_ok (17, .putfield 15, 3, 20) (List.mem_of_getElem? (i := 7) rfl)
theorem dX2_init_20 : Dc kX2_init 20 (.aload_n 0) 1 21 := tX2_init_ok (20, .aload_n 0, 1, 21) (List.mem_of_getElem? (i := 8) rfl)
theorem dX2_init_21 : Dc kX2_init 21 (.bipush 10) 2 23 := tX2_init_ok (21, .bipush 10, 2, 23) (List.mem_of_getElem? (i := 9) rfl)
theorem dX2_init_25 : Dc kX2_init 25 (.putfield 18) 3 28 := tX2_init_ok (25, .putfield 18, 3, 28) (List.mem_of_getElem? (i := 10) rfl)
theorem dX2_init_28 : Dc kX2_init 28 (.aload_n 0) 1 29 := tX2_init_ok (28, .aload_n 0, 1, 29) (List.mem_of_getElem? (i := 11) rfl)
theorem dX2_init_29 : Dc kX2_init 29 (.iconst 0) 1 30 := tX2_init_ok (29, .iconst 0, 1, 30) (List.mem_of_getElem? (i := 12) rfl)
theorem dX2_init_30 : Dc kX2_init 30 (.putfield 21) 3 33 := tX2_init_ok (30, .putfield 21, 3, 33) (List.mem_of_getElem? (i := 13) rfl)
theorem dX2_init_33 : Dc kX2_init 33 (.aload_n 0) 1 34 := tX2_init_ok (33, .aload_n 0, 1, 34) (List.mem_of_getElem? (i := 14) rfl)
theorem dX2_init_34 : Dc kX2_init 34 (.iload_n 1) 1 35 := tX2_init_ok (34, .iload_n 1, 1, 35) (List.mem_of_getElem? (i := 15) rfl)
theorem dX2_init_35 : Dc kX2_init 35 (.bipush 10) 2 37 := tX2_init_ok (35, .bipush 10, 2, 37) (List.mem_of_getElem? (i := 16) rfl)
theorem dX2_init_37 : Dc kX2_init 37 (.invokestatic 25) 3 40 := tX2_init_ok (37, .invokestatic 25, 3, 40) (List.mem_of_getElem? (i := 17) rfl)
theorem dX2_init_40 : Dc kX2_init 40 (.putfield 31) 3 43 := tX2_init_ok (40, .putfield 31, 3, 43) (List.mem_of_getElem? (i := 18) rfl)
theorem dX2_init_43 : Dc kX2_init 43 (.return_) 1 44 := tX2_init_ok (43, .return_, 1, 44) (List.mem_of_getElem? (i := 19) rfl)
theorem wc_X2_init : Cond.code yX2_init kX2_init.1 kX2_init.2.2.1 kX2_init.2.2.2 ∈ lw_good := good_in (inT1 (List.mem_of_getElem? (i := 37) (by decide +kernel))) rfl
theorem wi_X2_init : Cond.instanceMethod yX2_init ∈ lw_good := good_in (inT1 (List.mem_of_getElem? (i := 36) (by decide +kernel))) rfl
theorem wz_2 : Cond.instantiable "ThawGives$Rows" 5 ∈ lw_good := good_in (inT1 (List.mem_of_getElem? (i := 34) (by decide +kernel))) rfl
def kX3_init : KK := (cX3_init, "ThawGives$Tape", 1, none)
theorem dX3_init_7 : Dc kX3_init 7 (.newarray .long) 2 9 := ⟨by show decode cX3_init 7 = _; decide +kernel, rfl⟩
def tX3_init : List (Nat × Instr × Nat × Nat) := [(0, .aload_n 0, 1, 1), (1, .invokespecial 3, 3, 4), (4, .aload_n 0, 1, 5), (5, .bipush 60, 2, 7), (9, .putfield 9, 3, 12), (12, .aload_n 0, 1, 13), (13, .iconst (-1), 1, 14), (14, .putfield 15, 3, 17), (17, .aload_n 0, 1, 18), (18, .iconst 0, 1, 19), (19, .putfield 19, 3, 22), (22, .return_, 1, 23)]
theorem tX3_init_ok : ∀ q ∈ tX3_init, Dc kX3_init q.1 q.2.1 q.2.2.1 q.2.2.2 := tok (by decide +kernel)
theorem dX3_init_0 : Dc kX3_init 0 (.aload_n 0) 1 1 := tX3_init_ok (0, .aload_n 0, 1, 1) (List.mem_of_getElem? (i := 0) rfl)
theorem dX3_init_1 : Dc kX3_init 1 (.invokespecial 3) 3 4 := tX3_init_ok (1, .invokespecial 3, 3, 4) (List.mem_of_getElem? (i := 1) rfl)
theorem dX3_init_4 : Dc kX3_init 4 (.aload_n 0) 1 5 := tX3_init_ok (4, .aload_n 0, 1, 5) (List.mem_of_getElem? (i := 2) rfl)
theorem dX3_init_5 : Dc kX3_init 5 (.bipush 60) 2 7 := tX3_init_ok (5, .bipush 60, 2, 7) (List.mem_of_getElem? (i := 3) rfl)
theorem dX3_init_9 : Dc kX3_init 9 (.putfield 9) 3 12 := tX3_init_ok (9, .putfield 9, 3, 12) (List.mem_of_getElem? (i := 4) rfl)
theorem dX3_init_12 : Dc kX3_init 12 (.aload_n 0) 1 13 := tX3_init_ok (12, .aload_n 0, 1, 13) (List.mem_of_getElem? (i := 5) rfl)
theorem dX3_init_13 : Dc kX3_init 13 (.iconst (-1)) 1 14 := tX3_init_ok (13, .iconst (-1), 1, 14) (List.mem_of_getElem? (i := 6) rfl)
theorem dX3_init_14 : Dc kX3_init 14 (.putfield 15) 3 17 := tX3_init_ok (14, .putfield 15, 3, 17) (List.mem_of_getElem? (i := 7) rfl)
theorem dX3_init_17 : Dc kX3_init 17 (.aload_n 0) 1 18 := tX3_init_ok (17, .aload_n 0, 1, 18) (List.mem_of_getElem? (i := 8) rfl)
theorem dX3_init_18 : Dc kX3_init 18 (.iconst 0) 1 19 := tX3_init_ok (18, .iconst 0, 1, 19) (List.mem_of_getElem? (i := 9) rfl)
theorem dX3_init_19 : Dc kX3_init 19 (.putfield 19) 3 22 := tX3_init_ok (19, .putfield 19, 3, 22) (List.mem_of_getElem? (i := 10) rfl)
theorem dX3_init_22 : Dc kX3_init 22 (.return_) 1 23 := tX3_init_ok (22, .return_, 1, 23) (List.mem_of_getElem? (i := 11) rfl)
theorem wc_X3_init : Cond.code yX3_init kX3_init.1 kX3_init.2.2.1 kX3_init.2.2.2 ∈ lw_good := good_in (inT1 (List.mem_of_getElem? (i := 210) (by decide +kernel))) rfl
theorem wi_X3_init : Cond.instanceMethod yX3_init ∈ lw_good := good_in (inT1 (List.mem_of_getElem? (i := 209) (by decide +kernel))) rfl
theorem wz_3 : Cond.instantiable "ThawGives$Tape" 3 ∈ lw_good := good_in (inT1 (List.mem_of_getElem? (i := 207) (by decide +kernel))) rfl
def kX5_init : KK := (cX5_init, "ThawGives$Thing", 2, none)
theorem dX5_init_26 : Dc kX5_init 26 (.newarray .int) 2 28 := ⟨by show decode cX5_init 26 = _; decide +kernel, rfl⟩
theorem dX5_init_34 : Dc kX5_init 34 (.newarray .int) 2 36 := ⟨by show decode cX5_init 34 = _; decide +kernel, rfl⟩
def tX5_init : List (Nat × Instr × Nat × Nat) := [(0, .aload_n 0, 1, 1), (1, .invokespecial 3, 3, 4), (4, .aload_n 0, 1, 5), (5, .iconst 0, 1, 6), (6, .putfield 9, 3, 9), (9, .aload_n 0, 1, 10), (10, .iconst 0, 1, 11), (11, .putfield 15, 3, 14), (14, .aload_n 0, 1, 15), (15, .iconst 0, 1, 16), (16, .putfield 18, 3, 19), (19, .aload_n 0, 1, 20), (20, .iconst 0, 1, 21), (21, .putfield 21, 3, 24), (24, .aload_n 0, 1, 25), (25, .iconst 4, 1, 26), (28, .putfield 24, 3, 31), (31, .aload_n 0, 1, 32), (32, .bipush 6, 2, 34), (36, .putfield 28, 3, 39), (39, .aload_n 0, 1, 40), (40, .iload_n 1, 1, 41), (41, .putfield 31, 3, 44), (44, .return_, 1, 45)]
theorem tX5_init_ok : ∀ q ∈ tX5_init, Dc kX5_init q.1 q.2.1 q.2.2.1 q.2.2.2 := tok (by decide +kernel)
theorem dX5_init_0 : Dc kX5_init 0 (.aload_n 0) 1 1 := tX5_init_ok (0, .aload_n 0, 1, 1) (List.mem_of_getElem? (i := 0) rfl)
theorem dX5_init_1 : Dc kX5_init 1 (.invokespecial 3) 3 4 := tX5_init_ok (1, .invokespecial 3, 3, 4) (List.mem_of_getElem? (i := 1) rfl)
theorem dX5_init_4 : Dc kX5_init 4 (.aload_n 0) 1 5 := tX5_init_ok (4, .aload_n 0, 1, 5) (List.mem_of_getElem? (i := 2) rfl)
theorem dX5_init_5 : Dc kX5_init 5 (.iconst 0) 1 6 := tX5_init_ok (5, .iconst 0, 1, 6) (List.mem_of_getElem? (i := 3) rfl)
theorem dX5_init_6 : Dc kX5_init 6 (.putfield 9) 3 9 := tX5_init_ok (6, .putfield 9, 3, 9) (List.mem_of_getElem? (i := 4) rfl)
theorem dX5_init_9 : Dc kX5_init 9 (.aload_n 0) 1 10 := tX5_init_ok (9, .aload_n 0, 1, 10) (List.mem_of_getElem? (i := 5) rfl)
theorem dX5_init_10 : Dc kX5_init 10 (.iconst 0) 1 11 := tX5_init_ok (10, .iconst 0, 1, 11) (List.mem_of_getElem? (i := 6) rfl)
theorem dX5_init_11 : Dc kX5_init 11 (.putfield 15) 3 14 := tX5_init_ok (11, .putfield 15, 3, 14) (List.mem_of_getElem? (i := 7) rfl)
theorem dX5_init_14 : Dc kX5_init 14 (.aload_n 0) 1 15 := tX5_init_ok (14, .aload_n 0, 1, 15) (List.mem_of_getElem? (i := 8) rfl)
theorem dX5_init_15 : Dc kX5_init 15 (.iconst 0) 1 16 := tX5_init_ok (15, .iconst 0, 1, 16) (List.mem_of_getElem? (i := 9) rfl)
theorem dX5_init_16 : Dc kX5_init 16 (.putfield 18) 3 19 := tX5_init_ok (16, .putfield 18, 3, 19) (List.mem_of_getElem? (i := 10) rfl)
theorem dX5_init_19 : Dc kX5_init 19 (.aload_n 0) 1 20 := tX5_init_ok (19, .aload_n 0, 1, 20) (List.mem_of_getElem? (i := 11) rfl)
theorem dX5_init_20 : Dc kX5_init 20 (.iconst 0) 1 21 := tX5_init_ok (20, .iconst 0, 1, 21) (List.mem_of_getElem? (i := 12) rfl)
theorem dX5_init_21 : Dc kX5_init 21 (.putfield 21) 3 24 := tX5_init_ok (21, .putfield 21, 3, 24) (List.mem_of_getElem? (i := 13) rfl)
theorem dX5_init_24 : Dc kX5_init 24 (.aload_n 0) 1 25 := tX5_init_ok (24, .aload_n 0, 1, 25) (List.mem_of_getElem? (i := 14) rfl)
theorem dX5_init_25 : Dc kX5_init 25 (.iconst 4) 1 26 := tX5_init_ok (25, .iconst 4, 1, 26) (List.mem_of_getElem? (i := 15) rfl)
theorem dX5_init_28 : Dc kX5_init 28 (.putfield 24) 3 31 := tX5_init_ok (28, .putfield 24, 3, 31) (List.mem_of_getElem? (i := 16) rfl)
theorem dX5_init_31 : Dc kX5_init 31 (.aload_n 0) 1 32 := tX5_init_ok (31, .aload_n 0, 1, 32) (List.mem_of_getElem? (i := 17) rfl)
theorem dX5_init_32 : Dc kX5_init 32 (.bipush 6) 2 34 := tX5_init_ok (32, .bipush 6, 2, 34) (List.mem_of_getElem? (i := 18) rfl)
theorem dX5_init_36 : Dc kX5_init 36 (.putfield 28) 3 39 := tX5_init_ok (36, .putfield 28, 3, 39) (List.mem_of_getElem? (i := 19) rfl)
theorem dX5_init_39 : Dc kX5_init 39 (.aload_n 0) 1 40 := tX5_init_ok (39, .aload_n 0, 1, 40) (List.mem_of_getElem? (i := 20) rfl)
theorem dX5_init_40 : Dc kX5_init 40 (.iload_n 1) 1 41 := tX5_init_ok (40, .iload_n 1, 1, 41) (List.mem_of_getElem? (i := 21) rfl)
theorem dX5_init_41 : Dc kX5_init 41 (.putfield 31) 3 44 := tX5_init_ok (41, .putfield 31, 3, 44) (List.mem_of_getElem? (i := 22) rfl)
theorem dX5_init_44 : Dc kX5_init 44 (.return_) 1 45 := tX5_init_ok (44, .return_, 1, 45) (List.mem_of_getElem? (i := 23) rfl)
theorem wc_X5_init : Cond.code yX5_init kX5_init.1 kX5_init.2.2.1 kX5_init.2.2.2 ∈ lw_good := good_in (inT1 (List.mem_of_getElem? (i := 66) (by decide +kernel))) rfl
theorem wi_X5_init : Cond.instanceMethod yX5_init ∈ lw_good := good_in (inT1 (List.mem_of_getElem? (i := 65) (by decide +kernel))) rfl
theorem wz_5 : Cond.instantiable "ThawGives$Thing" 7 ∈ lw_good := good_in (inT1 (List.mem_of_getElem? (i := 63) (by decide +kernel))) rfl
def kX4_init : KK := (cX4_init, "ThawGives$Text", 1, none)
theorem dX4_init_7 : Dc kX4_init 7 (.newarray .byte) 2 9 := ⟨by show decode cX4_init 7 = _; decide +kernel, rfl⟩
def tX4_init : List (Nat × Instr × Nat × Nat) := [(0, .aload_n 0, 1, 1), (1, .invokespecial 3, 3, 4), (4, .aload_n 0, 1, 5), (5, .bipush 100, 2, 7), (9, .putfield 9, 3, 12), (12, .aload_n 0, 1, 13), (13, .iconst 0, 1, 14), (14, .putfield 15, 3, 17), (17, .aload_n 0, 1, 18), (18, .iconst 0, 1, 19), (19, .putfield 19, 3, 22), (22, .aload_n 0, 1, 23), (23, .iconst 0, 1, 24), (24, .putfield 22, 3, 27), (27, .aload_n 0, 1, 28), (28, .new 25, 3, 31), (31, .dup, 1, 32), (32, .invokespecial 27, 3, 35), (35, .putfield 28, 3, 38), (38, .return_, 1, 39)]
theorem tX4_init_ok : ∀ q ∈ tX4_init, Dc kX4_init q.1 q.2.1 q.2.2.1 q.2.2.2 := tok (by decide +kernel)
theorem dX4_init_0 : Dc kX4_init 0 (.aload_n 0) 1 1 := tX4_init_ok (0, .aload_n 0, 1, 1) (List.mem_of_getElem? (i := 0) rfl)
theorem dX4_init_1 : Dc kX4_init 1 (.invokespecial 3) 3 4 := tX4_init_ok (1, .invokespecial 3, 3, 4) (List.mem_of_getElem? (i := 1) rfl)
theorem dX4_init_4 : Dc kX4_init 4 (.aload_n 0) 1 5 := tX4_init_ok (4, .aload_n 0, 1, 5) (List.mem_of_getElem? (i := 2) rfl)
theorem dX4_init_5 : Dc kX4_init 5 (.bipush 100) 2 7 := tX4_init_ok (5, .bipush 100, 2, 7) (List.mem_of_getElem? (i := 3) rfl)
theorem dX4_init_9 : Dc kX4_init 9 (.putfield 9) 3 12 := tX4_init_ok (9, .putfield 9, 3, 12) (List.mem_of_getElem? (i := 4) rfl)
theorem dX4_init_12 : Dc kX4_init 12 (.aload_n 0) 1 13 := tX4_init_ok (12, .aload_n 0, 1, 13) (List.mem_of_getElem? (i := 5) rfl)
theorem dX4_init_13 : Dc kX4_init 13 (.iconst 0) 1 14 := tX4_init_ok (13, .iconst 0, 1, 14) (List.mem_of_getElem? (i := 6) rfl)
theorem dX4_init_14 : Dc kX4_init 14 (.putfield 15) 3 17 := tX4_init_ok (14, .putfield 15, 3, 17) (List.mem_of_getElem? (i := 7) rfl)
theorem dX4_init_17 : Dc kX4_init 17 (.aload_n 0) 1 18 := tX4_init_ok (17, .aload_n 0, 1, 18) (List.mem_of_getElem? (i := 8) rfl)
theorem dX4_init_18 : Dc kX4_init 18 (.iconst 0) 1 19 := tX4_init_ok (18, .iconst 0, 1, 19) (List.mem_of_getElem? (i := 9) rfl)
theorem dX4_init_19 : Dc kX4_init 19 (.putfield 19) 3 22 := tX4_init_ok (19, .putfield 19, 3, 22) (List.mem_of_getElem? (i := 10) rfl)
theorem dX4_init_22 : Dc kX4_init 22 (.aload_n 0) 1 23 := tX4_init_ok (22, .aload_n 0, 1, 23) (List.mem_of_getElem? (i := 11) rfl)
theorem dX4_init_23 : Dc kX4_init 23 (.iconst 0) 1 24 := tX4_init_ok (23, .iconst 0, 1, 24) (List.mem_of_getElem? (i := 12) rfl)
theorem dX4_init_24 : Dc kX4_init 24 (.putfield 22) 3 27 := tX4_init_ok (24, .putfield 22, 3, 27) (List.mem_of_getElem? (i := 13) rfl)
theorem dX4_init_27 : Dc kX4_init 27 (.aload_n 0) 1 28 := tX4_init_ok (27, .aload_n 0, 1, 28) (List.mem_of_getElem? (i := 14) rfl)
theorem dX4_init_28 : Dc kX4_init 28 (.new 25) 3 31 := tX4_init_ok (28, .new 25, 3, 31) (List.mem_of_getElem? (i := 15) rfl)
theorem dX4_init_31 : Dc kX4_init 31 (.dup) 1 32 := tX4_init_ok (31, .dup, 1, 32) (List.mem_of_getElem? (i := 16) rfl)
theorem dX4_init_32 : Dc kX4_init 32 (.invokespecial 27) 3 35 := tX4_init_ok (32, .invokespecial 27, 3, 35) (List.mem_of_getElem? (i := 17) rfl)
theorem dX4_init_35 : Dc kX4_init 35 (.putfield 28) 3 38 := tX4_init_ok (35, .putfield 28, 3, 38) (List.mem_of_getElem? (i := 18) rfl)
theorem dX4_init_38 : Dc kX4_init 38 (.return_) 1 39 := tX4_init_ok (38, .return_, 1, 39) (List.mem_of_getElem? (i := 19) rfl)
theorem wc_X4_init : Cond.code yX4_init kX4_init.1 kX4_init.2.2.1 kX4_init.2.2.2 ∈ lw_good := good_in (inT1 (List.mem_of_getElem? (i := 133) (by decide +kernel))) rfl
theorem wi_X4_init : Cond.instanceMethod yX4_init ∈ lw_good := good_in (inT1 (List.mem_of_getElem? (i := 132) (by decide +kernel))) rfl
theorem wz_4 : Cond.instantiable "ThawGives$Text" 5 ∈ lw_good := good_in (inT1 (List.mem_of_getElem? (i := 130) (by decide +kernel))) rfl
def kX6_init : KK := (cX6_init, "ThawGives$Winter", 2, none)
def tX6_init : List (Nat × Instr × Nat × Nat) := [(0, .aload_n 0, 1, 1), (1, .invokespecial 3, 3, 4), (4, .aload_n 0, 1, 5), (5, .bipush 6, 2, 7), (7, .anewarray 9, 3, 10), (10, .putfield 11, 3, 13), (13, .aload_n 0, 1, 14), (14, .iconst 0, 1, 15), (15, .putfield 17, 3, 18), (18, .aload_n 0, 1, 19), (19, .iconst 0, 1, 20), (20, .putfield 21, 3, 23), (23, .aload_n 0, 1, 24), (24, .iconst (-1), 1, 25), (25, .putfield 24, 3, 28), (28, .aload_n 0, 1, 29), (29, .new 27, 3, 32), (32, .dup, 1, 33), (33, .iconst 5, 1, 34), (34, .invokespecial 29, 3, 37), (37, .putfield 32, 3, 40), (40, .aload_n 0, 1, 41), (41, .new 27, 3, 44), (44, .dup, 1, 45), (45, .bipush 10, 2, 47), (47, .invokespecial 29, 3, 50), (50, .putfield 36, 3, 53), (53, .aload_n 0, 1, 54), (54, .new 27, 3, 57), (57, .dup, 1, 58), (58, .bipush 8, 2, 60), (60, .invokespecial 29, 3, 63), (63, .putfield 39, 3, 66), (66, .iconst 0, 1, 67), (67, .istore_n 1, 1, 68), (68, .iload_n 1, 1, 69), (69, .bipush 6, 2, 71), (71, .if_icmp .ge 23, 3, 74), (74, .aload_n 0, 1, 75), (75, .getfield 11, 3, 78), (78, .iload_n 1, 1, 79), (79, .new 9, 3, 82), (82, .dup, 1, 83), (83, .iload_n 1, 1, 84), (84, .invokespecial 42, 3, 87), (87, .aastore, 1, 88), (88, .iinc 1 1, 3, 91), (91, .goto (-23), 3, 94), (94, .return_, 1, 95)]
theorem tX6_init_ok : ∀ q ∈ tX6_init, Dc kX6_init q.1 q.2.1 q.2.2.1 q.2.2.2 := tok (by decide +kernel)
theorem dX6_init_0 : Dc kX6_init 0 (.aload_n 0) 1 1 := tX6_init_ok (0, .aload_n 0, 1, 1) (List.mem_of_getElem? (i := 0) rfl)
theorem dX6_init_1 : Dc kX6_init 1 (.invokespecial 3) 3 4 := tX6_init_ok (1, .invokespecial 3, 3, 4) (List.mem_of_getElem? (i := 1) rfl)
theorem dX6_init_4 : Dc kX6_init 4 (.aload_n 0) 1 5 := tX6_init_ok (4, .aload_n 0, 1, 5) (List.mem_of_getElem? (i := 2) rfl)
theorem dX6_init_5 : Dc kX6_init 5 (.bipush 6) 2 7 := tX6_init_ok (5, .bipush 6, 2, 7) (List.mem_of_getElem? (i := 3) rfl)
theorem dX6_init_7 : Dc kX6_init 7 (.anewarray 9) 3 10 := tX6_init_ok (7, .anewarray 9, 3, 10) (List.mem_of_getElem? (i := 4) rfl)
theorem dX6_init_10 : Dc kX6_init 10 (.putfield 11) 3 13 := tX6_init_ok (10, .putfield 11, 3, 13) (List.mem_of_getElem? (i := 5) rfl)
theorem dX6_init_13 : Dc kX6_init 13 (.aload_n 0) 1 14 := tX6_init_ok (13, .aload_n 0, 1, 14) (List.mem_of_getElem? (i := 6) rfl)
theorem dX6_init_14 : Dc kX6_init 14 (.iconst 0) 1 15 := tX6_init_ok (14, .iconst 0, 1, 15) (List.mem_of_getElem? (i := 7) rfl)
theorem dX6_init_15 : Dc kX6_init 15 (.putfield 17) 3 18 := tX6_init_ok (15, .putfield 17, 3, 18) (List.mem_of_getElem? (i := 8) rfl)
theorem dX6_init_18 : Dc kX6_init 18 (.aload_n 0) 1 19 := tX6_init_ok (18, .aload_n 0, 1, 19) (List.mem_of_getElem? (i := 9) rfl)
theorem dX6_init_19 : Dc kX6_init 19 (.iconst 0) 1 20 := tX6_init_ok (19, .iconst 0, 1, 20) (List.mem_of_getElem? (i := 10) rfl)
theorem dX6_init_20 : Dc kX6_init 20 (.putfield 21) 3 23 := tX6_init_ok (20, .putfield 21, 3, 23) (List.mem_of_getElem? (i := 11) rfl)
theorem dX6_init_23 : Dc kX6_init 23 (.aload_n 0) 1 24 := tX6_init_ok (23, .aload_n 0, 1, 24) (List.mem_of_getElem? (i := 12) rfl)
theorem dX6_init_24 : Dc kX6_init 24 (.iconst (-1)) 1 25 := tX6_init_ok (24, .iconst (-1), 1, 25) (List.mem_of_getElem? (i := 13) rfl)
theorem dX6_init_25 : Dc kX6_init 25 (.putfield 24) 3 28 := tX6_init_ok (25, .putfield 24, 3, 28) (List.mem_of_getElem? (i := 14) rfl)
theorem dX6_init_28 : Dc kX6_init 28 (.aload_n 0) 1 29 := tX6_init_ok (28, .aload_n 0, 1, 29) (List.mem_of_getElem? (i := 15) rfl)
theorem dX6_init_29 : Dc kX6_init 29 (.new 27) 3 32 := tX6_init_ok (29, .new 27, 3, 32) (List.mem_of_getElem? (i := 16) rfl)
theorem dX6_init_32 : Dc kX6_init 32 (.dup) 1 33 := tX6_init_ok (32, .dup, 1, 33) (List.mem_of_getElem? (i := 17) rfl)
theorem dX6_init_33 : Dc kX6_init 33 (.iconst 5) 1 34 := tX6_init_ok (33, .iconst 5, 1, 34) (List.mem_of_getElem? (i := 18) rfl)
theorem dX6_init_34 : Dc kX6_init 34 (.invokespecial 29) 3 37 := tX6_init_ok (34, .invokespecial 29, 3, 37) (List.mem_of_getElem? (i := 19) rfl)
theorem dX6_init_37 : Dc kX6_init 37 (.putfield 32) 3 40 := tX6_init_ok (37, .putfield 32, 3, 40) (List.mem_of_getElem? (i := 20) rfl)
theorem dX6_init_40 : Dc kX6_init 40 (.aload_n 0) 1 41 := tX6_init_ok (40, .aload_n 0, 1, 41) (List.mem_of_getElem? (i := 21) rfl)
theorem dX6_init_41 : Dc kX6_init 41 (.new 27) 3 44 := tX6_init_ok (41, .new 27, 3, 44) (List.mem_of_getElem? (i := 22) rfl)
theorem dX6_init_44 : Dc kX6_init 44 (.dup) 1 45 := tX6_init_ok (44, .dup, 1, 45) (List.mem_of_getElem? (i := 23) rfl)
theorem dX6_init_45 : Dc kX6_init 45 (.bipush 10) 2 47 := tX6_init_ok (45, .bipush 10, 2, 47) (List.mem_of_getElem? (i := 24) rfl)
theorem dX6_init_47 : Dc kX6_init 47 (.invokespecial 29) 3 50 := tX6_init_ok (47, .invokespecial 29, 3, 50) (List.mem_of_getElem? (i := 25) rfl)
theorem dX6_init_50 : Dc kX6_init 50 (.putfield 36) 3 53 := tX6_init_ok (50, .putfield 36, 3, 53) (List.mem_of_getElem? (i := 26) rfl)
theorem dX6_init_53 : Dc kX6_init 53 (.aload_n 0) 1 54 := tX6_init_ok (53, .aload_n 0, 1, 54) (List.mem_of_getElem? (i := 27) rfl)
theorem dX6_init_54 : Dc kX6_init 54 (.new 27) 3 57 := tX6_init_ok (54, .new 27, 3, 57) (List.mem_of_getElem? (i := 28) rfl)
theorem dX6_init_57 : Dc kX6_init 57 (.dup) 1 58 := tX6_init_ok (57, .dup, 1, 58) (List.mem_of_getElem? (i := 29) rfl)
theorem dX6_init_58 : Dc kX6_init 58 (.bipush 8) 2 60 := tX6_init_ok (58, .bipush 8, 2, 60) (List.mem_of_getElem? (i := 30) rfl)
theorem dX6_init_60 : Dc kX6_init 60 (.invokespecial 29) 3 63 := tX6_init_ok (60, .invokespecial 29, 3, 63) (List.mem_of_getElem? (i := 31) rfl)
theorem dX6_init_63 : Dc kX6_init 63 (.putfield 39) 3 66 := tX6_init_ok (63, .putfield 39, 3, 66) (List.mem_of_getElem? (i := 32) rfl)
theorem dX6_init_66 : Dc kX6_init 66 (.iconst 0) 1 67 := tX6_init_ok (66, .iconst 0, 1, 67) (List.mem_of_getElem? (i := 33) rfl)
theorem dX6_init_67 : Dc kX6_init 67 (.istore_n 1) 1 68 := tX6_init_ok (67, .istore_n 1, 1, 68) (List.mem_of_getElem? (i := 34) rfl)
theorem dX6_init_68 : Dc kX6_init 68 (.iload_n 1) 1 69 := tX6_init_ok (68, .iload_n 1, 1, 69) (List.mem_of_getElem? (i := 35) rfl)
theorem dX6_init_69 : Dc kX6_init 69 (.bipush 6) 2 71 := tX6_init_ok (69, .bipush 6, 2, 71) (List.mem_of_getElem? (i := 36) rfl)
theorem dX6_init_71 : Dc kX6_init 71 (.if_icmp .ge 23) 3 74 := tX6_init_ok (71, .if_icmp .ge 23, 3, 74) (List.mem_of_getElem? (i := 37) rfl)
theorem dX6_init_74 : Dc kX6_init 74 (.aload_n 0) 1 75 := tX6_init_ok (74, .aload_n 0, 1, 75) (List.mem_of_getElem? (i := 38) rfl)
theorem dX6_init_75 : Dc kX6_init 75 (.getfield 11) 3 78 := tX6_init_ok (75, .getfield 11, 3, 78) (List.mem_of_getElem? (i := 39) rfl)
theorem dX6_init_78 : Dc kX6_init 78 (.iload_n 1) 1 79 := tX6_init_ok (78, .iload_n 1, 1, 79) (List.mem_of_getElem? (i := 40) rfl)
theorem dX6_init_79 : Dc kX6_init 79 (.new 9) 3 82 := tX6_init_ok (79, .new 9, 3, 82) (List.mem_of_getElem? (i := 41) rfl)
theorem dX6_init_82 : Dc kX6_init 82 (.dup) 1 83 := tX6_init_ok (82, .dup, 1, 83) (List.mem_of_getElem? (i := 42) rfl)
theorem dX6_init_83 : Dc kX6_init 83 (.iload_n 1) 1 84 := tX6_init_ok (83, .iload_n 1, 1, 84) (List.mem_of_getElem? (i := 43) rfl)
theorem dX6_init_84 : Dc kX6_init 84 (.invokespecial 42) 3 87 := tX6_init_ok (84, .invokespecial 42, 3, 87) (List.mem_of_getElem? (i := 44) rfl)
theorem dX6_init_87 : Dc kX6_init 87 (.aastore) 1 88 := tX6_init_ok (87, .aastore, 1, 88) (List.mem_of_getElem? (i := 45) rfl)
theorem dX6_init_88 : Dc kX6_init 88 (.iinc 1 1) 3 91 := tX6_init_ok (88, .iinc 1 1, 3, 91) (List.mem_of_getElem? (i := 46) rfl)
theorem dX6_init_91 : Dc kX6_init 91 (.goto (-23)) 3 94 := tX6_init_ok (91, .goto (-23), 3, 94) (List.mem_of_getElem? (i := 47) rfl)
theorem dX6_init_94 : Dc kX6_init 94 (.return_) 1 95 := tX6_init_ok (94, .return_, 1, 95) (List.mem_of_getElem? (i := 48) rfl)
theorem wc_X6_init : Cond.code yX6_init kX6_init.1 kX6_init.2.2.1 kX6_init.2.2.2 ∈ lw_good := good_in (inT1 (List.mem_of_getElem? (i := 29) (by decide +kernel))) rfl
theorem wi_X6_init : Cond.instanceMethod yX6_init ∈ lw_good := good_in (inT1 (List.mem_of_getElem? (i := 28) (by decide +kernel))) rfl
theorem wz_6 : Cond.instantiable "ThawGives$Winter" 7 ∈ lw_good := good_in (inT1 (List.mem_of_getElem? (i := 26) (by decide +kernel))) rfl
def kX7_init : KK := (cX7_init, "ThawGives", 2, none)
theorem dX7_init_46 : Dc kX7_init 46 (.newarray .int) 2 48 := ⟨by show decode cX7_init 46 = _; decide +kernel, rfl⟩
def tX7_init : List (Nat × Instr × Nat × Nat) := [(0, .aload_n 0, 1, 1), (1, .invokespecial 5, 3, 4), (4, .aload_n 0, 1, 5), (5, .new 11, 3, 8), (8, .dup, 1, 9), (9, .invokespecial 13, 3, 12), (12, .putfield 14, 3, 15), (15, .aload_n 0, 1, 16), (16, .new 11, 3, 19), (19, .dup, 1, 20), (20, .invokespecial 13, 3, 23), (23, .putfield 18, 3, 26), (26, .aload_n 0, 1, 27), (27, .iconst 0, 1, 28), (28, .putfield 21, 3, 31), (31, .aload_n 0, 1, 32), (32, .new 25, 3, 35), (35, .dup, 1, 36), (36, .iconst 0, 1, 37), (37, .invokespecial 27, 3, 40), (40, .putfield 30, 3, 43), (43, .aload_n 0, 1, 44), (44, .bipush 6, 2, 46), (48, .putfield 34, 3, 51), (51, .aload_n 0, 1, 52), (52, .new 38, 3, 55), (55, .dup, 1, 56), (56, .invokespecial 40, 3, 59), (59, .putfield 41, 3, 62), (62, .aload_n 0, 1, 63), (63, .bipush 6, 2, 65), (65, .anewarray 45, 3, 68), (68, .putfield 47, 3, 71), (71, .aload_n 0, 1, 72), (72, .iconst 0, 1, 73), (73, .putfield 51, 3, 76), (76, .aload_n 0, 1, 77), (77, .new 45, 3, 80), (80, .dup, 1, 81), (81, .invokespecial 55, 3, 84), (84, .putfield 56, 3, 87), (87, .aload_n 0, 1, 88), (88, .new 60, 3, 91), (91, .dup, 1, 92), (92, .invokespecial 62, 3, 95), (95, .putfield 63, 3, 98), (98, .aload_n 0, 1, 99), (99, .bipush 6, 2, 101), (101, .anewarray 67, 3, 104), (104, .putfield 69, 3, 107), (107, .iconst 0, 1, 108), (108, .istore_n 1, 1, 109), (109, .iload_n 1, 1, 110), (110, .bipush 6, 2, 112), (112, .if_icmp .ge 22, 3, 115), (115, .aload_n 0, 1, 116), (116, .getfield 47, 3, 119), (119, .iload_n 1, 1, 120), (120, .new 45, 3, 123), (123, .dup, 1, 124), (124, .invokespecial 55, 3, 127), (127, .aastore, 1, 128), (128, .iinc 1 1, 3, 131), (131, .goto (-22), 3, 134), (134, .iconst 0, 1, 135), (135, .istore_n 1, 1, 136), (136, .iload_n 1, 1, 137), (137, .bipush 6, 2, 139), (139, .if_icmp .ge 22, 3, 142), (142, .aload_n 0, 1, 143), (143, .getfield 69, 3, 146), (146, .iload_n 1, 1, 147), (147, .new 67, 3, 150), (150, .dup, 1, 151), (151, .invokespecial 73, 3, 154), (154, .aastore, 1, 155), (155, .iinc 1 1, 3, 158), (158, .goto (-22), 3, 161), (161, .return_, 1, 162)]
theorem tX7_init_ok : ∀ q ∈ tX7_init, Dc kX7_init q.1 q.2.1 q.2.2.1 q.2.2.2 := tok (by decide +kernel)
theorem dX7_init_0 : Dc kX7_init 0 (.aload_n 0) 1 1 := tX7_init_ok (0, .aload_n 0, 1, 1) (List.mem_of_getElem? (i := 0) rfl)
theorem dX7_init_1 : Dc kX7_init 1 (.invokespecial 5) 3 4 := tX7_init_ok (1, .invokespecial 5, 3, 4) (List.mem_of_getElem? (i := 1) rfl)
theorem dX7_init_4 : Dc kX7_init 4 (.aload_n 0) 1 5 := tX7_init_ok (4, .aload_n 0, 1, 5) (List.mem_of_getElem? (i := 2) rfl)
theorem dX7_init_5 : Dc kX7_init 5 (.new 11) 3 8 := tX7_init_ok (5, .new 11, 3, 8) (List.mem_of_getElem? (i := 3) rfl)
theorem dX7_init_8 : Dc kX7_init 8 (.dup) 1 9 := tX7_init_ok (8, .dup, 1, 9) (List.mem_of_getElem? (i := 4) rfl)
theorem dX7_init_9 : Dc kX7_init 9 (.invokespecial 13) 3 12 := tX7_init_ok (9, .invokespecial 13, 3, 12) (List.mem_of_getElem? (i := 5) rfl)
theorem dX7_init_12 : Dc kX7_init 12 (.putfield 14) 3 15 := tX7_init_ok (12, .putfield 14, 3, 15) (List.mem_of_getElem? (i := 6) rfl)
theorem dX7_init_15 : Dc kX7_init 15 (.aload_n 0) 1 16 := tX7_init_ok (15, .aload_n 0, 1, 16) (List.mem_of_getElem? (i := 7) rfl)
theorem dX7_init_16 : Dc kX7_init 16 (.new 11) 3 19 := tX7_init_ok (16, .new 11, 3, 19) (List.mem_of_getElem? (i := 8) rfl)
theorem dX7_init_19 : Dc kX7_init 19 (.dup) 1 20 := tX7_init_ok (19, .dup, 1, 20) (List.mem_of_getElem? (i := 9) rfl)
theorem dX7_init_20 : Dc kX7_init 20 (.invokespecial 13) 3 23 := tX7_init_ok (20, .invokespecial 13, 3, 23) (List.mem_of_getElem? (i := 10) rfl)
theorem dX7_init_23 : Dc kX7_init 23 (.putfield 18) 3 26 := tX7_init_ok (23, .putfield 18, 3, 26) (List.mem_of_getElem? (i := 11) rfl)
theorem dX7_init_26 : Dc kX7_init 26 (.aload_n 0) 1 27 := tX7_init_ok (26, .aload_n 0, 1, 27) (List.mem_of_getElem? (i := 12) rfl)
theorem dX7_init_27 : Dc kX7_init 27 (.iconst 0) 1 28 := tX7_init_ok (27, .iconst 0, 1, 28) (List.mem_of_getElem? (i := 13) rfl)
theorem dX7_init_28 : Dc kX7_init 28 (.putfield 21) 3 31 := tX7_init_ok (28, .putfield 21, 3, 31) (List.mem_of_getElem? (i := 14) rfl)
theorem dX7_init_31 : Dc kX7_init 31 (.aload_n 0) 1 32 := tX7_init_ok (31, .aload_n 0, 1, 32) (List.mem_of_getElem? (i := 15) rfl)
theorem dX7_init_32 : Dc kX7_init 32 (.new 25) 3 35 := tX7_init_ok (32, .new 25, 3, 35) (List.mem_of_getElem? (i := 16) rfl)
theorem dX7_init_35 : Dc kX7_init 35 (.dup) 1 36 := tX7_init_ok (35, .dup, 1, 36) (List.mem_of_getElem? (i := 17) rfl)
theorem dX7_init_36 : Dc kX7_init 36 (.iconst 0) 1 37 := tX7_init_ok (36, .iconst 0, 1, 37) (List.mem_of_getElem? (i := 18) rfl)
theorem dX7_init_37 : Dc kX7_init 37 (.invokespecial 27) 3 40 := tX7_init_ok (37, .invokespecial 27, 3, 40) (List.mem_of_getElem? (i := 19) rfl)
theorem dX7_init_40 : Dc kX7_init 40 (.putfield 30) 3 43 := tX7_init_ok (40, .putfield 30, 3, 43) (List.mem_of_getElem? (i := 20) rfl)
theorem dX7_init_43 : Dc kX7_init 43 (.aload_n 0) 1 44 := tX7_init_ok (43, .aload_n 0, 1, 44) (List.mem_of_getElem? (i := 21) rfl)
theorem dX7_init_44 : Dc kX7_init 44 (.bipush 6) 2 46 := tX7_init_ok (44, .bipush 6, 2, 46) (List.mem_of_getElem? (i := 22) rfl)
theorem dX7_init_48 : Dc kX7_init 48 (.putfield 34) 3 51 := tX7_init_ok (48, .putfield 34, 3, 51) (List.mem_of_getElem? (i := 23) rfl)
theorem dX7_init_51 : Dc kX7_init 51 (.aload_n 0) 1 52 := tX7_init_ok (51, .aload_n 0, 1, 52) (List.mem_of_getElem? (i := 24) rfl)
theorem dX7_init_52 : Dc kX7_init 52 (.new 38) 3 55 := tX7_init_ok (52, .new 38, 3, 55) (List.mem_of_getElem? (i := 25) rfl)
theorem dX7_init_55 : Dc kX7_init 55 (.dup) 1 56 := tX7_init_ok (55, .dup, 1, 56) (List.mem_of_getElem? (i := 26) rfl)
theorem dX7_init_56 : Dc kX7_init 56 (.invokespecial 40) 3 59 := tX7_init_ok (56, .invokespecial 40, 3, 59) (List.mem_of_getElem? (i := 27) rfl)
theorem dX7_init_59 : Dc kX7_init 59 (.putfield 41) 3 62 := tX7_init_ok (59, .putfield 41, 3, 62) (List.mem_of_getElem? (i := 28) rfl)
theorem dX7_init_62 : Dc kX7_init 62 (.aload_n 0) 1 63 := tX7_init_ok (62, .aload_n 0, 1, 63) (List.mem_of_getElem? (i := 29) rfl)
theorem dX7_init_63 : Dc kX7_init 63 (.bipush 6) 2 65 := tX7_init_ok (63, .bipush 6, 2, 65) (List.mem_of_getElem? (i := 30) rfl)
theorem dX7_init_65 : Dc kX7_init 65 (.anewarray 45) 3 68 := tX7_init_ok (65, .anewarray 45, 3, 68) (List.mem_of_getElem? (i := 31) rfl)
theorem dX7_init_68 : Dc kX7_init 68 (.putfield 47) 3 71 := tX7_init_ok (68, .putfield 47, 3, 71) (List.mem_of_getElem? (i := 32) rfl)
theorem dX7_init_71 : Dc kX7_init 71 (.aload_n 0) 1 72 := tX7_init_ok (71, .aload_n 0, 1, 72) (List.mem_of_getElem? (i := 33) rfl)
theorem dX7_init_72 : Dc kX7_init 72 (.iconst 0) 1 73 := tX7_init_ok (72, .iconst 0, 1, 73) (List.mem_of_getElem? (i := 34) rfl)
theorem dX7_init_73 : Dc kX7_init 73 (.putfield 51) 3 76 := tX7_init_ok (73, .putfield 51, 3, 76) (List.mem_of_getElem? (i := 35) rfl)
theorem dX7_init_76 : Dc kX7_init 76 (.aload_n 0) 1 77 := tX7_init_ok (76, .aload_n 0, 1, 77) (List.mem_of_getElem? (i := 36) rfl)
theorem dX7_init_77 : Dc kX7_init 77 (.new 45) 3 80 := tX7_init_ok (77, .new 45, 3, 80) (List.mem_of_getElem? (i := 37) rfl)
theorem dX7_init_80 : Dc kX7_init 80 (.dup) 1 81 := tX7_init_ok (80, .dup, 1, 81) (List.mem_of_getElem? (i := 38) rfl)
theorem dX7_init_81 : Dc kX7_init 81 (.invokespecial 55) 3 84 := tX7_init_ok (81, .invokespecial 55, 3, 84) (List.mem_of_getElem? (i := 39) rfl)
theorem dX7_init_84 : Dc kX7_init 84 (.putfield 56) 3 87 := tX7_init_ok (84, .putfield 56, 3, 87) (List.mem_of_getElem? (i := 40) rfl)
theorem dX7_init_87 : Dc kX7_init 87 (.aload_n 0) 1 88 := tX7_init_ok (87, .aload_n 0, 1, 88) (List.mem_of_getElem? (i := 41) rfl)
theorem dX7_init_88 : Dc kX7_init 88 (.new 60) 3 91 := tX7_init_ok (88, .new 60, 3, 91) (List.mem_of_getElem? (i := 42) rfl)
theorem dX7_init_91 : Dc kX7_init 91 (.dup) 1 92 := tX7_init_ok (91, .dup, 1, 92) (List.mem_of_getElem? (i := 43) rfl)
theorem dX7_init_92 : Dc kX7_init 92 (.invokespecial 62) 3 95 := tX7_init_ok (92, .invokespecial 62, 3, 95) (List.mem_of_getElem? (i := 44) rfl)
theorem dX7_init_95 : Dc kX7_init 95 (.putfield 63) 3 98 := tX7_init_ok (95, .putfield 63, 3, 98) (List.mem_of_getElem? (i := 45) rfl)
theorem dX7_init_98 : Dc kX7_init 98 (.aload_n 0) 1 99 := tX7_init_ok (98, .aload_n 0, 1, 99) (List.mem_of_getElem? (i := 46) rfl)
theorem dX7_init_99 : Dc kX7_init 99 (.bipush 6) 2 101 := tX7_init_ok (99, .bipush 6, 2, 101) (List.mem_of_getElem? (i := 47) rfl)
theorem dX7_init_101 : Dc kX7_init 101 (.anewarray 67) 3 104 := tX7_init_ok (101, .anewarray 67, 3, 104) (List.mem_of_getElem? (i := 48) rfl)
theorem dX7_init_104 : Dc kX7_init 104 (.putfield 69) 3 107 := tX7_init_ok (104, .putfield 69, 3, 107) (List.mem_of_getElem? (i := 49) rfl)
theorem dX7_init_107 : Dc kX7_init 107 (.iconst 0) 1 108 := tX7_init_ok (107, .iconst 0, 1, 108) (List.mem_of_getElem? (i := 50) rfl)
theorem dX7_init_108 : Dc kX7_init 108 (.istore_n 1) 1 109 := tX7_init_ok (108, .istore_n 1, 1, 109) (List.mem_of_getElem? (i := 51) rfl)
theorem dX7_init_109 : Dc kX7_init 109 (.iload_n 1) 1 110 := tX7_init_ok (109, .iload_n 1, 1, 110) (List.mem_of_getElem? (i := 52) rfl)
theorem dX7_init_110 : Dc kX7_init 110 (.bipush 6) 2 112 := tX7_init_ok (110, .bipush 6, 2, 112) (List.mem_of_getElem? (i := 53) rfl)
theorem dX7_init_112 : Dc kX7_init 112 (.if_icmp .ge 22) 3 115 := tX7_init_ok (112, .if_icmp .ge 22, 3, 115) (List.mem_of_getElem? (i := 54) rfl)
theorem dX7_init_115 : Dc kX7_init 115 (.aload_n 0) 1 116 := tX7_init_ok (115, .aload_n 0, 1, 116) (List.mem_of_getElem? (i := 55) rfl)
theorem dX7_init_116 : Dc kX7_init 116 (.getfield 47) 3 119 := tX7_init_ok (116, .getfield 47, 3, 119) (List.mem_of_getElem? (i := 56) rfl)
theorem dX7_init_119 : Dc kX7_init 119 (.iload_n 1) 1 120 := tX7_init_ok (119, .iload_n 1, 1, 120) (List.mem_of_getElem? (i := 57) rfl)
theorem dX7_init_120 : Dc kX7_init 120 (.new 45) 3 123 := tX7_init_ok (120, .new 45, 3, 123) (List.mem_of_getElem? (i := 58) rfl)
theorem dX7_init_123 : Dc kX7_init 123 (.dup) 1 124 := tX7_init_ok (123, .dup, 1, 124) (List.mem_of_getElem? (i := 59) rfl)
theorem dX7_init_124 : Dc kX7_init 124 (.invokespecial 55) 3 127 := tX7_init_ok (124, .invokespecial 55, 3, 127) (List.mem_of_getElem? (i := 60) rfl)
theorem dX7_init_127 : Dc kX7_init 127 (.aastore) 1 128 := tX7_init_ok (127, .aastore, 1, 128) (List.mem_of_getElem? (i := 61) rfl)
theorem dX7_init_128 : Dc kX7_init 128 (.iinc 1 1) 3 131 := tX7_init_ok (128, .iinc 1 1, 3, 131) (List.mem_of_getElem? (i := 62) rfl)
theorem dX7_init_131 : Dc kX7_init 131 (.goto (-22)) 3 134 := tX7_init_ok (131, .goto (-22), 3, 134) (List.mem_of_getElem? (i := 63) rfl)
theorem dX7_init_134 : Dc kX7_init 134 (.iconst 0) 1 135 := tX7_init_ok (134, .iconst 0, 1, 135) (List.mem_of_getElem? (i := 64) rfl)
theorem dX7_init_135 : Dc kX7_init 135 (.istore_n 1) 1 136 := tX7_init_ok (135, .istore_n 1, 1, 136) (List.mem_of_getElem? (i := 65) rfl)
theorem dX7_init_136 : Dc kX7_init 136 (.iload_n 1) 1 137 := tX7_init_ok (136, .iload_n 1, 1, 137) (List.mem_of_getElem? (i := 66) rfl)
theorem dX7_init_137 : Dc kX7_init 137 (.bipush 6) 2 139 := tX7_init_ok (137, .bipush 6, 2, 139) (List.mem_of_getElem? (i := 67) rfl)
theorem dX7_init_139 : Dc kX7_init 139 (.if_icmp .ge 22) 3 142 := tX7_init_ok (139, .if_icmp .ge 22, 3, 142) (List.mem_of_getElem? (i := 68) rfl)
theorem dX7_init_142 : Dc kX7_init 142 (.aload_n 0) 1 143 := tX7_init_ok (142, .aload_n 0, 1, 143) (List.mem_of_getElem? (i := 69) rfl)
theorem dX7_init_143 : Dc kX7_init 143 (.getfield 69) 3 146 := tX7_init_ok (143, .getfield 69, 3, 146) (List.mem_of_getElem? (i := 70) rfl)
theorem dX7_init_146 : Dc kX7_init 146 (.iload_n 1) 1 147 := tX7_init_ok (146, .iload_n 1, 1, 147) (List.mem_of_getElem? (i := 71) rfl)
theorem dX7_init_147 : Dc kX7_init 147 (.new 67) 3 150 := tX7_init_ok (147, .new 67, 3, 150) (List.mem_of_getElem? (i := 72) rfl)
theorem dX7_init_150 : Dc kX7_init 150 (.dup) 1 151 := tX7_init_ok (150, .dup, 1, 151) (List.mem_of_getElem? (i := 73) rfl)
theorem dX7_init_151 : Dc kX7_init 151 (.invokespecial 73) 3 154 := tX7_init_ok (151, .invokespecial 73, 3, 154) (List.mem_of_getElem? (i := 74) rfl)
theorem dX7_init_154 : Dc kX7_init 154 (.aastore) 1 155 := tX7_init_ok (154, .aastore, 1, 155) (List.mem_of_getElem? (i := 75) rfl)
theorem dX7_init_155 : Dc kX7_init 155 (.iinc 1 1) 3 158 := tX7_init_ok (155, .iinc 1 1, 3, 158) (List.mem_of_getElem? (i := 76) rfl)
theorem dX7_init_158 : Dc kX7_init 158 (.goto (-22)) 3 161 := tX7_init_ok (158, .goto (-22), 3, 161) (List.mem_of_getElem? (i := 77) rfl)
theorem dX7_init_161 : Dc kX7_init 161 (.return_) 1 162 := tX7_init_ok (161, .return_, 1, 162) (List.mem_of_getElem? (i := 78) rfl)
theorem wc_X7_init : Cond.code yX7_init kX7_init.1 kX7_init.2.2.1 kX7_init.2.2.2 ∈ lw_good := good_in (inT1 (List.mem_of_getElem? (i := 21) (by decide +kernel))) rfl
theorem wi_X7_init : Cond.instanceMethod yX7_init ∈ lw_good := good_in (inT1 (List.mem_of_getElem? (i := 20) (by decide +kernel))) rfl
theorem wz_7 : Cond.instantiable "ThawGives" 11 ∈ lw_good := good_in (inT1 (List.mem_of_getElem? (i := 18) (by decide +kernel))) rfl
def kX8_init : KK := (cX8_init, "ThawGivesModel", 2, none)
theorem dX8_init_7 : Dc kX8_init 7 (.newarray .int) 2 9 := ⟨by show decode cX8_init 7 = _; decide +kernel, rfl⟩
theorem dX8_init_15 : Dc kX8_init 15 (.newarray .int) 2 17 := ⟨by show decode cX8_init 15 = _; decide +kernel, rfl⟩
theorem dX8_init_23 : Dc kX8_init 23 (.newarray .int) 2 25 := ⟨by show decode cX8_init 23 = _; decide +kernel, rfl⟩
theorem dX8_init_31 : Dc kX8_init 31 (.newarray .int) 2 33 := ⟨by show decode cX8_init 31 = _; decide +kernel, rfl⟩
theorem dX8_init_39 : Dc kX8_init 39 (.newarray .int) 2 41 := ⟨by show decode cX8_init 39 = _; decide +kernel, rfl⟩
theorem dX8_init_47 : Dc kX8_init 47 (.newarray .int) 2 49 := ⟨by show decode cX8_init 47 = _; decide +kernel, rfl⟩
theorem dX8_init_55 : Dc kX8_init 55 (.newarray .int) 2 57 := ⟨by show decode cX8_init 55 = _; decide +kernel, rfl⟩
theorem dX8_init_63 : Dc kX8_init 63 (.newarray .int) 2 65 := ⟨by show decode cX8_init 63 = _; decide +kernel, rfl⟩
theorem dX8_init_71 : Dc kX8_init 71 (.newarray .int) 2 73 := ⟨by show decode cX8_init 71 = _; decide +kernel, rfl⟩
theorem dX8_init_79 : Dc kX8_init 79 (.newarray .int) 2 81 := ⟨by show decode cX8_init 79 = _; decide +kernel, rfl⟩
theorem dX8_init_87 : Dc kX8_init 87 (.newarray .int) 2 89 := ⟨by show decode cX8_init 87 = _; decide +kernel, rfl⟩
theorem dX8_init_96 : Dc kX8_init 96 (.newarray .int) 2 98 := ⟨by show decode cX8_init 96 = _; decide +kernel, rfl⟩
theorem dX8_init_104 : Dc kX8_init 104 (.newarray .boolean) 2 106 := ⟨by show decode cX8_init 104 = _; decide +kernel, rfl⟩
theorem dX8_init_111 : Dc kX8_init 111 (.newarray .int) 2 113 := ⟨by show decode cX8_init 111 = _; decide +kernel, rfl⟩
theorem dX8_init_118 : Dc kX8_init 118 (.newarray .int) 2 120 := ⟨by show decode cX8_init 118 = _; decide +kernel, rfl⟩
theorem dX8_init_125 : Dc kX8_init 125 (.newarray .int) 2 127 := ⟨by show decode cX8_init 125 = _; decide +kernel, rfl⟩
theorem dX8_init_133 : Dc kX8_init 133 (.newarray .int) 2 135 := ⟨by show decode cX8_init 133 = _; decide +kernel, rfl⟩
theorem dX8_init_141 : Dc kX8_init 141 (.newarray .int) 2 143 := ⟨by show decode cX8_init 141 = _; decide +kernel, rfl⟩
theorem dX8_init_149 : Dc kX8_init 149 (.newarray .int) 2 151 := ⟨by show decode cX8_init 149 = _; decide +kernel, rfl⟩
theorem dX8_init_157 : Dc kX8_init 157 (.newarray .int) 2 159 := ⟨by show decode cX8_init 157 = _; decide +kernel, rfl⟩
theorem dX8_init_165 : Dc kX8_init 165 (.newarray .int) 2 167 := ⟨by show decode cX8_init 165 = _; decide +kernel, rfl⟩
theorem dX8_init_173 : Dc kX8_init 173 (.newarray .int) 2 175 := ⟨by show decode cX8_init 173 = _; decide +kernel, rfl⟩
theorem dX8_init_181 : Dc kX8_init 181 (.newarray .int) 2 183 := ⟨by show decode cX8_init 181 = _; decide +kernel, rfl⟩
theorem dX8_init_189 : Dc kX8_init 189 (.newarray .int) 2 191 := ⟨by show decode cX8_init 189 = _; decide +kernel, rfl⟩
theorem dX8_init_197 : Dc kX8_init 197 (.newarray .int) 2 199 := ⟨by show decode cX8_init 197 = _; decide +kernel, rfl⟩
theorem dX8_init_205 : Dc kX8_init 205 (.newarray .int) 2 207 := ⟨by show decode cX8_init 205 = _; decide +kernel, rfl⟩
theorem dX8_init_213 : Dc kX8_init 213 (.newarray .int) 2 215 := ⟨by show decode cX8_init 213 = _; decide +kernel, rfl⟩
theorem dX8_init_222 : Dc kX8_init 222 (.newarray .long) 2 224 := ⟨by show decode cX8_init 222 = _; decide +kernel, rfl⟩
def tX8_init : List (Nat × Instr × Nat × Nat) := [(0, .aload_n 0, 1, 1), (1, .invokespecial 3, 3, 4), (4, .aload_n 0, 1, 5), (5, .bipush 6, 2, 7), (9, .putfield 9, 3, 12), (12, .aload_n 0, 1, 13), (13, .bipush 6, 2, 15), (17, .putfield 15, 3, 20), (20, .aload_n 0, 1, 21), (21, .bipush 6, 2, 23), (25, .putfield 18, 3, 28), (28, .aload_n 0, 1, 29), (29, .bipush 6, 2, 31), (33, .putfield 21, 3, 36), (36, .aload_n 0, 1, 37), (37, .bipush 24, 2, 39), (41, .putfield 24, 3, 44), (44, .aload_n 0, 1, 45), (45, .bipush 100, 2, 47), (49, .putfield 27, 3, 52), (52, .aload_n 0, 1, 53), (53, .bipush 6, 2, 55), (57, .putfield 30, 3, 60), (60, .aload_n 0, 1, 61), (61, .bipush 61, 2, 63), (65, .putfield 33, 3, 68), (68, .aload_n 0, 1, 69), (69, .bipush 61, 2, 71), (73, .putfield 36, 3, 76), (76, .aload_n 0, 1, 77), (77, .bipush 61, 2, 79), (81, .putfield 39, 3, 84), (84, .aload_n 0, 1, 85), (85, .bipush 61, 2, 87), (89, .putfield 42, 3, 92), (92, .aload_n 0, 1, 93), (93, .sipush 800, 3, 96), (98, .putfield 45, 3, 101), (101, .aload_n 0, 1, 102), (102, .bipush 110, 2, 104), (106, .putfield 48, 3, 109), (109, .aload_n 0, 1, 110), (110, .iconst 5, 1, 111), (113, .putfield 52, 3, 116), (116, .aload_n 0, 1, 117), (117, .iconst 5, 1, 118), (120, .putfield 55, 3, 123), (123, .aload_n 0, 1, 124), (124, .iconst 5, 1, 125), (127, .putfield 58, 3, 130), (130, .aload_n 0, 1, 131), (131, .bipush 10, 2, 133), (135, .putfield 61, 3, 138), (138, .aload_n 0, 1, 139), (139, .bipush 10, 2, 141), (143, .putfield 64, 3, 146), (146, .aload_n 0, 1, 147), (147, .bipush 8, 2, 149), (151, .putfield 67, 3, 154), (154, .aload_n 0, 1, 155), (155, .bipush 8, 2, 157), (159, .putfield 70, 3, 162), (162, .aload_n 0, 1, 163), (163, .bipush 20, 2, 165), (167, .putfield 73, 3, 170), (170, .aload_n 0, 1, 171), (171, .bipush 105, 2, 173), (175, .putfield 76, 3, 178), (178, .aload_n 0, 1, 179), (179, .bipush 105, 2, 181), (183, .putfield 79, 3, 186), (186, .aload_n 0, 1, 187), (187, .bipush 6, 2, 189), (191, .putfield 82, 3, 194), (194, .aload_n 0, 1, 195), (195, .bipush 6, 2, 197), (199, .putfield 85, 3, 202), (202, .aload_n 0, 1, 203), (203, .bipush 6, 2, 205), (207, .putfield 88, 3, 210), (210, .aload_n 0, 1, 211), (211, .bipush 6, 2, 213), (215, .putfield 91, 3, 218), (218, .aload_n 0, 1, 219), (219, .sipush 360, 3, 222), (224, .putfield 94, 3, 227), (227, .aload_n 0, 1, 228), (228, .iconst (-1), 1, 229), (229, .putfield 98, 3, 232), (232, .iconst 0, 1, 233), (233, .istore_n 1, 1, 234), (234, .iload_n 1, 1, 235), (235, .bipush 6, 2, 237), (237, .if_icmp .ge 16, 3, 240), (240, .aload_n 0, 1, 241), (241, .getfield 88, 3, 244), (244, .iload_n 1, 1, 245), (245, .iconst (-1), 1, 246), (246, .iastore, 1, 247), (247, .iinc 1 1, 3, 250), (250, .goto (-16), 3, 253), (253, .return_, 1, 254)]
theorem tX8_init_ok : ∀ q ∈ tX8_init, Dc kX8_init q.1 q.2.1 q.2.2.1 q.2.2.2 := tok (by decide +kernel)
theorem dX8_init_0 : Dc kX8_init 0 (.aload_n 0) 1 1 := tX8_init_ok (0, .aload_n 0, 1, 1) (List.mem_of_getElem? (i := 0) rfl)
theorem dX8_init_1 : Dc kX8_init 1 (.invokespecial 3) 3 4 := tX8_init_ok (1, .invokespecial 3, 3, 4) (List.mem_of_getElem? (i := 1) rfl)
theorem dX8_init_4 : Dc kX8_init 4 (.aload_n 0) 1 5 := tX8_init_ok (4, .aload_n 0, 1, 5) (List.mem_of_getElem? (i := 2) rfl)
theorem dX8_init_5 : Dc kX8_init 5 (.bipush 6) 2 7 := tX8_init_ok (5, .bipush 6, 2, 7) (List.mem_of_getElem? (i := 3) rfl)
theorem dX8_init_9 : Dc kX8_init 9 (.putfield 9) 3 12 := tX8_init_ok (9, .putfield 9, 3, 12) (List.mem_of_getElem? (i := 4) rfl)
theorem dX8_init_12 : Dc kX8_init 12 (.aload_n 0) 1 13 := tX8_init_ok (12, .aload_n 0, 1, 13) (List.mem_of_getElem? (i := 5) rfl)
theorem dX8_init_13 : Dc kX8_init 13 (.bipush 6) 2 15 := tX8_init_ok (13, .bipush 6, 2, 15) (List.mem_of_getElem? (i := 6) rfl)
theorem dX8_init_17 : Dc kX8_init 17 (.putfield 15) 3 20 := tX8_init_ok (17, .putfield 15, 3, 20) (List.mem_of_getElem? (i := 7) rfl)
theorem dX8_init_20 : Dc kX8_init 20 (.aload_n 0) 1 21 := tX8_init_ok (20, .aload_n 0, 1, 21) (List.mem_of_getElem? (i := 8) rfl)
theorem dX8_init_21 : Dc kX8_init 21 (.bipush 6) 2 23 := tX8_init_ok (21, .bipush 6, 2, 23) (List.mem_of_getElem? (i := 9) rfl)
theorem dX8_init_25 : Dc kX8_init 25 (.putfield 18) 3 28 := tX8_init_ok (25, .putfield 18, 3, 28) (List.mem_of_getElem? (i := 10) rfl)
theorem dX8_init_28 : Dc kX8_init 28 (.aload_n 0) 1 29 := tX8_init_ok (28, .aload_n 0, 1, 29) (List.mem_of_getElem? (i := 11) rfl)
theorem dX8_init_29 : Dc kX8_init 29 (.bipush 6) 2 31 := tX8_init_ok (29, .bipush 6, 2, 31) (List.mem_of_getElem? (i := 12) rfl)
theorem dX8_init_33 : Dc kX8_init 33 (.putfield 21) 3 36 := tX8_init_ok (33, .putfield 21, 3, 36) (List.mem_of_getElem? (i := 13) rfl)
theorem dX8_init_36 : Dc kX8_init 36 (.aload_n 0) 1 37 := tX8_init_ok (36, .aload_n 0, 1, 37) (List.mem_of_getElem? (i := 14) rfl)
theorem dX8_init_37 : Dc kX8_init 37 (.bipush 24) 2 39 := tX8_init_ok (37, .bipush 24, 2, 39) (List.mem_of_getElem? (i := 15) rfl)
theorem dX8_init_41 : Dc kX8_init 41 (.putfield 24) 3 44 := tX8_init_ok (41, .putfield 24, 3, 44) (List.mem_of_getElem? (i := 16) rfl)
theorem dX8_init_44 : Dc kX8_init 44 (.aload_n 0) 1 45 := tX8_init_ok (44, .aload_n 0, 1, 45) (List.mem_of_getElem? (i := 17) rfl)
theorem dX8_init_45 : Dc kX8_init 45 (.bipush 100) 2 47 := tX8_init_ok (45, .bipush 100, 2, 47) (List.mem_of_getElem? (i := 18) rfl)
theorem dX8_init_49 : Dc kX8_init 49 (.putfield 27) 3 52 := tX8_init_ok (49, .putfield 27, 3, 52) (List.mem_of_getElem? (i := 19) rfl)
theorem dX8_init_52 : Dc kX8_init 52 (.aload_n 0) 1 53 := tX8_init_ok (52, .aload_n 0, 1, 53) (List.mem_of_getElem? (i := 20) rfl)
theorem dX8_init_53 : Dc kX8_init 53 (.bipush 6) 2 55 := tX8_init_ok (53, .bipush 6, 2, 55) (List.mem_of_getElem? (i := 21) rfl)
theorem dX8_init_57 : Dc kX8_init 57 (.putfield 30) 3 60 := tX8_init_ok (57, .putfield 30, 3, 60) (List.mem_of_getElem? (i := 22) rfl)
theorem dX8_init_60 : Dc kX8_init 60 (.aload_n 0) 1 61 := tX8_init_ok (60, .aload_n 0, 1, 61) (List.mem_of_getElem? (i := 23) rfl)
theorem dX8_init_61 : Dc kX8_init 61 (.bipush 61) 2 63 := tX8_init_ok (61, .bipush 61, 2, 63) (List.mem_of_getElem? (i := 24) rfl)
theorem dX8_init_65 : Dc kX8_init 65 (.putfield 33) 3 68 := tX8_init_ok (65, .putfield 33, 3, 68) (List.mem_of_getElem? (i := 25) rfl)
theorem dX8_init_68 : Dc kX8_init 68 (.aload_n 0) 1 69 := tX8_init_ok (68, .aload_n 0, 1, 69) (List.mem_of_getElem? (i := 26) rfl)
theorem dX8_init_69 : Dc kX8_init 69 (.bipush 61) 2 71 := tX8_init_ok (69, .bipush 61, 2, 71) (List.mem_of_getElem? (i := 27) rfl)
theorem dX8_init_73 : Dc kX8_init 73 (.putfield 36) 3 76 := tX8_init_ok (73, .putfield 36, 3, 76) (List.mem_of_getElem? (i := 28) rfl)
theorem dX8_init_76 : Dc kX8_init 76 (.aload_n 0) 1 77 := tX8_init_ok (76, .aload_n 0, 1, 77) (List.mem_of_getElem? (i := 29) rfl)
theorem dX8_init_77 : Dc kX8_init 77 (.bipush 61) 2 79 := tX8_init_ok (77, .bipush 61, 2, 79) (List.mem_of_getElem? (i := 30) rfl)
theorem dX8_init_81 : Dc kX8_init 81 (.putfield 39) 3 84 := tX8_init_ok (81, .putfield 39, 3, 84) (List.mem_of_getElem? (i := 31) rfl)
theorem dX8_init_84 : Dc kX8_init 84 (.aload_n 0) 1 85 := tX8_init_ok (84, .aload_n 0, 1, 85) (List.mem_of_getElem? (i := 32) rfl)
theorem dX8_init_85 : Dc kX8_init 85 (.bipush 61) 2 87 := tX8_init_ok (85, .bipush 61, 2, 87) (List.mem_of_getElem? (i := 33) rfl)
theorem dX8_init_89 : Dc kX8_init 89 (.putfield 42) 3 92 := tX8_init_ok (89, .putfield 42, 3, 92) (List.mem_of_getElem? (i := 34) rfl)
theorem dX8_init_92 : Dc kX8_init 92 (.aload_n 0) 1 93 := tX8_init_ok (92, .aload_n 0, 1, 93) (List.mem_of_getElem? (i := 35) rfl)
theorem dX8_init_93 : Dc kX8_init 93 (.sipush 800) 3 96 := tX8_init_ok (93, .sipush 800, 3, 96) (List.mem_of_getElem? (i := 36) rfl)
theorem dX8_init_98 : Dc kX8_init 98 (.putfield 45) 3 101 := tX8_init_ok (98, .putfield 45, 3, 101) (List.mem_of_getElem? (i := 37) rfl)
theorem dX8_init_101 : Dc kX8_init 101 (.aload_n 0) 1 102 := tX8_init_ok (101, .aload_n 0, 1, 102) (List.mem_of_getElem? (i := 38) rfl)
theorem dX8_init_102 : Dc kX8_init 102 (.bipush 110) 2 104 := tX8_init_ok (102, .bipush 110, 2, 104) (List.mem_of_getElem? (i := 39) rfl)
theorem dX8_init_106 : Dc kX8_init 106 (.putfield 48) 3 109 := tX8_init_ok (106, .putfield 48, 3, 109) (List.mem_of_getElem? (i := 40) rfl)
theorem dX8_init_109 : Dc kX8_init 109 (.aload_n 0) 1 110 := tX8_init_ok (109, .aload_n 0, 1, 110) (List.mem_of_getElem? (i := 41) rfl)
theorem dX8_init_110 : Dc kX8_init 110 (.iconst 5) 1 111 := tX8_init_ok (110, .iconst 5, 1, 111) (List.mem_of_getElem? (i := 42) rfl)
theorem dX8_init_113 : Dc kX8_init 113 (.putfield 52) 3 116 := tX8_init_ok (113, .putfield 52, 3, 116) (List.mem_of_getElem? (i := 43) rfl)
theorem dX8_init_116 : Dc kX8_init 116 (.aload_n 0) 1 117 := tX8_init_ok (116, .aload_n 0, 1, 117) (List.mem_of_getElem? (i := 44) rfl)
theorem dX8_init_117 : Dc kX8_init 117 (.iconst 5) 1 118 := tX8_init_ok (117, .iconst 5, 1, 118) (List.mem_of_getElem? (i := 45) rfl)
theorem dX8_init_120 : Dc kX8_init 120 (.putfield 55) 3 123 := tX8_init_ok (120, .putfield 55, 3, 123) (List.mem_of_getElem? (i := 46) rfl)
theorem dX8_init_123 : Dc kX8_init 123 (.aload_n 0) 1 124 := tX8_init_ok (123, .aload_n 0, 1, 124) (List.mem_of_getElem? (i := 47) rfl)
theorem dX8_init_124 : Dc kX8_init 124 (.iconst 5) 1 125 := tX8_init_ok (124, .iconst 5, 1, 125) (List.mem_of_getElem? (i := 48) rfl)
theorem dX8_init_127 : Dc kX8_init 127 (.putfield 58) 3 130 := tX8_init_ok (127, .putfield 58, 3, 130) (List.mem_of_getElem? (i := 49) rfl)
theorem dX8_init_130 : Dc kX8_init 130 (.aload_n 0) 1 131 := tX8_init_ok (130, .aload_n 0, 1, 131) (List.mem_of_getElem? (i := 50) rfl)
theorem dX8_init_131 : Dc kX8_init 131 (.bipush 10) 2 133 := tX8_init_ok (131, .bipush 10, 2, 133) (List.mem_of_getElem? (i := 51) rfl)
theorem dX8_init_135 : Dc kX8_init 135 (.putfield 61) 3 138 := tX8_init_ok (135, .putfield 61, 3, 138) (List.mem_of_getElem? (i := 52) rfl)
theorem dX8_init_138 : Dc kX8_init 138 (.aload_n 0) 1 139 := tX8_init_ok (138, .aload_n 0, 1, 139) (List.mem_of_getElem? (i := 53) rfl)
theorem dX8_init_139 : Dc kX8_init 139 (.bipush 10) 2 141 := tX8_init_ok (139, .bipush 10, 2, 141) (List.mem_of_getElem? (i := 54) rfl)
theorem dX8_init_143 : Dc kX8_init 143 (.putfield 64) 3 146 := tX8_init_ok (143, .putfield 64, 3, 146) (List.mem_of_getElem? (i := 55) rfl)
theorem dX8_init_146 : Dc kX8_init 146 (.aload_n 0) 1 147 := tX8_init_ok (146, .aload_n 0, 1, 147) (List.mem_of_getElem? (i := 56) rfl)
theorem dX8_init_147 : Dc kX8_init 147 (.bipush 8) 2 149 := tX8_init_ok (147, .bipush 8, 2, 149) (List.mem_of_getElem? (i := 57) rfl)
theorem dX8_init_151 : Dc kX8_init 151 (.putfield 67) 3 154 := tX8_init_ok (151, .putfield 67, 3, 154) (List.mem_of_getElem? (i := 58) rfl)
theorem dX8_init_154 : Dc kX8_init 154 (.aload_n 0) 1 155 := tX8_init_ok (154, .aload_n 0, 1, 155) (List.mem_of_getElem? (i := 59) rfl)
theorem dX8_init_155 : Dc kX8_init 155 (.bipush 8) 2 157 := tX8_init_ok (155, .bipush 8, 2, 157) (List.mem_of_getElem? (i := 60) rfl)
theorem dX8_init_159 : Dc kX8_init 159 (.putfield 70) 3 162 := tX8_init_ok (159, .putfield 70, 3, 162) (List.mem_of_getElem? (i := 61) rfl)
theorem dX8_init_162 : Dc kX8_init 162 (.aload_n 0) 1 163 := tX8_init_ok (162, .aload_n 0, 1, 163) (List.mem_of_getElem? (i := 62) rfl)
theorem dX8_init_163 : Dc kX8_init 163 (.bipush 20) 2 165 := tX8_init_ok (163, .bipush 20, 2, 165) (List.mem_of_getElem? (i := 63) rfl)
theorem dX8_init_167 : Dc kX8_init 167 (.putfield 73) 3 170 := tX8_init_ok (167, .putfield 73, 3, 170) (List.mem_of_getElem? (i := 64) rfl)
theorem dX8_init_170 : Dc kX8_init 170 (.aload_n 0) 1 171 := tX8_init_ok (170, .aload_n 0, 1, 171) (List.mem_of_getElem? (i := 65) rfl)
theorem dX8_init_171 : Dc kX8_init 171 (.bipush 105) 2 173 := tX8_init_ok (171, .bipush 105, 2, 173) (List.mem_of_getElem? (i := 66) rfl)
theorem dX8_init_175 : Dc kX8_init 175 (.putfield 76) 3 178 := tX8_init_ok (175, .putfield 76, 3, 178) (List.mem_of_getElem? (i := 67) rfl)
theorem dX8_init_178 : Dc kX8_init 178 (.aload_n 0) 1 179 := tX8_init_ok (178, .aload_n 0, 1, 179) (List.mem_of_getElem? (i := 68) rfl)
theorem dX8_init_179 : Dc kX8_init 179 (.bipush 105) 2 181 := tX8_init_ok (179, .bipush 105, 2, 181) (List.mem_of_getElem? (i := 69) rfl)
theorem dX8_init_183 : Dc kX8_init 183 (.putfield 79) 3 186 := tX8_init_ok (183, .putfield 79, 3, 186) (List.mem_of_getElem? (i := 70) rfl)
theorem dX8_init_186 : Dc kX8_init 186 (.aload_n 0) 1 187 := tX8_init_ok (186, .aload_n 0, 1, 187) (List.mem_of_getElem? (i := 71) rfl)
theorem dX8_init_187 : Dc kX8_init 187 (.bipush 6) 2 189 := tX8_init_ok (187, .bipush 6, 2, 189) (List.mem_of_getElem? (i := 72) rfl)
theorem dX8_init_191 : Dc kX8_init 191 (.putfield 82) 3 194 := tX8_init_ok (191, .putfield 82, 3, 194) (List.mem_of_getElem? (i := 73) rfl)
theorem dX8_init_194 : Dc kX8_init 194 (.aload_n 0) 1 195 := tX8_init_ok (194, .aload_n 0, 1, 195) (List.mem_of_getElem? (i := 74) rfl)
theorem dX8_init_195 : Dc kX8_init 195 (.bipush 6) 2 197 := tX8_init_ok (195, .bipush 6, 2, 197) (List.mem_of_getElem? (i := 75) rfl)
theorem dX8_init_199 : Dc kX8_init 199 (.putfield 85) 3 202 := tX8_init_ok (199, .putfield 85, 3, 202) (List.mem_of_getElem? (i := 76) rfl)
theorem dX8_init_202 : Dc kX8_init 202 (.aload_n 0) 1 203 := tX8_init_ok (202, .aload_n 0, 1, 203) (List.mem_of_getElem? (i := 77) rfl)
theorem dX8_init_203 : Dc kX8_init 203 (.bipush 6) 2 205 := tX8_init_ok (203, .bipush 6, 2, 205) (List.mem_of_getElem? (i := 78) rfl)
theorem dX8_init_207 : Dc kX8_init 207 (.putfield 88) 3 210 := tX8_init_ok (207, .putfield 88, 3, 210) (List.mem_of_getElem? (i := 79) rfl)
theorem dX8_init_210 : Dc kX8_init 210 (.aload_n 0) 1 211 := tX8_init_ok (210, .aload_n 0, 1, 211) (List.mem_of_getElem? (i := 80) rfl)
theorem dX8_init_211 : Dc kX8_init 211 (.bipush 6) 2 213 := tX8_init_ok (211, .bipush 6, 2, 213) (List.mem_of_getElem? (i := 81) rfl)
theorem dX8_init_215 : Dc kX8_init 215 (.putfield 91) 3 218 := tX8_init_ok (215, .putfield 91, 3, 218) (List.mem_of_getElem? (i := 82) rfl)
theorem dX8_init_218 : Dc kX8_init 218 (.aload_n 0) 1 219 := tX8_init_ok (218, .aload_n 0, 1, 219) (List.mem_of_getElem? (i := 83) rfl)
theorem dX8_init_219 : Dc kX8_init 219 (.sipush 360) 3 222 := tX8_init_ok (219, .sipush 360, 3, 222) (List.mem_of_getElem? (i := 84) rfl)
theorem dX8_init_224 : Dc kX8_init 224 (.putfield 94) 3 227 := tX8_init_ok (224, .putfield 94, 3, 227) (List.mem_of_getElem? (i := 85) rfl)
theorem dX8_init_227 : Dc kX8_init 227 (.aload_n 0) 1 228 := tX8_init_ok (227, .aload_n 0, 1, 228) (List.mem_of_getElem? (i := 86) rfl)
theorem dX8_init_228 : Dc kX8_init 228 (.iconst (-1)) 1 229 := tX8_init_ok (228, .iconst (-1), 1, 229) (List.mem_of_getElem? (i := 87) rfl)
theorem dX8_init_229 : Dc kX8_init 229 (.putfield 98) 3 232 := tX8_init_ok (229, .putfield 98, 3, 232) (List.mem_of_getElem? (i := 88) rfl)
theorem dX8_init_232 : Dc kX8_init 232 (.iconst 0) 1 233 := tX8_init_ok (232, .iconst 0, 1, 233) (List.mem_of_getElem? (i := 89) rfl)
theorem dX8_init_233 : Dc kX8_init 233 (.istore_n 1) 1 234 := tX8_init_ok (233, .istore_n 1, 1, 234) (List.mem_of_getElem? (i := 90) rfl)
theorem dX8_init_234 : Dc kX8_init 234 (.iload_n 1) 1 235 := tX8_init_ok (234, .iload_n 1, 1, 235) (List.mem_of_getElem? (i := 91) rfl)
theorem dX8_init_235 : Dc kX8_init 235 (.bipush 6) 2 237 := tX8_init_ok (235, .bipush 6, 2, 237) (List.mem_of_getElem? (i := 92) rfl)
theorem dX8_init_237 : Dc kX8_init 237 (.if_icmp .ge 16) 3 240 := tX8_init_ok (237, .if_icmp .ge 16, 3, 240) (List.mem_of_getElem? (i := 93) rfl)
theorem dX8_init_240 : Dc kX8_init 240 (.aload_n 0) 1 241 := tX8_init_ok (240, .aload_n 0, 1, 241) (List.mem_of_getElem? (i := 94) rfl)
theorem dX8_init_241 : Dc kX8_init 241 (.getfield 88) 3 244 := tX8_init_ok (241, .getfield 88, 3, 244) (List.mem_of_getElem? (i := 95) rfl)
theorem dX8_init_244 : Dc kX8_init 244 (.iload_n 1) 1 245 := tX8_init_ok (244, .iload_n 1, 1, 245) (List.mem_of_getElem? (i := 96) rfl)
theorem dX8_init_245 : Dc kX8_init 245 (.iconst (-1)) 1 246 := tX8_init_ok (245, .iconst (-1), 1, 246) (List.mem_of_getElem? (i := 97) rfl)
theorem dX8_init_246 : Dc kX8_init 246 (.iastore) 1 247 := tX8_init_ok (246, .iastore, 1, 247) (List.mem_of_getElem? (i := 98) rfl)
theorem dX8_init_247 : Dc kX8_init 247 (.iinc 1 1) 3 250 := tX8_init_ok (247, .iinc 1 1, 3, 250) (List.mem_of_getElem? (i := 99) rfl)
theorem dX8_init_250 : Dc kX8_init 250 (.goto (-16)) 3 253 := tX8_init_ok (250, .goto (-16), 3, 253) (List.mem_of_getElem? (i := 100) rfl)
theorem dX8_init_253 : Dc kX8_init 253 (.return_) 1 254 := tX8_init_ok (253, .return_, 1, 254) (List.mem_of_getElem? (i := 101) rfl)
theorem wc_X8_init : Cond.code yX8_init kX8_init.1 kX8_init.2.2.1 kX8_init.2.2.2 ∈ lw_good := good_in (inT4 (List.mem_of_getElem? (i := 3) (by decide +kernel))) rfl
theorem wi_X8_init : Cond.instanceMethod yX8_init ∈ lw_good := good_in (inT4 (List.mem_of_getElem? (i := 2) (by decide +kernel))) rfl
theorem wz_8 : Cond.instantiable "ThawGivesModel" 43 ∈ lw_good := good_in (inT4 (List.mem_of_getElem? (i := 0) (by decide +kernel))) rfl
theorem wo_i : Cond.instanceMethod objectInit ∈ lw_good := good_in (inT1 (List.mem_of_getElem? (i := 23) (by decide +kernel))) rfl
theorem wo_c : Cond.code objectInit ⟨#[0xb1]⟩ 1 none ∈ lw_good := good_in (inT1 (List.mem_of_getElem? (i := 24) (by decide +kernel))) rfl
theorem wm_c : Cond.code Lib.Math.min.name Lib.Math.min.code 2 (some .int) ∈ lw_good := good_in (inT1 (List.mem_of_getElem? (i := 41) (by decide +kernel))) rfl
theorem wm_s : Cond.static Lib.Math.min.name ∈ lw_good := good_in (inT1 (List.mem_of_getElem? (i := 40) (by decide +kernel))) rfl
theorem war_boolean : Cond.arrayClass .boolean ∈ lw_good := good_in (inT4 (List.mem_of_getElem? (i := 135) (by decide +kernel))) rfl
theorem war_byte : Cond.arrayClass .byte ∈ lw_good := good_in (inT1 (List.mem_of_getElem? (i := 160) (by decide +kernel))) rfl
theorem war_int : Cond.arrayClass .int ∈ lw_good := good_in (inT1 (List.mem_of_getElem? (i := 62) (by decide +kernel))) rfl
theorem war_long : Cond.arrayClass .long ∈ lw_good := good_in (inT1 (List.mem_of_getElem? (i := 224) (by decide +kernel))) rfl
theorem mo_X7_5 : Cond.methodLink "ThawGives" 5 objectInit ∈ lw_good := good_in (inT1 (List.mem_of_getElem? (i := 22) (by decide +kernel))) rfl
theorem mm_X7_288 : Cond.methodLink "ThawGives" 288 Lib.Math.min.name ∈ lw_good := good_in (inT3 (List.mem_of_getElem? (i := 93) (by decide +kernel))) rfl
theorem mo_X0_3 : Cond.methodLink "ThawGives$Acts" 3 objectInit ∈ lw_good := good_in (inT1 (List.mem_of_getElem? (i := 186) (by decide +kernel))) rfl
theorem mo_X1_3 : Cond.methodLink "ThawGives$Pass" 3 objectInit ∈ lw_good := good_in (inT1 (List.mem_of_getElem? (i := 140) (by decide +kernel))) rfl
theorem mo_X2_3 : Cond.methodLink "ThawGives$Rows" 3 objectInit ∈ lw_good := good_in (inT1 (List.mem_of_getElem? (i := 38) (by decide +kernel))) rfl
theorem mm_X2_25 : Cond.methodLink "ThawGives$Rows" 25 Lib.Math.min.name ∈ lw_good := good_in (inT1 (List.mem_of_getElem? (i := 39) (by decide +kernel))) rfl
theorem mo_X3_3 : Cond.methodLink "ThawGives$Tape" 3 objectInit ∈ lw_good := good_in (inT1 (List.mem_of_getElem? (i := 211) (by decide +kernel))) rfl
theorem mo_X4_3 : Cond.methodLink "ThawGives$Text" 3 objectInit ∈ lw_good := good_in (inT1 (List.mem_of_getElem? (i := 134) (by decide +kernel))) rfl
theorem mo_X5_3 : Cond.methodLink "ThawGives$Thing" 3 objectInit ∈ lw_good := good_in (inT1 (List.mem_of_getElem? (i := 67) (by decide +kernel))) rfl
theorem mm_X5_60 : Cond.methodLink "ThawGives$Thing" 60 Lib.Math.min.name ∈ lw_good := good_in (inT2 (List.mem_of_getElem? (i := 74) (by decide +kernel))) rfl
theorem mo_X6_3 : Cond.methodLink "ThawGives$Winter" 3 objectInit ∈ lw_good := good_in (inT1 (List.mem_of_getElem? (i := 30) (by decide +kernel))) rfl
theorem mi_L_9 : Cond.methodLink "ThawGivesLaw" 9 yX7_init ∈ lw_good := good_in (inT1 (List.mem_of_getElem? (i := 19) (by decide +kernel))) rfl
theorem mi_L_12 : Cond.methodLink "ThawGivesLaw" 12 yX8_init ∈ lw_good := good_in (inT4 (List.mem_of_getElem? (i := 1) (by decide +kernel))) rfl
theorem mo_X8_3 : Cond.methodLink "ThawGivesModel" 3 objectInit ∈ lw_good := good_in (inT4 (List.mem_of_getElem? (i := 4) (by decide +kernel))) rfl
theorem mm_X8_212 : Cond.methodLink "ThawGivesModel" 212 Lib.Math.min.name ∈ lw_good := good_in (inT4 (List.mem_of_getElem? (i := 186) (by decide +kernel))) rfl
theorem mm_J1_38 : Cond.methodLink "java/lang/StringLatin1" 38 Lib.Math.min.name ∈ lw_good := good_in (inT2 (List.mem_of_getElem? (i := 221) (by decide +kernel))) rfl
theorem mm_J2_183 : Cond.methodLink "java/lang/StringUTF16" 183 Lib.Math.min.name ∈ lw_good := good_in (inT2 (List.mem_of_getElem? (i := 229) (by decide +kernel))) rfl
theorem mi_X7_13 : Cond.methodLinkNest "ThawGives" 13 yX6_init "ThawGives" ∈ lw_nest := nest_in (inT1 (List.mem_of_getElem? (i := 27) (by decide +kernel))) rfl
theorem mi_X7_27 : Cond.methodLinkNest "ThawGives" 27 yX5_init "ThawGives" ∈ lw_nest := nest_in (inT1 (List.mem_of_getElem? (i := 128) (by decide +kernel))) rfl
theorem mi_X7_40 : Cond.methodLinkNest "ThawGives" 40 yX4_init "ThawGives" ∈ lw_nest := nest_in (inT1 (List.mem_of_getElem? (i := 131) (by decide +kernel))) rfl
theorem mi_X7_55 : Cond.methodLinkNest "ThawGives" 55 yX1_init "ThawGives" ∈ lw_nest := nest_in (inT1 (List.mem_of_getElem? (i := 180) (by decide +kernel))) rfl
theorem mi_X7_62 : Cond.methodLinkNest "ThawGives" 62 yX0_init "ThawGives" ∈ lw_nest := nest_in (inT1 (List.mem_of_getElem? (i := 183) (by decide +kernel))) rfl
theorem mi_X7_73 : Cond.methodLinkNest "ThawGives" 73 yX3_init "ThawGives" ∈ lw_nest := nest_in (inT1 (List.mem_of_getElem? (i := 208) (by decide +kernel))) rfl
theorem mi_X4_27 : Cond.methodLinkNest "ThawGives$Text" 27 yX1_init "ThawGives" ∈ lw_nest := nest_in (inT1 (List.mem_of_getElem? (i := 137) (by decide +kernel))) rfl
theorem mi_X6_29 : Cond.methodLinkNest "ThawGives$Winter" 29 yX2_init "ThawGives" ∈ lw_nest := nest_in (inT1 (List.mem_of_getElem? (i := 35) (by decide +kernel))) rfl
theorem mi_X6_42 : Cond.methodLinkNest "ThawGives$Winter" 42 yX5_init "ThawGives" ∈ lw_nest := nest_in (inT1 (List.mem_of_getElem? (i := 64) (by decide +kernel))) rfl
theorem wk_X7_11 : Cond.classLink "ThawGives" 11 "ThawGives$Winter" ∈ lw_good := good_in (inT1 (List.mem_of_getElem? (i := 25) (by decide +kernel))) rfl
theorem wk_X7_25 : Cond.classLink "ThawGives" 25 "ThawGives$Thing" ∈ lw_good := good_in (inT1 (List.mem_of_getElem? (i := 127) (by decide +kernel))) rfl
theorem wk_X7_38 : Cond.classLink "ThawGives" 38 "ThawGives$Text" ∈ lw_good := good_in (inT1 (List.mem_of_getElem? (i := 129) (by decide +kernel))) rfl
theorem wk_X7_45 : Cond.classLink "ThawGives" 45 "ThawGives$Pass" ∈ lw_good := good_in (inT1 (List.mem_of_getElem? (i := 178) (by decide +kernel))) rfl
theorem wk_X7_60 : Cond.classLink "ThawGives" 60 "ThawGives$Acts" ∈ lw_good := good_in (inT1 (List.mem_of_getElem? (i := 181) (by decide +kernel))) rfl
theorem wk_X7_67 : Cond.classLink "ThawGives" 67 "ThawGives$Tape" ∈ lw_good := good_in (inT1 (List.mem_of_getElem? (i := 205) (by decide +kernel))) rfl
theorem wk_X4_25 : Cond.classLink "ThawGives$Text" 25 "ThawGives$Pass" ∈ lw_good := good_in (inT1 (List.mem_of_getElem? (i := 135) (by decide +kernel))) rfl
theorem wk_X6_9 : Cond.classLink "ThawGives$Winter" 9 "ThawGives$Thing" ∈ lw_good := good_in (inT1 (List.mem_of_getElem? (i := 31) (by decide +kernel))) rfl
theorem wk_X6_27 : Cond.classLink "ThawGives$Winter" 27 "ThawGives$Rows" ∈ lw_good := good_in (inT1 (List.mem_of_getElem? (i := 33) (by decide +kernel))) rfl
theorem wk_L_7 : Cond.classLink "ThawGivesLaw" 7 "ThawGives" ∈ lw_good := good_in (inT1 (List.mem_of_getElem? (i := 17) (by decide +kernel))) rfl
theorem wk_L_10 : Cond.classLink "ThawGivesLaw" 10 "ThawGivesModel" ∈ lw_good := good_in (inT3 (List.mem_of_getElem? (i := 239) (by decide +kernel))) rfl
def wo_1 (gc : Nat → ClassId) (h : Nat) : (Nat → Nat) → va_W := fun u => [(h, .inr (1, [.ref (u 0), .ref (u 1), .ref (u 2), .int 0, .int 0])),
  ((u 0), .inl (gc 0, 100, .inl (fun _ => 0))),
  ((u 1), .inl (gc 0, 100, .inl (fun _ => 0))),
  ((u 2), .inl (gc 0, 100, .inl (fun _ => 0)))]
set_option maxRecDepth 100000 in
set_option maxHeartbeats 4000000 in
theorem ok_X1_init (D : va_G) (gc : Nat → ClassId) (h : Nat) : Okc D gc yX1_init kX1_init 1 3 300 [.ref h] [(h, .inr (1, [.null, .null, .null, .int 0, .int 0]))] (wo_1 gc h) := sorry
def wo_0 (gc : Nat → ClassId) (h : Nat) : (Nat → Nat) → va_W := fun u => [(h, .inr (0, [.ref (u 0), .int 0, .int 0, .int 0, .int 0])),
  ((u 0), .inl (gc 0, 20, .inl (fun _ => 0)))]
set_option maxRecDepth 100000 in
set_option maxHeartbeats 4000000 in
theorem ok_X0_init (D : va_G) (gc : Nat → ClassId) (h : Nat) : Okc D gc yX0_init kX0_init 1 1 20 [.ref h] [(h, .inr (0, [.null, .int 0, .int 0, .int 0, .int 0]))] (wo_0 gc h) := sorry
def wo_2 (gc : Nat → ClassId) (h : Nat) (x1 : Int32) : (Nat → Nat) → va_W := fun u => [(h, .inr (2, [.int (if 10 < x1 then 10 else x1), .ref (u 0), .ref (u 1), .ref (u 2), .int 0])),
  ((u 0), .inl (gc 0, 10, .inl (fun _ => 0))),
  ((u 1), .inl (gc 0, 10, .inl (fun _ => 0))),
  ((u 2), .inl (gc 0, 10, .inl (fun _ => 0)))]
set_option maxRecDepth 100000 in
set_option maxHeartbeats 4000000 in
theorem ok_X2_init (D : va_G) (gc : Nat → ClassId) (h : Nat) (x1 : Int32) : Okc D gc yX2_init kX2_init 1 3 30 [.ref h, .int x1] [(h, .inr (2, [.int 0, .null, .null, .null, .int 0]))] (wo_2 gc h x1) := sorry
def wo_3 (gc : Nat → ClassId) (h : Nat) : (Nat → Nat) → va_W := fun u => [(h, .inr (3, [.ref (u 0), .int (-1 : Int32), .int 0])),
  ((u 0), .inl (gc 1, 60, .inr (.inl (fun _ => 0))))]
set_option maxRecDepth 100000 in
set_option maxHeartbeats 4000000 in
theorem ok_X3_init (D : va_G) (gc : Nat → ClassId) (h : Nat) : Okc D gc yX3_init kX3_init 1 1 60 [.ref h] [(h, .inr (3, [.null, .int 0, .int 0]))] (wo_3 gc h) := sorry
def wo_5 (gc : Nat → ClassId) (h : Nat) (x1 : Int32) : (Nat → Nat) → va_W := fun u => [(h, .inr (5, [.int x1, .int 0, .int 0, .int 0, .int 0, .ref (u 0), .ref (u 1)])),
  ((u 0), .inl (gc 0, 4, .inl (fun _ => 0))),
  ((u 1), .inl (gc 0, 6, .inl (fun _ => 0)))]
set_option maxRecDepth 100000 in
set_option maxHeartbeats 4000000 in
theorem ok_X5_init (D : va_G) (gc : Nat → ClassId) (h : Nat) (x1 : Int32) : Okc D gc yX5_init kX5_init 1 2 10 [.ref h, .int x1] [(h, .inr (5, [.int 0, .int 0, .int 0, .int 0, .int 0, .null, .null]))] (wo_5 gc h x1) := sorry
def wo_4 (gc : Nat → ClassId) (h : Nat) : (Nat → Nat) → va_W := fun u => [(h, .inr (4, [.ref (u 0), .int 0, .int 0, .int 0, .ref (u 1)])),
  ((u 0), .inl (gc 2, 100, .inl (fun _ => 0))),
  ((u 1), .inr (1, [.ref (u 2), .ref (u 3), .ref (u 4), .int 0, .int 0])),
  ((u 2), .inl (gc 0, 100, .inl (fun _ => 0))),
  ((u 3), .inl (gc 0, 100, .inl (fun _ => 0))),
  ((u 4), .inl (gc 0, 100, .inl (fun _ => 0)))]
set_option maxRecDepth 100000 in
set_option maxHeartbeats 4000000 in
theorem ok_X4_init (D : va_G) (gc : Nat → ClassId) (h : Nat) : Okc D gc yX4_init kX4_init 2 5 405 [.ref h] [(h, .inr (4, [.null, .int 0, .int 0, .int 0, .null]))] (wo_4 gc h) := sorry
def wo_6 (gc : Nat → ClassId) (h : Nat) : (Nat → Nat) → va_W := fun u => [(h, .inr (6, [.ref (u 0), .int 0, .int 0, .int (-1 : Int32), .ref (u 1), .ref (u 5), .ref (u 9)])),
  ((u 0), .inl (gc 4, 6, .inr (.inr (.inr (.inr (va_up (va_up (va_up (va_up (va_up (va_up (fun _ => none) (Int32.toNatClampNeg 0) (some (u 13))) (Int32.toNatClampNeg 1) (some (u 16))) (Int32.toNatClampNeg 2) (some (u 19))) (Int32.toNatClampNeg 3) (some (u 22))) (Int32.toNatClampNeg 4) (some (u 25))) (Int32.toNatClampNeg 5) (some (u 28)))))))),
  ((u 1), .inr (2, [.int (if 10 < 5 then 10 else 5), .ref (u 2), .ref (u 3), .ref (u 4), .int 0])),
  ((u 2), .inl (gc 0, 10, .inl (fun _ => 0))),
  ((u 3), .inl (gc 0, 10, .inl (fun _ => 0))),
  ((u 4), .inl (gc 0, 10, .inl (fun _ => 0))),
  ((u 5), .inr (2, [.int (if 10 < 10 then 10 else 10), .ref (u 6), .ref (u 7), .ref (u 8), .int 0])),
  ((u 6), .inl (gc 0, 10, .inl (fun _ => 0))),
  ((u 7), .inl (gc 0, 10, .inl (fun _ => 0))),
  ((u 8), .inl (gc 0, 10, .inl (fun _ => 0))),
  ((u 9), .inr (2, [.int (if 10 < 8 then 10 else 8), .ref (u 10), .ref (u 11), .ref (u 12), .int 0])),
  ((u 10), .inl (gc 0, 10, .inl (fun _ => 0))),
  ((u 11), .inl (gc 0, 10, .inl (fun _ => 0))),
  ((u 12), .inl (gc 0, 10, .inl (fun _ => 0))),
  ((u 13), .inr (5, [.int 0, .int 0, .int 0, .int 0, .int 0, .ref (u 14), .ref (u 15)])),
  ((u 14), .inl (gc 0, 4, .inl (fun _ => 0))),
  ((u 15), .inl (gc 0, 6, .inl (fun _ => 0))),
  ((u 16), .inr (5, [.int 1, .int 0, .int 0, .int 0, .int 0, .ref (u 17), .ref (u 18)])),
  ((u 17), .inl (gc 0, 4, .inl (fun _ => 0))),
  ((u 18), .inl (gc 0, 6, .inl (fun _ => 0))),
  ((u 19), .inr (5, [.int 2, .int 0, .int 0, .int 0, .int 0, .ref (u 20), .ref (u 21)])),
  ((u 20), .inl (gc 0, 4, .inl (fun _ => 0))),
  ((u 21), .inl (gc 0, 6, .inl (fun _ => 0))),
  ((u 22), .inr (5, [.int 3, .int 0, .int 0, .int 0, .int 0, .ref (u 23), .ref (u 24)])),
  ((u 23), .inl (gc 0, 4, .inl (fun _ => 0))),
  ((u 24), .inl (gc 0, 6, .inl (fun _ => 0))),
  ((u 25), .inr (5, [.int 4, .int 0, .int 0, .int 0, .int 0, .ref (u 26), .ref (u 27)])),
  ((u 26), .inl (gc 0, 4, .inl (fun _ => 0))),
  ((u 27), .inl (gc 0, 6, .inl (fun _ => 0))),
  ((u 28), .inr (5, [.int 5, .int 0, .int 0, .int 0, .int 0, .ref (u 29), .ref (u 30)])),
  ((u 29), .inl (gc 0, 4, .inl (fun _ => 0))),
  ((u 30), .inl (gc 0, 6, .inl (fun _ => 0)))]
set_option maxRecDepth 100000 in
set_option maxHeartbeats 4000000 in
theorem ok_X6_init (D : va_G) (gc : Nat → ClassId) (h : Nat) : Okc D gc yX6_init kX6_init 2 31 213 [.ref h] [(h, .inr (6, [.null, .int 0, .int 0, .int 0, .null, .null, .null]))] (wo_6 gc h) := sorry
def wo_7 (gc : Nat → ClassId) (h : Nat) : (Nat → Nat) → va_W := fun u => [(h, .inr (7, [.ref (u 0), .ref (u 32), .int 0, .ref (u 64), .ref (u 67), .ref (u 68), .ref (u 74), .int 0, .ref (u 75), .ref (u 79), .ref (u 81)])),
  ((u 0), .inr (6, [.ref (u 1), .int 0, .int 0, .int (-1 : Int32), .ref (u 2), .ref (u 6), .ref (u 10)])),
  ((u 1), .inl (gc 4, 6, .inr (.inr (.inr (.inr (va_up (va_up (va_up (va_up (va_up (va_up (fun _ => none) (Int32.toNatClampNeg 0) (some (u 14))) (Int32.toNatClampNeg 1) (some (u 17))) (Int32.toNatClampNeg 2) (some (u 20))) (Int32.toNatClampNeg 3) (some (u 23))) (Int32.toNatClampNeg 4) (some (u 26))) (Int32.toNatClampNeg 5) (some (u 29)))))))),
  ((u 2), .inr (2, [.int (if 10 < 5 then 10 else 5), .ref (u 3), .ref (u 4), .ref (u 5), .int 0])),
  ((u 3), .inl (gc 0, 10, .inl (fun _ => 0))),
  ((u 4), .inl (gc 0, 10, .inl (fun _ => 0))),
  ((u 5), .inl (gc 0, 10, .inl (fun _ => 0))),
  ((u 6), .inr (2, [.int (if 10 < 10 then 10 else 10), .ref (u 7), .ref (u 8), .ref (u 9), .int 0])),
  ((u 7), .inl (gc 0, 10, .inl (fun _ => 0))),
  ((u 8), .inl (gc 0, 10, .inl (fun _ => 0))),
  ((u 9), .inl (gc 0, 10, .inl (fun _ => 0))),
  ((u 10), .inr (2, [.int (if 10 < 8 then 10 else 8), .ref (u 11), .ref (u 12), .ref (u 13), .int 0])),
  ((u 11), .inl (gc 0, 10, .inl (fun _ => 0))),
  ((u 12), .inl (gc 0, 10, .inl (fun _ => 0))),
  ((u 13), .inl (gc 0, 10, .inl (fun _ => 0))),
  ((u 14), .inr (5, [.int 0, .int 0, .int 0, .int 0, .int 0, .ref (u 15), .ref (u 16)])),
  ((u 15), .inl (gc 0, 4, .inl (fun _ => 0))),
  ((u 16), .inl (gc 0, 6, .inl (fun _ => 0))),
  ((u 17), .inr (5, [.int 1, .int 0, .int 0, .int 0, .int 0, .ref (u 18), .ref (u 19)])),
  ((u 18), .inl (gc 0, 4, .inl (fun _ => 0))),
  ((u 19), .inl (gc 0, 6, .inl (fun _ => 0))),
  ((u 20), .inr (5, [.int 2, .int 0, .int 0, .int 0, .int 0, .ref (u 21), .ref (u 22)])),
  ((u 21), .inl (gc 0, 4, .inl (fun _ => 0))),
  ((u 22), .inl (gc 0, 6, .inl (fun _ => 0))),
  ((u 23), .inr (5, [.int 3, .int 0, .int 0, .int 0, .int 0, .ref (u 24), .ref (u 25)])),
  ((u 24), .inl (gc 0, 4, .inl (fun _ => 0))),
  ((u 25), .inl (gc 0, 6, .inl (fun _ => 0))),
  ((u 26), .inr (5, [.int 4, .int 0, .int 0, .int 0, .int 0, .ref (u 27), .ref (u 28)])),
  ((u 27), .inl (gc 0, 4, .inl (fun _ => 0))),
  ((u 28), .inl (gc 0, 6, .inl (fun _ => 0))),
  ((u 29), .inr (5, [.int 5, .int 0, .int 0, .int 0, .int 0, .ref (u 30), .ref (u 31)])),
  ((u 30), .inl (gc 0, 4, .inl (fun _ => 0))),
  ((u 31), .inl (gc 0, 6, .inl (fun _ => 0))),
  ((u 32), .inr (6, [.ref (u 33), .int 0, .int 0, .int (-1 : Int32), .ref (u 34), .ref (u 38), .ref (u 42)])),
  ((u 33), .inl (gc 4, 6, .inr (.inr (.inr (.inr (va_up (va_up (va_up (va_up (va_up (va_up (fun _ => none) (Int32.toNatClampNeg 0) (some (u 46))) (Int32.toNatClampNeg 1) (some (u 49))) (Int32.toNatClampNeg 2) (some (u 52))) (Int32.toNatClampNeg 3) (some (u 55))) (Int32.toNatClampNeg 4) (some (u 58))) (Int32.toNatClampNeg 5) (some (u 61)))))))),
  ((u 34), .inr (2, [.int (if 10 < 5 then 10 else 5), .ref (u 35), .ref (u 36), .ref (u 37), .int 0])),
  ((u 35), .inl (gc 0, 10, .inl (fun _ => 0))),
  ((u 36), .inl (gc 0, 10, .inl (fun _ => 0))),
  ((u 37), .inl (gc 0, 10, .inl (fun _ => 0))),
  ((u 38), .inr (2, [.int (if 10 < 10 then 10 else 10), .ref (u 39), .ref (u 40), .ref (u 41), .int 0])),
  ((u 39), .inl (gc 0, 10, .inl (fun _ => 0))),
  ((u 40), .inl (gc 0, 10, .inl (fun _ => 0))),
  ((u 41), .inl (gc 0, 10, .inl (fun _ => 0))),
  ((u 42), .inr (2, [.int (if 10 < 8 then 10 else 8), .ref (u 43), .ref (u 44), .ref (u 45), .int 0])),
  ((u 43), .inl (gc 0, 10, .inl (fun _ => 0))),
  ((u 44), .inl (gc 0, 10, .inl (fun _ => 0))),
  ((u 45), .inl (gc 0, 10, .inl (fun _ => 0))),
  ((u 46), .inr (5, [.int 0, .int 0, .int 0, .int 0, .int 0, .ref (u 47), .ref (u 48)])),
  ((u 47), .inl (gc 0, 4, .inl (fun _ => 0))),
  ((u 48), .inl (gc 0, 6, .inl (fun _ => 0))),
  ((u 49), .inr (5, [.int 1, .int 0, .int 0, .int 0, .int 0, .ref (u 50), .ref (u 51)])),
  ((u 50), .inl (gc 0, 4, .inl (fun _ => 0))),
  ((u 51), .inl (gc 0, 6, .inl (fun _ => 0))),
  ((u 52), .inr (5, [.int 2, .int 0, .int 0, .int 0, .int 0, .ref (u 53), .ref (u 54)])),
  ((u 53), .inl (gc 0, 4, .inl (fun _ => 0))),
  ((u 54), .inl (gc 0, 6, .inl (fun _ => 0))),
  ((u 55), .inr (5, [.int 3, .int 0, .int 0, .int 0, .int 0, .ref (u 56), .ref (u 57)])),
  ((u 56), .inl (gc 0, 4, .inl (fun _ => 0))),
  ((u 57), .inl (gc 0, 6, .inl (fun _ => 0))),
  ((u 58), .inr (5, [.int 4, .int 0, .int 0, .int 0, .int 0, .ref (u 59), .ref (u 60)])),
  ((u 59), .inl (gc 0, 4, .inl (fun _ => 0))),
  ((u 60), .inl (gc 0, 6, .inl (fun _ => 0))),
  ((u 61), .inr (5, [.int 5, .int 0, .int 0, .int 0, .int 0, .ref (u 62), .ref (u 63)])),
  ((u 62), .inl (gc 0, 4, .inl (fun _ => 0))),
  ((u 63), .inl (gc 0, 6, .inl (fun _ => 0))),
  ((u 64), .inr (5, [.int 0, .int 0, .int 0, .int 0, .int 0, .ref (u 65), .ref (u 66)])),
  ((u 65), .inl (gc 0, 4, .inl (fun _ => 0))),
  ((u 66), .inl (gc 0, 6, .inl (fun _ => 0))),
  ((u 67), .inl (gc 0, 6, .inl (fun _ => 0))),
  ((u 68), .inr (4, [.ref (u 69), .int 0, .int 0, .int 0, .ref (u 70)])),
  ((u 69), .inl (gc 2, 100, .inl (fun _ => 0))),
  ((u 70), .inr (1, [.ref (u 71), .ref (u 72), .ref (u 73), .int 0, .int 0])),
  ((u 71), .inl (gc 0, 100, .inl (fun _ => 0))),
  ((u 72), .inl (gc 0, 100, .inl (fun _ => 0))),
  ((u 73), .inl (gc 0, 100, .inl (fun _ => 0))),
  ((u 74), .inl (gc 5, 6, .inr (.inr (.inr (.inr (va_up (va_up (va_up (va_up (va_up (va_up (fun _ => none) (Int32.toNatClampNeg 0) (some (u 82))) (Int32.toNatClampNeg 1) (some (u 86))) (Int32.toNatClampNeg 2) (some (u 90))) (Int32.toNatClampNeg 3) (some (u 94))) (Int32.toNatClampNeg 4) (some (u 98))) (Int32.toNatClampNeg 5) (some (u 102)))))))),
  ((u 75), .inr (1, [.ref (u 76), .ref (u 77), .ref (u 78), .int 0, .int 0])),
  ((u 76), .inl (gc 0, 100, .inl (fun _ => 0))),
  ((u 77), .inl (gc 0, 100, .inl (fun _ => 0))),
  ((u 78), .inl (gc 0, 100, .inl (fun _ => 0))),
  ((u 79), .inr (0, [.ref (u 80), .int 0, .int 0, .int 0, .int 0])),
  ((u 80), .inl (gc 0, 20, .inl (fun _ => 0))),
  ((u 81), .inl (gc 6, 6, .inr (.inr (.inr (.inr (va_up (va_up (va_up (va_up (va_up (va_up (fun _ => none) (Int32.toNatClampNeg 0) (some (u 106))) (Int32.toNatClampNeg 1) (some (u 108))) (Int32.toNatClampNeg 2) (some (u 110))) (Int32.toNatClampNeg 3) (some (u 112))) (Int32.toNatClampNeg 4) (some (u 114))) (Int32.toNatClampNeg 5) (some (u 116)))))))),
  ((u 82), .inr (1, [.ref (u 83), .ref (u 84), .ref (u 85), .int 0, .int 0])),
  ((u 83), .inl (gc 0, 100, .inl (fun _ => 0))),
  ((u 84), .inl (gc 0, 100, .inl (fun _ => 0))),
  ((u 85), .inl (gc 0, 100, .inl (fun _ => 0))),
  ((u 86), .inr (1, [.ref (u 87), .ref (u 88), .ref (u 89), .int 0, .int 0])),
  ((u 87), .inl (gc 0, 100, .inl (fun _ => 0))),
  ((u 88), .inl (gc 0, 100, .inl (fun _ => 0))),
  ((u 89), .inl (gc 0, 100, .inl (fun _ => 0))),
  ((u 90), .inr (1, [.ref (u 91), .ref (u 92), .ref (u 93), .int 0, .int 0])),
  ((u 91), .inl (gc 0, 100, .inl (fun _ => 0))),
  ((u 92), .inl (gc 0, 100, .inl (fun _ => 0))),
  ((u 93), .inl (gc 0, 100, .inl (fun _ => 0))),
  ((u 94), .inr (1, [.ref (u 95), .ref (u 96), .ref (u 97), .int 0, .int 0])),
  ((u 95), .inl (gc 0, 100, .inl (fun _ => 0))),
  ((u 96), .inl (gc 0, 100, .inl (fun _ => 0))),
  ((u 97), .inl (gc 0, 100, .inl (fun _ => 0))),
  ((u 98), .inr (1, [.ref (u 99), .ref (u 100), .ref (u 101), .int 0, .int 0])),
  ((u 99), .inl (gc 0, 100, .inl (fun _ => 0))),
  ((u 100), .inl (gc 0, 100, .inl (fun _ => 0))),
  ((u 101), .inl (gc 0, 100, .inl (fun _ => 0))),
  ((u 102), .inr (1, [.ref (u 103), .ref (u 104), .ref (u 105), .int 0, .int 0])),
  ((u 103), .inl (gc 0, 100, .inl (fun _ => 0))),
  ((u 104), .inl (gc 0, 100, .inl (fun _ => 0))),
  ((u 105), .inl (gc 0, 100, .inl (fun _ => 0))),
  ((u 106), .inr (3, [.ref (u 107), .int (-1 : Int32), .int 0])),
  ((u 107), .inl (gc 1, 60, .inr (.inl (fun _ => 0)))),
  ((u 108), .inr (3, [.ref (u 109), .int (-1 : Int32), .int 0])),
  ((u 109), .inl (gc 1, 60, .inr (.inl (fun _ => 0)))),
  ((u 110), .inr (3, [.ref (u 111), .int (-1 : Int32), .int 0])),
  ((u 111), .inl (gc 1, 60, .inr (.inl (fun _ => 0)))),
  ((u 112), .inr (3, [.ref (u 113), .int (-1 : Int32), .int 0])),
  ((u 113), .inl (gc 1, 60, .inr (.inl (fun _ => 0)))),
  ((u 114), .inr (3, [.ref (u 115), .int (-1 : Int32), .int 0])),
  ((u 115), .inl (gc 1, 60, .inr (.inl (fun _ => 0)))),
  ((u 116), .inr (3, [.ref (u 117), .int (-1 : Int32), .int 0])),
  ((u 117), .inl (gc 1, 60, .inr (.inl (fun _ => 0))))]
set_option maxRecDepth 100000 in
set_option maxHeartbeats 4000000 in
theorem ok_X7_init (D : va_G) (gc : Nat → ClassId) (h : Nat) : Okc D gc yX7_init kX7_init 3 118 3423 [.ref h] [(h, .inr (7, [.null, .null, .int 0, .null, .null, .null, .null, .int 0, .null, .null, .null]))] (wo_7 gc h) := sorry
def wo_8 (gc : Nat → ClassId) (h : Nat) : (Nat → Nat) → va_W := fun u => [(h, .inr (8, [.int 0, .ref (u 0), .ref (u 1), .ref (u 2), .ref (u 3), .ref (u 4), .int 0, .int 0, .ref (u 5), .int 0, .int 0, .int 0, .int 0, .int 0, .int (-1 : Int32), .ref (u 6), .ref (u 7), .ref (u 8), .ref (u 9), .ref (u 10), .ref (u 11), .int 0, .ref (u 12), .int 0, .ref (u 13), .ref (u 14), .ref (u 15), .int 0, .ref (u 16), .ref (u 17), .int 0, .ref (u 18), .ref (u 19), .int 0, .ref (u 20), .int 0, .ref (u 21), .ref (u 22), .ref (u 23), .ref (u 24), .ref (u 25), .ref (u 26), .ref (u 27)])),
  ((u 0), .inl (gc 0, 6, .inl (fun _ => 0))),
  ((u 1), .inl (gc 0, 6, .inl (fun _ => 0))),
  ((u 2), .inl (gc 0, 6, .inl (fun _ => 0))),
  ((u 3), .inl (gc 0, 6, .inl (fun _ => 0))),
  ((u 4), .inl (gc 0, 24, .inl (fun _ => 0))),
  ((u 5), .inl (gc 0, 100, .inl (fun _ => 0))),
  ((u 6), .inl (gc 0, 6, .inl (fun _ => 0))),
  ((u 7), .inl (gc 0, 61, .inl (fun _ => 0))),
  ((u 8), .inl (gc 0, 61, .inl (fun _ => 0))),
  ((u 9), .inl (gc 0, 61, .inl (fun _ => 0))),
  ((u 10), .inl (gc 0, 61, .inl (fun _ => 0))),
  ((u 11), .inl (gc 0, 800, .inl (fun _ => 0))),
  ((u 12), .inl (gc 3, 110, .inl (fun _ => 0))),
  ((u 13), .inl (gc 0, 5, .inl (fun _ => 0))),
  ((u 14), .inl (gc 0, 5, .inl (fun _ => 0))),
  ((u 15), .inl (gc 0, 5, .inl (fun _ => 0))),
  ((u 16), .inl (gc 0, 10, .inl (fun _ => 0))),
  ((u 17), .inl (gc 0, 10, .inl (fun _ => 0))),
  ((u 18), .inl (gc 0, 8, .inl (fun _ => 0))),
  ((u 19), .inl (gc 0, 8, .inl (fun _ => 0))),
  ((u 20), .inl (gc 0, 20, .inl (fun _ => 0))),
  ((u 21), .inl (gc 0, 105, .inl (fun _ => 0))),
  ((u 22), .inl (gc 0, 105, .inl (fun _ => 0))),
  ((u 23), .inl (gc 0, 6, .inl (fun _ => 0))),
  ((u 24), .inl (gc 0, 6, .inl (fun _ => 0))),
  ((u 25), .inl (gc 0, 6, .inl (upd (upd (upd (upd (upd (upd (fun _ => 0) (Int32.toNatClampNeg 0) (-1 : Int32)) (Int32.toNatClampNeg 1) (-1 : Int32)) (Int32.toNatClampNeg 2) (-1 : Int32)) (Int32.toNatClampNeg 3) (-1 : Int32)) (Int32.toNatClampNeg 4) (-1 : Int32)) (Int32.toNatClampNeg 5) (-1 : Int32)))),
  ((u 26), .inl (gc 0, 6, .inl (fun _ => 0))),
  ((u 27), .inl (gc 1, 360, .inr (.inl (fun _ => 0))))]
set_option maxRecDepth 100000 in
set_option maxHeartbeats 4000000 in
theorem ok_X8_init (D : va_G) (gc : Nat → ClassId) (h : Nat) : Okc D gc yX8_init kX8_init 1 28 1973 [.ref h] [(h, .inr (8, [.int 0, .null, .null, .null, .null, .null, .int 0, .int 0, .null, .int 0, .int 0, .int 0, .int 0, .int 0, .int 0, .null, .null, .null, .null, .null, .null, .int 0, .null, .int 0, .null, .null, .null, .int 0, .null, .null, .int 0, .null, .null, .int 0, .null, .int 0, .null, .null, .null, .null, .null, .null, .null]))] (wo_8 gc h) := by
  refine Okc.of (by decide) rfl rfl (Nat.le_of_ble_eq_true rfl) (lv := [some (.ref h), none]) rfl ?_
  refine w_aload_n dX8_init_0 rfl ?_
  refine w_obj dX8_init_1 mo_X8_3 wo_i wo_c (Nat.le_of_ble_eq_true rfl) (Nat.le_of_ble_eq_true rfl) (Nat.le_of_ble_eq_true rfl) ?_
  refine w_aload_n dX8_init_4 rfl ?_
  refine w_bipush dX8_init_5 cb_6 ?_
  refine w_newa (t := 0) (N := 6) (a0 := (6, .inl (fun _ => 0))) dX8_init_7 rfl war_int (fun _ => rfl) (fun _ => rfl) (by decide) (by decide) (Nat.le_of_ble_eq_true rfl) (Nat.le_of_ble_eq_true rfl) (Nat.le_of_ble_eq_true rfl) (fun q1 => ?_)
  refine w_putF (q0 := 0) (ci := 8) (T := TX8) (CC := "ThawGivesModel") (N := 43) (j := 1) (ty := .array .int) (ty0 := tyX8) dX8_init_9 rfl uw_8 tyX8_ok nmX8 rfl (by decide) rfl rfl (by decide) rfl (by decide +kernel) rfl rfl fl_X8_9 (lt_b rfl) ?_
  refine w_eq (ws' := [(h, .inr (8, [.int 0, .ref q1, .null, .null, .null, .null, .int 0, .int 0, .null, .int 0, .int 0, .int 0, .int 0, .int 0, .int 0, .null, .null, .null, .null, .null, .null, .int 0, .null, .int 0, .null, .null, .null, .int 0, .null, .null, .int 0, .null, .null, .int 0, .null, .int 0, .null, .null, .null, .null, .null, .null, .null])), (q1, .inl (gc 0, 6, .inl (fun _ => 0)))]) rfl ?_
  refine w_aload_n dX8_init_12 rfl ?_
  refine w_bipush dX8_init_13 cb_6 ?_
  refine w_newa (t := 0) (N := 6) (a0 := (6, .inl (fun _ => 0))) dX8_init_15 rfl war_int (fun _ => rfl) (fun _ => rfl) (by decide) (by decide) (Nat.le_of_ble_eq_true rfl) (Nat.le_of_ble_eq_true rfl) (Nat.le_of_ble_eq_true rfl) (fun q2 => ?_)
  refine w_putF (q0 := 0) (ci := 8) (T := TX8) (CC := "ThawGivesModel") (N := 43) (j := 2) (ty := .array .int) (ty0 := tyX8) dX8_init_17 rfl uw_8 tyX8_ok nmX8 rfl (by decide) rfl rfl (by decide) rfl (by decide +kernel) rfl rfl fl_X8_15 (lt_b rfl) ?_
  refine w_eq (ws' := [(h, .inr (8, [.int 0, .ref q1, .ref q2, .null, .null, .null, .int 0, .int 0, .null, .int 0, .int 0, .int 0, .int 0, .int 0, .int 0, .null, .null, .null, .null, .null, .null, .int 0, .null, .int 0, .null, .null, .null, .int 0, .null, .null, .int 0, .null, .null, .int 0, .null, .int 0, .null, .null, .null, .null, .null, .null, .null])), (q1, .inl (gc 0, 6, .inl (fun _ => 0))), (q2, .inl (gc 0, 6, .inl (fun _ => 0)))]) rfl ?_
  refine w_aload_n dX8_init_20 rfl ?_
  refine w_bipush dX8_init_21 cb_6 ?_
  refine w_newa (t := 0) (N := 6) (a0 := (6, .inl (fun _ => 0))) dX8_init_23 rfl war_int (fun _ => rfl) (fun _ => rfl) (by decide) (by decide) (Nat.le_of_ble_eq_true rfl) (Nat.le_of_ble_eq_true rfl) (Nat.le_of_ble_eq_true rfl) (fun q3 => ?_)
  refine w_putF (q0 := 0) (ci := 8) (T := TX8) (CC := "ThawGivesModel") (N := 43) (j := 3) (ty := .array .int) (ty0 := tyX8) dX8_init_25 rfl uw_8 tyX8_ok nmX8 rfl (by decide) rfl rfl (by decide) rfl (by decide +kernel) rfl rfl fl_X8_18 (lt_b rfl) ?_
  refine w_eq (ws' := [(h, .inr (8, [.int 0, .ref q1, .ref q2, .ref q3, .null, .null, .int 0, .int 0, .null, .int 0, .int 0, .int 0, .int 0, .int 0, .int 0, .null, .null, .null, .null, .null, .null, .int 0, .null, .int 0, .null, .null, .null, .int 0, .null, .null, .int 0, .null, .null, .int 0, .null, .int 0, .null, .null, .null, .null, .null, .null, .null])), (q1, .inl (gc 0, 6, .inl (fun _ => 0))), (q2, .inl (gc 0, 6, .inl (fun _ => 0))), (q3, .inl (gc 0, 6, .inl (fun _ => 0)))]) rfl ?_
  refine w_aload_n dX8_init_28 rfl ?_
  refine w_bipush dX8_init_29 cb_6 ?_
  refine w_newa (t := 0) (N := 6) (a0 := (6, .inl (fun _ => 0))) dX8_init_31 rfl war_int (fun _ => rfl) (fun _ => rfl) (by decide) (by decide) (Nat.le_of_ble_eq_true rfl) (Nat.le_of_ble_eq_true rfl) (Nat.le_of_ble_eq_true rfl) (fun q4 => ?_)
  refine w_putF (q0 := 0) (ci := 8) (T := TX8) (CC := "ThawGivesModel") (N := 43) (j := 4) (ty := .array .int) (ty0 := tyX8) dX8_init_33 rfl uw_8 tyX8_ok nmX8 rfl (by decide) rfl rfl (by decide) rfl (by decide +kernel) rfl rfl fl_X8_21 (lt_b rfl) ?_
  refine w_eq (ws' := [(h, .inr (8, [.int 0, .ref q1, .ref q2, .ref q3, .ref q4, .null, .int 0, .int 0, .null, .int 0, .int 0, .int 0, .int 0, .int 0, .int 0, .null, .null, .null, .null, .null, .null, .int 0, .null, .int 0, .null, .null, .null, .int 0, .null, .null, .int 0, .null, .null, .int 0, .null, .int 0, .null, .null, .null, .null, .null, .null, .null])), (q1, .inl (gc 0, 6, .inl (fun _ => 0))), (q2, .inl (gc 0, 6, .inl (fun _ => 0))), (q3, .inl (gc 0, 6, .inl (fun _ => 0))), (q4, .inl (gc 0, 6, .inl (fun _ => 0)))]) rfl ?_
  refine w_aload_n dX8_init_36 rfl ?_
  refine w_bipush dX8_init_37 cb_24 ?_
  refine w_newa (t := 0) (N := 24) (a0 := (24, .inl (fun _ => 0))) dX8_init_39 rfl war_int (fun _ => rfl) (fun _ => rfl) (by decide) (by decide) (Nat.le_of_ble_eq_true rfl) (Nat.le_of_ble_eq_true rfl) (Nat.le_of_ble_eq_true rfl) (fun q5 => ?_)
  refine w_putF (q0 := 0) (ci := 8) (T := TX8) (CC := "ThawGivesModel") (N := 43) (j := 5) (ty := .array .int) (ty0 := tyX8) dX8_init_41 rfl uw_8 tyX8_ok nmX8 rfl (by decide) rfl rfl (by decide) rfl (by decide +kernel) rfl rfl fl_X8_24 (lt_b rfl) ?_
  refine w_eq (ws' := [(h, .inr (8, [.int 0, .ref q1, .ref q2, .ref q3, .ref q4, .ref q5, .int 0, .int 0, .null, .int 0, .int 0, .int 0, .int 0, .int 0, .int 0, .null, .null, .null, .null, .null, .null, .int 0, .null, .int 0, .null, .null, .null, .int 0, .null, .null, .int 0, .null, .null, .int 0, .null, .int 0, .null, .null, .null, .null, .null, .null, .null])), (q1, .inl (gc 0, 6, .inl (fun _ => 0))), (q2, .inl (gc 0, 6, .inl (fun _ => 0))), (q3, .inl (gc 0, 6, .inl (fun _ => 0))), (q4, .inl (gc 0, 6, .inl (fun _ => 0))), (q5, .inl (gc 0, 24, .inl (fun _ => 0)))]) rfl ?_
  refine w_aload_n dX8_init_44 rfl ?_
  refine w_bipush dX8_init_45 cb_100 ?_
  refine w_newa (t := 0) (N := 100) (a0 := (100, .inl (fun _ => 0))) dX8_init_47 rfl war_int (fun _ => rfl) (fun _ => rfl) (by decide) (by decide) (Nat.le_of_ble_eq_true rfl) (Nat.le_of_ble_eq_true rfl) (Nat.le_of_ble_eq_true rfl) (fun q6 => ?_)
  refine w_putF (q0 := 0) (ci := 8) (T := TX8) (CC := "ThawGivesModel") (N := 43) (j := 8) (ty := .array .int) (ty0 := tyX8) dX8_init_49 rfl uw_8 tyX8_ok nmX8 rfl (by decide) rfl rfl (by decide) rfl (by decide +kernel) rfl rfl fl_X8_27 (lt_b rfl) ?_
  refine w_eq (ws' := [(h, .inr (8, [.int 0, .ref q1, .ref q2, .ref q3, .ref q4, .ref q5, .int 0, .int 0, .ref q6, .int 0, .int 0, .int 0, .int 0, .int 0, .int 0, .null, .null, .null, .null, .null, .null, .int 0, .null, .int 0, .null, .null, .null, .int 0, .null, .null, .int 0, .null, .null, .int 0, .null, .int 0, .null, .null, .null, .null, .null, .null, .null])), (q1, .inl (gc 0, 6, .inl (fun _ => 0))), (q2, .inl (gc 0, 6, .inl (fun _ => 0))), (q3, .inl (gc 0, 6, .inl (fun _ => 0))), (q4, .inl (gc 0, 6, .inl (fun _ => 0))), (q5, .inl (gc 0, 24, .inl (fun _ => 0))), (q6, .inl (gc 0, 100, .inl (fun _ => 0)))]) rfl ?_
  refine w_aload_n dX8_init_52 rfl ?_
  refine w_bipush dX8_init_53 cb_6 ?_
  refine w_newa (t := 0) (N := 6) (a0 := (6, .inl (fun _ => 0))) dX8_init_55 rfl war_int (fun _ => rfl) (fun _ => rfl) (by decide) (by decide) (Nat.le_of_ble_eq_true rfl) (Nat.le_of_ble_eq_true rfl) (Nat.le_of_ble_eq_true rfl) (fun q7 => ?_)
  refine w_putF (q0 := 0) (ci := 8) (T := TX8) (CC := "ThawGivesModel") (N := 43) (j := 15) (ty := .array .int) (ty0 := tyX8) dX8_init_57 rfl uw_8 tyX8_ok nmX8 rfl (by decide) rfl rfl (by decide) rfl (by decide +kernel) rfl rfl fl_X8_30 (lt_b rfl) ?_
  refine w_eq (ws' := [(h, .inr (8, [.int 0, .ref q1, .ref q2, .ref q3, .ref q4, .ref q5, .int 0, .int 0, .ref q6, .int 0, .int 0, .int 0, .int 0, .int 0, .int 0, .ref q7, .null, .null, .null, .null, .null, .int 0, .null, .int 0, .null, .null, .null, .int 0, .null, .null, .int 0, .null, .null, .int 0, .null, .int 0, .null, .null, .null, .null, .null, .null, .null])), (q1, .inl (gc 0, 6, .inl (fun _ => 0))), (q2, .inl (gc 0, 6, .inl (fun _ => 0))), (q3, .inl (gc 0, 6, .inl (fun _ => 0))), (q4, .inl (gc 0, 6, .inl (fun _ => 0))), (q5, .inl (gc 0, 24, .inl (fun _ => 0))), (q6, .inl (gc 0, 100, .inl (fun _ => 0))), (q7, .inl (gc 0, 6, .inl (fun _ => 0)))]) rfl ?_
  refine w_aload_n dX8_init_60 rfl ?_
  refine w_bipush dX8_init_61 cb_61 ?_
  refine w_newa (t := 0) (N := 61) (a0 := (61, .inl (fun _ => 0))) dX8_init_63 rfl war_int (fun _ => rfl) (fun _ => rfl) (by decide) (by decide) (Nat.le_of_ble_eq_true rfl) (Nat.le_of_ble_eq_true rfl) (Nat.le_of_ble_eq_true rfl) (fun q8 => ?_)
  refine w_putF (q0 := 0) (ci := 8) (T := TX8) (CC := "ThawGivesModel") (N := 43) (j := 16) (ty := .array .int) (ty0 := tyX8) dX8_init_65 rfl uw_8 tyX8_ok nmX8 rfl (by decide) rfl rfl (by decide) rfl (by decide +kernel) rfl rfl fl_X8_33 (lt_b rfl) ?_
  refine w_eq (ws' := [(h, .inr (8, [.int 0, .ref q1, .ref q2, .ref q3, .ref q4, .ref q5, .int 0, .int 0, .ref q6, .int 0, .int 0, .int 0, .int 0, .int 0, .int 0, .ref q7, .ref q8, .null, .null, .null, .null, .int 0, .null, .int 0, .null, .null, .null, .int 0, .null, .null, .int 0, .null, .null, .int 0, .null, .int 0, .null, .null, .null, .null, .null, .null, .null])), (q1, .inl (gc 0, 6, .inl (fun _ => 0))), (q2, .inl (gc 0, 6, .inl (fun _ => 0))), (q3, .inl (gc 0, 6, .inl (fun _ => 0))), (q4, .inl (gc 0, 6, .inl (fun _ => 0))), (q5, .inl (gc 0, 24, .inl (fun _ => 0))), (q6, .inl (gc 0, 100, .inl (fun _ => 0))), (q7, .inl (gc 0, 6, .inl (fun _ => 0))), (q8, .inl (gc 0, 61, .inl (fun _ => 0)))]) rfl ?_
  refine w_aload_n dX8_init_68 rfl ?_
  refine w_bipush dX8_init_69 cb_61 ?_
  refine w_newa (t := 0) (N := 61) (a0 := (61, .inl (fun _ => 0))) dX8_init_71 rfl war_int (fun _ => rfl) (fun _ => rfl) (by decide) (by decide) (Nat.le_of_ble_eq_true rfl) (Nat.le_of_ble_eq_true rfl) (Nat.le_of_ble_eq_true rfl) (fun q9 => ?_)
  refine w_putF (q0 := 0) (ci := 8) (T := TX8) (CC := "ThawGivesModel") (N := 43) (j := 17) (ty := .array .int) (ty0 := tyX8) dX8_init_73 rfl uw_8 tyX8_ok nmX8 rfl (by decide) rfl rfl (by decide) rfl (by decide +kernel) rfl rfl fl_X8_36 (lt_b rfl) ?_
  refine w_eq (ws' := [(h, .inr (8, [.int 0, .ref q1, .ref q2, .ref q3, .ref q4, .ref q5, .int 0, .int 0, .ref q6, .int 0, .int 0, .int 0, .int 0, .int 0, .int 0, .ref q7, .ref q8, .ref q9, .null, .null, .null, .int 0, .null, .int 0, .null, .null, .null, .int 0, .null, .null, .int 0, .null, .null, .int 0, .null, .int 0, .null, .null, .null, .null, .null, .null, .null])), (q1, .inl (gc 0, 6, .inl (fun _ => 0))), (q2, .inl (gc 0, 6, .inl (fun _ => 0))), (q3, .inl (gc 0, 6, .inl (fun _ => 0))), (q4, .inl (gc 0, 6, .inl (fun _ => 0))), (q5, .inl (gc 0, 24, .inl (fun _ => 0))), (q6, .inl (gc 0, 100, .inl (fun _ => 0))), (q7, .inl (gc 0, 6, .inl (fun _ => 0))), (q8, .inl (gc 0, 61, .inl (fun _ => 0))), (q9, .inl (gc 0, 61, .inl (fun _ => 0)))]) rfl ?_
  refine w_aload_n dX8_init_76 rfl ?_
  refine w_bipush dX8_init_77 cb_61 ?_
  refine w_newa (t := 0) (N := 61) (a0 := (61, .inl (fun _ => 0))) dX8_init_79 rfl war_int (fun _ => rfl) (fun _ => rfl) (by decide) (by decide) (Nat.le_of_ble_eq_true rfl) (Nat.le_of_ble_eq_true rfl) (Nat.le_of_ble_eq_true rfl) (fun q10 => ?_)
  refine w_putF (q0 := 0) (ci := 8) (T := TX8) (CC := "ThawGivesModel") (N := 43) (j := 18) (ty := .array .int) (ty0 := tyX8) dX8_init_81 rfl uw_8 tyX8_ok nmX8 rfl (by decide) rfl rfl (by decide) rfl (by decide +kernel) rfl rfl fl_X8_39 (lt_b rfl) ?_
  refine w_eq (ws' := [(h, .inr (8, [.int 0, .ref q1, .ref q2, .ref q3, .ref q4, .ref q5, .int 0, .int 0, .ref q6, .int 0, .int 0, .int 0, .int 0, .int 0, .int 0, .ref q7, .ref q8, .ref q9, .ref q10, .null, .null, .int 0, .null, .int 0, .null, .null, .null, .int 0, .null, .null, .int 0, .null, .null, .int 0, .null, .int 0, .null, .null, .null, .null, .null, .null, .null])), (q1, .inl (gc 0, 6, .inl (fun _ => 0))), (q2, .inl (gc 0, 6, .inl (fun _ => 0))), (q3, .inl (gc 0, 6, .inl (fun _ => 0))), (q4, .inl (gc 0, 6, .inl (fun _ => 0))), (q5, .inl (gc 0, 24, .inl (fun _ => 0))), (q6, .inl (gc 0, 100, .inl (fun _ => 0))), (q7, .inl (gc 0, 6, .inl (fun _ => 0))), (q8, .inl (gc 0, 61, .inl (fun _ => 0))), (q9, .inl (gc 0, 61, .inl (fun _ => 0))), (q10, .inl (gc 0, 61, .inl (fun _ => 0)))]) rfl ?_
  refine w_aload_n dX8_init_84 rfl ?_
  refine w_bipush dX8_init_85 cb_61 ?_
  refine w_newa (t := 0) (N := 61) (a0 := (61, .inl (fun _ => 0))) dX8_init_87 rfl war_int (fun _ => rfl) (fun _ => rfl) (by decide) (by decide) (Nat.le_of_ble_eq_true rfl) (Nat.le_of_ble_eq_true rfl) (Nat.le_of_ble_eq_true rfl) (fun q11 => ?_)
  refine w_putF (q0 := 0) (ci := 8) (T := TX8) (CC := "ThawGivesModel") (N := 43) (j := 19) (ty := .array .int) (ty0 := tyX8) dX8_init_89 rfl uw_8 tyX8_ok nmX8 rfl (by decide) rfl rfl (by decide) rfl (by decide +kernel) rfl rfl fl_X8_42 (lt_b rfl) ?_
  refine w_eq (ws' := [(h, .inr (8, [.int 0, .ref q1, .ref q2, .ref q3, .ref q4, .ref q5, .int 0, .int 0, .ref q6, .int 0, .int 0, .int 0, .int 0, .int 0, .int 0, .ref q7, .ref q8, .ref q9, .ref q10, .ref q11, .null, .int 0, .null, .int 0, .null, .null, .null, .int 0, .null, .null, .int 0, .null, .null, .int 0, .null, .int 0, .null, .null, .null, .null, .null, .null, .null])), (q1, .inl (gc 0, 6, .inl (fun _ => 0))), (q2, .inl (gc 0, 6, .inl (fun _ => 0))), (q3, .inl (gc 0, 6, .inl (fun _ => 0))), (q4, .inl (gc 0, 6, .inl (fun _ => 0))), (q5, .inl (gc 0, 24, .inl (fun _ => 0))), (q6, .inl (gc 0, 100, .inl (fun _ => 0))), (q7, .inl (gc 0, 6, .inl (fun _ => 0))), (q8, .inl (gc 0, 61, .inl (fun _ => 0))), (q9, .inl (gc 0, 61, .inl (fun _ => 0))), (q10, .inl (gc 0, 61, .inl (fun _ => 0))), (q11, .inl (gc 0, 61, .inl (fun _ => 0)))]) rfl ?_
  refine w_aload_n dX8_init_92 rfl ?_
  refine w_sipush (v := 800) dX8_init_93 (by decide) ?_
  refine w_newa (t := 0) (N := 800) (a0 := (800, .inl (fun _ => 0))) dX8_init_96 rfl war_int (fun _ => rfl) (fun _ => rfl) (by decide) (by decide) (Nat.le_of_ble_eq_true rfl) (Nat.le_of_ble_eq_true rfl) (Nat.le_of_ble_eq_true rfl) (fun q12 => ?_)
  refine w_putF (q0 := 0) (ci := 8) (T := TX8) (CC := "ThawGivesModel") (N := 43) (j := 20) (ty := .array .int) (ty0 := tyX8) dX8_init_98 rfl uw_8 tyX8_ok nmX8 rfl (by decide) rfl rfl (by decide) rfl (by decide +kernel) rfl rfl fl_X8_45 (lt_b rfl) ?_
  refine w_eq (ws' := [(h, .inr (8, [.int 0, .ref q1, .ref q2, .ref q3, .ref q4, .ref q5, .int 0, .int 0, .ref q6, .int 0, .int 0, .int 0, .int 0, .int 0, .int 0, .ref q7, .ref q8, .ref q9, .ref q10, .ref q11, .ref q12, .int 0, .null, .int 0, .null, .null, .null, .int 0, .null, .null, .int 0, .null, .null, .int 0, .null, .int 0, .null, .null, .null, .null, .null, .null, .null])), (q1, .inl (gc 0, 6, .inl (fun _ => 0))), (q2, .inl (gc 0, 6, .inl (fun _ => 0))), (q3, .inl (gc 0, 6, .inl (fun _ => 0))), (q4, .inl (gc 0, 6, .inl (fun _ => 0))), (q5, .inl (gc 0, 24, .inl (fun _ => 0))), (q6, .inl (gc 0, 100, .inl (fun _ => 0))), (q7, .inl (gc 0, 6, .inl (fun _ => 0))), (q8, .inl (gc 0, 61, .inl (fun _ => 0))), (q9, .inl (gc 0, 61, .inl (fun _ => 0))), (q10, .inl (gc 0, 61, .inl (fun _ => 0))), (q11, .inl (gc 0, 61, .inl (fun _ => 0))), (q12, .inl (gc 0, 800, .inl (fun _ => 0)))]) rfl ?_
  refine w_aload_n dX8_init_101 rfl ?_
  refine w_bipush (v := 110) dX8_init_102 (by decide) ?_
  refine w_newa (t := 3) (N := 110) (a0 := (110, .inl (fun _ => 0))) dX8_init_104 rfl war_boolean (fun _ => rfl) (fun _ => rfl) (by decide) (by decide) (Nat.le_of_ble_eq_true rfl) (Nat.le_of_ble_eq_true rfl) (Nat.le_of_ble_eq_true rfl) (fun q13 => ?_)
  refine w_putF (q0 := 0) (ci := 8) (T := TX8) (CC := "ThawGivesModel") (N := 43) (j := 22) (ty := .array .boolean) (ty0 := tyX8) dX8_init_106 rfl uw_8 tyX8_ok nmX8 rfl (by decide) rfl rfl (by decide) rfl (by decide +kernel) rfl rfl fl_X8_48 (lt_b rfl) ?_
  refine w_eq (ws' := [(h, .inr (8, [.int 0, .ref q1, .ref q2, .ref q3, .ref q4, .ref q5, .int 0, .int 0, .ref q6, .int 0, .int 0, .int 0, .int 0, .int 0, .int 0, .ref q7, .ref q8, .ref q9, .ref q10, .ref q11, .ref q12, .int 0, .ref q13, .int 0, .null, .null, .null, .int 0, .null, .null, .int 0, .null, .null, .int 0, .null, .int 0, .null, .null, .null, .null, .null, .null, .null])), (q1, .inl (gc 0, 6, .inl (fun _ => 0))), (q2, .inl (gc 0, 6, .inl (fun _ => 0))), (q3, .inl (gc 0, 6, .inl (fun _ => 0))), (q4, .inl (gc 0, 6, .inl (fun _ => 0))), (q5, .inl (gc 0, 24, .inl (fun _ => 0))), (q6, .inl (gc 0, 100, .inl (fun _ => 0))), (q7, .inl (gc 0, 6, .inl (fun _ => 0))), (q8, .inl (gc 0, 61, .inl (fun _ => 0))), (q9, .inl (gc 0, 61, .inl (fun _ => 0))), (q10, .inl (gc 0, 61, .inl (fun _ => 0))), (q11, .inl (gc 0, 61, .inl (fun _ => 0))), (q12, .inl (gc 0, 800, .inl (fun _ => 0))), (q13, .inl (gc 3, 110, .inl (fun _ => 0)))]) rfl ?_
  refine w_aload_n dX8_init_109 rfl ?_
  refine w_iconst dX8_init_110 ci_5 ?_
  refine w_newa (t := 0) (N := 5) (a0 := (5, .inl (fun _ => 0))) dX8_init_111 rfl war_int (fun _ => rfl) (fun _ => rfl) (by decide) (by decide) (Nat.le_of_ble_eq_true rfl) (Nat.le_of_ble_eq_true rfl) (Nat.le_of_ble_eq_true rfl) (fun q14 => ?_)
  refine w_putF (q0 := 0) (ci := 8) (T := TX8) (CC := "ThawGivesModel") (N := 43) (j := 24) (ty := .array .int) (ty0 := tyX8) dX8_init_113 rfl uw_8 tyX8_ok nmX8 rfl (by decide) rfl rfl (by decide) rfl (by decide +kernel) rfl rfl fl_X8_52 (lt_b rfl) ?_
  refine w_eq (ws' := [(h, .inr (8, [.int 0, .ref q1, .ref q2, .ref q3, .ref q4, .ref q5, .int 0, .int 0, .ref q6, .int 0, .int 0, .int 0, .int 0, .int 0, .int 0, .ref q7, .ref q8, .ref q9, .ref q10, .ref q11, .ref q12, .int 0, .ref q13, .int 0, .ref q14, .null, .null, .int 0, .null, .null, .int 0, .null, .null, .int 0, .null, .int 0, .null, .null, .null, .null, .null, .null, .null])), (q1, .inl (gc 0, 6, .inl (fun _ => 0))), (q2, .inl (gc 0, 6, .inl (fun _ => 0))), (q3, .inl (gc 0, 6, .inl (fun _ => 0))), (q4, .inl (gc 0, 6, .inl (fun _ => 0))), (q5, .inl (gc 0, 24, .inl (fun _ => 0))), (q6, .inl (gc 0, 100, .inl (fun _ => 0))), (q7, .inl (gc 0, 6, .inl (fun _ => 0))), (q8, .inl (gc 0, 61, .inl (fun _ => 0))), (q9, .inl (gc 0, 61, .inl (fun _ => 0))), (q10, .inl (gc 0, 61, .inl (fun _ => 0))), (q11, .inl (gc 0, 61, .inl (fun _ => 0))), (q12, .inl (gc 0, 800, .inl (fun _ => 0))), (q13, .inl (gc 3, 110, .inl (fun _ => 0))), (q14, .inl (gc 0, 5, .inl (fun _ => 0)))]) rfl ?_
  refine w_aload_n dX8_init_116 rfl ?_
  refine w_iconst dX8_init_117 ci_5 ?_
  refine w_newa (t := 0) (N := 5) (a0 := (5, .inl (fun _ => 0))) dX8_init_118 rfl war_int (fun _ => rfl) (fun _ => rfl) (by decide) (by decide) (Nat.le_of_ble_eq_true rfl) (Nat.le_of_ble_eq_true rfl) (Nat.le_of_ble_eq_true rfl) (fun q15 => ?_)
  refine w_putF (q0 := 0) (ci := 8) (T := TX8) (CC := "ThawGivesModel") (N := 43) (j := 25) (ty := .array .int) (ty0 := tyX8) dX8_init_120 rfl uw_8 tyX8_ok nmX8 rfl (by decide) rfl rfl (by decide) rfl (by decide +kernel) rfl rfl fl_X8_55 (lt_b rfl) ?_
  refine w_eq (ws' := [(h, .inr (8, [.int 0, .ref q1, .ref q2, .ref q3, .ref q4, .ref q5, .int 0, .int 0, .ref q6, .int 0, .int 0, .int 0, .int 0, .int 0, .int 0, .ref q7, .ref q8, .ref q9, .ref q10, .ref q11, .ref q12, .int 0, .ref q13, .int 0, .ref q14, .ref q15, .null, .int 0, .null, .null, .int 0, .null, .null, .int 0, .null, .int 0, .null, .null, .null, .null, .null, .null, .null])), (q1, .inl (gc 0, 6, .inl (fun _ => 0))), (q2, .inl (gc 0, 6, .inl (fun _ => 0))), (q3, .inl (gc 0, 6, .inl (fun _ => 0))), (q4, .inl (gc 0, 6, .inl (fun _ => 0))), (q5, .inl (gc 0, 24, .inl (fun _ => 0))), (q6, .inl (gc 0, 100, .inl (fun _ => 0))), (q7, .inl (gc 0, 6, .inl (fun _ => 0))), (q8, .inl (gc 0, 61, .inl (fun _ => 0))), (q9, .inl (gc 0, 61, .inl (fun _ => 0))), (q10, .inl (gc 0, 61, .inl (fun _ => 0))), (q11, .inl (gc 0, 61, .inl (fun _ => 0))), (q12, .inl (gc 0, 800, .inl (fun _ => 0))), (q13, .inl (gc 3, 110, .inl (fun _ => 0))), (q14, .inl (gc 0, 5, .inl (fun _ => 0))), (q15, .inl (gc 0, 5, .inl (fun _ => 0)))]) rfl ?_
  refine w_aload_n dX8_init_123 rfl ?_
  refine w_iconst dX8_init_124 ci_5 ?_
  refine w_newa (t := 0) (N := 5) (a0 := (5, .inl (fun _ => 0))) dX8_init_125 rfl war_int (fun _ => rfl) (fun _ => rfl) (by decide) (by decide) (Nat.le_of_ble_eq_true rfl) (Nat.le_of_ble_eq_true rfl) (Nat.le_of_ble_eq_true rfl) (fun q16 => ?_)
  refine w_putF (q0 := 0) (ci := 8) (T := TX8) (CC := "ThawGivesModel") (N := 43) (j := 26) (ty := .array .int) (ty0 := tyX8) dX8_init_127 rfl uw_8 tyX8_ok nmX8 rfl (by decide) rfl rfl (by decide) rfl (by decide +kernel) rfl rfl fl_X8_58 (lt_b rfl) ?_
  refine w_eq (ws' := [(h, .inr (8, [.int 0, .ref q1, .ref q2, .ref q3, .ref q4, .ref q5, .int 0, .int 0, .ref q6, .int 0, .int 0, .int 0, .int 0, .int 0, .int 0, .ref q7, .ref q8, .ref q9, .ref q10, .ref q11, .ref q12, .int 0, .ref q13, .int 0, .ref q14, .ref q15, .ref q16, .int 0, .null, .null, .int 0, .null, .null, .int 0, .null, .int 0, .null, .null, .null, .null, .null, .null, .null])), (q1, .inl (gc 0, 6, .inl (fun _ => 0))), (q2, .inl (gc 0, 6, .inl (fun _ => 0))), (q3, .inl (gc 0, 6, .inl (fun _ => 0))), (q4, .inl (gc 0, 6, .inl (fun _ => 0))), (q5, .inl (gc 0, 24, .inl (fun _ => 0))), (q6, .inl (gc 0, 100, .inl (fun _ => 0))), (q7, .inl (gc 0, 6, .inl (fun _ => 0))), (q8, .inl (gc 0, 61, .inl (fun _ => 0))), (q9, .inl (gc 0, 61, .inl (fun _ => 0))), (q10, .inl (gc 0, 61, .inl (fun _ => 0))), (q11, .inl (gc 0, 61, .inl (fun _ => 0))), (q12, .inl (gc 0, 800, .inl (fun _ => 0))), (q13, .inl (gc 3, 110, .inl (fun _ => 0))), (q14, .inl (gc 0, 5, .inl (fun _ => 0))), (q15, .inl (gc 0, 5, .inl (fun _ => 0))), (q16, .inl (gc 0, 5, .inl (fun _ => 0)))]) rfl ?_
  refine w_aload_n dX8_init_130 rfl ?_
  refine w_bipush dX8_init_131 cb_10 ?_
  refine w_newa (t := 0) (N := 10) (a0 := (10, .inl (fun _ => 0))) dX8_init_133 rfl war_int (fun _ => rfl) (fun _ => rfl) (by decide) (by decide) (Nat.le_of_ble_eq_true rfl) (Nat.le_of_ble_eq_true rfl) (Nat.le_of_ble_eq_true rfl) (fun q17 => ?_)
  refine w_putF (q0 := 0) (ci := 8) (T := TX8) (CC := "ThawGivesModel") (N := 43) (j := 28) (ty := .array .int) (ty0 := tyX8) dX8_init_135 rfl uw_8 tyX8_ok nmX8 rfl (by decide) rfl rfl (by decide) rfl (by decide +kernel) rfl rfl fl_X8_61 (lt_b rfl) ?_
  refine w_eq (ws' := [(h, .inr (8, [.int 0, .ref q1, .ref q2, .ref q3, .ref q4, .ref q5, .int 0, .int 0, .ref q6, .int 0, .int 0, .int 0, .int 0, .int 0, .int 0, .ref q7, .ref q8, .ref q9, .ref q10, .ref q11, .ref q12, .int 0, .ref q13, .int 0, .ref q14, .ref q15, .ref q16, .int 0, .ref q17, .null, .int 0, .null, .null, .int 0, .null, .int 0, .null, .null, .null, .null, .null, .null, .null])), (q1, .inl (gc 0, 6, .inl (fun _ => 0))), (q2, .inl (gc 0, 6, .inl (fun _ => 0))), (q3, .inl (gc 0, 6, .inl (fun _ => 0))), (q4, .inl (gc 0, 6, .inl (fun _ => 0))), (q5, .inl (gc 0, 24, .inl (fun _ => 0))), (q6, .inl (gc 0, 100, .inl (fun _ => 0))), (q7, .inl (gc 0, 6, .inl (fun _ => 0))), (q8, .inl (gc 0, 61, .inl (fun _ => 0))), (q9, .inl (gc 0, 61, .inl (fun _ => 0))), (q10, .inl (gc 0, 61, .inl (fun _ => 0))), (q11, .inl (gc 0, 61, .inl (fun _ => 0))), (q12, .inl (gc 0, 800, .inl (fun _ => 0))), (q13, .inl (gc 3, 110, .inl (fun _ => 0))), (q14, .inl (gc 0, 5, .inl (fun _ => 0))), (q15, .inl (gc 0, 5, .inl (fun _ => 0))), (q16, .inl (gc 0, 5, .inl (fun _ => 0))), (q17, .inl (gc 0, 10, .inl (fun _ => 0)))]) rfl ?_
  refine w_aload_n dX8_init_138 rfl ?_
  refine w_bipush dX8_init_139 cb_10 ?_
  refine w_newa (t := 0) (N := 10) (a0 := (10, .inl (fun _ => 0))) dX8_init_141 rfl war_int (fun _ => rfl) (fun _ => rfl) (by decide) (by decide) (Nat.le_of_ble_eq_true rfl) (Nat.le_of_ble_eq_true rfl) (Nat.le_of_ble_eq_true rfl) (fun q18 => ?_)
  refine w_putF (q0 := 0) (ci := 8) (T := TX8) (CC := "ThawGivesModel") (N := 43) (j := 29) (ty := .array .int) (ty0 := tyX8) dX8_init_143 rfl uw_8 tyX8_ok nmX8 rfl (by decide) rfl rfl (by decide) rfl (by decide +kernel) rfl rfl fl_X8_64 (lt_b rfl) ?_
  refine w_eq (ws' := [(h, .inr (8, [.int 0, .ref q1, .ref q2, .ref q3, .ref q4, .ref q5, .int 0, .int 0, .ref q6, .int 0, .int 0, .int 0, .int 0, .int 0, .int 0, .ref q7, .ref q8, .ref q9, .ref q10, .ref q11, .ref q12, .int 0, .ref q13, .int 0, .ref q14, .ref q15, .ref q16, .int 0, .ref q17, .ref q18, .int 0, .null, .null, .int 0, .null, .int 0, .null, .null, .null, .null, .null, .null, .null])), (q1, .inl (gc 0, 6, .inl (fun _ => 0))), (q2, .inl (gc 0, 6, .inl (fun _ => 0))), (q3, .inl (gc 0, 6, .inl (fun _ => 0))), (q4, .inl (gc 0, 6, .inl (fun _ => 0))), (q5, .inl (gc 0, 24, .inl (fun _ => 0))), (q6, .inl (gc 0, 100, .inl (fun _ => 0))), (q7, .inl (gc 0, 6, .inl (fun _ => 0))), (q8, .inl (gc 0, 61, .inl (fun _ => 0))), (q9, .inl (gc 0, 61, .inl (fun _ => 0))), (q10, .inl (gc 0, 61, .inl (fun _ => 0))), (q11, .inl (gc 0, 61, .inl (fun _ => 0))), (q12, .inl (gc 0, 800, .inl (fun _ => 0))), (q13, .inl (gc 3, 110, .inl (fun _ => 0))), (q14, .inl (gc 0, 5, .inl (fun _ => 0))), (q15, .inl (gc 0, 5, .inl (fun _ => 0))), (q16, .inl (gc 0, 5, .inl (fun _ => 0))), (q17, .inl (gc 0, 10, .inl (fun _ => 0))), (q18, .inl (gc 0, 10, .inl (fun _ => 0)))]) rfl ?_
  refine w_aload_n dX8_init_146 rfl ?_
  refine w_bipush dX8_init_147 cb_8 ?_
  refine w_newa (t := 0) (N := 8) (a0 := (8, .inl (fun _ => 0))) dX8_init_149 rfl war_int (fun _ => rfl) (fun _ => rfl) (by decide) (by decide) (Nat.le_of_ble_eq_true rfl) (Nat.le_of_ble_eq_true rfl) (Nat.le_of_ble_eq_true rfl) (fun q19 => ?_)
  refine w_putF (q0 := 0) (ci := 8) (T := TX8) (CC := "ThawGivesModel") (N := 43) (j := 31) (ty := .array .int) (ty0 := tyX8) dX8_init_151 rfl uw_8 tyX8_ok nmX8 rfl (by decide) rfl rfl (by decide) rfl (by decide +kernel) rfl rfl fl_X8_67 (lt_b rfl) ?_
  refine w_eq (ws' := [(h, .inr (8, [.int 0, .ref q1, .ref q2, .ref q3, .ref q4, .ref q5, .int 0, .int 0, .ref q6, .int 0, .int 0, .int 0, .int 0, .int 0, .int 0, .ref q7, .ref q8, .ref q9, .ref q10, .ref q11, .ref q12, .int 0, .ref q13, .int 0, .ref q14, .ref q15, .ref q16, .int 0, .ref q17, .ref q18, .int 0, .ref q19, .null, .int 0, .null, .int 0, .null, .null, .null, .null, .null, .null, .null])), (q1, .inl (gc 0, 6, .inl (fun _ => 0))), (q2, .inl (gc 0, 6, .inl (fun _ => 0))), (q3, .inl (gc 0, 6, .inl (fun _ => 0))), (q4, .inl (gc 0, 6, .inl (fun _ => 0))), (q5, .inl (gc 0, 24, .inl (fun _ => 0))), (q6, .inl (gc 0, 100, .inl (fun _ => 0))), (q7, .inl (gc 0, 6, .inl (fun _ => 0))), (q8, .inl (gc 0, 61, .inl (fun _ => 0))), (q9, .inl (gc 0, 61, .inl (fun _ => 0))), (q10, .inl (gc 0, 61, .inl (fun _ => 0))), (q11, .inl (gc 0, 61, .inl (fun _ => 0))), (q12, .inl (gc 0, 800, .inl (fun _ => 0))), (q13, .inl (gc 3, 110, .inl (fun _ => 0))), (q14, .inl (gc 0, 5, .inl (fun _ => 0))), (q15, .inl (gc 0, 5, .inl (fun _ => 0))), (q16, .inl (gc 0, 5, .inl (fun _ => 0))), (q17, .inl (gc 0, 10, .inl (fun _ => 0))), (q18, .inl (gc 0, 10, .inl (fun _ => 0))), (q19, .inl (gc 0, 8, .inl (fun _ => 0)))]) rfl ?_
  refine w_aload_n dX8_init_154 rfl ?_
  refine w_bipush dX8_init_155 cb_8 ?_
  refine w_newa (t := 0) (N := 8) (a0 := (8, .inl (fun _ => 0))) dX8_init_157 rfl war_int (fun _ => rfl) (fun _ => rfl) (by decide) (by decide) (Nat.le_of_ble_eq_true rfl) (Nat.le_of_ble_eq_true rfl) (Nat.le_of_ble_eq_true rfl) (fun q20 => ?_)
  refine w_putF (q0 := 0) (ci := 8) (T := TX8) (CC := "ThawGivesModel") (N := 43) (j := 32) (ty := .array .int) (ty0 := tyX8) dX8_init_159 rfl uw_8 tyX8_ok nmX8 rfl (by decide) rfl rfl (by decide) rfl (by decide +kernel) rfl rfl fl_X8_70 (lt_b rfl) ?_
  refine w_eq (ws' := [(h, .inr (8, [.int 0, .ref q1, .ref q2, .ref q3, .ref q4, .ref q5, .int 0, .int 0, .ref q6, .int 0, .int 0, .int 0, .int 0, .int 0, .int 0, .ref q7, .ref q8, .ref q9, .ref q10, .ref q11, .ref q12, .int 0, .ref q13, .int 0, .ref q14, .ref q15, .ref q16, .int 0, .ref q17, .ref q18, .int 0, .ref q19, .ref q20, .int 0, .null, .int 0, .null, .null, .null, .null, .null, .null, .null])), (q1, .inl (gc 0, 6, .inl (fun _ => 0))), (q2, .inl (gc 0, 6, .inl (fun _ => 0))), (q3, .inl (gc 0, 6, .inl (fun _ => 0))), (q4, .inl (gc 0, 6, .inl (fun _ => 0))), (q5, .inl (gc 0, 24, .inl (fun _ => 0))), (q6, .inl (gc 0, 100, .inl (fun _ => 0))), (q7, .inl (gc 0, 6, .inl (fun _ => 0))), (q8, .inl (gc 0, 61, .inl (fun _ => 0))), (q9, .inl (gc 0, 61, .inl (fun _ => 0))), (q10, .inl (gc 0, 61, .inl (fun _ => 0))), (q11, .inl (gc 0, 61, .inl (fun _ => 0))), (q12, .inl (gc 0, 800, .inl (fun _ => 0))), (q13, .inl (gc 3, 110, .inl (fun _ => 0))), (q14, .inl (gc 0, 5, .inl (fun _ => 0))), (q15, .inl (gc 0, 5, .inl (fun _ => 0))), (q16, .inl (gc 0, 5, .inl (fun _ => 0))), (q17, .inl (gc 0, 10, .inl (fun _ => 0))), (q18, .inl (gc 0, 10, .inl (fun _ => 0))), (q19, .inl (gc 0, 8, .inl (fun _ => 0))), (q20, .inl (gc 0, 8, .inl (fun _ => 0)))]) rfl ?_
  refine w_aload_n dX8_init_162 rfl ?_
  refine w_bipush dX8_init_163 cb_20 ?_
  refine w_newa (t := 0) (N := 20) (a0 := (20, .inl (fun _ => 0))) dX8_init_165 rfl war_int (fun _ => rfl) (fun _ => rfl) (by decide) (by decide) (Nat.le_of_ble_eq_true rfl) (Nat.le_of_ble_eq_true rfl) (Nat.le_of_ble_eq_true rfl) (fun q21 => ?_)
  refine w_putF (q0 := 0) (ci := 8) (T := TX8) (CC := "ThawGivesModel") (N := 43) (j := 34) (ty := .array .int) (ty0 := tyX8) dX8_init_167 rfl uw_8 tyX8_ok nmX8 rfl (by decide) rfl rfl (by decide) rfl (by decide +kernel) rfl rfl fl_X8_73 (lt_b rfl) ?_
  refine w_eq (ws' := [(h, .inr (8, [.int 0, .ref q1, .ref q2, .ref q3, .ref q4, .ref q5, .int 0, .int 0, .ref q6, .int 0, .int 0, .int 0, .int 0, .int 0, .int 0, .ref q7, .ref q8, .ref q9, .ref q10, .ref q11, .ref q12, .int 0, .ref q13, .int 0, .ref q14, .ref q15, .ref q16, .int 0, .ref q17, .ref q18, .int 0, .ref q19, .ref q20, .int 0, .ref q21, .int 0, .null, .null, .null, .null, .null, .null, .null])), (q1, .inl (gc 0, 6, .inl (fun _ => 0))), (q2, .inl (gc 0, 6, .inl (fun _ => 0))), (q3, .inl (gc 0, 6, .inl (fun _ => 0))), (q4, .inl (gc 0, 6, .inl (fun _ => 0))), (q5, .inl (gc 0, 24, .inl (fun _ => 0))), (q6, .inl (gc 0, 100, .inl (fun _ => 0))), (q7, .inl (gc 0, 6, .inl (fun _ => 0))), (q8, .inl (gc 0, 61, .inl (fun _ => 0))), (q9, .inl (gc 0, 61, .inl (fun _ => 0))), (q10, .inl (gc 0, 61, .inl (fun _ => 0))), (q11, .inl (gc 0, 61, .inl (fun _ => 0))), (q12, .inl (gc 0, 800, .inl (fun _ => 0))), (q13, .inl (gc 3, 110, .inl (fun _ => 0))), (q14, .inl (gc 0, 5, .inl (fun _ => 0))), (q15, .inl (gc 0, 5, .inl (fun _ => 0))), (q16, .inl (gc 0, 5, .inl (fun _ => 0))), (q17, .inl (gc 0, 10, .inl (fun _ => 0))), (q18, .inl (gc 0, 10, .inl (fun _ => 0))), (q19, .inl (gc 0, 8, .inl (fun _ => 0))), (q20, .inl (gc 0, 8, .inl (fun _ => 0))), (q21, .inl (gc 0, 20, .inl (fun _ => 0)))]) rfl ?_
  refine w_aload_n dX8_init_170 rfl ?_
  refine w_bipush (v := 105) dX8_init_171 (by decide) ?_
  refine w_newa (t := 0) (N := 105) (a0 := (105, .inl (fun _ => 0))) dX8_init_173 rfl war_int (fun _ => rfl) (fun _ => rfl) (by decide) (by decide) (Nat.le_of_ble_eq_true rfl) (Nat.le_of_ble_eq_true rfl) (Nat.le_of_ble_eq_true rfl) (fun q22 => ?_)
  refine w_putF (q0 := 0) (ci := 8) (T := TX8) (CC := "ThawGivesModel") (N := 43) (j := 36) (ty := .array .int) (ty0 := tyX8) dX8_init_175 rfl uw_8 tyX8_ok nmX8 rfl (by decide) rfl rfl (by decide) rfl (by decide +kernel) rfl rfl fl_X8_76 (lt_b rfl) ?_
  refine w_eq (ws' := [(h, .inr (8, [.int 0, .ref q1, .ref q2, .ref q3, .ref q4, .ref q5, .int 0, .int 0, .ref q6, .int 0, .int 0, .int 0, .int 0, .int 0, .int 0, .ref q7, .ref q8, .ref q9, .ref q10, .ref q11, .ref q12, .int 0, .ref q13, .int 0, .ref q14, .ref q15, .ref q16, .int 0, .ref q17, .ref q18, .int 0, .ref q19, .ref q20, .int 0, .ref q21, .int 0, .ref q22, .null, .null, .null, .null, .null, .null])), (q1, .inl (gc 0, 6, .inl (fun _ => 0))), (q2, .inl (gc 0, 6, .inl (fun _ => 0))), (q3, .inl (gc 0, 6, .inl (fun _ => 0))), (q4, .inl (gc 0, 6, .inl (fun _ => 0))), (q5, .inl (gc 0, 24, .inl (fun _ => 0))), (q6, .inl (gc 0, 100, .inl (fun _ => 0))), (q7, .inl (gc 0, 6, .inl (fun _ => 0))), (q8, .inl (gc 0, 61, .inl (fun _ => 0))), (q9, .inl (gc 0, 61, .inl (fun _ => 0))), (q10, .inl (gc 0, 61, .inl (fun _ => 0))), (q11, .inl (gc 0, 61, .inl (fun _ => 0))), (q12, .inl (gc 0, 800, .inl (fun _ => 0))), (q13, .inl (gc 3, 110, .inl (fun _ => 0))), (q14, .inl (gc 0, 5, .inl (fun _ => 0))), (q15, .inl (gc 0, 5, .inl (fun _ => 0))), (q16, .inl (gc 0, 5, .inl (fun _ => 0))), (q17, .inl (gc 0, 10, .inl (fun _ => 0))), (q18, .inl (gc 0, 10, .inl (fun _ => 0))), (q19, .inl (gc 0, 8, .inl (fun _ => 0))), (q20, .inl (gc 0, 8, .inl (fun _ => 0))), (q21, .inl (gc 0, 20, .inl (fun _ => 0))), (q22, .inl (gc 0, 105, .inl (fun _ => 0)))]) rfl ?_
  refine w_aload_n dX8_init_178 rfl ?_
  refine w_bipush (v := 105) dX8_init_179 (by decide) ?_
  refine w_newa (t := 0) (N := 105) (a0 := (105, .inl (fun _ => 0))) dX8_init_181 rfl war_int (fun _ => rfl) (fun _ => rfl) (by decide) (by decide) (Nat.le_of_ble_eq_true rfl) (Nat.le_of_ble_eq_true rfl) (Nat.le_of_ble_eq_true rfl) (fun q23 => ?_)
  refine w_putF (q0 := 0) (ci := 8) (T := TX8) (CC := "ThawGivesModel") (N := 43) (j := 37) (ty := .array .int) (ty0 := tyX8) dX8_init_183 rfl uw_8 tyX8_ok nmX8 rfl (by decide) rfl rfl (by decide) rfl (by decide +kernel) rfl rfl fl_X8_79 (lt_b rfl) ?_
  refine w_eq (ws' := [(h, .inr (8, [.int 0, .ref q1, .ref q2, .ref q3, .ref q4, .ref q5, .int 0, .int 0, .ref q6, .int 0, .int 0, .int 0, .int 0, .int 0, .int 0, .ref q7, .ref q8, .ref q9, .ref q10, .ref q11, .ref q12, .int 0, .ref q13, .int 0, .ref q14, .ref q15, .ref q16, .int 0, .ref q17, .ref q18, .int 0, .ref q19, .ref q20, .int 0, .ref q21, .int 0, .ref q22, .ref q23, .null, .null, .null, .null, .null])), (q1, .inl (gc 0, 6, .inl (fun _ => 0))), (q2, .inl (gc 0, 6, .inl (fun _ => 0))), (q3, .inl (gc 0, 6, .inl (fun _ => 0))), (q4, .inl (gc 0, 6, .inl (fun _ => 0))), (q5, .inl (gc 0, 24, .inl (fun _ => 0))), (q6, .inl (gc 0, 100, .inl (fun _ => 0))), (q7, .inl (gc 0, 6, .inl (fun _ => 0))), (q8, .inl (gc 0, 61, .inl (fun _ => 0))), (q9, .inl (gc 0, 61, .inl (fun _ => 0))), (q10, .inl (gc 0, 61, .inl (fun _ => 0))), (q11, .inl (gc 0, 61, .inl (fun _ => 0))), (q12, .inl (gc 0, 800, .inl (fun _ => 0))), (q13, .inl (gc 3, 110, .inl (fun _ => 0))), (q14, .inl (gc 0, 5, .inl (fun _ => 0))), (q15, .inl (gc 0, 5, .inl (fun _ => 0))), (q16, .inl (gc 0, 5, .inl (fun _ => 0))), (q17, .inl (gc 0, 10, .inl (fun _ => 0))), (q18, .inl (gc 0, 10, .inl (fun _ => 0))), (q19, .inl (gc 0, 8, .inl (fun _ => 0))), (q20, .inl (gc 0, 8, .inl (fun _ => 0))), (q21, .inl (gc 0, 20, .inl (fun _ => 0))), (q22, .inl (gc 0, 105, .inl (fun _ => 0))), (q23, .inl (gc 0, 105, .inl (fun _ => 0)))]) rfl ?_
  refine w_aload_n dX8_init_186 rfl ?_
  refine w_bipush dX8_init_187 cb_6 ?_
  refine w_newa (t := 0) (N := 6) (a0 := (6, .inl (fun _ => 0))) dX8_init_189 rfl war_int (fun _ => rfl) (fun _ => rfl) (by decide) (by decide) (Nat.le_of_ble_eq_true rfl) (Nat.le_of_ble_eq_true rfl) (Nat.le_of_ble_eq_true rfl) (fun q24 => ?_)
  refine w_putF (q0 := 0) (ci := 8) (T := TX8) (CC := "ThawGivesModel") (N := 43) (j := 38) (ty := .array .int) (ty0 := tyX8) dX8_init_191 rfl uw_8 tyX8_ok nmX8 rfl (by decide) rfl rfl (by decide) rfl (by decide +kernel) rfl rfl fl_X8_82 (lt_b rfl) ?_
  refine w_eq (ws' := [(h, .inr (8, [.int 0, .ref q1, .ref q2, .ref q3, .ref q4, .ref q5, .int 0, .int 0, .ref q6, .int 0, .int 0, .int 0, .int 0, .int 0, .int 0, .ref q7, .ref q8, .ref q9, .ref q10, .ref q11, .ref q12, .int 0, .ref q13, .int 0, .ref q14, .ref q15, .ref q16, .int 0, .ref q17, .ref q18, .int 0, .ref q19, .ref q20, .int 0, .ref q21, .int 0, .ref q22, .ref q23, .ref q24, .null, .null, .null, .null])), (q1, .inl (gc 0, 6, .inl (fun _ => 0))), (q2, .inl (gc 0, 6, .inl (fun _ => 0))), (q3, .inl (gc 0, 6, .inl (fun _ => 0))), (q4, .inl (gc 0, 6, .inl (fun _ => 0))), (q5, .inl (gc 0, 24, .inl (fun _ => 0))), (q6, .inl (gc 0, 100, .inl (fun _ => 0))), (q7, .inl (gc 0, 6, .inl (fun _ => 0))), (q8, .inl (gc 0, 61, .inl (fun _ => 0))), (q9, .inl (gc 0, 61, .inl (fun _ => 0))), (q10, .inl (gc 0, 61, .inl (fun _ => 0))), (q11, .inl (gc 0, 61, .inl (fun _ => 0))), (q12, .inl (gc 0, 800, .inl (fun _ => 0))), (q13, .inl (gc 3, 110, .inl (fun _ => 0))), (q14, .inl (gc 0, 5, .inl (fun _ => 0))), (q15, .inl (gc 0, 5, .inl (fun _ => 0))), (q16, .inl (gc 0, 5, .inl (fun _ => 0))), (q17, .inl (gc 0, 10, .inl (fun _ => 0))), (q18, .inl (gc 0, 10, .inl (fun _ => 0))), (q19, .inl (gc 0, 8, .inl (fun _ => 0))), (q20, .inl (gc 0, 8, .inl (fun _ => 0))), (q21, .inl (gc 0, 20, .inl (fun _ => 0))), (q22, .inl (gc 0, 105, .inl (fun _ => 0))), (q23, .inl (gc 0, 105, .inl (fun _ => 0))), (q24, .inl (gc 0, 6, .inl (fun _ => 0)))]) rfl ?_
  refine w_aload_n dX8_init_194 rfl ?_
  refine w_bipush dX8_init_195 cb_6 ?_
  refine w_newa (t := 0) (N := 6) (a0 := (6, .inl (fun _ => 0))) dX8_init_197 rfl war_int (fun _ => rfl) (fun _ => rfl) (by decide) (by decide) (Nat.le_of_ble_eq_true rfl) (Nat.le_of_ble_eq_true rfl) (Nat.le_of_ble_eq_true rfl) (fun q25 => ?_)
  refine w_putF (q0 := 0) (ci := 8) (T := TX8) (CC := "ThawGivesModel") (N := 43) (j := 39) (ty := .array .int) (ty0 := tyX8) dX8_init_199 rfl uw_8 tyX8_ok nmX8 rfl (by decide) rfl rfl (by decide) rfl (by decide +kernel) rfl rfl fl_X8_85 (lt_b rfl) ?_
  refine w_eq (ws' := [(h, .inr (8, [.int 0, .ref q1, .ref q2, .ref q3, .ref q4, .ref q5, .int 0, .int 0, .ref q6, .int 0, .int 0, .int 0, .int 0, .int 0, .int 0, .ref q7, .ref q8, .ref q9, .ref q10, .ref q11, .ref q12, .int 0, .ref q13, .int 0, .ref q14, .ref q15, .ref q16, .int 0, .ref q17, .ref q18, .int 0, .ref q19, .ref q20, .int 0, .ref q21, .int 0, .ref q22, .ref q23, .ref q24, .ref q25, .null, .null, .null])), (q1, .inl (gc 0, 6, .inl (fun _ => 0))), (q2, .inl (gc 0, 6, .inl (fun _ => 0))), (q3, .inl (gc 0, 6, .inl (fun _ => 0))), (q4, .inl (gc 0, 6, .inl (fun _ => 0))), (q5, .inl (gc 0, 24, .inl (fun _ => 0))), (q6, .inl (gc 0, 100, .inl (fun _ => 0))), (q7, .inl (gc 0, 6, .inl (fun _ => 0))), (q8, .inl (gc 0, 61, .inl (fun _ => 0))), (q9, .inl (gc 0, 61, .inl (fun _ => 0))), (q10, .inl (gc 0, 61, .inl (fun _ => 0))), (q11, .inl (gc 0, 61, .inl (fun _ => 0))), (q12, .inl (gc 0, 800, .inl (fun _ => 0))), (q13, .inl (gc 3, 110, .inl (fun _ => 0))), (q14, .inl (gc 0, 5, .inl (fun _ => 0))), (q15, .inl (gc 0, 5, .inl (fun _ => 0))), (q16, .inl (gc 0, 5, .inl (fun _ => 0))), (q17, .inl (gc 0, 10, .inl (fun _ => 0))), (q18, .inl (gc 0, 10, .inl (fun _ => 0))), (q19, .inl (gc 0, 8, .inl (fun _ => 0))), (q20, .inl (gc 0, 8, .inl (fun _ => 0))), (q21, .inl (gc 0, 20, .inl (fun _ => 0))), (q22, .inl (gc 0, 105, .inl (fun _ => 0))), (q23, .inl (gc 0, 105, .inl (fun _ => 0))), (q24, .inl (gc 0, 6, .inl (fun _ => 0))), (q25, .inl (gc 0, 6, .inl (fun _ => 0)))]) rfl ?_
  refine w_aload_n dX8_init_202 rfl ?_
  refine w_bipush dX8_init_203 cb_6 ?_
  refine w_newa (t := 0) (N := 6) (a0 := (6, .inl (fun _ => 0))) dX8_init_205 rfl war_int (fun _ => rfl) (fun _ => rfl) (by decide) (by decide) (Nat.le_of_ble_eq_true rfl) (Nat.le_of_ble_eq_true rfl) (Nat.le_of_ble_eq_true rfl) (fun q26 => ?_)
  refine w_putF (q0 := 0) (ci := 8) (T := TX8) (CC := "ThawGivesModel") (N := 43) (j := 40) (ty := .array .int) (ty0 := tyX8) dX8_init_207 rfl uw_8 tyX8_ok nmX8 rfl (by decide) rfl rfl (by decide) rfl (by decide +kernel) rfl rfl fl_X8_88 (lt_b rfl) ?_
  refine w_eq (ws' := [(h, .inr (8, [.int 0, .ref q1, .ref q2, .ref q3, .ref q4, .ref q5, .int 0, .int 0, .ref q6, .int 0, .int 0, .int 0, .int 0, .int 0, .int 0, .ref q7, .ref q8, .ref q9, .ref q10, .ref q11, .ref q12, .int 0, .ref q13, .int 0, .ref q14, .ref q15, .ref q16, .int 0, .ref q17, .ref q18, .int 0, .ref q19, .ref q20, .int 0, .ref q21, .int 0, .ref q22, .ref q23, .ref q24, .ref q25, .ref q26, .null, .null])), (q1, .inl (gc 0, 6, .inl (fun _ => 0))), (q2, .inl (gc 0, 6, .inl (fun _ => 0))), (q3, .inl (gc 0, 6, .inl (fun _ => 0))), (q4, .inl (gc 0, 6, .inl (fun _ => 0))), (q5, .inl (gc 0, 24, .inl (fun _ => 0))), (q6, .inl (gc 0, 100, .inl (fun _ => 0))), (q7, .inl (gc 0, 6, .inl (fun _ => 0))), (q8, .inl (gc 0, 61, .inl (fun _ => 0))), (q9, .inl (gc 0, 61, .inl (fun _ => 0))), (q10, .inl (gc 0, 61, .inl (fun _ => 0))), (q11, .inl (gc 0, 61, .inl (fun _ => 0))), (q12, .inl (gc 0, 800, .inl (fun _ => 0))), (q13, .inl (gc 3, 110, .inl (fun _ => 0))), (q14, .inl (gc 0, 5, .inl (fun _ => 0))), (q15, .inl (gc 0, 5, .inl (fun _ => 0))), (q16, .inl (gc 0, 5, .inl (fun _ => 0))), (q17, .inl (gc 0, 10, .inl (fun _ => 0))), (q18, .inl (gc 0, 10, .inl (fun _ => 0))), (q19, .inl (gc 0, 8, .inl (fun _ => 0))), (q20, .inl (gc 0, 8, .inl (fun _ => 0))), (q21, .inl (gc 0, 20, .inl (fun _ => 0))), (q22, .inl (gc 0, 105, .inl (fun _ => 0))), (q23, .inl (gc 0, 105, .inl (fun _ => 0))), (q24, .inl (gc 0, 6, .inl (fun _ => 0))), (q25, .inl (gc 0, 6, .inl (fun _ => 0))), (q26, .inl (gc 0, 6, .inl (fun _ => 0)))]) rfl ?_
  refine w_aload_n dX8_init_210 rfl ?_
  refine w_bipush dX8_init_211 cb_6 ?_
  refine w_newa (t := 0) (N := 6) (a0 := (6, .inl (fun _ => 0))) dX8_init_213 rfl war_int (fun _ => rfl) (fun _ => rfl) (by decide) (by decide) (Nat.le_of_ble_eq_true rfl) (Nat.le_of_ble_eq_true rfl) (Nat.le_of_ble_eq_true rfl) (fun q27 => ?_)
  refine w_putF (q0 := 0) (ci := 8) (T := TX8) (CC := "ThawGivesModel") (N := 43) (j := 41) (ty := .array .int) (ty0 := tyX8) dX8_init_215 rfl uw_8 tyX8_ok nmX8 rfl (by decide) rfl rfl (by decide) rfl (by decide +kernel) rfl rfl fl_X8_91 (lt_b rfl) ?_
  refine w_eq (ws' := [(h, .inr (8, [.int 0, .ref q1, .ref q2, .ref q3, .ref q4, .ref q5, .int 0, .int 0, .ref q6, .int 0, .int 0, .int 0, .int 0, .int 0, .int 0, .ref q7, .ref q8, .ref q9, .ref q10, .ref q11, .ref q12, .int 0, .ref q13, .int 0, .ref q14, .ref q15, .ref q16, .int 0, .ref q17, .ref q18, .int 0, .ref q19, .ref q20, .int 0, .ref q21, .int 0, .ref q22, .ref q23, .ref q24, .ref q25, .ref q26, .ref q27, .null])), (q1, .inl (gc 0, 6, .inl (fun _ => 0))), (q2, .inl (gc 0, 6, .inl (fun _ => 0))), (q3, .inl (gc 0, 6, .inl (fun _ => 0))), (q4, .inl (gc 0, 6, .inl (fun _ => 0))), (q5, .inl (gc 0, 24, .inl (fun _ => 0))), (q6, .inl (gc 0, 100, .inl (fun _ => 0))), (q7, .inl (gc 0, 6, .inl (fun _ => 0))), (q8, .inl (gc 0, 61, .inl (fun _ => 0))), (q9, .inl (gc 0, 61, .inl (fun _ => 0))), (q10, .inl (gc 0, 61, .inl (fun _ => 0))), (q11, .inl (gc 0, 61, .inl (fun _ => 0))), (q12, .inl (gc 0, 800, .inl (fun _ => 0))), (q13, .inl (gc 3, 110, .inl (fun _ => 0))), (q14, .inl (gc 0, 5, .inl (fun _ => 0))), (q15, .inl (gc 0, 5, .inl (fun _ => 0))), (q16, .inl (gc 0, 5, .inl (fun _ => 0))), (q17, .inl (gc 0, 10, .inl (fun _ => 0))), (q18, .inl (gc 0, 10, .inl (fun _ => 0))), (q19, .inl (gc 0, 8, .inl (fun _ => 0))), (q20, .inl (gc 0, 8, .inl (fun _ => 0))), (q21, .inl (gc 0, 20, .inl (fun _ => 0))), (q22, .inl (gc 0, 105, .inl (fun _ => 0))), (q23, .inl (gc 0, 105, .inl (fun _ => 0))), (q24, .inl (gc 0, 6, .inl (fun _ => 0))), (q25, .inl (gc 0, 6, .inl (fun _ => 0))), (q26, .inl (gc 0, 6, .inl (fun _ => 0))), (q27, .inl (gc 0, 6, .inl (fun _ => 0)))]) rfl ?_
  refine w_aload_n dX8_init_218 rfl ?_
  refine w_sipush (v := 360) dX8_init_219 (by decide) ?_
  refine w_newa (t := 1) (N := 360) (a0 := (360, .inr (.inl (fun _ => 0)))) dX8_init_222 rfl war_long (fun _ => rfl) (fun _ => rfl) (by decide) (by decide) (Nat.le_of_ble_eq_true rfl) (Nat.le_of_ble_eq_true rfl) (Nat.le_of_ble_eq_true rfl) (fun q28 => ?_)
  refine w_putF (q0 := 0) (ci := 8) (T := TX8) (CC := "ThawGivesModel") (N := 43) (j := 42) (ty := .array .long) (ty0 := tyX8) dX8_init_224 rfl uw_8 tyX8_ok nmX8 rfl (by decide) rfl rfl (by decide) rfl (by decide +kernel) rfl rfl fl_X8_94 (lt_b rfl) ?_
  refine w_eq (ws' := [(h, .inr (8, [.int 0, .ref q1, .ref q2, .ref q3, .ref q4, .ref q5, .int 0, .int 0, .ref q6, .int 0, .int 0, .int 0, .int 0, .int 0, .int 0, .ref q7, .ref q8, .ref q9, .ref q10, .ref q11, .ref q12, .int 0, .ref q13, .int 0, .ref q14, .ref q15, .ref q16, .int 0, .ref q17, .ref q18, .int 0, .ref q19, .ref q20, .int 0, .ref q21, .int 0, .ref q22, .ref q23, .ref q24, .ref q25, .ref q26, .ref q27, .ref q28])), (q1, .inl (gc 0, 6, .inl (fun _ => 0))), (q2, .inl (gc 0, 6, .inl (fun _ => 0))), (q3, .inl (gc 0, 6, .inl (fun _ => 0))), (q4, .inl (gc 0, 6, .inl (fun _ => 0))), (q5, .inl (gc 0, 24, .inl (fun _ => 0))), (q6, .inl (gc 0, 100, .inl (fun _ => 0))), (q7, .inl (gc 0, 6, .inl (fun _ => 0))), (q8, .inl (gc 0, 61, .inl (fun _ => 0))), (q9, .inl (gc 0, 61, .inl (fun _ => 0))), (q10, .inl (gc 0, 61, .inl (fun _ => 0))), (q11, .inl (gc 0, 61, .inl (fun _ => 0))), (q12, .inl (gc 0, 800, .inl (fun _ => 0))), (q13, .inl (gc 3, 110, .inl (fun _ => 0))), (q14, .inl (gc 0, 5, .inl (fun _ => 0))), (q15, .inl (gc 0, 5, .inl (fun _ => 0))), (q16, .inl (gc 0, 5, .inl (fun _ => 0))), (q17, .inl (gc 0, 10, .inl (fun _ => 0))), (q18, .inl (gc 0, 10, .inl (fun _ => 0))), (q19, .inl (gc 0, 8, .inl (fun _ => 0))), (q20, .inl (gc 0, 8, .inl (fun _ => 0))), (q21, .inl (gc 0, 20, .inl (fun _ => 0))), (q22, .inl (gc 0, 105, .inl (fun _ => 0))), (q23, .inl (gc 0, 105, .inl (fun _ => 0))), (q24, .inl (gc 0, 6, .inl (fun _ => 0))), (q25, .inl (gc 0, 6, .inl (fun _ => 0))), (q26, .inl (gc 0, 6, .inl (fun _ => 0))), (q27, .inl (gc 0, 6, .inl (fun _ => 0))), (q28, .inl (gc 1, 360, .inr (.inl (fun _ => 0))))]) rfl ?_
  refine w_aload_n dX8_init_227 rfl ?_
  refine w_iconst dX8_init_228 ci_m1 ?_
  refine w_put (q0 := 0) (ci := 8) (T := TX8) (CC := "ThawGivesModel") (N := 43) (j := 14) (ty := .int) (ty0 := tyX8) dX8_init_229 rfl uw_8 tyX8_ok nmX8 rfl (by decide) rfl rfl (by decide +kernel) rfl rfl fl_X8_98 (lt_b rfl) ?_
  refine w_eq (ws' := [(h, .inr (8, [.int 0, .ref q1, .ref q2, .ref q3, .ref q4, .ref q5, .int 0, .int 0, .ref q6, .int 0, .int 0, .int 0, .int 0, .int 0, .int (-1 : Int32), .ref q7, .ref q8, .ref q9, .ref q10, .ref q11, .ref q12, .int 0, .ref q13, .int 0, .ref q14, .ref q15, .ref q16, .int 0, .ref q17, .ref q18, .int 0, .ref q19, .ref q20, .int 0, .ref q21, .int 0, .ref q22, .ref q23, .ref q24, .ref q25, .ref q26, .ref q27, .ref q28])), (q1, .inl (gc 0, 6, .inl (fun _ => 0))), (q2, .inl (gc 0, 6, .inl (fun _ => 0))), (q3, .inl (gc 0, 6, .inl (fun _ => 0))), (q4, .inl (gc 0, 6, .inl (fun _ => 0))), (q5, .inl (gc 0, 24, .inl (fun _ => 0))), (q6, .inl (gc 0, 100, .inl (fun _ => 0))), (q7, .inl (gc 0, 6, .inl (fun _ => 0))), (q8, .inl (gc 0, 61, .inl (fun _ => 0))), (q9, .inl (gc 0, 61, .inl (fun _ => 0))), (q10, .inl (gc 0, 61, .inl (fun _ => 0))), (q11, .inl (gc 0, 61, .inl (fun _ => 0))), (q12, .inl (gc 0, 800, .inl (fun _ => 0))), (q13, .inl (gc 3, 110, .inl (fun _ => 0))), (q14, .inl (gc 0, 5, .inl (fun _ => 0))), (q15, .inl (gc 0, 5, .inl (fun _ => 0))), (q16, .inl (gc 0, 5, .inl (fun _ => 0))), (q17, .inl (gc 0, 10, .inl (fun _ => 0))), (q18, .inl (gc 0, 10, .inl (fun _ => 0))), (q19, .inl (gc 0, 8, .inl (fun _ => 0))), (q20, .inl (gc 0, 8, .inl (fun _ => 0))), (q21, .inl (gc 0, 20, .inl (fun _ => 0))), (q22, .inl (gc 0, 105, .inl (fun _ => 0))), (q23, .inl (gc 0, 105, .inl (fun _ => 0))), (q24, .inl (gc 0, 6, .inl (fun _ => 0))), (q25, .inl (gc 0, 6, .inl (fun _ => 0))), (q26, .inl (gc 0, 6, .inl (fun _ => 0))), (q27, .inl (gc 0, 6, .inl (fun _ => 0))), (q28, .inl (gc 1, 360, .inr (.inl (fun _ => 0))))]) rfl ?_
  refine w_iconst dX8_init_232 ci_0 ?_
  refine w_istore_n dX8_init_233 rfl (lt_b rfl) (lt_b rfl) ?_
  refine w_iload_n dX8_init_234 rfl ?_
  refine w_bipush dX8_init_235 cb_6 ?_
  refine w_geF dX8_init_237 (tgt := 253) (by decide) (by decide) ?_
  refine w_aload_n dX8_init_240 rfl ?_
  refine w_get (q0 := 0) (ci := 8) (T := TX8) (CC := "ThawGivesModel") (N := 43) (j := 40) dX8_init_241 rfl uw_8 rfl (by decide) rfl fl_X8_88 rfl ?_
  refine w_iload_n dX8_init_244 rfl ?_
  refine w_iconst dX8_init_245 ci_m1 ?_
  refine w_iast (q0 := 26) dX8_init_246 rfl (show vp_in (0 : Int32) 6 from by unfold vp_in; decide) ?_
  refine w_eq (ws' := [(h, .inr (8, [.int 0, .ref q1, .ref q2, .ref q3, .ref q4, .ref q5, .int 0, .int 0, .ref q6, .int 0, .int 0, .int 0, .int 0, .int 0, .int (-1 : Int32), .ref q7, .ref q8, .ref q9, .ref q10, .ref q11, .ref q12, .int 0, .ref q13, .int 0, .ref q14, .ref q15, .ref q16, .int 0, .ref q17, .ref q18, .int 0, .ref q19, .ref q20, .int 0, .ref q21, .int 0, .ref q22, .ref q23, .ref q24, .ref q25, .ref q26, .ref q27, .ref q28])), (q1, .inl (gc 0, 6, .inl (fun _ => 0))), (q2, .inl (gc 0, 6, .inl (fun _ => 0))), (q3, .inl (gc 0, 6, .inl (fun _ => 0))), (q4, .inl (gc 0, 6, .inl (fun _ => 0))), (q5, .inl (gc 0, 24, .inl (fun _ => 0))), (q6, .inl (gc 0, 100, .inl (fun _ => 0))), (q7, .inl (gc 0, 6, .inl (fun _ => 0))), (q8, .inl (gc 0, 61, .inl (fun _ => 0))), (q9, .inl (gc 0, 61, .inl (fun _ => 0))), (q10, .inl (gc 0, 61, .inl (fun _ => 0))), (q11, .inl (gc 0, 61, .inl (fun _ => 0))), (q12, .inl (gc 0, 800, .inl (fun _ => 0))), (q13, .inl (gc 3, 110, .inl (fun _ => 0))), (q14, .inl (gc 0, 5, .inl (fun _ => 0))), (q15, .inl (gc 0, 5, .inl (fun _ => 0))), (q16, .inl (gc 0, 5, .inl (fun _ => 0))), (q17, .inl (gc 0, 10, .inl (fun _ => 0))), (q18, .inl (gc 0, 10, .inl (fun _ => 0))), (q19, .inl (gc 0, 8, .inl (fun _ => 0))), (q20, .inl (gc 0, 8, .inl (fun _ => 0))), (q21, .inl (gc 0, 20, .inl (fun _ => 0))), (q22, .inl (gc 0, 105, .inl (fun _ => 0))), (q23, .inl (gc 0, 105, .inl (fun _ => 0))), (q24, .inl (gc 0, 6, .inl (fun _ => 0))), (q25, .inl (gc 0, 6, .inl (fun _ => 0))), (q26, .inl (gc 0, 6, .inl (upd (fun _ => 0) (Int32.toNatClampNeg 0) (-1 : Int32)))), (q27, .inl (gc 0, 6, .inl (fun _ => 0))), (q28, .inl (gc 1, 360, .inr (.inl (fun _ => 0))))]) rfl ?_
  refine w_iinc (v := 1) dX8_init_247 rfl (by decide) rfl (lt_b rfl) ?_
  refine w_goto dX8_init_250 (tgt := 234) (by decide) ?_
  refine w_iload_n dX8_init_234 rfl ?_
  refine w_bipush dX8_init_235 cb_6 ?_
  refine w_geF dX8_init_237 (tgt := 253) (by decide) (by decide) ?_
  refine w_aload_n dX8_init_240 rfl ?_
  refine w_get (q0 := 0) (ci := 8) (T := TX8) (CC := "ThawGivesModel") (N := 43) (j := 40) dX8_init_241 rfl uw_8 rfl (by decide) rfl fl_X8_88 rfl ?_
  refine w_iload_n dX8_init_244 rfl ?_
  refine w_iconst dX8_init_245 ci_m1 ?_
  refine w_iast (q0 := 26) dX8_init_246 rfl (show vp_in (1 : Int32) 6 from by unfold vp_in; decide) ?_
  refine w_eq (ws' := [(h, .inr (8, [.int 0, .ref q1, .ref q2, .ref q3, .ref q4, .ref q5, .int 0, .int 0, .ref q6, .int 0, .int 0, .int 0, .int 0, .int 0, .int (-1 : Int32), .ref q7, .ref q8, .ref q9, .ref q10, .ref q11, .ref q12, .int 0, .ref q13, .int 0, .ref q14, .ref q15, .ref q16, .int 0, .ref q17, .ref q18, .int 0, .ref q19, .ref q20, .int 0, .ref q21, .int 0, .ref q22, .ref q23, .ref q24, .ref q25, .ref q26, .ref q27, .ref q28])), (q1, .inl (gc 0, 6, .inl (fun _ => 0))), (q2, .inl (gc 0, 6, .inl (fun _ => 0))), (q3, .inl (gc 0, 6, .inl (fun _ => 0))), (q4, .inl (gc 0, 6, .inl (fun _ => 0))), (q5, .inl (gc 0, 24, .inl (fun _ => 0))), (q6, .inl (gc 0, 100, .inl (fun _ => 0))), (q7, .inl (gc 0, 6, .inl (fun _ => 0))), (q8, .inl (gc 0, 61, .inl (fun _ => 0))), (q9, .inl (gc 0, 61, .inl (fun _ => 0))), (q10, .inl (gc 0, 61, .inl (fun _ => 0))), (q11, .inl (gc 0, 61, .inl (fun _ => 0))), (q12, .inl (gc 0, 800, .inl (fun _ => 0))), (q13, .inl (gc 3, 110, .inl (fun _ => 0))), (q14, .inl (gc 0, 5, .inl (fun _ => 0))), (q15, .inl (gc 0, 5, .inl (fun _ => 0))), (q16, .inl (gc 0, 5, .inl (fun _ => 0))), (q17, .inl (gc 0, 10, .inl (fun _ => 0))), (q18, .inl (gc 0, 10, .inl (fun _ => 0))), (q19, .inl (gc 0, 8, .inl (fun _ => 0))), (q20, .inl (gc 0, 8, .inl (fun _ => 0))), (q21, .inl (gc 0, 20, .inl (fun _ => 0))), (q22, .inl (gc 0, 105, .inl (fun _ => 0))), (q23, .inl (gc 0, 105, .inl (fun _ => 0))), (q24, .inl (gc 0, 6, .inl (fun _ => 0))), (q25, .inl (gc 0, 6, .inl (fun _ => 0))), (q26, .inl (gc 0, 6, .inl (upd (upd (fun _ => 0) (Int32.toNatClampNeg 0) (-1 : Int32)) (Int32.toNatClampNeg 1) (-1 : Int32)))), (q27, .inl (gc 0, 6, .inl (fun _ => 0))), (q28, .inl (gc 1, 360, .inr (.inl (fun _ => 0))))]) rfl ?_
  refine w_iinc (v := 2) dX8_init_247 rfl (by decide) rfl (lt_b rfl) ?_
  refine w_goto dX8_init_250 (tgt := 234) (by decide) ?_
  refine w_iload_n dX8_init_234 rfl ?_
  refine w_bipush dX8_init_235 cb_6 ?_
  refine w_geF dX8_init_237 (tgt := 253) (by decide) (by decide) ?_
  refine w_aload_n dX8_init_240 rfl ?_
  refine w_get (q0 := 0) (ci := 8) (T := TX8) (CC := "ThawGivesModel") (N := 43) (j := 40) dX8_init_241 rfl uw_8 rfl (by decide) rfl fl_X8_88 rfl ?_
  refine w_iload_n dX8_init_244 rfl ?_
  refine w_iconst dX8_init_245 ci_m1 ?_
  refine w_iast (q0 := 26) dX8_init_246 rfl (show vp_in (2 : Int32) 6 from by unfold vp_in; decide) ?_
  refine w_eq (ws' := [(h, .inr (8, [.int 0, .ref q1, .ref q2, .ref q3, .ref q4, .ref q5, .int 0, .int 0, .ref q6, .int 0, .int 0, .int 0, .int 0, .int 0, .int (-1 : Int32), .ref q7, .ref q8, .ref q9, .ref q10, .ref q11, .ref q12, .int 0, .ref q13, .int 0, .ref q14, .ref q15, .ref q16, .int 0, .ref q17, .ref q18, .int 0, .ref q19, .ref q20, .int 0, .ref q21, .int 0, .ref q22, .ref q23, .ref q24, .ref q25, .ref q26, .ref q27, .ref q28])), (q1, .inl (gc 0, 6, .inl (fun _ => 0))), (q2, .inl (gc 0, 6, .inl (fun _ => 0))), (q3, .inl (gc 0, 6, .inl (fun _ => 0))), (q4, .inl (gc 0, 6, .inl (fun _ => 0))), (q5, .inl (gc 0, 24, .inl (fun _ => 0))), (q6, .inl (gc 0, 100, .inl (fun _ => 0))), (q7, .inl (gc 0, 6, .inl (fun _ => 0))), (q8, .inl (gc 0, 61, .inl (fun _ => 0))), (q9, .inl (gc 0, 61, .inl (fun _ => 0))), (q10, .inl (gc 0, 61, .inl (fun _ => 0))), (q11, .inl (gc 0, 61, .inl (fun _ => 0))), (q12, .inl (gc 0, 800, .inl (fun _ => 0))), (q13, .inl (gc 3, 110, .inl (fun _ => 0))), (q14, .inl (gc 0, 5, .inl (fun _ => 0))), (q15, .inl (gc 0, 5, .inl (fun _ => 0))), (q16, .inl (gc 0, 5, .inl (fun _ => 0))), (q17, .inl (gc 0, 10, .inl (fun _ => 0))), (q18, .inl (gc 0, 10, .inl (fun _ => 0))), (q19, .inl (gc 0, 8, .inl (fun _ => 0))), (q20, .inl (gc 0, 8, .inl (fun _ => 0))), (q21, .inl (gc 0, 20, .inl (fun _ => 0))), (q22, .inl (gc 0, 105, .inl (fun _ => 0))), (q23, .inl (gc 0, 105, .inl (fun _ => 0))), (q24, .inl (gc 0, 6, .inl (fun _ => 0))), (q25, .inl (gc 0, 6, .inl (fun _ => 0))), (q26, .inl (gc 0, 6, .inl (upd (upd (upd (fun _ => 0) (Int32.toNatClampNeg 0) (-1 : Int32)) (Int32.toNatClampNeg 1) (-1 : Int32)) (Int32.toNatClampNeg 2) (-1 : Int32)))), (q27, .inl (gc 0, 6, .inl (fun _ => 0))), (q28, .inl (gc 1, 360, .inr (.inl (fun _ => 0))))]) rfl ?_
  refine w_iinc (v := 3) dX8_init_247 rfl (by decide) rfl (lt_b rfl) ?_
  refine w_goto dX8_init_250 (tgt := 234) (by decide) ?_
  refine w_iload_n dX8_init_234 rfl ?_
  refine w_bipush dX8_init_235 cb_6 ?_
  refine w_geF dX8_init_237 (tgt := 253) (by decide) (by decide) ?_
  refine w_aload_n dX8_init_240 rfl ?_
  refine w_get (q0 := 0) (ci := 8) (T := TX8) (CC := "ThawGivesModel") (N := 43) (j := 40) dX8_init_241 rfl uw_8 rfl (by decide) rfl fl_X8_88 rfl ?_
  refine w_iload_n dX8_init_244 rfl ?_
  refine w_iconst dX8_init_245 ci_m1 ?_
  refine w_iast (q0 := 26) dX8_init_246 rfl (show vp_in (3 : Int32) 6 from by unfold vp_in; decide) ?_
  refine w_eq (ws' := [(h, .inr (8, [.int 0, .ref q1, .ref q2, .ref q3, .ref q4, .ref q5, .int 0, .int 0, .ref q6, .int 0, .int 0, .int 0, .int 0, .int 0, .int (-1 : Int32), .ref q7, .ref q8, .ref q9, .ref q10, .ref q11, .ref q12, .int 0, .ref q13, .int 0, .ref q14, .ref q15, .ref q16, .int 0, .ref q17, .ref q18, .int 0, .ref q19, .ref q20, .int 0, .ref q21, .int 0, .ref q22, .ref q23, .ref q24, .ref q25, .ref q26, .ref q27, .ref q28])), (q1, .inl (gc 0, 6, .inl (fun _ => 0))), (q2, .inl (gc 0, 6, .inl (fun _ => 0))), (q3, .inl (gc 0, 6, .inl (fun _ => 0))), (q4, .inl (gc 0, 6, .inl (fun _ => 0))), (q5, .inl (gc 0, 24, .inl (fun _ => 0))), (q6, .inl (gc 0, 100, .inl (fun _ => 0))), (q7, .inl (gc 0, 6, .inl (fun _ => 0))), (q8, .inl (gc 0, 61, .inl (fun _ => 0))), (q9, .inl (gc 0, 61, .inl (fun _ => 0))), (q10, .inl (gc 0, 61, .inl (fun _ => 0))), (q11, .inl (gc 0, 61, .inl (fun _ => 0))), (q12, .inl (gc 0, 800, .inl (fun _ => 0))), (q13, .inl (gc 3, 110, .inl (fun _ => 0))), (q14, .inl (gc 0, 5, .inl (fun _ => 0))), (q15, .inl (gc 0, 5, .inl (fun _ => 0))), (q16, .inl (gc 0, 5, .inl (fun _ => 0))), (q17, .inl (gc 0, 10, .inl (fun _ => 0))), (q18, .inl (gc 0, 10, .inl (fun _ => 0))), (q19, .inl (gc 0, 8, .inl (fun _ => 0))), (q20, .inl (gc 0, 8, .inl (fun _ => 0))), (q21, .inl (gc 0, 20, .inl (fun _ => 0))), (q22, .inl (gc 0, 105, .inl (fun _ => 0))), (q23, .inl (gc 0, 105, .inl (fun _ => 0))), (q24, .inl (gc 0, 6, .inl (fun _ => 0))), (q25, .inl (gc 0, 6, .inl (fun _ => 0))), (q26, .inl (gc 0, 6, .inl (upd (upd (upd (upd (fun _ => 0) (Int32.toNatClampNeg 0) (-1 : Int32)) (Int32.toNatClampNeg 1) (-1 : Int32)) (Int32.toNatClampNeg 2) (-1 : Int32)) (Int32.toNatClampNeg 3) (-1 : Int32)))), (q27, .inl (gc 0, 6, .inl (fun _ => 0))), (q28, .inl (gc 1, 360, .inr (.inl (fun _ => 0))))]) rfl ?_
  refine w_iinc (v := 4) dX8_init_247 rfl (by decide) rfl (lt_b rfl) ?_
  refine w_goto dX8_init_250 (tgt := 234) (by decide) ?_
  refine w_iload_n dX8_init_234 rfl ?_
  refine w_bipush dX8_init_235 cb_6 ?_
  refine w_geF dX8_init_237 (tgt := 253) (by decide) (by decide) ?_
  refine w_aload_n dX8_init_240 rfl ?_
  refine w_get (q0 := 0) (ci := 8) (T := TX8) (CC := "ThawGivesModel") (N := 43) (j := 40) dX8_init_241 rfl uw_8 rfl (by decide) rfl fl_X8_88 rfl ?_
  refine w_iload_n dX8_init_244 rfl ?_
  refine w_iconst dX8_init_245 ci_m1 ?_
  refine w_iast (q0 := 26) dX8_init_246 rfl (show vp_in (4 : Int32) 6 from by unfold vp_in; decide) ?_
  refine w_eq (ws' := [(h, .inr (8, [.int 0, .ref q1, .ref q2, .ref q3, .ref q4, .ref q5, .int 0, .int 0, .ref q6, .int 0, .int 0, .int 0, .int 0, .int 0, .int (-1 : Int32), .ref q7, .ref q8, .ref q9, .ref q10, .ref q11, .ref q12, .int 0, .ref q13, .int 0, .ref q14, .ref q15, .ref q16, .int 0, .ref q17, .ref q18, .int 0, .ref q19, .ref q20, .int 0, .ref q21, .int 0, .ref q22, .ref q23, .ref q24, .ref q25, .ref q26, .ref q27, .ref q28])), (q1, .inl (gc 0, 6, .inl (fun _ => 0))), (q2, .inl (gc 0, 6, .inl (fun _ => 0))), (q3, .inl (gc 0, 6, .inl (fun _ => 0))), (q4, .inl (gc 0, 6, .inl (fun _ => 0))), (q5, .inl (gc 0, 24, .inl (fun _ => 0))), (q6, .inl (gc 0, 100, .inl (fun _ => 0))), (q7, .inl (gc 0, 6, .inl (fun _ => 0))), (q8, .inl (gc 0, 61, .inl (fun _ => 0))), (q9, .inl (gc 0, 61, .inl (fun _ => 0))), (q10, .inl (gc 0, 61, .inl (fun _ => 0))), (q11, .inl (gc 0, 61, .inl (fun _ => 0))), (q12, .inl (gc 0, 800, .inl (fun _ => 0))), (q13, .inl (gc 3, 110, .inl (fun _ => 0))), (q14, .inl (gc 0, 5, .inl (fun _ => 0))), (q15, .inl (gc 0, 5, .inl (fun _ => 0))), (q16, .inl (gc 0, 5, .inl (fun _ => 0))), (q17, .inl (gc 0, 10, .inl (fun _ => 0))), (q18, .inl (gc 0, 10, .inl (fun _ => 0))), (q19, .inl (gc 0, 8, .inl (fun _ => 0))), (q20, .inl (gc 0, 8, .inl (fun _ => 0))), (q21, .inl (gc 0, 20, .inl (fun _ => 0))), (q22, .inl (gc 0, 105, .inl (fun _ => 0))), (q23, .inl (gc 0, 105, .inl (fun _ => 0))), (q24, .inl (gc 0, 6, .inl (fun _ => 0))), (q25, .inl (gc 0, 6, .inl (fun _ => 0))), (q26, .inl (gc 0, 6, .inl (upd (upd (upd (upd (upd (fun _ => 0) (Int32.toNatClampNeg 0) (-1 : Int32)) (Int32.toNatClampNeg 1) (-1 : Int32)) (Int32.toNatClampNeg 2) (-1 : Int32)) (Int32.toNatClampNeg 3) (-1 : Int32)) (Int32.toNatClampNeg 4) (-1 : Int32)))), (q27, .inl (gc 0, 6, .inl (fun _ => 0))), (q28, .inl (gc 1, 360, .inr (.inl (fun _ => 0))))]) rfl ?_
  refine w_iinc (v := 5) dX8_init_247 rfl (by decide) rfl (lt_b rfl) ?_
  refine w_goto dX8_init_250 (tgt := 234) (by decide) ?_
  refine w_iload_n dX8_init_234 rfl ?_
  refine w_bipush dX8_init_235 cb_6 ?_
  refine w_geF dX8_init_237 (tgt := 253) (by decide) (by decide) ?_
  refine w_aload_n dX8_init_240 rfl ?_
  refine w_get (q0 := 0) (ci := 8) (T := TX8) (CC := "ThawGivesModel") (N := 43) (j := 40) dX8_init_241 rfl uw_8 rfl (by decide) rfl fl_X8_88 rfl ?_
  refine w_iload_n dX8_init_244 rfl ?_
  refine w_iconst dX8_init_245 ci_m1 ?_
  refine w_iast (q0 := 26) dX8_init_246 rfl (show vp_in (5 : Int32) 6 from by unfold vp_in; decide) ?_
  refine w_eq (ws' := [(h, .inr (8, [.int 0, .ref q1, .ref q2, .ref q3, .ref q4, .ref q5, .int 0, .int 0, .ref q6, .int 0, .int 0, .int 0, .int 0, .int 0, .int (-1 : Int32), .ref q7, .ref q8, .ref q9, .ref q10, .ref q11, .ref q12, .int 0, .ref q13, .int 0, .ref q14, .ref q15, .ref q16, .int 0, .ref q17, .ref q18, .int 0, .ref q19, .ref q20, .int 0, .ref q21, .int 0, .ref q22, .ref q23, .ref q24, .ref q25, .ref q26, .ref q27, .ref q28])), (q1, .inl (gc 0, 6, .inl (fun _ => 0))), (q2, .inl (gc 0, 6, .inl (fun _ => 0))), (q3, .inl (gc 0, 6, .inl (fun _ => 0))), (q4, .inl (gc 0, 6, .inl (fun _ => 0))), (q5, .inl (gc 0, 24, .inl (fun _ => 0))), (q6, .inl (gc 0, 100, .inl (fun _ => 0))), (q7, .inl (gc 0, 6, .inl (fun _ => 0))), (q8, .inl (gc 0, 61, .inl (fun _ => 0))), (q9, .inl (gc 0, 61, .inl (fun _ => 0))), (q10, .inl (gc 0, 61, .inl (fun _ => 0))), (q11, .inl (gc 0, 61, .inl (fun _ => 0))), (q12, .inl (gc 0, 800, .inl (fun _ => 0))), (q13, .inl (gc 3, 110, .inl (fun _ => 0))), (q14, .inl (gc 0, 5, .inl (fun _ => 0))), (q15, .inl (gc 0, 5, .inl (fun _ => 0))), (q16, .inl (gc 0, 5, .inl (fun _ => 0))), (q17, .inl (gc 0, 10, .inl (fun _ => 0))), (q18, .inl (gc 0, 10, .inl (fun _ => 0))), (q19, .inl (gc 0, 8, .inl (fun _ => 0))), (q20, .inl (gc 0, 8, .inl (fun _ => 0))), (q21, .inl (gc 0, 20, .inl (fun _ => 0))), (q22, .inl (gc 0, 105, .inl (fun _ => 0))), (q23, .inl (gc 0, 105, .inl (fun _ => 0))), (q24, .inl (gc 0, 6, .inl (fun _ => 0))), (q25, .inl (gc 0, 6, .inl (fun _ => 0))), (q26, .inl (gc 0, 6, .inl (upd (upd (upd (upd (upd (upd (fun _ => 0) (Int32.toNatClampNeg 0) (-1 : Int32)) (Int32.toNatClampNeg 1) (-1 : Int32)) (Int32.toNatClampNeg 2) (-1 : Int32)) (Int32.toNatClampNeg 3) (-1 : Int32)) (Int32.toNatClampNeg 4) (-1 : Int32)) (Int32.toNatClampNeg 5) (-1 : Int32)))), (q27, .inl (gc 0, 6, .inl (fun _ => 0))), (q28, .inl (gc 1, 360, .inr (.inl (fun _ => 0))))]) rfl ?_
  refine w_iinc (v := 6) dX8_init_247 rfl (by decide) rfl (lt_b rfl) ?_
  refine w_goto dX8_init_250 (tgt := 234) (by decide) ?_
  refine w_iload_n dX8_init_234 rfl ?_
  refine w_bipush dX8_init_235 cb_6 ?_
  refine w_geT dX8_init_237 (tgt := 253) (by decide) (by decide) ?_
  exact w_ret (u := fun j => [q1, q2, q3, q4, q5, q6, q7, q8, q9, q10, q11, q12, q13, q14, q15, q16, q17, q18, q19, q20, q21, q22, q23, q24, q25, q26, q27, q28].getD j 0) dX8_init_253 rfl (Nat.le_of_ble_eq_true rfl) (Nat.le_of_ble_eq_true rfl) rfl
