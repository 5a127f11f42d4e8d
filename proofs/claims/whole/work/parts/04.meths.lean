/-! printed by wip/whole/gen.py: what the tables say of each method -/
def zMok (q : ZM) : Prop := (Cond.code q.1 q.2.1 q.2.2.1 q.2.2.2.1 ∈ tables_1 ∧ Cond.initialized q.1.cls ∈ tables_1) ∧ (Cond.static q.1 ∈ tables_1 ∨ Cond.instanceMethod q.1 ∈ tables_1) ∧ q.1.cls = zRN q.2.2.2.2 ∧ plainFor q.1 = true ∧ q.1.cls ≠ "java/lang/invoke/MethodHandle" ∧ q.1.cls ≠ "java/lang/invoke/VarHandle"
theorem zMok_0 : zMok (zM 0) := ⟨⟨List.mem_of_getElem? (i := 25) (by decide +kernel), List.mem_of_getElem? (i := 1) (by decide +kernel)⟩, Or.inr (List.mem_of_getElem? (i := 24) (by decide +kernel)), by decide +kernel, by decide +kernel, by decide +kernel, by decide +kernel⟩
theorem zMok_1 : zMok (zM 1) := ⟨⟨List.mem_of_getElem? (i := 35) (by decide +kernel), List.mem_of_getElem? (i := 2) (by decide +kernel)⟩, Or.inr (List.mem_of_getElem? (i := 34) (by decide +kernel)), by decide +kernel, by decide +kernel, by decide +kernel, by decide +kernel⟩
theorem zMok_2 : zMok (zM 2) := ⟨⟨List.mem_of_getElem? (i := 90) (by decide +kernel), List.mem_of_getElem? (i := 3) (by decide +kernel)⟩, Or.inr (List.mem_of_getElem? (i := 89) (by decide +kernel)), by decide +kernel, by decide +kernel, by decide +kernel, by decide +kernel⟩
theorem zMok_3 : zMok (zM 3) := ⟨⟨List.mem_of_getElem? (i := 113) (by decide +kernel), List.mem_of_getElem? (i := 4) (by decide +kernel)⟩, Or.inr (List.mem_of_getElem? (i := 112) (by decide +kernel)), by decide +kernel, by decide +kernel, by decide +kernel, by decide +kernel⟩
theorem zMok_4 : zMok (zM 4) := ⟨⟨List.mem_of_getElem? (i := 119) (by decide +kernel), List.mem_of_getElem? (i := 5) (by decide +kernel)⟩, Or.inr (List.mem_of_getElem? (i := 118) (by decide +kernel)), by decide +kernel, by decide +kernel, by decide +kernel, by decide +kernel⟩
theorem zMok_5 : zMok (zM 5) := ⟨⟨List.mem_of_getElem? (i := 158) (by decide +kernel), List.mem_of_getElem? (i := 6) (by decide +kernel)⟩, Or.inr (List.mem_of_getElem? (i := 157) (by decide +kernel)), by decide +kernel, by decide +kernel, by decide +kernel, by decide +kernel⟩
theorem zMok_6 : zMok (zM 6) := ⟨⟨List.mem_of_getElem? (i := 180) (by decide +kernel), List.mem_of_getElem? (i := 7) (by decide +kernel)⟩, Or.inr (List.mem_of_getElem? (i := 179) (by decide +kernel)), by decide +kernel, by decide +kernel, by decide +kernel, by decide +kernel⟩
theorem zMok_7 : zMok (zM 7) := ⟨⟨List.mem_of_getElem? (i := 215) (by decide +kernel), List.mem_of_getElem? (i := 8) (by decide +kernel)⟩, Or.inr (List.mem_of_getElem? (i := 214) (by decide +kernel)), by decide +kernel, by decide +kernel, by decide +kernel, by decide +kernel⟩
theorem zMok_8 : zMok (zM 8) := ⟨⟨List.mem_of_getElem? (i := 237) (by decide +kernel), List.mem_of_getElem? (i := 9) (by decide +kernel)⟩, Or.inr (List.mem_of_getElem? (i := 236) (by decide +kernel)), by decide +kernel, by decide +kernel, by decide +kernel, by decide +kernel⟩
theorem zMok_9 : zMok (zM 9) := ⟨⟨List.mem_of_getElem? (i := 332) (by decide +kernel), List.mem_of_getElem? (i := 1) (by decide +kernel)⟩, Or.inr (List.mem_of_getElem? (i := 330) (by decide +kernel)), by decide +kernel, by decide +kernel, by decide +kernel, by decide +kernel⟩
theorem zMok_10 : zMok (zM 10) := ⟨⟨List.mem_of_getElem? (i := 336) (by decide +kernel), List.mem_of_getElem? (i := 1) (by decide +kernel)⟩, Or.inr (List.mem_of_getElem? (i := 335) (by decide +kernel)), by decide +kernel, by decide +kernel, by decide +kernel, by decide +kernel⟩
theorem zMok_11 : zMok (zM 11) := ⟨⟨List.mem_of_getElem? (i := 340) (by decide +kernel), List.mem_of_getElem? (i := 1) (by decide +kernel)⟩, Or.inr (List.mem_of_getElem? (i := 338) (by decide +kernel)), by decide +kernel, by decide +kernel, by decide +kernel, by decide +kernel⟩
theorem zMok_12 : zMok (zM 12) := ⟨⟨List.mem_of_getElem? (i := 344) (by decide +kernel), List.mem_of_getElem? (i := 1) (by decide +kernel)⟩, Or.inr (List.mem_of_getElem? (i := 342) (by decide +kernel)), by decide +kernel, by decide +kernel, by decide +kernel, by decide +kernel⟩
theorem zMok_13 : zMok (zM 13) := ⟨⟨List.mem_of_getElem? (i := 348) (by decide +kernel), List.mem_of_getElem? (i := 4) (by decide +kernel)⟩, Or.inr (List.mem_of_getElem? (i := 346) (by decide +kernel)), by decide +kernel, by decide +kernel, by decide +kernel, by decide +kernel⟩
theorem zMok_14 : zMok (zM 14) := ⟨⟨List.mem_of_getElem? (i := 353) (by decide +kernel), List.mem_of_getElem? (i := 11) (by decide +kernel)⟩, Or.inr (List.mem_of_getElem? (i := 352) (by decide +kernel)), by decide +kernel, by decide +kernel, by decide +kernel, by decide +kernel⟩
theorem zMok_15 : zMok (zM 15) := ⟨⟨List.mem_of_getElem? (i := 395) (by decide +kernel), List.mem_of_getElem? (i := 5) (by decide +kernel)⟩, Or.inr (List.mem_of_getElem? (i := 393) (by decide +kernel)), by decide +kernel, by decide +kernel, by decide +kernel, by decide +kernel⟩
theorem zMok_16 : zMok (zM 16) := ⟨⟨List.mem_of_getElem? (i := 398) (by decide +kernel), List.mem_of_getElem? (i := 12) (by decide +kernel)⟩, Or.inl (List.mem_of_getElem? (i := 397) (by decide +kernel)), by decide +kernel, by decide +kernel, by decide +kernel, by decide +kernel⟩
theorem zMok_17 : zMok (zM 17) := ⟨⟨List.mem_of_getElem? (i := 401) (by decide +kernel), List.mem_of_getElem? (i := 12) (by decide +kernel)⟩, Or.inl (List.mem_of_getElem? (i := 400) (by decide +kernel)), by decide +kernel, by decide +kernel, by decide +kernel, by decide +kernel⟩
theorem zMok_18 : zMok (zM 18) := ⟨⟨List.mem_of_getElem? (i := 408) (by decide +kernel), List.mem_of_getElem? (i := 5) (by decide +kernel)⟩, Or.inr (List.mem_of_getElem? (i := 406) (by decide +kernel)), by decide +kernel, by decide +kernel, by decide +kernel, by decide +kernel⟩
theorem zMok_19 : zMok (zM 19) := ⟨⟨List.mem_of_getElem? (i := 411) (by decide +kernel), List.mem_of_getElem? (i := 5) (by decide +kernel)⟩, Or.inl (List.mem_of_getElem? (i := 410) (by decide +kernel)), by decide +kernel, by decide +kernel, by decide +kernel, by decide +kernel⟩
theorem zMok_20 : zMok (zM 20) := ⟨⟨List.mem_of_getElem? (i := 415) (by decide +kernel), List.mem_of_getElem? (i := 4) (by decide +kernel)⟩, Or.inr (List.mem_of_getElem? (i := 414) (by decide +kernel)), by decide +kernel, by decide +kernel, by decide +kernel, by decide +kernel⟩
theorem zMok_21 : zMok (zM 21) := ⟨⟨List.mem_of_getElem? (i := 420) (by decide +kernel), List.mem_of_getElem? (i := 5) (by decide +kernel)⟩, Or.inr (List.mem_of_getElem? (i := 418) (by decide +kernel)), by decide +kernel, by decide +kernel, by decide +kernel, by decide +kernel⟩
theorem zMok_22 : zMok (zM 22) := ⟨⟨List.mem_of_getElem? (i := 472) (by decide +kernel), List.mem_of_getElem? (i := 5) (by decide +kernel)⟩, Or.inr (List.mem_of_getElem? (i := 470) (by decide +kernel)), by decide +kernel, by decide +kernel, by decide +kernel, by decide +kernel⟩
theorem zMok_23 : zMok (zM 23) := ⟨⟨List.mem_of_getElem? (i := 477) (by decide +kernel), List.mem_of_getElem? (i := 5) (by decide +kernel)⟩, Or.inr (List.mem_of_getElem? (i := 475) (by decide +kernel)), by decide +kernel, by decide +kernel, by decide +kernel, by decide +kernel⟩
theorem zMok_24 : zMok (zM 24) := ⟨⟨List.mem_of_getElem? (i := 482) (by decide +kernel), List.mem_of_getElem? (i := 5) (by decide +kernel)⟩, Or.inr (List.mem_of_getElem? (i := 480) (by decide +kernel)), by decide +kernel, by decide +kernel, by decide +kernel, by decide +kernel⟩
theorem zMok_25 : zMok (zM 25) := ⟨⟨List.mem_of_getElem? (i := 486) (by decide +kernel), List.mem_of_getElem? (i := 4) (by decide +kernel)⟩, Or.inr (List.mem_of_getElem? (i := 485) (by decide +kernel)), by decide +kernel, by decide +kernel, by decide +kernel, by decide +kernel⟩
theorem zMok_26 : zMok (zM 26) := ⟨⟨List.mem_of_getElem? (i := 490) (by decide +kernel), List.mem_of_getElem? (i := 11) (by decide +kernel)⟩, Or.inr (List.mem_of_getElem? (i := 488) (by decide +kernel)), by decide +kernel, by decide +kernel, by decide +kernel, by decide +kernel⟩
theorem zMok_27 : zMok (zM 27) := ⟨⟨List.mem_of_getElem? (i := 494) (by decide +kernel), List.mem_of_getElem? (i := 4) (by decide +kernel)⟩, Or.inr (List.mem_of_getElem? (i := 493) (by decide +kernel)), by decide +kernel, by decide +kernel, by decide +kernel, by decide +kernel⟩
theorem zMok_28 : zMok (zM 28) := ⟨⟨List.mem_of_getElem? (i := 498) (by decide +kernel), List.mem_of_getElem? (i := 2) (by decide +kernel)⟩, Or.inr (List.mem_of_getElem? (i := 496) (by decide +kernel)), by decide +kernel, by decide +kernel, by decide +kernel, by decide +kernel⟩
theorem zMok_29 : zMok (zM 29) := ⟨⟨List.mem_of_getElem? (i := 502) (by decide +kernel), List.mem_of_getElem? (i := 4) (by decide +kernel)⟩, Or.inr (List.mem_of_getElem? (i := 501) (by decide +kernel)), by decide +kernel, by decide +kernel, by decide +kernel, by decide +kernel⟩
theorem zMok_30 : zMok (zM 30) := ⟨⟨List.mem_of_getElem? (i := 506) (by decide +kernel), List.mem_of_getElem? (i := 5) (by decide +kernel)⟩, Or.inr (List.mem_of_getElem? (i := 504) (by decide +kernel)), by decide +kernel, by decide +kernel, by decide +kernel, by decide +kernel⟩
theorem zMok_31 : zMok (zM 31) := ⟨⟨List.mem_of_getElem? (i := 510) (by decide +kernel), List.mem_of_getElem? (i := 5) (by decide +kernel)⟩, Or.inr (List.mem_of_getElem? (i := 508) (by decide +kernel)), by decide +kernel, by decide +kernel, by decide +kernel, by decide +kernel⟩
theorem zMok_32 : zMok (zM 32) := ⟨⟨List.mem_of_getElem? (i := 514) (by decide +kernel), List.mem_of_getElem? (i := 2) (by decide +kernel)⟩, Or.inr (List.mem_of_getElem? (i := 512) (by decide +kernel)), by decide +kernel, by decide +kernel, by decide +kernel, by decide +kernel⟩
theorem zMok_33 : zMok (zM 33) := ⟨⟨List.mem_of_getElem? (i := 518) (by decide +kernel), List.mem_of_getElem? (i := 1) (by decide +kernel)⟩, Or.inr (List.mem_of_getElem? (i := 516) (by decide +kernel)), by decide +kernel, by decide +kernel, by decide +kernel, by decide +kernel⟩
theorem zMok_34 : zMok (zM 34) := ⟨⟨List.mem_of_getElem? (i := 522) (by decide +kernel), List.mem_of_getElem? (i := 6) (by decide +kernel)⟩, Or.inr (List.mem_of_getElem? (i := 520) (by decide +kernel)), by decide +kernel, by decide +kernel, by decide +kernel, by decide +kernel⟩
theorem zMok_35 : zMok (zM 35) := ⟨⟨List.mem_of_getElem? (i := 527) (by decide +kernel), List.mem_of_getElem? (i := 6) (by decide +kernel)⟩, Or.inr (List.mem_of_getElem? (i := 526) (by decide +kernel)), by decide +kernel, by decide +kernel, by decide +kernel, by decide +kernel⟩
theorem zMok_36 : zMok (zM 36) := ⟨⟨List.mem_of_getElem? (i := 535) (by decide +kernel), List.mem_of_getElem? (i := 6) (by decide +kernel)⟩, Or.inr (List.mem_of_getElem? (i := 534) (by decide +kernel)), by decide +kernel, by decide +kernel, by decide +kernel, by decide +kernel⟩
theorem zMok_37 : zMok (zM 37) := ⟨⟨List.mem_of_getElem? (i := 539) (by decide +kernel), List.mem_of_getElem? (i := 6) (by decide +kernel)⟩, Or.inr (List.mem_of_getElem? (i := 538) (by decide +kernel)), by decide +kernel, by decide +kernel, by decide +kernel, by decide +kernel⟩
theorem zMok_38 : zMok (zM 38) := ⟨⟨List.mem_of_getElem? (i := 545) (by decide +kernel), List.mem_of_getElem? (i := 6) (by decide +kernel)⟩, Or.inr (List.mem_of_getElem? (i := 544) (by decide +kernel)), by decide +kernel, by decide +kernel, by decide +kernel, by decide +kernel⟩
theorem zMok_39 : zMok (zM 39) := ⟨⟨List.mem_of_getElem? (i := 550) (by decide +kernel), List.mem_of_getElem? (i := 6) (by decide +kernel)⟩, Or.inr (List.mem_of_getElem? (i := 549) (by decide +kernel)), by decide +kernel, by decide +kernel, by decide +kernel, by decide +kernel⟩
theorem zMok_40 : zMok (zM 40) := ⟨⟨List.mem_of_getElem? (i := 554) (by decide +kernel), List.mem_of_getElem? (i := 6) (by decide +kernel)⟩, Or.inr (List.mem_of_getElem? (i := 553) (by decide +kernel)), by decide +kernel, by decide +kernel, by decide +kernel, by decide +kernel⟩
theorem zMok_41 : zMok (zM 41) := ⟨⟨List.mem_of_getElem? (i := 560) (by decide +kernel), List.mem_of_getElem? (i := 6) (by decide +kernel)⟩, Or.inr (List.mem_of_getElem? (i := 559) (by decide +kernel)), by decide +kernel, by decide +kernel, by decide +kernel, by decide +kernel⟩
theorem zMok_42 : zMok (zM 42) := ⟨⟨List.mem_of_getElem? (i := 564) (by decide +kernel), List.mem_of_getElem? (i := 6) (by decide +kernel)⟩, Or.inr (List.mem_of_getElem? (i := 563) (by decide +kernel)), by decide +kernel, by decide +kernel, by decide +kernel, by decide +kernel⟩
theorem zMok_43 : zMok (zM 43) := ⟨⟨List.mem_of_getElem? (i := 570) (by decide +kernel), List.mem_of_getElem? (i := 6) (by decide +kernel)⟩, Or.inr (List.mem_of_getElem? (i := 569) (by decide +kernel)), by decide +kernel, by decide +kernel, by decide +kernel, by decide +kernel⟩
theorem zMok_44 : zMok (zM 44) := ⟨⟨List.mem_of_getElem? (i := 577) (by decide +kernel), List.mem_of_getElem? (i := 19) (by decide +kernel)⟩, Or.inl (List.mem_of_getElem? (i := 576) (by decide +kernel)), by decide +kernel, by decide +kernel, by decide +kernel, by decide +kernel⟩
theorem zMok_45 : zMok (zM 45) := ⟨⟨List.mem_of_getElem? (i := 589) (by decide +kernel), List.mem_of_getElem? (i := 18) (by decide +kernel)⟩, Or.inr (List.mem_of_getElem? (i := 588) (by decide +kernel)), by decide +kernel, by decide +kernel, by decide +kernel, by decide +kernel⟩
theorem zMok_46 : zMok (zM 46) := ⟨⟨List.mem_of_getElem? (i := 598) (by decide +kernel), List.mem_of_getElem? (i := 1) (by decide +kernel)⟩, Or.inr (List.mem_of_getElem? (i := 596) (by decide +kernel)), by decide +kernel, by decide +kernel, by decide +kernel, by decide +kernel⟩
theorem zMok_47 : zMok (zM 47) := ⟨⟨List.mem_of_getElem? (i := 602) (by decide +kernel), List.mem_of_getElem? (i := 1) (by decide +kernel)⟩, Or.inr (List.mem_of_getElem? (i := 600) (by decide +kernel)), by decide +kernel, by decide +kernel, by decide +kernel, by decide +kernel⟩
theorem zMok_48 : zMok (zM 48) := ⟨⟨List.mem_of_getElem? (i := 605) (by decide +kernel), List.mem_of_getElem? (i := 1) (by decide +kernel)⟩, Or.inl (List.mem_of_getElem? (i := 604) (by decide +kernel)), by decide +kernel, by decide +kernel, by decide +kernel, by decide +kernel⟩
theorem zMok_49 : zMok (zM 49) := ⟨⟨List.mem_of_getElem? (i := 609) (by decide +kernel), List.mem_of_getElem? (i := 1) (by decide +kernel)⟩, Or.inr (List.mem_of_getElem? (i := 607) (by decide +kernel)), by decide +kernel, by decide +kernel, by decide +kernel, by decide +kernel⟩
theorem zMok_50 : zMok (zM 50) := ⟨⟨List.mem_of_getElem? (i := 613) (by decide +kernel), List.mem_of_getElem? (i := 1) (by decide +kernel)⟩, Or.inr (List.mem_of_getElem? (i := 612) (by decide +kernel)), by decide +kernel, by decide +kernel, by decide +kernel, by decide +kernel⟩
theorem zMok_51 : zMok (zM 51) := ⟨⟨List.mem_of_getElem? (i := 617) (by decide +kernel), List.mem_of_getElem? (i := 1) (by decide +kernel)⟩, Or.inr (List.mem_of_getElem? (i := 615) (by decide +kernel)), by decide +kernel, by decide +kernel, by decide +kernel, by decide +kernel⟩
theorem zMok_52 : zMok (zM 52) := ⟨⟨List.mem_of_getElem? (i := 621) (by decide +kernel), List.mem_of_getElem? (i := 1) (by decide +kernel)⟩, Or.inr (List.mem_of_getElem? (i := 620) (by decide +kernel)), by decide +kernel, by decide +kernel, by decide +kernel, by decide +kernel⟩
theorem zMok_53 : zMok (zM 53) := ⟨⟨List.mem_of_getElem? (i := 625) (by decide +kernel), List.mem_of_getElem? (i := 2) (by decide +kernel)⟩, Or.inr (List.mem_of_getElem? (i := 623) (by decide +kernel)), by decide +kernel, by decide +kernel, by decide +kernel, by decide +kernel⟩
theorem zMok_54 : zMok (zM 54) := ⟨⟨List.mem_of_getElem? (i := 629) (by decide +kernel), List.mem_of_getElem? (i := 1) (by decide +kernel)⟩, Or.inr (List.mem_of_getElem? (i := 627) (by decide +kernel)), by decide +kernel, by decide +kernel, by decide +kernel, by decide +kernel⟩
theorem zMok_55 : zMok (zM 55) := ⟨⟨List.mem_of_getElem? (i := 633) (by decide +kernel), List.mem_of_getElem? (i := 2) (by decide +kernel)⟩, Or.inr (List.mem_of_getElem? (i := 631) (by decide +kernel)), by decide +kernel, by decide +kernel, by decide +kernel, by decide +kernel⟩
theorem zMok_56 : zMok (zM 56) := ⟨⟨List.mem_of_getElem? (i := 636) (by decide +kernel), List.mem_of_getElem? (i := 20) (by decide +kernel)⟩, Or.inl (List.mem_of_getElem? (i := 635) (by decide +kernel)), by decide +kernel, by decide +kernel, by decide +kernel, by decide +kernel⟩
theorem zMok_57 : zMok (zM 57) := ⟨⟨List.mem_of_getElem? (i := 643) (by decide +kernel), List.mem_of_getElem? (i := 2) (by decide +kernel)⟩, Or.inr (List.mem_of_getElem? (i := 641) (by decide +kernel)), by decide +kernel, by decide +kernel, by decide +kernel, by decide +kernel⟩
theorem zMok_58 : zMok (zM 58) := ⟨⟨List.mem_of_getElem? (i := 647) (by decide +kernel), List.mem_of_getElem? (i := 1) (by decide +kernel)⟩, Or.inr (List.mem_of_getElem? (i := 645) (by decide +kernel)), by decide +kernel, by decide +kernel, by decide +kernel, by decide +kernel⟩
theorem zMok_59 : zMok (zM 59) := ⟨⟨List.mem_of_getElem? (i := 651) (by decide +kernel), List.mem_of_getElem? (i := 1) (by decide +kernel)⟩, Or.inr (List.mem_of_getElem? (i := 650) (by decide +kernel)), by decide +kernel, by decide +kernel, by decide +kernel, by decide +kernel⟩
theorem zMok_60 : zMok (zM 60) := ⟨⟨List.mem_of_getElem? (i := 656) (by decide +kernel), List.mem_of_getElem? (i := 1) (by decide +kernel)⟩, Or.inr (List.mem_of_getElem? (i := 655) (by decide +kernel)), by decide +kernel, by decide +kernel, by decide +kernel, by decide +kernel⟩
theorem zMok_61 : zMok (zM 61) := ⟨⟨List.mem_of_getElem? (i := 660) (by decide +kernel), List.mem_of_getElem? (i := 7) (by decide +kernel)⟩, Or.inr (List.mem_of_getElem? (i := 658) (by decide +kernel)), by decide +kernel, by decide +kernel, by decide +kernel, by decide +kernel⟩
theorem zMok_62 : zMok (zM 62) := ⟨⟨List.mem_of_getElem? (i := 664) (by decide +kernel), List.mem_of_getElem? (i := 7) (by decide +kernel)⟩, Or.inr (List.mem_of_getElem? (i := 663) (by decide +kernel)), by decide +kernel, by decide +kernel, by decide +kernel, by decide +kernel⟩
theorem zMok_63 : zMok (zM 63) := ⟨⟨List.mem_of_getElem? (i := 668) (by decide +kernel), List.mem_of_getElem? (i := 7) (by decide +kernel)⟩, Or.inr (List.mem_of_getElem? (i := 667) (by decide +kernel)), by decide +kernel, by decide +kernel, by decide +kernel, by decide +kernel⟩
theorem zMok_64 : zMok (zM 64) := ⟨⟨List.mem_of_getElem? (i := 672) (by decide +kernel), List.mem_of_getElem? (i := 7) (by decide +kernel)⟩, Or.inr (List.mem_of_getElem? (i := 671) (by decide +kernel)), by decide +kernel, by decide +kernel, by decide +kernel, by decide +kernel⟩
theorem zMok_65 : zMok (zM 65) := ⟨⟨List.mem_of_getElem? (i := 676) (by decide +kernel), List.mem_of_getElem? (i := 7) (by decide +kernel)⟩, Or.inr (List.mem_of_getElem? (i := 675) (by decide +kernel)), by decide +kernel, by decide +kernel, by decide +kernel, by decide +kernel⟩
theorem zMok_66 : zMok (zM 66) := ⟨⟨List.mem_of_getElem? (i := 681) (by decide +kernel), List.mem_of_getElem? (i := 18) (by decide +kernel)⟩, Or.inr (List.mem_of_getElem? (i := 679) (by decide +kernel)), by decide +kernel, by decide +kernel, by decide +kernel, by decide +kernel⟩
theorem zMok_67 : zMok (zM 67) := ⟨⟨List.mem_of_getElem? (i := 686) (by decide +kernel), List.mem_of_getElem? (i := 18) (by decide +kernel)⟩, Or.inl (List.mem_of_getElem? (i := 685) (by decide +kernel)), by decide +kernel, by decide +kernel, by decide +kernel, by decide +kernel⟩
theorem zMok_68 : zMok (zM 68) := ⟨⟨List.mem_of_getElem? (i := 689) (by decide +kernel), List.mem_of_getElem? (i := 18) (by decide +kernel)⟩, Or.inl (List.mem_of_getElem? (i := 688) (by decide +kernel)), by decide +kernel, by decide +kernel, by decide +kernel, by decide +kernel⟩
theorem zMok_69 : zMok (zM 69) := ⟨⟨List.mem_of_getElem? (i := 692) (by decide +kernel), List.mem_of_getElem? (i := 18) (by decide +kernel)⟩, Or.inl (List.mem_of_getElem? (i := 691) (by decide +kernel)), by decide +kernel, by decide +kernel, by decide +kernel, by decide +kernel⟩
theorem zMok_70 : zMok (zM 70) := ⟨⟨List.mem_of_getElem? (i := 696) (by decide +kernel), List.mem_of_getElem? (i := 2) (by decide +kernel)⟩, Or.inr (List.mem_of_getElem? (i := 694) (by decide +kernel)), by decide +kernel, by decide +kernel, by decide +kernel, by decide +kernel⟩
theorem zMok_71 : zMok (zM 71) := ⟨⟨List.mem_of_getElem? (i := 700) (by decide +kernel), List.mem_of_getElem? (i := 7) (by decide +kernel)⟩, Or.inr (List.mem_of_getElem? (i := 699) (by decide +kernel)), by decide +kernel, by decide +kernel, by decide +kernel, by decide +kernel⟩
theorem zMok_72 : zMok (zM 72) := ⟨⟨List.mem_of_getElem? (i := 704) (by decide +kernel), List.mem_of_getElem? (i := 2) (by decide +kernel)⟩, Or.inr (List.mem_of_getElem? (i := 702) (by decide +kernel)), by decide +kernel, by decide +kernel, by decide +kernel, by decide +kernel⟩
theorem zMok_73 : zMok (zM 73) := ⟨⟨List.mem_of_getElem? (i := 708) (by decide +kernel), List.mem_of_getElem? (i := 2) (by decide +kernel)⟩, Or.inr (List.mem_of_getElem? (i := 706) (by decide +kernel)), by decide +kernel, by decide +kernel, by decide +kernel, by decide +kernel⟩
theorem zMok_74 : zMok (zM 74) := ⟨⟨List.mem_of_getElem? (i := 712) (by decide +kernel), List.mem_of_getElem? (i := 7) (by decide +kernel)⟩, Or.inr (List.mem_of_getElem? (i := 711) (by decide +kernel)), by decide +kernel, by decide +kernel, by decide +kernel, by decide +kernel⟩
theorem zMok_75 : zMok (zM 75) := ⟨⟨List.mem_of_getElem? (i := 716) (by decide +kernel), List.mem_of_getElem? (i := 2) (by decide +kernel)⟩, Or.inr (List.mem_of_getElem? (i := 714) (by decide +kernel)), by decide +kernel, by decide +kernel, by decide +kernel, by decide +kernel⟩
theorem zMok_76 : zMok (zM 76) := ⟨⟨List.mem_of_getElem? (i := 721) (by decide +kernel), List.mem_of_getElem? (i := 1) (by decide +kernel)⟩, Or.inr (List.mem_of_getElem? (i := 719) (by decide +kernel)), by decide +kernel, by decide +kernel, by decide +kernel, by decide +kernel⟩
theorem zMok_77 : zMok (zM 77) := ⟨⟨List.mem_of_getElem? (i := 725) (by decide +kernel), List.mem_of_getElem? (i := 1) (by decide +kernel)⟩, Or.inr (List.mem_of_getElem? (i := 724) (by decide +kernel)), by decide +kernel, by decide +kernel, by decide +kernel, by decide +kernel⟩
theorem zMok_78 : zMok (zM 78) := ⟨⟨List.mem_of_getElem? (i := 728) (by decide +kernel), List.mem_of_getElem? (i := 1) (by decide +kernel)⟩, Or.inl (List.mem_of_getElem? (i := 727) (by decide +kernel)), by decide +kernel, by decide +kernel, by decide +kernel, by decide +kernel⟩
theorem zMok_79 : zMok (zM 79) := ⟨⟨List.mem_of_getElem? (i := 732) (by decide +kernel), List.mem_of_getElem? (i := 1) (by decide +kernel)⟩, Or.inr (List.mem_of_getElem? (i := 730) (by decide +kernel)), by decide +kernel, by decide +kernel, by decide +kernel, by decide +kernel⟩
theorem zMok_80 : zMok (zM 80) := ⟨⟨List.mem_of_getElem? (i := 736) (by decide +kernel), List.mem_of_getElem? (i := 2) (by decide +kernel)⟩, Or.inr (List.mem_of_getElem? (i := 734) (by decide +kernel)), by decide +kernel, by decide +kernel, by decide +kernel, by decide +kernel⟩
theorem zMok_81 : zMok (zM 81) := ⟨⟨List.mem_of_getElem? (i := 741) (by decide +kernel), List.mem_of_getElem? (i := 1) (by decide +kernel)⟩, Or.inr (List.mem_of_getElem? (i := 739) (by decide +kernel)), by decide +kernel, by decide +kernel, by decide +kernel, by decide +kernel⟩
theorem zMok_82 : zMok (zM 82) := ⟨⟨List.mem_of_getElem? (i := 745) (by decide +kernel), List.mem_of_getElem? (i := 2) (by decide +kernel)⟩, Or.inr (List.mem_of_getElem? (i := 743) (by decide +kernel)), by decide +kernel, by decide +kernel, by decide +kernel, by decide +kernel⟩
theorem zMok_83 : zMok (zM 83) := ⟨⟨List.mem_of_getElem? (i := 749) (by decide +kernel), List.mem_of_getElem? (i := 1) (by decide +kernel)⟩, Or.inr (List.mem_of_getElem? (i := 747) (by decide +kernel)), by decide +kernel, by decide +kernel, by decide +kernel, by decide +kernel⟩
theorem zMok_84 : zMok (zM 84) := ⟨⟨List.mem_of_getElem? (i := 753) (by decide +kernel), List.mem_of_getElem? (i := 1) (by decide +kernel)⟩, Or.inr (List.mem_of_getElem? (i := 751) (by decide +kernel)), by decide +kernel, by decide +kernel, by decide +kernel, by decide +kernel⟩
theorem zMok_85 : zMok (zM 85) := ⟨⟨List.mem_of_getElem? (i := 756) (by decide +kernel), List.mem_of_getElem? (i := 12) (by decide +kernel)⟩, Or.inl (List.mem_of_getElem? (i := 755) (by decide +kernel)), by decide +kernel, by decide +kernel, by decide +kernel, by decide +kernel⟩
theorem zMok_86 : zMok (zM 86) := ⟨⟨List.mem_of_getElem? (i := 760) (by decide +kernel), List.mem_of_getElem? (i := 1) (by decide +kernel)⟩, Or.inr (List.mem_of_getElem? (i := 758) (by decide +kernel)), by decide +kernel, by decide +kernel, by decide +kernel, by decide +kernel⟩
theorem zMok_87 : zMok (zM 87) := ⟨⟨List.mem_of_getElem? (i := 764) (by decide +kernel), List.mem_of_getElem? (i := 1) (by decide +kernel)⟩, Or.inr (List.mem_of_getElem? (i := 763) (by decide +kernel)), by decide +kernel, by decide +kernel, by decide +kernel, by decide +kernel⟩
theorem zMok_88 : zMok (zM 88) := ⟨⟨List.mem_of_getElem? (i := 768) (by decide +kernel), List.mem_of_getElem? (i := 1) (by decide +kernel)⟩, Or.inr (List.mem_of_getElem? (i := 767) (by decide +kernel)), by decide +kernel, by decide +kernel, by decide +kernel, by decide +kernel⟩
theorem zMok_89 : zMok (zM 89) := ⟨⟨List.mem_of_getElem? (i := 772) (by decide +kernel), List.mem_of_getElem? (i := 1) (by decide +kernel)⟩, Or.inr (List.mem_of_getElem? (i := 770) (by decide +kernel)), by decide +kernel, by decide +kernel, by decide +kernel, by decide +kernel⟩
theorem zMok_90 : zMok (zM 90) := ⟨⟨List.mem_of_getElem? (i := 776) (by decide +kernel), List.mem_of_getElem? (i := 1) (by decide +kernel)⟩, Or.inr (List.mem_of_getElem? (i := 775) (by decide +kernel)), by decide +kernel, by decide +kernel, by decide +kernel, by decide +kernel⟩
theorem zMok_91 : zMok (zM 91) := ⟨⟨List.mem_of_getElem? (i := 780) (by decide +kernel), List.mem_of_getElem? (i := 1) (by decide +kernel)⟩, Or.inr (List.mem_of_getElem? (i := 778) (by decide +kernel)), by decide +kernel, by decide +kernel, by decide +kernel, by decide +kernel⟩
theorem zMok_92 : zMok (zM 92) := ⟨⟨List.mem_of_getElem? (i := 784) (by decide +kernel), List.mem_of_getElem? (i := 1) (by decide +kernel)⟩, Or.inr (List.mem_of_getElem? (i := 782) (by decide +kernel)), by decide +kernel, by decide +kernel, by decide +kernel, by decide +kernel⟩
theorem zMok_93 : zMok (zM 93) := ⟨⟨List.mem_of_getElem? (i := 788) (by decide +kernel), List.mem_of_getElem? (i := 1) (by decide +kernel)⟩, Or.inr (List.mem_of_getElem? (i := 786) (by decide +kernel)), by decide +kernel, by decide +kernel, by decide +kernel, by decide +kernel⟩
theorem zMok_94 : zMok (zM 94) := ⟨⟨List.mem_of_getElem? (i := 792) (by decide +kernel), List.mem_of_getElem? (i := 1) (by decide +kernel)⟩, Or.inr (List.mem_of_getElem? (i := 791) (by decide +kernel)), by decide +kernel, by decide +kernel, by decide +kernel, by decide +kernel⟩
theorem zMok_95 : zMok (zM 95) := ⟨⟨List.mem_of_getElem? (i := 796) (by decide +kernel), List.mem_of_getElem? (i := 1) (by decide +kernel)⟩, Or.inr (List.mem_of_getElem? (i := 795) (by decide +kernel)), by decide +kernel, by decide +kernel, by decide +kernel, by decide +kernel⟩
theorem zMok_96 : zMok (zM 96) := ⟨⟨List.mem_of_getElem? (i := 800) (by decide +kernel), List.mem_of_getElem? (i := 1) (by decide +kernel)⟩, Or.inr (List.mem_of_getElem? (i := 798) (by decide +kernel)), by decide +kernel, by decide +kernel, by decide +kernel, by decide +kernel⟩
theorem zMok_97 : zMok (zM 97) := ⟨⟨List.mem_of_getElem? (i := 804) (by decide +kernel), List.mem_of_getElem? (i := 1) (by decide +kernel)⟩, Or.inr (List.mem_of_getElem? (i := 802) (by decide +kernel)), by decide +kernel, by decide +kernel, by decide +kernel, by decide +kernel⟩
theorem zMok_98 : zMok (zM 98) := ⟨⟨List.mem_of_getElem? (i := 808) (by decide +kernel), List.mem_of_getElem? (i := 1) (by decide +kernel)⟩, Or.inr (List.mem_of_getElem? (i := 806) (by decide +kernel)), by decide +kernel, by decide +kernel, by decide +kernel, by decide +kernel⟩
theorem zMok_99 : zMok (zM 99) := ⟨⟨List.mem_of_getElem? (i := 812) (by decide +kernel), List.mem_of_getElem? (i := 8) (by decide +kernel)⟩, Or.inr (List.mem_of_getElem? (i := 810) (by decide +kernel)), by decide +kernel, by decide +kernel, by decide +kernel, by decide +kernel⟩
theorem zMok_100 : zMok (zM 100) := ⟨⟨List.mem_of_getElem? (i := 818) (by decide +kernel), List.mem_of_getElem? (i := 8) (by decide +kernel)⟩, Or.inr (List.mem_of_getElem? (i := 817) (by decide +kernel)), by decide +kernel, by decide +kernel, by decide +kernel, by decide +kernel⟩
theorem zMok_101 : zMok (zM 101) := ⟨⟨List.mem_of_getElem? (i := 822) (by decide +kernel), List.mem_of_getElem? (i := 7) (by decide +kernel)⟩, Or.inr (List.mem_of_getElem? (i := 820) (by decide +kernel)), by decide +kernel, by decide +kernel, by decide +kernel, by decide +kernel⟩
theorem zMok_102 : zMok (zM 102) := ⟨⟨List.mem_of_getElem? (i := 827) (by decide +kernel), List.mem_of_getElem? (i := 8) (by decide +kernel)⟩, Or.inr (List.mem_of_getElem? (i := 826) (by decide +kernel)), by decide +kernel, by decide +kernel, by decide +kernel, by decide +kernel⟩
theorem zMok_103 : zMok (zM 103) := ⟨⟨List.mem_of_getElem? (i := 833) (by decide +kernel), List.mem_of_getElem? (i := 1) (by decide +kernel)⟩, Or.inr (List.mem_of_getElem? (i := 831) (by decide +kernel)), by decide +kernel, by decide +kernel, by decide +kernel, by decide +kernel⟩
theorem zMok_104 : zMok (zM 104) := ⟨⟨List.mem_of_getElem? (i := 838) (by decide +kernel), List.mem_of_getElem? (i := 1) (by decide +kernel)⟩, Or.inr (List.mem_of_getElem? (i := 836) (by decide +kernel)), by decide +kernel, by decide +kernel, by decide +kernel, by decide +kernel⟩
theorem zMok_105 : zMok (zM 105) := ⟨⟨List.mem_of_getElem? (i := 842) (by decide +kernel), List.mem_of_getElem? (i := 1) (by decide +kernel)⟩, Or.inr (List.mem_of_getElem? (i := 841) (by decide +kernel)), by decide +kernel, by decide +kernel, by decide +kernel, by decide +kernel⟩
theorem zMok_106 : zMok (zM 106) := ⟨⟨List.mem_of_getElem? (i := 845) (by decide +kernel), List.mem_of_getElem? (i := 1) (by decide +kernel)⟩, Or.inl (List.mem_of_getElem? (i := 844) (by decide +kernel)), by decide +kernel, by decide +kernel, by decide +kernel, by decide +kernel⟩
theorem zMok_107 : zMok (zM 107) := ⟨⟨List.mem_of_getElem? (i := 848) (by decide +kernel), List.mem_of_getElem? (i := 1) (by decide +kernel)⟩, Or.inl (List.mem_of_getElem? (i := 847) (by decide +kernel)), by decide +kernel, by decide +kernel, by decide +kernel, by decide +kernel⟩
theorem zMok_108 : zMok (zM 108) := ⟨⟨List.mem_of_getElem? (i := 852) (by decide +kernel), List.mem_of_getElem? (i := 1) (by decide +kernel)⟩, Or.inr (List.mem_of_getElem? (i := 851) (by decide +kernel)), by decide +kernel, by decide +kernel, by decide +kernel, by decide +kernel⟩
theorem zMok_109 : zMok (zM 109) := ⟨⟨List.mem_of_getElem? (i := 856) (by decide +kernel), List.mem_of_getElem? (i := 1) (by decide +kernel)⟩, Or.inr (List.mem_of_getElem? (i := 854) (by decide +kernel)), by decide +kernel, by decide +kernel, by decide +kernel, by decide +kernel⟩
theorem zMok_110 : zMok (zM 110) := ⟨⟨List.mem_of_getElem? (i := 860) (by decide +kernel), List.mem_of_getElem? (i := 2) (by decide +kernel)⟩, Or.inr (List.mem_of_getElem? (i := 858) (by decide +kernel)), by decide +kernel, by decide +kernel, by decide +kernel, by decide +kernel⟩
theorem zMok_111 : zMok (zM 111) := ⟨⟨List.mem_of_getElem? (i := 864) (by decide +kernel), List.mem_of_getElem? (i := 1) (by decide +kernel)⟩, Or.inr (List.mem_of_getElem? (i := 862) (by decide +kernel)), by decide +kernel, by decide +kernel, by decide +kernel, by decide +kernel⟩
theorem zMok_112 : zMok (zM 112) := ⟨⟨List.mem_of_getElem? (i := 868) (by decide +kernel), List.mem_of_getElem? (i := 1) (by decide +kernel)⟩, Or.inr (List.mem_of_getElem? (i := 867) (by decide +kernel)), by decide +kernel, by decide +kernel, by decide +kernel, by decide +kernel⟩
theorem zMok_113 : zMok (zM 113) := ⟨⟨List.mem_of_getElem? (i := 872) (by decide +kernel), List.mem_of_getElem? (i := 1) (by decide +kernel)⟩, Or.inr (List.mem_of_getElem? (i := 870) (by decide +kernel)), by decide +kernel, by decide +kernel, by decide +kernel, by decide +kernel⟩
theorem zMok_114 : zMok (zM 114) := ⟨⟨List.mem_of_getElem? (i := 876) (by decide +kernel), List.mem_of_getElem? (i := 3) (by decide +kernel)⟩, Or.inr (List.mem_of_getElem? (i := 874) (by decide +kernel)), by decide +kernel, by decide +kernel, by decide +kernel, by decide +kernel⟩
theorem zMok_115 : zMok (zM 115) := ⟨⟨List.mem_of_getElem? (i := 880) (by decide +kernel), List.mem_of_getElem? (i := 1) (by decide +kernel)⟩, Or.inr (List.mem_of_getElem? (i := 878) (by decide +kernel)), by decide +kernel, by decide +kernel, by decide +kernel, by decide +kernel⟩
theorem zMok_116 : zMok (zM 116) := ⟨⟨List.mem_of_getElem? (i := 884) (by decide +kernel), List.mem_of_getElem? (i := 1) (by decide +kernel)⟩, Or.inr (List.mem_of_getElem? (i := 883) (by decide +kernel)), by decide +kernel, by decide +kernel, by decide +kernel, by decide +kernel⟩
theorem zMok_117 : zMok (zM 117) := ⟨⟨List.mem_of_getElem? (i := 888) (by decide +kernel), List.mem_of_getElem? (i := 1) (by decide +kernel)⟩, Or.inr (List.mem_of_getElem? (i := 887) (by decide +kernel)), by decide +kernel, by decide +kernel, by decide +kernel, by decide +kernel⟩
theorem zMok_118 : zMok (zM 118) := ⟨⟨List.mem_of_getElem? (i := 892) (by decide +kernel), List.mem_of_getElem? (i := 3) (by decide +kernel)⟩, Or.inr (List.mem_of_getElem? (i := 890) (by decide +kernel)), by decide +kernel, by decide +kernel, by decide +kernel, by decide +kernel⟩
theorem zMok_119 : zMok (zM 119) := ⟨⟨List.mem_of_getElem? (i := 897) (by decide +kernel), List.mem_of_getElem? (i := 3) (by decide +kernel)⟩, Or.inr (List.mem_of_getElem? (i := 895) (by decide +kernel)), by decide +kernel, by decide +kernel, by decide +kernel, by decide +kernel⟩
theorem zMok_120 : zMok (zM 120) := ⟨⟨List.mem_of_getElem? (i := 901) (by decide +kernel), List.mem_of_getElem? (i := 1) (by decide +kernel)⟩, Or.inr (List.mem_of_getElem? (i := 899) (by decide +kernel)), by decide +kernel, by decide +kernel, by decide +kernel, by decide +kernel⟩
theorem zMok_121 : zMok (zM 121) := ⟨⟨List.mem_of_getElem? (i := 905) (by decide +kernel), List.mem_of_getElem? (i := 1) (by decide +kernel)⟩, Or.inr (List.mem_of_getElem? (i := 903) (by decide +kernel)), by decide +kernel, by decide +kernel, by decide +kernel, by decide +kernel⟩
theorem zMok_122 : zMok (zM 122) := ⟨⟨List.mem_of_getElem? (i := 908) (by decide +kernel), List.mem_of_getElem? (i := 19) (by decide +kernel)⟩, Or.inl (List.mem_of_getElem? (i := 907) (by decide +kernel)), by decide +kernel, by decide +kernel, by decide +kernel, by decide +kernel⟩
theorem zMok_123 : zMok (zM 123) := ⟨⟨List.mem_of_getElem? (i := 912) (by decide +kernel), List.mem_of_getElem? (i := 1) (by decide +kernel)⟩, Or.inr (List.mem_of_getElem? (i := 911) (by decide +kernel)), by decide +kernel, by decide +kernel, by decide +kernel, by decide +kernel⟩
theorem zMok_124 : zMok (zM 124) := ⟨⟨List.mem_of_getElem? (i := 916) (by decide +kernel), List.mem_of_getElem? (i := 1) (by decide +kernel)⟩, Or.inr (List.mem_of_getElem? (i := 915) (by decide +kernel)), by decide +kernel, by decide +kernel, by decide +kernel, by decide +kernel⟩
theorem zMok_125 : zMok (zM 125) := ⟨⟨List.mem_of_getElem? (i := 920) (by decide +kernel), List.mem_of_getElem? (i := 1) (by decide +kernel)⟩, Or.inr (List.mem_of_getElem? (i := 918) (by decide +kernel)), by decide +kernel, by decide +kernel, by decide +kernel, by decide +kernel⟩
theorem zMok_126 : zMok (zM 126) := ⟨⟨List.mem_of_getElem? (i := 924) (by decide +kernel), List.mem_of_getElem? (i := 1) (by decide +kernel)⟩, Or.inr (List.mem_of_getElem? (i := 922) (by decide +kernel)), by decide +kernel, by decide +kernel, by decide +kernel, by decide +kernel⟩
theorem zMok_127 : zMok (zM 127) := ⟨⟨List.mem_of_getElem? (i := 928) (by decide +kernel), List.mem_of_getElem? (i := 1) (by decide +kernel)⟩, Or.inr (List.mem_of_getElem? (i := 927) (by decide +kernel)), by decide +kernel, by decide +kernel, by decide +kernel, by decide +kernel⟩
theorem zMok_128 : zMok (zM 128) := ⟨⟨List.mem_of_getElem? (i := 932) (by decide +kernel), List.mem_of_getElem? (i := 1) (by decide +kernel)⟩, Or.inr (List.mem_of_getElem? (i := 931) (by decide +kernel)), by decide +kernel, by decide +kernel, by decide +kernel, by decide +kernel⟩
theorem zMok_129 : zMok (zM 129) := ⟨⟨List.mem_of_getElem? (i := 940) (by decide +kernel), List.mem_of_getElem? (i := 1) (by decide +kernel)⟩, Or.inr (List.mem_of_getElem? (i := 938) (by decide +kernel)), by decide +kernel, by decide +kernel, by decide +kernel, by decide +kernel⟩
theorem zMok_130 : zMok (zM 130) := ⟨⟨List.mem_of_getElem? (i := 944) (by decide +kernel), List.mem_of_getElem? (i := 3) (by decide +kernel)⟩, Or.inr (List.mem_of_getElem? (i := 942) (by decide +kernel)), by decide +kernel, by decide +kernel, by decide +kernel, by decide +kernel⟩
theorem zMok_131 : zMok (zM 131) := ⟨⟨List.mem_of_getElem? (i := 949) (by decide +kernel), List.mem_of_getElem? (i := 1) (by decide +kernel)⟩, Or.inr (List.mem_of_getElem? (i := 947) (by decide +kernel)), by decide +kernel, by decide +kernel, by decide +kernel, by decide +kernel⟩
theorem zMok_132 : zMok (zM 132) := ⟨⟨List.mem_of_getElem? (i := 954) (by decide +kernel), List.mem_of_getElem? (i := 10) (by decide +kernel)⟩, Or.inr (List.mem_of_getElem? (i := 953) (by decide +kernel)), by decide +kernel, by decide +kernel, by decide +kernel, by decide +kernel⟩
theorem zMok_133 : zMok (zM 133) := ⟨⟨List.mem_of_getElem? (i := 1081) (by decide +kernel), List.mem_of_getElem? (i := 10) (by decide +kernel)⟩, Or.inr (List.mem_of_getElem? (i := 1079) (by decide +kernel)), by decide +kernel, by decide +kernel, by decide +kernel, by decide +kernel⟩
theorem zMok_134 : zMok (zM 134) := ⟨⟨List.mem_of_getElem? (i := 1085) (by decide +kernel), List.mem_of_getElem? (i := 10) (by decide +kernel)⟩, Or.inr (List.mem_of_getElem? (i := 1084) (by decide +kernel)), by decide +kernel, by decide +kernel, by decide +kernel, by decide +kernel⟩
theorem zMok_135 : zMok (zM 135) := ⟨⟨List.mem_of_getElem? (i := 1089) (by decide +kernel), List.mem_of_getElem? (i := 10) (by decide +kernel)⟩, Or.inr (List.mem_of_getElem? (i := 1087) (by decide +kernel)), by decide +kernel, by decide +kernel, by decide +kernel, by decide +kernel⟩
theorem zMok_136 : zMok (zM 136) := ⟨⟨List.mem_of_getElem? (i := 1093) (by decide +kernel), List.mem_of_getElem? (i := 10) (by decide +kernel)⟩, Or.inr (List.mem_of_getElem? (i := 1091) (by decide +kernel)), by decide +kernel, by decide +kernel, by decide +kernel, by decide +kernel⟩
theorem zMok_137 : zMok (zM 137) := ⟨⟨List.mem_of_getElem? (i := 1097) (by decide +kernel), List.mem_of_getElem? (i := 10) (by decide +kernel)⟩, Or.inr (List.mem_of_getElem? (i := 1096) (by decide +kernel)), by decide +kernel, by decide +kernel, by decide +kernel, by decide +kernel⟩
theorem zMok_138 : zMok (zM 138) := ⟨⟨List.mem_of_getElem? (i := 1101) (by decide +kernel), List.mem_of_getElem? (i := 10) (by decide +kernel)⟩, Or.inr (List.mem_of_getElem? (i := 1100) (by decide +kernel)), by decide +kernel, by decide +kernel, by decide +kernel, by decide +kernel⟩
theorem zMok_139 : zMok (zM 139) := ⟨⟨List.mem_of_getElem? (i := 1105) (by decide +kernel), List.mem_of_getElem? (i := 10) (by decide +kernel)⟩, Or.inr (List.mem_of_getElem? (i := 1104) (by decide +kernel)), by decide +kernel, by decide +kernel, by decide +kernel, by decide +kernel⟩
theorem zMok_140 : zMok (zM 140) := ⟨⟨List.mem_of_getElem? (i := 1109) (by decide +kernel), List.mem_of_getElem? (i := 10) (by decide +kernel)⟩, Or.inr (List.mem_of_getElem? (i := 1108) (by decide +kernel)), by decide +kernel, by decide +kernel, by decide +kernel, by decide +kernel⟩
theorem zMok_141 : zMok (zM 141) := ⟨⟨List.mem_of_getElem? (i := 1114) (by decide +kernel), List.mem_of_getElem? (i := 10) (by decide +kernel)⟩, Or.inr (List.mem_of_getElem? (i := 1113) (by decide +kernel)), by decide +kernel, by decide +kernel, by decide +kernel, by decide +kernel⟩
theorem zMok_142 : zMok (zM 142) := ⟨⟨List.mem_of_getElem? (i := 1118) (by decide +kernel), List.mem_of_getElem? (i := 10) (by decide +kernel)⟩, Or.inr (List.mem_of_getElem? (i := 1117) (by decide +kernel)), by decide +kernel, by decide +kernel, by decide +kernel, by decide +kernel⟩
theorem zMok_143 : zMok (zM 143) := ⟨⟨List.mem_of_getElem? (i := 1126) (by decide +kernel), List.mem_of_getElem? (i := 10) (by decide +kernel)⟩, Or.inr (List.mem_of_getElem? (i := 1125) (by decide +kernel)), by decide +kernel, by decide +kernel, by decide +kernel, by decide +kernel⟩
theorem zMok_144 : zMok (zM 144) := ⟨⟨List.mem_of_getElem? (i := 1130) (by decide +kernel), List.mem_of_getElem? (i := 10) (by decide +kernel)⟩, Or.inr (List.mem_of_getElem? (i := 1129) (by decide +kernel)), by decide +kernel, by decide +kernel, by decide +kernel, by decide +kernel⟩
theorem zMok_145 : zMok (zM 145) := ⟨⟨List.mem_of_getElem? (i := 1134) (by decide +kernel), List.mem_of_getElem? (i := 10) (by decide +kernel)⟩, Or.inr (List.mem_of_getElem? (i := 1133) (by decide +kernel)), by decide +kernel, by decide +kernel, by decide +kernel, by decide +kernel⟩
theorem zMok_146 : zMok (zM 146) := ⟨⟨List.mem_of_getElem? (i := 1138) (by decide +kernel), List.mem_of_getElem? (i := 10) (by decide +kernel)⟩, Or.inr (List.mem_of_getElem? (i := 1137) (by decide +kernel)), by decide +kernel, by decide +kernel, by decide +kernel, by decide +kernel⟩
theorem zMok_147 : zMok (zM 147) := ⟨⟨List.mem_of_getElem? (i := 1142) (by decide +kernel), List.mem_of_getElem? (i := 10) (by decide +kernel)⟩, Or.inr (List.mem_of_getElem? (i := 1141) (by decide +kernel)), by decide +kernel, by decide +kernel, by decide +kernel, by decide +kernel⟩
theorem zMok_148 : zMok (zM 148) := ⟨⟨List.mem_of_getElem? (i := 1146) (by decide +kernel), List.mem_of_getElem? (i := 10) (by decide +kernel)⟩, Or.inr (List.mem_of_getElem? (i := 1145) (by decide +kernel)), by decide +kernel, by decide +kernel, by decide +kernel, by decide +kernel⟩
theorem zMok_149 : zMok (zM 149) := ⟨⟨List.mem_of_getElem? (i := 1150) (by decide +kernel), List.mem_of_getElem? (i := 10) (by decide +kernel)⟩, Or.inr (List.mem_of_getElem? (i := 1149) (by decide +kernel)), by decide +kernel, by decide +kernel, by decide +kernel, by decide +kernel⟩
theorem zMok_150 : zMok (zM 150) := ⟨⟨List.mem_of_getElem? (i := 1153) (by decide +kernel), List.mem_of_getElem? (i := 10) (by decide +kernel)⟩, Or.inl (List.mem_of_getElem? (i := 1152) (by decide +kernel)), by decide +kernel, by decide +kernel, by decide +kernel, by decide +kernel⟩
theorem zMok_151 : zMok (zM 151) := ⟨⟨List.mem_of_getElem? (i := 1157) (by decide +kernel), List.mem_of_getElem? (i := 10) (by decide +kernel)⟩, Or.inr (List.mem_of_getElem? (i := 1156) (by decide +kernel)), by decide +kernel, by decide +kernel, by decide +kernel, by decide +kernel⟩
theorem zMok_152 : zMok (zM 152) := ⟨⟨List.mem_of_getElem? (i := 1161) (by decide +kernel), List.mem_of_getElem? (i := 10) (by decide +kernel)⟩, Or.inr (List.mem_of_getElem? (i := 1160) (by decide +kernel)), by decide +kernel, by decide +kernel, by decide +kernel, by decide +kernel⟩
theorem zMok_153 : zMok (zM 153) := ⟨⟨List.mem_of_getElem? (i := 1165) (by decide +kernel), List.mem_of_getElem? (i := 10) (by decide +kernel)⟩, Or.inr (List.mem_of_getElem? (i := 1164) (by decide +kernel)), by decide +kernel, by decide +kernel, by decide +kernel, by decide +kernel⟩
theorem zMok_154 : zMok (zM 154) := ⟨⟨List.mem_of_getElem? (i := 1169) (by decide +kernel), List.mem_of_getElem? (i := 10) (by decide +kernel)⟩, Or.inr (List.mem_of_getElem? (i := 1168) (by decide +kernel)), by decide +kernel, by decide +kernel, by decide +kernel, by decide +kernel⟩
theorem zMok_155 : zMok (zM 155) := ⟨⟨List.mem_of_getElem? (i := 1173) (by decide +kernel), List.mem_of_getElem? (i := 10) (by decide +kernel)⟩, Or.inr (List.mem_of_getElem? (i := 1172) (by decide +kernel)), by decide +kernel, by decide +kernel, by decide +kernel, by decide +kernel⟩
theorem zMok_156 : zMok (zM 156) := ⟨⟨List.mem_of_getElem? (i := 1177) (by decide +kernel), List.mem_of_getElem? (i := 10) (by decide +kernel)⟩, Or.inr (List.mem_of_getElem? (i := 1176) (by decide +kernel)), by decide +kernel, by decide +kernel, by decide +kernel, by decide +kernel⟩
theorem zMok_157 : zMok (zM 157) := ⟨⟨List.mem_of_getElem? (i := 1181) (by decide +kernel), List.mem_of_getElem? (i := 10) (by decide +kernel)⟩, Or.inr (List.mem_of_getElem? (i := 1180) (by decide +kernel)), by decide +kernel, by decide +kernel, by decide +kernel, by decide +kernel⟩
theorem zMok_158 : zMok (zM 158) := ⟨⟨List.mem_of_getElem? (i := 1185) (by decide +kernel), List.mem_of_getElem? (i := 10) (by decide +kernel)⟩, Or.inr (List.mem_of_getElem? (i := 1184) (by decide +kernel)), by decide +kernel, by decide +kernel, by decide +kernel, by decide +kernel⟩
theorem zMok_159 : zMok (zM 159) := ⟨⟨List.mem_of_getElem? (i := 1189) (by decide +kernel), List.mem_of_getElem? (i := 10) (by decide +kernel)⟩, Or.inr (List.mem_of_getElem? (i := 1188) (by decide +kernel)), by decide +kernel, by decide +kernel, by decide +kernel, by decide +kernel⟩
theorem zMok_160 : zMok (zM 160) := ⟨⟨List.mem_of_getElem? (i := 1194) (by decide +kernel), List.mem_of_getElem? (i := 10) (by decide +kernel)⟩, Or.inr (List.mem_of_getElem? (i := 1193) (by decide +kernel)), by decide +kernel, by decide +kernel, by decide +kernel, by decide +kernel⟩
theorem zMok_161 : zMok (zM 161) := ⟨⟨List.mem_of_getElem? (i := 1198) (by decide +kernel), List.mem_of_getElem? (i := 10) (by decide +kernel)⟩, Or.inr (List.mem_of_getElem? (i := 1197) (by decide +kernel)), by decide +kernel, by decide +kernel, by decide +kernel, by decide +kernel⟩
theorem zMok_162 : zMok (zM 162) := ⟨⟨List.mem_of_getElem? (i := 1202) (by decide +kernel), List.mem_of_getElem? (i := 10) (by decide +kernel)⟩, Or.inr (List.mem_of_getElem? (i := 1201) (by decide +kernel)), by decide +kernel, by decide +kernel, by decide +kernel, by decide +kernel⟩
theorem zMok_163 : zMok (zM 163) := ⟨⟨List.mem_of_getElem? (i := 1215) (by decide +kernel), List.mem_of_getElem? (i := 10) (by decide +kernel)⟩, Or.inr (List.mem_of_getElem? (i := 1214) (by decide +kernel)), by decide +kernel, by decide +kernel, by decide +kernel, by decide +kernel⟩
theorem zMok_164 : zMok (zM 164) := ⟨⟨List.mem_of_getElem? (i := 1219) (by decide +kernel), List.mem_of_getElem? (i := 10) (by decide +kernel)⟩, Or.inr (List.mem_of_getElem? (i := 1218) (by decide +kernel)), by decide +kernel, by decide +kernel, by decide +kernel, by decide +kernel⟩
theorem zMok_165 : zMok (zM 165) := ⟨⟨List.mem_of_getElem? (i := 1223) (by decide +kernel), List.mem_of_getElem? (i := 10) (by decide +kernel)⟩, Or.inr (List.mem_of_getElem? (i := 1222) (by decide +kernel)), by decide +kernel, by decide +kernel, by decide +kernel, by decide +kernel⟩
theorem zMok_166 : zMok (zM 166) := ⟨⟨List.mem_of_getElem? (i := 1228) (by decide +kernel), List.mem_of_getElem? (i := 10) (by decide +kernel)⟩, Or.inr (List.mem_of_getElem? (i := 1227) (by decide +kernel)), by decide +kernel, by decide +kernel, by decide +kernel, by decide +kernel⟩
theorem zMok_167 : zMok (zM 167) := ⟨⟨List.mem_of_getElem? (i := 1232) (by decide +kernel), List.mem_of_getElem? (i := 10) (by decide +kernel)⟩, Or.inr (List.mem_of_getElem? (i := 1231) (by decide +kernel)), by decide +kernel, by decide +kernel, by decide +kernel, by decide +kernel⟩
theorem zMok_168 : zMok (zM 168) := ⟨⟨List.mem_of_getElem? (i := 1236) (by decide +kernel), List.mem_of_getElem? (i := 10) (by decide +kernel)⟩, Or.inr (List.mem_of_getElem? (i := 1235) (by decide +kernel)), by decide +kernel, by decide +kernel, by decide +kernel, by decide +kernel⟩
theorem zMok_169 : zMok (zM 169) := ⟨⟨List.mem_of_getElem? (i := 1240) (by decide +kernel), List.mem_of_getElem? (i := 10) (by decide +kernel)⟩, Or.inr (List.mem_of_getElem? (i := 1239) (by decide +kernel)), by decide +kernel, by decide +kernel, by decide +kernel, by decide +kernel⟩
theorem zMok_170 : zMok (zM 170) := ⟨⟨List.mem_of_getElem? (i := 1243) (by decide +kernel), List.mem_of_getElem? (i := 10) (by decide +kernel)⟩, Or.inl (List.mem_of_getElem? (i := 1242) (by decide +kernel)), by decide +kernel, by decide +kernel, by decide +kernel, by decide +kernel⟩
theorem zMok_171 : zMok (zM 171) := ⟨⟨List.mem_of_getElem? (i := 1247) (by decide +kernel), List.mem_of_getElem? (i := 10) (by decide +kernel)⟩, Or.inr (List.mem_of_getElem? (i := 1246) (by decide +kernel)), by decide +kernel, by decide +kernel, by decide +kernel, by decide +kernel⟩
theorem zMok_172 : zMok (zM 172) := ⟨⟨List.mem_of_getElem? (i := 1253) (by decide +kernel), List.mem_of_getElem? (i := 10) (by decide +kernel)⟩, Or.inr (List.mem_of_getElem? (i := 1251) (by decide +kernel)), by decide +kernel, by decide +kernel, by decide +kernel, by decide +kernel⟩
theorem zMok_173 : zMok (zM 173) := ⟨⟨List.mem_of_getElem? (i := 1257) (by decide +kernel), List.mem_of_getElem? (i := 10) (by decide +kernel)⟩, Or.inr (List.mem_of_getElem? (i := 1256) (by decide +kernel)), by decide +kernel, by decide +kernel, by decide +kernel, by decide +kernel⟩
theorem zMok_174 : zMok (zM 174) := ⟨⟨List.mem_of_getElem? (i := 1261) (by decide +kernel), List.mem_of_getElem? (i := 10) (by decide +kernel)⟩, Or.inr (List.mem_of_getElem? (i := 1260) (by decide +kernel)), by decide +kernel, by decide +kernel, by decide +kernel, by decide +kernel⟩
theorem zMok_175 : zMok (zM 175) := ⟨⟨List.mem_of_getElem? (i := 1265) (by decide +kernel), List.mem_of_getElem? (i := 10) (by decide +kernel)⟩, Or.inr (List.mem_of_getElem? (i := 1263) (by decide +kernel)), by decide +kernel, by decide +kernel, by decide +kernel, by decide +kernel⟩
theorem zMok_176 : zMok (zM 176) := ⟨⟨List.mem_of_getElem? (i := 1269) (by decide +kernel), List.mem_of_getElem? (i := 10) (by decide +kernel)⟩, Or.inr (List.mem_of_getElem? (i := 1268) (by decide +kernel)), by decide +kernel, by decide +kernel, by decide +kernel, by decide +kernel⟩
theorem zMok_177 : zMok (zM 177) := ⟨⟨List.mem_of_getElem? (i := 1273) (by decide +kernel), List.mem_of_getElem? (i := 10) (by decide +kernel)⟩, Or.inr (List.mem_of_getElem? (i := 1271) (by decide +kernel)), by decide +kernel, by decide +kernel, by decide +kernel, by decide +kernel⟩
theorem zMok_178 : zMok (zM 178) := ⟨⟨List.mem_of_getElem? (i := 1277) (by decide +kernel), List.mem_of_getElem? (i := 10) (by decide +kernel)⟩, Or.inr (List.mem_of_getElem? (i := 1276) (by decide +kernel)), by decide +kernel, by decide +kernel, by decide +kernel, by decide +kernel⟩
theorem zMok_179 : zMok (zM 179) := ⟨⟨List.mem_of_getElem? (i := 1281) (by decide +kernel), List.mem_of_getElem? (i := 10) (by decide +kernel)⟩, Or.inr (List.mem_of_getElem? (i := 1280) (by decide +kernel)), by decide +kernel, by decide +kernel, by decide +kernel, by decide +kernel⟩
theorem zMok_180 : zMok (zM 180) := ⟨⟨List.mem_of_getElem? (i := 1287) (by decide +kernel), List.mem_of_getElem? (i := 10) (by decide +kernel)⟩, Or.inr (List.mem_of_getElem? (i := 1286) (by decide +kernel)), by decide +kernel, by decide +kernel, by decide +kernel, by decide +kernel⟩
theorem zMok_181 : zMok (zM 181) := ⟨⟨List.mem_of_getElem? (i := 1291) (by decide +kernel), List.mem_of_getElem? (i := 10) (by decide +kernel)⟩, Or.inr (List.mem_of_getElem? (i := 1289) (by decide +kernel)), by decide +kernel, by decide +kernel, by decide +kernel, by decide +kernel⟩
theorem zMok_182 : zMok (zM 182) := ⟨⟨List.mem_of_getElem? (i := 1295) (by decide +kernel), List.mem_of_getElem? (i := 10) (by decide +kernel)⟩, Or.inr (List.mem_of_getElem? (i := 1294) (by decide +kernel)), by decide +kernel, by decide +kernel, by decide +kernel, by decide +kernel⟩
theorem zMok_183 : zMok (zM 183) := ⟨⟨List.mem_of_getElem? (i := 1300) (by decide +kernel), List.mem_of_getElem? (i := 10) (by decide +kernel)⟩, Or.inr (List.mem_of_getElem? (i := 1298) (by decide +kernel)), by decide +kernel, by decide +kernel, by decide +kernel, by decide +kernel⟩
theorem zMok_184 : zMok (zM 184) := ⟨⟨List.mem_of_getElem? (i := 1304) (by decide +kernel), List.mem_of_getElem? (i := 10) (by decide +kernel)⟩, Or.inr (List.mem_of_getElem? (i := 1303) (by decide +kernel)), by decide +kernel, by decide +kernel, by decide +kernel, by decide +kernel⟩
theorem zMok_185 : zMok (zM 185) := ⟨⟨List.mem_of_getElem? (i := 1308) (by decide +kernel), List.mem_of_getElem? (i := 10) (by decide +kernel)⟩, Or.inr (List.mem_of_getElem? (i := 1306) (by decide +kernel)), by decide +kernel, by decide +kernel, by decide +kernel, by decide +kernel⟩
theorem zMok_186 : zMok (zM 186) := ⟨⟨List.mem_of_getElem? (i := 1312) (by decide +kernel), List.mem_of_getElem? (i := 10) (by decide +kernel)⟩, Or.inr (List.mem_of_getElem? (i := 1310) (by decide +kernel)), by decide +kernel, by decide +kernel, by decide +kernel, by decide +kernel⟩
theorem zMok_187 : zMok (zM 187) := ⟨⟨List.mem_of_getElem? (i := 1316) (by decide +kernel), List.mem_of_getElem? (i := 10) (by decide +kernel)⟩, Or.inr (List.mem_of_getElem? (i := 1315) (by decide +kernel)), by decide +kernel, by decide +kernel, by decide +kernel, by decide +kernel⟩
theorem zMok_188 : zMok (zM 188) := ⟨⟨List.mem_of_getElem? (i := 1320) (by decide +kernel), List.mem_of_getElem? (i := 10) (by decide +kernel)⟩, Or.inr (List.mem_of_getElem? (i := 1319) (by decide +kernel)), by decide +kernel, by decide +kernel, by decide +kernel, by decide +kernel⟩
theorem zMok_189 : zMok (zM 189) := ⟨⟨List.mem_of_getElem? (i := 1324) (by decide +kernel), List.mem_of_getElem? (i := 10) (by decide +kernel)⟩, Or.inr (List.mem_of_getElem? (i := 1323) (by decide +kernel)), by decide +kernel, by decide +kernel, by decide +kernel, by decide +kernel⟩
theorem zMok_190 : zMok (zM 190) := ⟨⟨List.mem_of_getElem? (i := 1328) (by decide +kernel), List.mem_of_getElem? (i := 10) (by decide +kernel)⟩, Or.inr (List.mem_of_getElem? (i := 1327) (by decide +kernel)), by decide +kernel, by decide +kernel, by decide +kernel, by decide +kernel⟩
theorem zMok_191 : zMok (zM 191) := ⟨⟨List.mem_of_getElem? (i := 1332) (by decide +kernel), List.mem_of_getElem? (i := 10) (by decide +kernel)⟩, Or.inr (List.mem_of_getElem? (i := 1331) (by decide +kernel)), by decide +kernel, by decide +kernel, by decide +kernel, by decide +kernel⟩
theorem zMok_192 : zMok (zM 192) := ⟨⟨List.mem_of_getElem? (i := 1336) (by decide +kernel), List.mem_of_getElem? (i := 10) (by decide +kernel)⟩, Or.inr (List.mem_of_getElem? (i := 1335) (by decide +kernel)), by decide +kernel, by decide +kernel, by decide +kernel, by decide +kernel⟩
theorem zMok_193 : zMok (zM 193) := ⟨⟨List.mem_of_getElem? (i := 1340) (by decide +kernel), List.mem_of_getElem? (i := 10) (by decide +kernel)⟩, Or.inr (List.mem_of_getElem? (i := 1339) (by decide +kernel)), by decide +kernel, by decide +kernel, by decide +kernel, by decide +kernel⟩
theorem zMok_194 : zMok (zM 194) := ⟨⟨List.mem_of_getElem? (i := 1343) (by decide +kernel), List.mem_of_getElem? (i := 10) (by decide +kernel)⟩, Or.inl (List.mem_of_getElem? (i := 1342) (by decide +kernel)), by decide +kernel, by decide +kernel, by decide +kernel, by decide +kernel⟩
theorem zMok_195 : zMok (zM 195) := ⟨⟨List.mem_of_getElem? (i := 1347) (by decide +kernel), List.mem_of_getElem? (i := 10) (by decide +kernel)⟩, Or.inr (List.mem_of_getElem? (i := 1346) (by decide +kernel)), by decide +kernel, by decide +kernel, by decide +kernel, by decide +kernel⟩
theorem zMok_196 : zMok (zM 196) := ⟨⟨List.mem_of_getElem? (i := 1351) (by decide +kernel), List.mem_of_getElem? (i := 10) (by decide +kernel)⟩, Or.inr (List.mem_of_getElem? (i := 1350) (by decide +kernel)), by decide +kernel, by decide +kernel, by decide +kernel, by decide +kernel⟩
theorem zMok_197 : zMok (zM 197) := ⟨⟨List.mem_of_getElem? (i := 1355) (by decide +kernel), List.mem_of_getElem? (i := 10) (by decide +kernel)⟩, Or.inr (List.mem_of_getElem? (i := 1354) (by decide +kernel)), by decide +kernel, by decide +kernel, by decide +kernel, by decide +kernel⟩
theorem zMok_198 : zMok (zM 198) := ⟨⟨List.mem_of_getElem? (i := 1359) (by decide +kernel), List.mem_of_getElem? (i := 10) (by decide +kernel)⟩, Or.inr (List.mem_of_getElem? (i := 1358) (by decide +kernel)), by decide +kernel, by decide +kernel, by decide +kernel, by decide +kernel⟩
theorem zMok_199 : zMok (zM 199) := ⟨⟨List.mem_of_getElem? (i := 1363) (by decide +kernel), List.mem_of_getElem? (i := 10) (by decide +kernel)⟩, Or.inr (List.mem_of_getElem? (i := 1362) (by decide +kernel)), by decide +kernel, by decide +kernel, by decide +kernel, by decide +kernel⟩
theorem zMok_200 : zMok (zM 200) := ⟨⟨List.mem_of_getElem? (i := 1367) (by decide +kernel), List.mem_of_getElem? (i := 10) (by decide +kernel)⟩, Or.inr (List.mem_of_getElem? (i := 1366) (by decide +kernel)), by decide +kernel, by decide +kernel, by decide +kernel, by decide +kernel⟩
theorem zMok_201 : zMok (zM 201) := ⟨⟨List.mem_of_getElem? (i := 1371) (by decide +kernel), List.mem_of_getElem? (i := 10) (by decide +kernel)⟩, Or.inr (List.mem_of_getElem? (i := 1370) (by decide +kernel)), by decide +kernel, by decide +kernel, by decide +kernel, by decide +kernel⟩
theorem zMok_202 : zMok (zM 202) := ⟨⟨List.mem_of_getElem? (i := 1374) (by decide +kernel), List.mem_of_getElem? (i := 10) (by decide +kernel)⟩, Or.inl (List.mem_of_getElem? (i := 1373) (by decide +kernel)), by decide +kernel, by decide +kernel, by decide +kernel, by decide +kernel⟩
theorem zMok_203 : zMok (zM 203) := ⟨⟨List.mem_of_getElem? (i := 1378) (by decide +kernel), List.mem_of_getElem? (i := 10) (by decide +kernel)⟩, Or.inr (List.mem_of_getElem? (i := 1377) (by decide +kernel)), by decide +kernel, by decide +kernel, by decide +kernel, by decide +kernel⟩
theorem zMok_204 : zMok (zM 204) := ⟨⟨List.mem_of_getElem? (i := 1382) (by decide +kernel), List.mem_of_getElem? (i := 10) (by decide +kernel)⟩, Or.inr (List.mem_of_getElem? (i := 1381) (by decide +kernel)), by decide +kernel, by decide +kernel, by decide +kernel, by decide +kernel⟩
theorem zMok_205 : zMok (zM 205) := ⟨⟨List.mem_of_getElem? (i := 1386) (by decide +kernel), List.mem_of_getElem? (i := 10) (by decide +kernel)⟩, Or.inr (List.mem_of_getElem? (i := 1385) (by decide +kernel)), by decide +kernel, by decide +kernel, by decide +kernel, by decide +kernel⟩
theorem zMok_206 : zMok (zM 206) := ⟨⟨List.mem_of_getElem? (i := 1390) (by decide +kernel), List.mem_of_getElem? (i := 10) (by decide +kernel)⟩, Or.inr (List.mem_of_getElem? (i := 1389) (by decide +kernel)), by decide +kernel, by decide +kernel, by decide +kernel, by decide +kernel⟩
theorem zMok_207 : zMok (zM 207) := ⟨⟨List.mem_of_getElem? (i := 1394) (by decide +kernel), List.mem_of_getElem? (i := 10) (by decide +kernel)⟩, Or.inr (List.mem_of_getElem? (i := 1392) (by decide +kernel)), by decide +kernel, by decide +kernel, by decide +kernel, by decide +kernel⟩
theorem zMok_208 : zMok (zM 208) := ⟨⟨List.mem_of_getElem? (i := 1398) (by decide +kernel), List.mem_of_getElem? (i := 10) (by decide +kernel)⟩, Or.inr (List.mem_of_getElem? (i := 1397) (by decide +kernel)), by decide +kernel, by decide +kernel, by decide +kernel, by decide +kernel⟩
theorem zMok_209 : zMok (zM 209) := ⟨⟨List.mem_of_getElem? (i := 1403) (by decide +kernel), List.mem_of_getElem? (i := 10) (by decide +kernel)⟩, Or.inr (List.mem_of_getElem? (i := 1401) (by decide +kernel)), by decide +kernel, by decide +kernel, by decide +kernel, by decide +kernel⟩
theorem zMok_210 : zMok (zM 210) := ⟨⟨List.mem_of_getElem? (i := 1407) (by decide +kernel), List.mem_of_getElem? (i := 10) (by decide +kernel)⟩, Or.inr (List.mem_of_getElem? (i := 1406) (by decide +kernel)), by decide +kernel, by decide +kernel, by decide +kernel, by decide +kernel⟩
theorem zMok_211 : zMok (zM 211) := ⟨⟨List.mem_of_getElem? (i := 1411) (by decide +kernel), List.mem_of_getElem? (i := 10) (by decide +kernel)⟩, Or.inr (List.mem_of_getElem? (i := 1409) (by decide +kernel)), by decide +kernel, by decide +kernel, by decide +kernel, by decide +kernel⟩
theorem zMok_212 : zMok (zM 212) := ⟨⟨List.mem_of_getElem? (i := 1415) (by decide +kernel), List.mem_of_getElem? (i := 10) (by decide +kernel)⟩, Or.inr (List.mem_of_getElem? (i := 1414) (by decide +kernel)), by decide +kernel, by decide +kernel, by decide +kernel, by decide +kernel⟩
theorem zMok_213 : zMok (zM 213) := ⟨⟨List.mem_of_getElem? (i := 1419) (by decide +kernel), List.mem_of_getElem? (i := 10) (by decide +kernel)⟩, Or.inr (List.mem_of_getElem? (i := 1417) (by decide +kernel)), by decide +kernel, by decide +kernel, by decide +kernel, by decide +kernel⟩
theorem zMok_214 : zMok (zM 214) := ⟨⟨List.mem_of_getElem? (i := 1423) (by decide +kernel), List.mem_of_getElem? (i := 10) (by decide +kernel)⟩, Or.inr (List.mem_of_getElem? (i := 1421) (by decide +kernel)), by decide +kernel, by decide +kernel, by decide +kernel, by decide +kernel⟩
theorem zMok_215 : zMok (zM 215) := ⟨⟨List.mem_of_getElem? (i := 1428) (by decide +kernel), List.mem_of_getElem? (i := 10) (by decide +kernel)⟩, Or.inr (List.mem_of_getElem? (i := 1427) (by decide +kernel)), by decide +kernel, by decide +kernel, by decide +kernel, by decide +kernel⟩
theorem zMok_216 : zMok (zM 216) := ⟨⟨List.mem_of_getElem? (i := 1432) (by decide +kernel), List.mem_of_getElem? (i := 10) (by decide +kernel)⟩, Or.inr (List.mem_of_getElem? (i := 1431) (by decide +kernel)), by decide +kernel, by decide +kernel, by decide +kernel, by decide +kernel⟩
theorem zMok_217 : zMok (zM 217) := ⟨⟨List.mem_of_getElem? (i := 1437) (by decide +kernel), List.mem_of_getElem? (i := 10) (by decide +kernel)⟩, Or.inr (List.mem_of_getElem? (i := 1436) (by decide +kernel)), by decide +kernel, by decide +kernel, by decide +kernel, by decide +kernel⟩
theorem zMok_218 : zMok (zM 218) := ⟨⟨List.mem_of_getElem? (i := 1441) (by decide +kernel), List.mem_of_getElem? (i := 10) (by decide +kernel)⟩, Or.inr (List.mem_of_getElem? (i := 1439) (by decide +kernel)), by decide +kernel, by decide +kernel, by decide +kernel, by decide +kernel⟩
theorem zMok_219 : zMok (zM 219) := ⟨⟨List.mem_of_getElem? (i := 1445) (by decide +kernel), List.mem_of_getElem? (i := 10) (by decide +kernel)⟩, Or.inr (List.mem_of_getElem? (i := 1443) (by decide +kernel)), by decide +kernel, by decide +kernel, by decide +kernel, by decide +kernel⟩
theorem zMok_220 : zMok (zM 220) := ⟨⟨List.mem_of_getElem? (i := 1449) (by decide +kernel), List.mem_of_getElem? (i := 10) (by decide +kernel)⟩, Or.inr (List.mem_of_getElem? (i := 1447) (by decide +kernel)), by decide +kernel, by decide +kernel, by decide +kernel, by decide +kernel⟩
theorem zMok_221 : zMok (zM 221) := ⟨⟨List.mem_of_getElem? (i := 1453) (by decide +kernel), List.mem_of_getElem? (i := 10) (by decide +kernel)⟩, Or.inr (List.mem_of_getElem? (i := 1452) (by decide +kernel)), by decide +kernel, by decide +kernel, by decide +kernel, by decide +kernel⟩
theorem zMok_222 : zMok (zM 222) := ⟨⟨List.mem_of_getElem? (i := 1457) (by decide +kernel), List.mem_of_getElem? (i := 10) (by decide +kernel)⟩, Or.inr (List.mem_of_getElem? (i := 1455) (by decide +kernel)), by decide +kernel, by decide +kernel, by decide +kernel, by decide +kernel⟩
theorem zMok_223 : zMok (zM 223) := ⟨⟨List.mem_of_getElem? (i := 1462) (by decide +kernel), List.mem_of_getElem? (i := 10) (by decide +kernel)⟩, Or.inr (List.mem_of_getElem? (i := 1461) (by decide +kernel)), by decide +kernel, by decide +kernel, by decide +kernel, by decide +kernel⟩
theorem zMok_224 : zMok (zM 224) := ⟨⟨List.mem_of_getElem? (i := 1466) (by decide +kernel), List.mem_of_getElem? (i := 10) (by decide +kernel)⟩, Or.inr (List.mem_of_getElem? (i := 1465) (by decide +kernel)), by decide +kernel, by decide +kernel, by decide +kernel, by decide +kernel⟩
theorem zMok_225 : zMok (zM 225) := ⟨⟨List.mem_of_getElem? (i := 1470) (by decide +kernel), List.mem_of_getElem? (i := 10) (by decide +kernel)⟩, Or.inr (List.mem_of_getElem? (i := 1468) (by decide +kernel)), by decide +kernel, by decide +kernel, by decide +kernel, by decide +kernel⟩
theorem zMok_226 : zMok (zM 226) := ⟨⟨List.mem_of_getElem? (i := 1474) (by decide +kernel), List.mem_of_getElem? (i := 10) (by decide +kernel)⟩, Or.inr (List.mem_of_getElem? (i := 1472) (by decide +kernel)), by decide +kernel, by decide +kernel, by decide +kernel, by decide +kernel⟩
theorem zMok_227 : zMok (zM 227) := ⟨⟨List.mem_of_getElem? (i := 1478) (by decide +kernel), List.mem_of_getElem? (i := 10) (by decide +kernel)⟩, Or.inr (List.mem_of_getElem? (i := 1476) (by decide +kernel)), by decide +kernel, by decide +kernel, by decide +kernel, by decide +kernel⟩
theorem zMok_228 : zMok (zM 228) := ⟨⟨List.mem_of_getElem? (i := 1482) (by decide +kernel), List.mem_of_getElem? (i := 10) (by decide +kernel)⟩, Or.inr (List.mem_of_getElem? (i := 1481) (by decide +kernel)), by decide +kernel, by decide +kernel, by decide +kernel, by decide +kernel⟩
theorem zMok_229 : zMok (zM 229) := ⟨⟨List.mem_of_getElem? (i := 1486) (by decide +kernel), List.mem_of_getElem? (i := 10) (by decide +kernel)⟩, Or.inr (List.mem_of_getElem? (i := 1484) (by decide +kernel)), by decide +kernel, by decide +kernel, by decide +kernel, by decide +kernel⟩
theorem zMok_230 : zMok (zM 230) := ⟨⟨List.mem_of_getElem? (i := 1490) (by decide +kernel), List.mem_of_getElem? (i := 10) (by decide +kernel)⟩, Or.inr (List.mem_of_getElem? (i := 1488) (by decide +kernel)), by decide +kernel, by decide +kernel, by decide +kernel, by decide +kernel⟩
theorem zMok_231 : zMok (zM 231) := ⟨⟨List.mem_of_getElem? (i := 1494) (by decide +kernel), List.mem_of_getElem? (i := 10) (by decide +kernel)⟩, Or.inr (List.mem_of_getElem? (i := 1493) (by decide +kernel)), by decide +kernel, by decide +kernel, by decide +kernel, by decide +kernel⟩
theorem zMok_232 : zMok (zM 232) := ⟨⟨List.mem_of_getElem? (i := 1498) (by decide +kernel), List.mem_of_getElem? (i := 10) (by decide +kernel)⟩, Or.inr (List.mem_of_getElem? (i := 1497) (by decide +kernel)), by decide +kernel, by decide +kernel, by decide +kernel, by decide +kernel⟩
theorem zMok_233 : zMok (zM 233) := ⟨⟨List.mem_of_getElem? (i := 1502) (by decide +kernel), List.mem_of_getElem? (i := 10) (by decide +kernel)⟩, Or.inr (List.mem_of_getElem? (i := 1501) (by decide +kernel)), by decide +kernel, by decide +kernel, by decide +kernel, by decide +kernel⟩
theorem zMok_234 : zMok (zM 234) := ⟨⟨List.mem_of_getElem? (i := 1506) (by decide +kernel), List.mem_of_getElem? (i := 10) (by decide +kernel)⟩, Or.inr (List.mem_of_getElem? (i := 1504) (by decide +kernel)), by decide +kernel, by decide +kernel, by decide +kernel, by decide +kernel⟩
theorem zMok_235 : zMok (zM 235) := ⟨⟨List.mem_of_getElem? (i := 1510) (by decide +kernel), List.mem_of_getElem? (i := 10) (by decide +kernel)⟩, Or.inr (List.mem_of_getElem? (i := 1509) (by decide +kernel)), by decide +kernel, by decide +kernel, by decide +kernel, by decide +kernel⟩
theorem zMok_236 : zMok (zM 236) := ⟨⟨List.mem_of_getElem? (i := 1514) (by decide +kernel), List.mem_of_getElem? (i := 10) (by decide +kernel)⟩, Or.inr (List.mem_of_getElem? (i := 1512) (by decide +kernel)), by decide +kernel, by decide +kernel, by decide +kernel, by decide +kernel⟩
theorem zMok_237 : zMok (zM 237) := ⟨⟨List.mem_of_getElem? (i := 1519) (by decide +kernel), List.mem_of_getElem? (i := 10) (by decide +kernel)⟩, Or.inr (List.mem_of_getElem? (i := 1518) (by decide +kernel)), by decide +kernel, by decide +kernel, by decide +kernel, by decide +kernel⟩
theorem zMok_238 : zMok (zM 238) := ⟨⟨List.mem_of_getElem? (i := 1523) (by decide +kernel), List.mem_of_getElem? (i := 10) (by decide +kernel)⟩, Or.inr (List.mem_of_getElem? (i := 1521) (by decide +kernel)), by decide +kernel, by decide +kernel, by decide +kernel, by decide +kernel⟩
theorem zMok_239 : zMok (zM 239) := ⟨⟨List.mem_of_getElem? (i := 1528) (by decide +kernel), List.mem_of_getElem? (i := 10) (by decide +kernel)⟩, Or.inr (List.mem_of_getElem? (i := 1526) (by decide +kernel)), by decide +kernel, by decide +kernel, by decide +kernel, by decide +kernel⟩
theorem zMok_240 : zMok (zM 240) := ⟨⟨List.mem_of_getElem? (i := 1532) (by decide +kernel), List.mem_of_getElem? (i := 10) (by decide +kernel)⟩, Or.inr (List.mem_of_getElem? (i := 1531) (by decide +kernel)), by decide +kernel, by decide +kernel, by decide +kernel, by decide +kernel⟩
theorem zMok_241 : zMok (zM 241) := ⟨⟨List.mem_of_getElem? (i := 1536) (by decide +kernel), List.mem_of_getElem? (i := 10) (by decide +kernel)⟩, Or.inr (List.mem_of_getElem? (i := 1535) (by decide +kernel)), by decide +kernel, by decide +kernel, by decide +kernel, by decide +kernel⟩
theorem zMok_242 : zMok (zM 242) := ⟨⟨List.mem_of_getElem? (i := 1540) (by decide +kernel), List.mem_of_getElem? (i := 10) (by decide +kernel)⟩, Or.inr (List.mem_of_getElem? (i := 1539) (by decide +kernel)), by decide +kernel, by decide +kernel, by decide +kernel, by decide +kernel⟩
theorem zMok_243 : zMok (zM 243) := ⟨⟨List.mem_of_getElem? (i := 1544) (by decide +kernel), List.mem_of_getElem? (i := 10) (by decide +kernel)⟩, Or.inr (List.mem_of_getElem? (i := 1542) (by decide +kernel)), by decide +kernel, by decide +kernel, by decide +kernel, by decide +kernel⟩
theorem zMok_244 : zMok (zM 244) := ⟨⟨List.mem_of_getElem? (i := 1548) (by decide +kernel), List.mem_of_getElem? (i := 10) (by decide +kernel)⟩, Or.inr (List.mem_of_getElem? (i := 1547) (by decide +kernel)), by decide +kernel, by decide +kernel, by decide +kernel, by decide +kernel⟩
theorem zMok_245 : zMok (zM 245) := ⟨⟨List.mem_of_getElem? (i := 1552) (by decide +kernel), List.mem_of_getElem? (i := 10) (by decide +kernel)⟩, Or.inr (List.mem_of_getElem? (i := 1550) (by decide +kernel)), by decide +kernel, by decide +kernel, by decide +kernel, by decide +kernel⟩
theorem zMok_246 : zMok (zM 246) := ⟨⟨List.mem_of_getElem? (i := 1556) (by decide +kernel), List.mem_of_getElem? (i := 10) (by decide +kernel)⟩, Or.inr (List.mem_of_getElem? (i := 1555) (by decide +kernel)), by decide +kernel, by decide +kernel, by decide +kernel, by decide +kernel⟩
theorem zMok_247 : zMok (zM 247) := ⟨⟨List.mem_of_getElem? (i := 1560) (by decide +kernel), List.mem_of_getElem? (i := 10) (by decide +kernel)⟩, Or.inr (List.mem_of_getElem? (i := 1558) (by decide +kernel)), by decide +kernel, by decide +kernel, by decide +kernel, by decide +kernel⟩
theorem zMok_248 : zMok (zM 248) := ⟨⟨List.mem_of_getElem? (i := 1564) (by decide +kernel), List.mem_of_getElem? (i := 10) (by decide +kernel)⟩, Or.inr (List.mem_of_getElem? (i := 1562) (by decide +kernel)), by decide +kernel, by decide +kernel, by decide +kernel, by decide +kernel⟩
theorem zMok_249 : zMok (zM 249) := ⟨⟨List.mem_of_getElem? (i := 1569) (by decide +kernel), List.mem_of_getElem? (i := 10) (by decide +kernel)⟩, Or.inr (List.mem_of_getElem? (i := 1568) (by decide +kernel)), by decide +kernel, by decide +kernel, by decide +kernel, by decide +kernel⟩
theorem zMok_250 : zMok (zM 250) := ⟨⟨List.mem_of_getElem? (i := 1577) (by decide +kernel), List.mem_of_getElem? (i := 10) (by decide +kernel)⟩, Or.inr (List.mem_of_getElem? (i := 1576) (by decide +kernel)), by decide +kernel, by decide +kernel, by decide +kernel, by decide +kernel⟩
theorem zMok_251 : zMok (zM 251) := ⟨⟨List.mem_of_getElem? (i := 1581) (by decide +kernel), List.mem_of_getElem? (i := 10) (by decide +kernel)⟩, Or.inr (List.mem_of_getElem? (i := 1579) (by decide +kernel)), by decide +kernel, by decide +kernel, by decide +kernel, by decide +kernel⟩
theorem zMok_252 : zMok (zM 252) := ⟨⟨List.mem_of_getElem? (i := 1585) (by decide +kernel), List.mem_of_getElem? (i := 10) (by decide +kernel)⟩, Or.inr (List.mem_of_getElem? (i := 1584) (by decide +kernel)), by decide +kernel, by decide +kernel, by decide +kernel, by decide +kernel⟩
theorem zMok_253 : zMok (zM 253) := ⟨⟨List.mem_of_getElem? (i := 1589) (by decide +kernel), List.mem_of_getElem? (i := 10) (by decide +kernel)⟩, Or.inr (List.mem_of_getElem? (i := 1587) (by decide +kernel)), by decide +kernel, by decide +kernel, by decide +kernel, by decide +kernel⟩
theorem zMok_254 : zMok (zM 254) := ⟨⟨List.mem_of_getElem? (i := 1593) (by decide +kernel), List.mem_of_getElem? (i := 10) (by decide +kernel)⟩, Or.inr (List.mem_of_getElem? (i := 1591) (by decide +kernel)), by decide +kernel, by decide +kernel, by decide +kernel, by decide +kernel⟩
theorem zMok_all : ∀ y, y < 255 → zMok (zM y) := by
  intro y hy
  by_cases h127 : y < 127
  · skip
    by_cases h63 : y < 63
    · skip
      by_cases h31 : y < 31
      · skip
        by_cases h15 : y < 15
        · skip
          by_cases h7 : y < 7
          · skip
            by_cases h3 : y < 3
            · skip
              by_cases h1 : y < 1
              · skip
                have e : y = 0 := by omega
                subst e; exact zMok_0
              · skip
                by_cases h2 : y < 2
                · skip
                  have e : y = 1 := by omega
                  subst e; exact zMok_1
                · skip
                  have e : y = 2 := by omega
                  subst e; exact zMok_2
            · skip
              by_cases h5 : y < 5
              · skip
                by_cases h4 : y < 4
                · skip
                  have e : y = 3 := by omega
                  subst e; exact zMok_3
                · skip
                  have e : y = 4 := by omega
                  subst e; exact zMok_4
              · skip
                by_cases h6 : y < 6
                · skip
                  have e : y = 5 := by omega
                  subst e; exact zMok_5
                · skip
                  have e : y = 6 := by omega
                  subst e; exact zMok_6
          · skip
            by_cases h11 : y < 11
            · skip
              by_cases h9 : y < 9
              · skip
                by_cases h8 : y < 8
                · skip
                  have e : y = 7 := by omega
                  subst e; exact zMok_7
                · skip
                  have e : y = 8 := by omega
                  subst e; exact zMok_8
              · skip
                by_cases h10 : y < 10
                · skip
                  have e : y = 9 := by omega
                  subst e; exact zMok_9
                · skip
                  have e : y = 10 := by omega
                  subst e; exact zMok_10
            · skip
              by_cases h13 : y < 13
              · skip
                by_cases h12 : y < 12
                · skip
                  have e : y = 11 := by omega
                  subst e; exact zMok_11
                · skip
                  have e : y = 12 := by omega
                  subst e; exact zMok_12
              · skip
                by_cases h14 : y < 14
                · skip
                  have e : y = 13 := by omega
                  subst e; exact zMok_13
                · skip
                  have e : y = 14 := by omega
                  subst e; exact zMok_14
        · skip
          by_cases h23 : y < 23
          · skip
            by_cases h19 : y < 19
            · skip
              by_cases h17 : y < 17
              · skip
                by_cases h16 : y < 16
                · skip
                  have e : y = 15 := by omega
                  subst e; exact zMok_15
                · skip
                  have e : y = 16 := by omega
                  subst e; exact zMok_16
              · skip
                by_cases h18 : y < 18
                · skip
                  have e : y = 17 := by omega
                  subst e; exact zMok_17
                · skip
                  have e : y = 18 := by omega
                  subst e; exact zMok_18
            · skip
              by_cases h21 : y < 21
              · skip
                by_cases h20 : y < 20
                · skip
                  have e : y = 19 := by omega
                  subst e; exact zMok_19
                · skip
                  have e : y = 20 := by omega
                  subst e; exact zMok_20
              · skip
                by_cases h22 : y < 22
                · skip
                  have e : y = 21 := by omega
                  subst e; exact zMok_21
                · skip
                  have e : y = 22 := by omega
                  subst e; exact zMok_22
          · skip
            by_cases h27 : y < 27
            · skip
              by_cases h25 : y < 25
              · skip
                by_cases h24 : y < 24
                · skip
                  have e : y = 23 := by omega
                  subst e; exact zMok_23
                · skip
                  have e : y = 24 := by omega
                  subst e; exact zMok_24
              · skip
                by_cases h26 : y < 26
                · skip
                  have e : y = 25 := by omega
                  subst e; exact zMok_25
                · skip
                  have e : y = 26 := by omega
                  subst e; exact zMok_26
            · skip
              by_cases h29 : y < 29
              · skip
                by_cases h28 : y < 28
                · skip
                  have e : y = 27 := by omega
                  subst e; exact zMok_27
                · skip
                  have e : y = 28 := by omega
                  subst e; exact zMok_28
              · skip
                by_cases h30 : y < 30
                · skip
                  have e : y = 29 := by omega
                  subst e; exact zMok_29
                · skip
                  have e : y = 30 := by omega
                  subst e; exact zMok_30
      · skip
        by_cases h47 : y < 47
        · skip
          by_cases h39 : y < 39
          · skip
            by_cases h35 : y < 35
            · skip
              by_cases h33 : y < 33
              · skip
                by_cases h32 : y < 32
                · skip
                  have e : y = 31 := by omega
                  subst e; exact zMok_31
                · skip
                  have e : y = 32 := by omega
                  subst e; exact zMok_32
              · skip
                by_cases h34 : y < 34
                · skip
                  have e : y = 33 := by omega
                  subst e; exact zMok_33
                · skip
                  have e : y = 34 := by omega
                  subst e; exact zMok_34
            · skip
              by_cases h37 : y < 37
              · skip
                by_cases h36 : y < 36
                · skip
                  have e : y = 35 := by omega
                  subst e; exact zMok_35
                · skip
                  have e : y = 36 := by omega
                  subst e; exact zMok_36
              · skip
                by_cases h38 : y < 38
                · skip
                  have e : y = 37 := by omega
                  subst e; exact zMok_37
                · skip
                  have e : y = 38 := by omega
                  subst e; exact zMok_38
          · skip
            by_cases h43 : y < 43
            · skip
              by_cases h41 : y < 41
              · skip
                by_cases h40 : y < 40
                · skip
                  have e : y = 39 := by omega
                  subst e; exact zMok_39
                · skip
                  have e : y = 40 := by omega
                  subst e; exact zMok_40
              · skip
                by_cases h42 : y < 42
                · skip
                  have e : y = 41 := by omega
                  subst e; exact zMok_41
                · skip
                  have e : y = 42 := by omega
                  subst e; exact zMok_42
            · skip
              by_cases h45 : y < 45
              · skip
                by_cases h44 : y < 44
                · skip
                  have e : y = 43 := by omega
                  subst e; exact zMok_43
                · skip
                  have e : y = 44 := by omega
                  subst e; exact zMok_44
              · skip
                by_cases h46 : y < 46
                · skip
                  have e : y = 45 := by omega
                  subst e; exact zMok_45
                · skip
                  have e : y = 46 := by omega
                  subst e; exact zMok_46
        · skip
          by_cases h55 : y < 55
          · skip
            by_cases h51 : y < 51
            · skip
              by_cases h49 : y < 49
              · skip
                by_cases h48 : y < 48
                · skip
                  have e : y = 47 := by omega
                  subst e; exact zMok_47
                · skip
                  have e : y = 48 := by omega
                  subst e; exact zMok_48
              · skip
                by_cases h50 : y < 50
                · skip
                  have e : y = 49 := by omega
                  subst e; exact zMok_49
                · skip
                  have e : y = 50 := by omega
                  subst e; exact zMok_50
            · skip
              by_cases h53 : y < 53
              · skip
                by_cases h52 : y < 52
                · skip
                  have e : y = 51 := by omega
                  subst e; exact zMok_51
                · skip
                  have e : y = 52 := by omega
                  subst e; exact zMok_52
              · skip
                by_cases h54 : y < 54
                · skip
                  have e : y = 53 := by omega
                  subst e; exact zMok_53
                · skip
                  have e : y = 54 := by omega
                  subst e; exact zMok_54
          · skip
            by_cases h59 : y < 59
            · skip
              by_cases h57 : y < 57
              · skip
                by_cases h56 : y < 56
                · skip
                  have e : y = 55 := by omega
                  subst e; exact zMok_55
                · skip
                  have e : y = 56 := by omega
                  subst e; exact zMok_56
              · skip
                by_cases h58 : y < 58
                · skip
                  have e : y = 57 := by omega
                  subst e; exact zMok_57
                · skip
                  have e : y = 58 := by omega
                  subst e; exact zMok_58
            · skip
              by_cases h61 : y < 61
              · skip
                by_cases h60 : y < 60
                · skip
                  have e : y = 59 := by omega
                  subst e; exact zMok_59
                · skip
                  have e : y = 60 := by omega
                  subst e; exact zMok_60
              · skip
                by_cases h62 : y < 62
                · skip
                  have e : y = 61 := by omega
                  subst e; exact zMok_61
                · skip
                  have e : y = 62 := by omega
                  subst e; exact zMok_62
    · skip
      by_cases h95 : y < 95
      · skip
        by_cases h79 : y < 79
        · skip
          by_cases h71 : y < 71
          · skip
            by_cases h67 : y < 67
            · skip
              by_cases h65 : y < 65
              · skip
                by_cases h64 : y < 64
                · skip
                  have e : y = 63 := by omega
                  subst e; exact zMok_63
                · skip
                  have e : y = 64 := by omega
                  subst e; exact zMok_64
              · skip
                by_cases h66 : y < 66
                · skip
                  have e : y = 65 := by omega
                  subst e; exact zMok_65
                · skip
                  have e : y = 66 := by omega
                  subst e; exact zMok_66
            · skip
              by_cases h69 : y < 69
              · skip
                by_cases h68 : y < 68
                · skip
                  have e : y = 67 := by omega
                  subst e; exact zMok_67
                · skip
                  have e : y = 68 := by omega
                  subst e; exact zMok_68
              · skip
                by_cases h70 : y < 70
                · skip
                  have e : y = 69 := by omega
                  subst e; exact zMok_69
                · skip
                  have e : y = 70 := by omega
                  subst e; exact zMok_70
          · skip
            by_cases h75 : y < 75
            · skip
              by_cases h73 : y < 73
              · skip
                by_cases h72 : y < 72
                · skip
                  have e : y = 71 := by omega
                  subst e; exact zMok_71
                · skip
                  have e : y = 72 := by omega
                  subst e; exact zMok_72
              · skip
                by_cases h74 : y < 74
                · skip
                  have e : y = 73 := by omega
                  subst e; exact zMok_73
                · skip
                  have e : y = 74 := by omega
                  subst e; exact zMok_74
            · skip
              by_cases h77 : y < 77
              · skip
                by_cases h76 : y < 76
                · skip
                  have e : y = 75 := by omega
                  subst e; exact zMok_75
                · skip
                  have e : y = 76 := by omega
                  subst e; exact zMok_76
              · skip
                by_cases h78 : y < 78
                · skip
                  have e : y = 77 := by omega
                  subst e; exact zMok_77
                · skip
                  have e : y = 78 := by omega
                  subst e; exact zMok_78
        · skip
          by_cases h87 : y < 87
          · skip
            by_cases h83 : y < 83
            · skip
              by_cases h81 : y < 81
              · skip
                by_cases h80 : y < 80
                · skip
                  have e : y = 79 := by omega
                  subst e; exact zMok_79
                · skip
                  have e : y = 80 := by omega
                  subst e; exact zMok_80
              · skip
                by_cases h82 : y < 82
                · skip
                  have e : y = 81 := by omega
                  subst e; exact zMok_81
                · skip
                  have e : y = 82 := by omega
                  subst e; exact zMok_82
            · skip
              by_cases h85 : y < 85
              · skip
                by_cases h84 : y < 84
                · skip
                  have e : y = 83 := by omega
                  subst e; exact zMok_83
                · skip
                  have e : y = 84 := by omega
                  subst e; exact zMok_84
              · skip
                by_cases h86 : y < 86
                · skip
                  have e : y = 85 := by omega
                  subst e; exact zMok_85
                · skip
                  have e : y = 86 := by omega
                  subst e; exact zMok_86
          · skip
            by_cases h91 : y < 91
            · skip
              by_cases h89 : y < 89
              · skip
                by_cases h88 : y < 88
                · skip
                  have e : y = 87 := by omega
                  subst e; exact zMok_87
                · skip
                  have e : y = 88 := by omega
                  subst e; exact zMok_88
              · skip
                by_cases h90 : y < 90
                · skip
                  have e : y = 89 := by omega
                  subst e; exact zMok_89
                · skip
                  have e : y = 90 := by omega
                  subst e; exact zMok_90
            · skip
              by_cases h93 : y < 93
              · skip
                by_cases h92 : y < 92
                · skip
                  have e : y = 91 := by omega
                  subst e; exact zMok_91
                · skip
                  have e : y = 92 := by omega
                  subst e; exact zMok_92
              · skip
                by_cases h94 : y < 94
                · skip
                  have e : y = 93 := by omega
                  subst e; exact zMok_93
                · skip
                  have e : y = 94 := by omega
                  subst e; exact zMok_94
      · skip
        by_cases h111 : y < 111
        · skip
          by_cases h103 : y < 103
          · skip
            by_cases h99 : y < 99
            · skip
              by_cases h97 : y < 97
              · skip
                by_cases h96 : y < 96
                · skip
                  have e : y = 95 := by omega
                  subst e; exact zMok_95
                · skip
                  have e : y = 96 := by omega
                  subst e; exact zMok_96
              · skip
                by_cases h98 : y < 98
                · skip
                  have e : y = 97 := by omega
                  subst e; exact zMok_97
                · skip
                  have e : y = 98 := by omega
                  subst e; exact zMok_98
            · skip
              by_cases h101 : y < 101
              · skip
                by_cases h100 : y < 100
                · skip
                  have e : y = 99 := by omega
                  subst e; exact zMok_99
                · skip
                  have e : y = 100 := by omega
                  subst e; exact zMok_100
              · skip
                by_cases h102 : y < 102
                · skip
                  have e : y = 101 := by omega
                  subst e; exact zMok_101
                · skip
                  have e : y = 102 := by omega
                  subst e; exact zMok_102
          · skip
            by_cases h107 : y < 107
            · skip
              by_cases h105 : y < 105
              · skip
                by_cases h104 : y < 104
                · skip
                  have e : y = 103 := by omega
                  subst e; exact zMok_103
                · skip
                  have e : y = 104 := by omega
                  subst e; exact zMok_104
              · skip
                by_cases h106 : y < 106
                · skip
                  have e : y = 105 := by omega
                  subst e; exact zMok_105
                · skip
                  have e : y = 106 := by omega
                  subst e; exact zMok_106
            · skip
              by_cases h109 : y < 109
              · skip
                by_cases h108 : y < 108
                · skip
                  have e : y = 107 := by omega
                  subst e; exact zMok_107
                · skip
                  have e : y = 108 := by omega
                  subst e; exact zMok_108
              · skip
                by_cases h110 : y < 110
                · skip
                  have e : y = 109 := by omega
                  subst e; exact zMok_109
                · skip
                  have e : y = 110 := by omega
                  subst e; exact zMok_110
        · skip
          by_cases h119 : y < 119
          · skip
            by_cases h115 : y < 115
            · skip
              by_cases h113 : y < 113
              · skip
                by_cases h112 : y < 112
                · skip
                  have e : y = 111 := by omega
                  subst e; exact zMok_111
                · skip
                  have e : y = 112 := by omega
                  subst e; exact zMok_112
              · skip
                by_cases h114 : y < 114
                · skip
                  have e : y = 113 := by omega
                  subst e; exact zMok_113
                · skip
                  have e : y = 114 := by omega
                  subst e; exact zMok_114
            · skip
              by_cases h117 : y < 117
              · skip
                by_cases h116 : y < 116
                · skip
                  have e : y = 115 := by omega
                  subst e; exact zMok_115
                · skip
                  have e : y = 116 := by omega
                  subst e; exact zMok_116
              · skip
                by_cases h118 : y < 118
                · skip
                  have e : y = 117 := by omega
                  subst e; exact zMok_117
                · skip
                  have e : y = 118 := by omega
                  subst e; exact zMok_118
          · skip
            by_cases h123 : y < 123
            · skip
              by_cases h121 : y < 121
              · skip
                by_cases h120 : y < 120
                · skip
                  have e : y = 119 := by omega
                  subst e; exact zMok_119
                · skip
                  have e : y = 120 := by omega
                  subst e; exact zMok_120
              · skip
                by_cases h122 : y < 122
                · skip
                  have e : y = 121 := by omega
                  subst e; exact zMok_121
                · skip
                  have e : y = 122 := by omega
                  subst e; exact zMok_122
            · skip
              by_cases h125 : y < 125
              · skip
                by_cases h124 : y < 124
                · skip
                  have e : y = 123 := by omega
                  subst e; exact zMok_123
                · skip
                  have e : y = 124 := by omega
                  subst e; exact zMok_124
              · skip
                by_cases h126 : y < 126
                · skip
                  have e : y = 125 := by omega
                  subst e; exact zMok_125
                · skip
                  have e : y = 126 := by omega
                  subst e; exact zMok_126
  · skip
    by_cases h191 : y < 191
    · skip
      by_cases h159 : y < 159
      · skip
        by_cases h143 : y < 143
        · skip
          by_cases h135 : y < 135
          · skip
            by_cases h131 : y < 131
            · skip
              by_cases h129 : y < 129
              · skip
                by_cases h128 : y < 128
                · skip
                  have e : y = 127 := by omega
                  subst e; exact zMok_127
                · skip
                  have e : y = 128 := by omega
                  subst e; exact zMok_128
              · skip
                by_cases h130 : y < 130
                · skip
                  have e : y = 129 := by omega
                  subst e; exact zMok_129
                · skip
                  have e : y = 130 := by omega
                  subst e; exact zMok_130
            · skip
              by_cases h133 : y < 133
              · skip
                by_cases h132 : y < 132
                · skip
                  have e : y = 131 := by omega
                  subst e; exact zMok_131
                · skip
                  have e : y = 132 := by omega
                  subst e; exact zMok_132
              · skip
                by_cases h134 : y < 134
                · skip
                  have e : y = 133 := by omega
                  subst e; exact zMok_133
                · skip
                  have e : y = 134 := by omega
                  subst e; exact zMok_134
          · skip
            by_cases h139 : y < 139
            · skip
              by_cases h137 : y < 137
              · skip
                by_cases h136 : y < 136
                · skip
                  have e : y = 135 := by omega
                  subst e; exact zMok_135
                · skip
                  have e : y = 136 := by omega
                  subst e; exact zMok_136
              · skip
                by_cases h138 : y < 138
                · skip
                  have e : y = 137 := by omega
                  subst e; exact zMok_137
                · skip
                  have e : y = 138 := by omega
                  subst e; exact zMok_138
            · skip
              by_cases h141 : y < 141
              · skip
                by_cases h140 : y < 140
                · skip
                  have e : y = 139 := by omega
                  subst e; exact zMok_139
                · skip
                  have e : y = 140 := by omega
                  subst e; exact zMok_140
              · skip
                by_cases h142 : y < 142
                · skip
                  have e : y = 141 := by omega
                  subst e; exact zMok_141
                · skip
                  have e : y = 142 := by omega
                  subst e; exact zMok_142
        · skip
          by_cases h151 : y < 151
          · skip
            by_cases h147 : y < 147
            · skip
              by_cases h145 : y < 145
              · skip
                by_cases h144 : y < 144
                · skip
                  have e : y = 143 := by omega
                  subst e; exact zMok_143
                · skip
                  have e : y = 144 := by omega
                  subst e; exact zMok_144
              · skip
                by_cases h146 : y < 146
                · skip
                  have e : y = 145 := by omega
                  subst e; exact zMok_145
                · skip
                  have e : y = 146 := by omega
                  subst e; exact zMok_146
            · skip
              by_cases h149 : y < 149
              · skip
                by_cases h148 : y < 148
                · skip
                  have e : y = 147 := by omega
                  subst e; exact zMok_147
                · skip
                  have e : y = 148 := by omega
                  subst e; exact zMok_148
              · skip
                by_cases h150 : y < 150
                · skip
                  have e : y = 149 := by omega
                  subst e; exact zMok_149
                · skip
                  have e : y = 150 := by omega
                  subst e; exact zMok_150
          · skip
            by_cases h155 : y < 155
            · skip
              by_cases h153 : y < 153
              · skip
                by_cases h152 : y < 152
                · skip
                  have e : y = 151 := by omega
                  subst e; exact zMok_151
                · skip
                  have e : y = 152 := by omega
                  subst e; exact zMok_152
              · skip
                by_cases h154 : y < 154
                · skip
                  have e : y = 153 := by omega
                  subst e; exact zMok_153
                · skip
                  have e : y = 154 := by omega
                  subst e; exact zMok_154
            · skip
              by_cases h157 : y < 157
              · skip
                by_cases h156 : y < 156
                · skip
                  have e : y = 155 := by omega
                  subst e; exact zMok_155
                · skip
                  have e : y = 156 := by omega
                  subst e; exact zMok_156
              · skip
                by_cases h158 : y < 158
                · skip
                  have e : y = 157 := by omega
                  subst e; exact zMok_157
                · skip
                  have e : y = 158 := by omega
                  subst e; exact zMok_158
      · skip
        by_cases h175 : y < 175
        · skip
          by_cases h167 : y < 167
          · skip
            by_cases h163 : y < 163
            · skip
              by_cases h161 : y < 161
              · skip
                by_cases h160 : y < 160
                · skip
                  have e : y = 159 := by omega
                  subst e; exact zMok_159
                · skip
                  have e : y = 160 := by omega
                  subst e; exact zMok_160
              · skip
                by_cases h162 : y < 162
                · skip
                  have e : y = 161 := by omega
                  subst e; exact zMok_161
                · skip
                  have e : y = 162 := by omega
                  subst e; exact zMok_162
            · skip
              by_cases h165 : y < 165
              · skip
                by_cases h164 : y < 164
                · skip
                  have e : y = 163 := by omega
                  subst e; exact zMok_163
                · skip
                  have e : y = 164 := by omega
                  subst e; exact zMok_164
              · skip
                by_cases h166 : y < 166
                · skip
                  have e : y = 165 := by omega
                  subst e; exact zMok_165
                · skip
                  have e : y = 166 := by omega
                  subst e; exact zMok_166
          · skip
            by_cases h171 : y < 171
            · skip
              by_cases h169 : y < 169
              · skip
                by_cases h168 : y < 168
                · skip
                  have e : y = 167 := by omega
                  subst e; exact zMok_167
                · skip
                  have e : y = 168 := by omega
                  subst e; exact zMok_168
              · skip
                by_cases h170 : y < 170
                · skip
                  have e : y = 169 := by omega
                  subst e; exact zMok_169
                · skip
                  have e : y = 170 := by omega
                  subst e; exact zMok_170
            · skip
              by_cases h173 : y < 173
              · skip
                by_cases h172 : y < 172
                · skip
                  have e : y = 171 := by omega
                  subst e; exact zMok_171
                · skip
                  have e : y = 172 := by omega
                  subst e; exact zMok_172
              · skip
                by_cases h174 : y < 174
                · skip
                  have e : y = 173 := by omega
                  subst e; exact zMok_173
                · skip
                  have e : y = 174 := by omega
                  subst e; exact zMok_174
        · skip
          by_cases h183 : y < 183
          · skip
            by_cases h179 : y < 179
            · skip
              by_cases h177 : y < 177
              · skip
                by_cases h176 : y < 176
                · skip
                  have e : y = 175 := by omega
                  subst e; exact zMok_175
                · skip
                  have e : y = 176 := by omega
                  subst e; exact zMok_176
              · skip
                by_cases h178 : y < 178
                · skip
                  have e : y = 177 := by omega
                  subst e; exact zMok_177
                · skip
                  have e : y = 178 := by omega
                  subst e; exact zMok_178
            · skip
              by_cases h181 : y < 181
              · skip
                by_cases h180 : y < 180
                · skip
                  have e : y = 179 := by omega
                  subst e; exact zMok_179
                · skip
                  have e : y = 180 := by omega
                  subst e; exact zMok_180
              · skip
                by_cases h182 : y < 182
                · skip
                  have e : y = 181 := by omega
                  subst e; exact zMok_181
                · skip
                  have e : y = 182 := by omega
                  subst e; exact zMok_182
          · skip
            by_cases h187 : y < 187
            · skip
              by_cases h185 : y < 185
              · skip
                by_cases h184 : y < 184
                · skip
                  have e : y = 183 := by omega
                  subst e; exact zMok_183
                · skip
                  have e : y = 184 := by omega
                  subst e; exact zMok_184
              · skip
                by_cases h186 : y < 186
                · skip
                  have e : y = 185 := by omega
                  subst e; exact zMok_185
                · skip
                  have e : y = 186 := by omega
                  subst e; exact zMok_186
            · skip
              by_cases h189 : y < 189
              · skip
                by_cases h188 : y < 188
                · skip
                  have e : y = 187 := by omega
                  subst e; exact zMok_187
                · skip
                  have e : y = 188 := by omega
                  subst e; exact zMok_188
              · skip
                by_cases h190 : y < 190
                · skip
                  have e : y = 189 := by omega
                  subst e; exact zMok_189
                · skip
                  have e : y = 190 := by omega
                  subst e; exact zMok_190
    · skip
      by_cases h223 : y < 223
      · skip
        by_cases h207 : y < 207
        · skip
          by_cases h199 : y < 199
          · skip
            by_cases h195 : y < 195
            · skip
              by_cases h193 : y < 193
              · skip
                by_cases h192 : y < 192
                · skip
                  have e : y = 191 := by omega
                  subst e; exact zMok_191
                · skip
                  have e : y = 192 := by omega
                  subst e; exact zMok_192
              · skip
                by_cases h194 : y < 194
                · skip
                  have e : y = 193 := by omega
                  subst e; exact zMok_193
                · skip
                  have e : y = 194 := by omega
                  subst e; exact zMok_194
            · skip
              by_cases h197 : y < 197
              · skip
                by_cases h196 : y < 196
                · skip
                  have e : y = 195 := by omega
                  subst e; exact zMok_195
                · skip
                  have e : y = 196 := by omega
                  subst e; exact zMok_196
              · skip
                by_cases h198 : y < 198
                · skip
                  have e : y = 197 := by omega
                  subst e; exact zMok_197
                · skip
                  have e : y = 198 := by omega
                  subst e; exact zMok_198
          · skip
            by_cases h203 : y < 203
            · skip
              by_cases h201 : y < 201
              · skip
                by_cases h200 : y < 200
                · skip
                  have e : y = 199 := by omega
                  subst e; exact zMok_199
                · skip
                  have e : y = 200 := by omega
                  subst e; exact zMok_200
              · skip
                by_cases h202 : y < 202
                · skip
                  have e : y = 201 := by omega
                  subst e; exact zMok_201
                · skip
                  have e : y = 202 := by omega
                  subst e; exact zMok_202
            · skip
              by_cases h205 : y < 205
              · skip
                by_cases h204 : y < 204
                · skip
                  have e : y = 203 := by omega
                  subst e; exact zMok_203
                · skip
                  have e : y = 204 := by omega
                  subst e; exact zMok_204
              · skip
                by_cases h206 : y < 206
                · skip
                  have e : y = 205 := by omega
                  subst e; exact zMok_205
                · skip
                  have e : y = 206 := by omega
                  subst e; exact zMok_206
        · skip
          by_cases h215 : y < 215
          · skip
            by_cases h211 : y < 211
            · skip
              by_cases h209 : y < 209
              · skip
                by_cases h208 : y < 208
                · skip
                  have e : y = 207 := by omega
                  subst e; exact zMok_207
                · skip
                  have e : y = 208 := by omega
                  subst e; exact zMok_208
              · skip
                by_cases h210 : y < 210
                · skip
                  have e : y = 209 := by omega
                  subst e; exact zMok_209
                · skip
                  have e : y = 210 := by omega
                  subst e; exact zMok_210
            · skip
              by_cases h213 : y < 213
              · skip
                by_cases h212 : y < 212
                · skip
                  have e : y = 211 := by omega
                  subst e; exact zMok_211
                · skip
                  have e : y = 212 := by omega
                  subst e; exact zMok_212
              · skip
                by_cases h214 : y < 214
                · skip
                  have e : y = 213 := by omega
                  subst e; exact zMok_213
                · skip
                  have e : y = 214 := by omega
                  subst e; exact zMok_214
          · skip
            by_cases h219 : y < 219
            · skip
              by_cases h217 : y < 217
              · skip
                by_cases h216 : y < 216
                · skip
                  have e : y = 215 := by omega
                  subst e; exact zMok_215
                · skip
                  have e : y = 216 := by omega
                  subst e; exact zMok_216
              · skip
                by_cases h218 : y < 218
                · skip
                  have e : y = 217 := by omega
                  subst e; exact zMok_217
                · skip
                  have e : y = 218 := by omega
                  subst e; exact zMok_218
            · skip
              by_cases h221 : y < 221
              · skip
                by_cases h220 : y < 220
                · skip
                  have e : y = 219 := by omega
                  subst e; exact zMok_219
                · skip
                  have e : y = 220 := by omega
                  subst e; exact zMok_220
              · skip
                by_cases h222 : y < 222
                · skip
                  have e : y = 221 := by omega
                  subst e; exact zMok_221
                · skip
                  have e : y = 222 := by omega
                  subst e; exact zMok_222
      · skip
        by_cases h239 : y < 239
        · skip
          by_cases h231 : y < 231
          · skip
            by_cases h227 : y < 227
            · skip
              by_cases h225 : y < 225
              · skip
                by_cases h224 : y < 224
                · skip
                  have e : y = 223 := by omega
                  subst e; exact zMok_223
                · skip
                  have e : y = 224 := by omega
                  subst e; exact zMok_224
              · skip
                by_cases h226 : y < 226
                · skip
                  have e : y = 225 := by omega
                  subst e; exact zMok_225
                · skip
                  have e : y = 226 := by omega
                  subst e; exact zMok_226
            · skip
              by_cases h229 : y < 229
              · skip
                by_cases h228 : y < 228
                · skip
                  have e : y = 227 := by omega
                  subst e; exact zMok_227
                · skip
                  have e : y = 228 := by omega
                  subst e; exact zMok_228
              · skip
                by_cases h230 : y < 230
                · skip
                  have e : y = 229 := by omega
                  subst e; exact zMok_229
                · skip
                  have e : y = 230 := by omega
                  subst e; exact zMok_230
          · skip
            by_cases h235 : y < 235
            · skip
              by_cases h233 : y < 233
              · skip
                by_cases h232 : y < 232
                · skip
                  have e : y = 231 := by omega
                  subst e; exact zMok_231
                · skip
                  have e : y = 232 := by omega
                  subst e; exact zMok_232
              · skip
                by_cases h234 : y < 234
                · skip
                  have e : y = 233 := by omega
                  subst e; exact zMok_233
                · skip
                  have e : y = 234 := by omega
                  subst e; exact zMok_234
            · skip
              by_cases h237 : y < 237
              · skip
                by_cases h236 : y < 236
                · skip
                  have e : y = 235 := by omega
                  subst e; exact zMok_235
                · skip
                  have e : y = 236 := by omega
                  subst e; exact zMok_236
              · skip
                by_cases h238 : y < 238
                · skip
                  have e : y = 237 := by omega
                  subst e; exact zMok_237
                · skip
                  have e : y = 238 := by omega
                  subst e; exact zMok_238
        · skip
          by_cases h247 : y < 247
          · skip
            by_cases h243 : y < 243
            · skip
              by_cases h241 : y < 241
              · skip
                by_cases h240 : y < 240
                · skip
                  have e : y = 239 := by omega
                  subst e; exact zMok_239
                · skip
                  have e : y = 240 := by omega
                  subst e; exact zMok_240
              · skip
                by_cases h242 : y < 242
                · skip
                  have e : y = 241 := by omega
                  subst e; exact zMok_241
                · skip
                  have e : y = 242 := by omega
                  subst e; exact zMok_242
            · skip
              by_cases h245 : y < 245
              · skip
                by_cases h244 : y < 244
                · skip
                  have e : y = 243 := by omega
                  subst e; exact zMok_243
                · skip
                  have e : y = 244 := by omega
                  subst e; exact zMok_244
              · skip
                by_cases h246 : y < 246
                · skip
                  have e : y = 245 := by omega
                  subst e; exact zMok_245
                · skip
                  have e : y = 246 := by omega
                  subst e; exact zMok_246
          · skip
            by_cases h251 : y < 251
            · skip
              by_cases h249 : y < 249
              · skip
                by_cases h248 : y < 248
                · skip
                  have e : y = 247 := by omega
                  subst e; exact zMok_247
                · skip
                  have e : y = 248 := by omega
                  subst e; exact zMok_248
              · skip
                by_cases h250 : y < 250
                · skip
                  have e : y = 249 := by omega
                  subst e; exact zMok_249
                · skip
                  have e : y = 250 := by omega
                  subst e; exact zMok_250
            · skip
              by_cases h253 : y < 253
              · skip
                by_cases h252 : y < 252
                · skip
                  have e : y = 251 := by omega
                  subst e; exact zMok_251
                · skip
                  have e : y = 252 := by omega
                  subst e; exact zMok_252
              · skip
                by_cases h254 : y < 254
                · skip
                  have e : y = 253 := by omega
                  subst e; exact zMok_253
                · skip
                  have e : y = 254 := by omega
                  subst e; exact zMok_254
theorem zlay_0 : ∀ k, k < 7 → u_lay RX0 TX0 k ∈ tables_1 := fun k h => match k, h with
  | 0, _ => List.mem_of_getElem? (i := 195) (by decide +kernel)
  | 1, _ => List.mem_of_getElem? (i := 197) (by decide +kernel)
  | 2, _ => List.mem_of_getElem? (i := 199) (by decide +kernel)
  | 3, _ => List.mem_of_getElem? (i := 201) (by decide +kernel)
  | 4, _ => List.mem_of_getElem? (i := 203) (by decide +kernel)
  | 5, _ => List.mem_of_getElem? (i := 205) (by decide +kernel)
  | 6, _ => List.mem_of_getElem? (i := 207) (by decide +kernel)
  | _ + 7, h => absurd h (by omega)
theorem zlay_1 : ∀ k, k < 6 → u_lay RX1 TX1 k ∈ tables_1 := fun k h => match k, h with
  | 0, _ => List.mem_of_getElem? (i := 255) (by decide +kernel)
  | 1, _ => List.mem_of_getElem? (i := 257) (by decide +kernel)
  | 2, _ => List.mem_of_getElem? (i := 259) (by decide +kernel)
  | 3, _ => List.mem_of_getElem? (i := 261) (by decide +kernel)
  | 4, _ => List.mem_of_getElem? (i := 263) (by decide +kernel)
  | 5, _ => List.mem_of_getElem? (i := 265) (by decide +kernel)
  | _ + 6, h => absurd h (by omega)
theorem zlay_2 : ∀ k, k < 4 → u_lay RX2 TX2 k ∈ tables_1 := fun k h => match k, h with
  | 0, _ => List.mem_of_getElem? (i := 97) (by decide +kernel)
  | 1, _ => List.mem_of_getElem? (i := 99) (by decide +kernel)
  | 2, _ => List.mem_of_getElem? (i := 101) (by decide +kernel)
  | 3, _ => List.mem_of_getElem? (i := 103) (by decide +kernel)
  | _ + 4, h => absurd h (by omega)
theorem zlay_3 : ∀ k, k < 6 → u_lay RX3 TX3 k ∈ tables_1 := fun k h => match k, h with
  | 0, _ => List.mem_of_getElem? (i := 379) (by decide +kernel)
  | 1, _ => List.mem_of_getElem? (i := 381) (by decide +kernel)
  | 2, _ => List.mem_of_getElem? (i := 383) (by decide +kernel)
  | 3, _ => List.mem_of_getElem? (i := 385) (by decide +kernel)
  | 4, _ => List.mem_of_getElem? (i := 387) (by decide +kernel)
  | 5, _ => List.mem_of_getElem? (i := 389) (by decide +kernel)
  | _ + 6, h => absurd h (by omega)
theorem zlay_4 : ∀ k, k < 7 → u_lay RX4 TX4 k ∈ tables_1 := fun k h => match k, h with
  | 0, _ => List.mem_of_getElem? (i := 134) (by decide +kernel)
  | 1, _ => List.mem_of_getElem? (i := 136) (by decide +kernel)
  | 2, _ => List.mem_of_getElem? (i := 138) (by decide +kernel)
  | 3, _ => List.mem_of_getElem? (i := 140) (by decide +kernel)
  | 4, _ => List.mem_of_getElem? (i := 142) (by decide +kernel)
  | 5, _ => List.mem_of_getElem? (i := 144) (by decide +kernel)
  | 6, _ => List.mem_of_getElem? (i := 146) (by decide +kernel)
  | _ + 7, h => absurd h (by omega)
theorem zlay_5 : ∀ k, k < 9 → u_lay RX5 TX5 k ∈ tables_1 := fun k h => match k, h with
  | 0, _ => List.mem_of_getElem? (i := 65) (by decide +kernel)
  | 1, _ => List.mem_of_getElem? (i := 67) (by decide +kernel)
  | 2, _ => List.mem_of_getElem? (i := 69) (by decide +kernel)
  | 3, _ => List.mem_of_getElem? (i := 71) (by decide +kernel)
  | 4, _ => List.mem_of_getElem? (i := 73) (by decide +kernel)
  | 5, _ => List.mem_of_getElem? (i := 75) (by decide +kernel)
  | 6, _ => List.mem_of_getElem? (i := 77) (by decide +kernel)
  | 7, _ => List.mem_of_getElem? (i := 79) (by decide +kernel)
  | 8, _ => List.mem_of_getElem? (i := 81) (by decide +kernel)
  | _ + 9, h => absurd h (by omega)
theorem zlay_6 : ∀ k, k < 4 → u_lay RX6 TX6 k ∈ tables_1 := fun k h => match k, h with
  | 0, _ => List.mem_of_getElem? (i := 225) (by decide +kernel)
  | 1, _ => List.mem_of_getElem? (i := 227) (by decide +kernel)
  | 2, _ => List.mem_of_getElem? (i := 229) (by decide +kernel)
  | 3, _ => List.mem_of_getElem? (i := 231) (by decide +kernel)
  | _ + 4, h => absurd h (by omega)
theorem zlay_7 : ∀ k, k < 1 → u_lay RX7 TX7 k ∈ tables_1 := fun k h => match k, h with
  | 0, _ => List.mem_of_getElem? (i := 592) (by decide +kernel)
  | _ + 1, h => absurd h (by omega)
theorem zlay_8 : ∀ k, k < 4 → u_lay RX8 TX8 k ∈ tables_1 := fun k h => match k, h with
  | 0, _ => List.mem_of_getElem? (i := 167) (by decide +kernel)
  | 1, _ => List.mem_of_getElem? (i := 169) (by decide +kernel)
  | 2, _ => List.mem_of_getElem? (i := 171) (by decide +kernel)
  | 3, _ => List.mem_of_getElem? (i := 173) (by decide +kernel)
  | _ + 4, h => absurd h (by omega)
theorem zlay_9 : ∀ k, k < 1 → u_lay RX9 TX9 k ∈ tables_1 := fun k h => match k, h with
  | 0, _ => List.mem_of_getElem? (i := 151) (by decide +kernel)
  | _ + 1, h => absurd h (by omega)
theorem zlay_10 : ∀ k, k < 20 → u_lay RX10 TX10 k ∈ tables_1 := fun k h => match k, h with
  | 0, _ => List.mem_of_getElem? (i := 288) (by decide +kernel)
  | 1, _ => List.mem_of_getElem? (i := 290) (by decide +kernel)
  | 2, _ => List.mem_of_getElem? (i := 292) (by decide +kernel)
  | 3, _ => List.mem_of_getElem? (i := 294) (by decide +kernel)
  | 4, _ => List.mem_of_getElem? (i := 296) (by decide +kernel)
  | 5, _ => List.mem_of_getElem? (i := 298) (by decide +kernel)
  | 6, _ => List.mem_of_getElem? (i := 300) (by decide +kernel)
  | 7, _ => List.mem_of_getElem? (i := 302) (by decide +kernel)
  | 8, _ => List.mem_of_getElem? (i := 304) (by decide +kernel)
  | 9, _ => List.mem_of_getElem? (i := 306) (by decide +kernel)
  | 10, _ => List.mem_of_getElem? (i := 308) (by decide +kernel)
  | 11, _ => List.mem_of_getElem? (i := 310) (by decide +kernel)
  | 12, _ => List.mem_of_getElem? (i := 312) (by decide +kernel)
  | 13, _ => List.mem_of_getElem? (i := 314) (by decide +kernel)
  | 14, _ => List.mem_of_getElem? (i := 316) (by decide +kernel)
  | 15, _ => List.mem_of_getElem? (i := 318) (by decide +kernel)
  | 16, _ => List.mem_of_getElem? (i := 320) (by decide +kernel)
  | 17, _ => List.mem_of_getElem? (i := 322) (by decide +kernel)
  | 18, _ => List.mem_of_getElem? (i := 324) (by decide +kernel)
  | 19, _ => List.mem_of_getElem? (i := 326) (by decide +kernel)
  | _ + 20, h => absurd h (by omega)
theorem zlay_11 : ∀ k, k < 40 → u_lay RX11 TX11 k ∈ tables_1 := fun k h => match k, h with
  | 0, _ => List.mem_of_getElem? (i := 996) (by decide +kernel)
  | 1, _ => List.mem_of_getElem? (i := 998) (by decide +kernel)
  | 2, _ => List.mem_of_getElem? (i := 1000) (by decide +kernel)
  | 3, _ => List.mem_of_getElem? (i := 1002) (by decide +kernel)
  | 4, _ => List.mem_of_getElem? (i := 1004) (by decide +kernel)
  | 5, _ => List.mem_of_getElem? (i := 1006) (by decide +kernel)
  | 6, _ => List.mem_of_getElem? (i := 1008) (by decide +kernel)
  | 7, _ => List.mem_of_getElem? (i := 1010) (by decide +kernel)
  | 8, _ => List.mem_of_getElem? (i := 1012) (by decide +kernel)
  | 9, _ => List.mem_of_getElem? (i := 1014) (by decide +kernel)
  | 10, _ => List.mem_of_getElem? (i := 1016) (by decide +kernel)
  | 11, _ => List.mem_of_getElem? (i := 1018) (by decide +kernel)
  | 12, _ => List.mem_of_getElem? (i := 1020) (by decide +kernel)
  | 13, _ => List.mem_of_getElem? (i := 1022) (by decide +kernel)
  | 14, _ => List.mem_of_getElem? (i := 1024) (by decide +kernel)
  | 15, _ => List.mem_of_getElem? (i := 1026) (by decide +kernel)
  | 16, _ => List.mem_of_getElem? (i := 1028) (by decide +kernel)
  | 17, _ => List.mem_of_getElem? (i := 1030) (by decide +kernel)
  | 18, _ => List.mem_of_getElem? (i := 1032) (by decide +kernel)
  | 19, _ => List.mem_of_getElem? (i := 1034) (by decide +kernel)
  | 20, _ => List.mem_of_getElem? (i := 1036) (by decide +kernel)
  | 21, _ => List.mem_of_getElem? (i := 1038) (by decide +kernel)
  | 22, _ => List.mem_of_getElem? (i := 1040) (by decide +kernel)
  | 23, _ => List.mem_of_getElem? (i := 1042) (by decide +kernel)
  | 24, _ => List.mem_of_getElem? (i := 1044) (by decide +kernel)
  | 25, _ => List.mem_of_getElem? (i := 1046) (by decide +kernel)
  | 26, _ => List.mem_of_getElem? (i := 1048) (by decide +kernel)
  | 27, _ => List.mem_of_getElem? (i := 1050) (by decide +kernel)
  | 28, _ => List.mem_of_getElem? (i := 1052) (by decide +kernel)
  | 29, _ => List.mem_of_getElem? (i := 1054) (by decide +kernel)
  | 30, _ => List.mem_of_getElem? (i := 1056) (by decide +kernel)
  | 31, _ => List.mem_of_getElem? (i := 1058) (by decide +kernel)
  | 32, _ => List.mem_of_getElem? (i := 1060) (by decide +kernel)
  | 33, _ => List.mem_of_getElem? (i := 1062) (by decide +kernel)
  | 34, _ => List.mem_of_getElem? (i := 1064) (by decide +kernel)
  | 35, _ => List.mem_of_getElem? (i := 1066) (by decide +kernel)
  | 36, _ => List.mem_of_getElem? (i := 1068) (by decide +kernel)
  | 37, _ => List.mem_of_getElem? (i := 1070) (by decide +kernel)
  | 38, _ => List.mem_of_getElem? (i := 1072) (by decide +kernel)
  | 39, _ => List.mem_of_getElem? (i := 1074) (by decide +kernel)
  | _ + 40, h => absurd h (by omega)
theorem zins_0 : Cond.instantiable RX0 7 ∈ tables_1 ∧ Cond.initialized RX0 ∈ tables_1 := ⟨List.mem_of_getElem? (i := 177) (by decide +kernel), List.mem_of_getElem? (i := 7) (by decide +kernel)⟩
theorem zins_1 : Cond.instantiable RX1 6 ∈ tables_1 ∧ Cond.initialized RX1 ∈ tables_1 := ⟨List.mem_of_getElem? (i := 234) (by decide +kernel), List.mem_of_getElem? (i := 9) (by decide +kernel)⟩
theorem zins_2 : Cond.instantiable RX2 4 ∈ tables_1 ∧ Cond.initialized RX2 ∈ tables_1 := ⟨List.mem_of_getElem? (i := 87) (by decide +kernel), List.mem_of_getElem? (i := 3) (by decide +kernel)⟩
theorem zins_3 : Cond.instantiable RX3 6 ∈ tables_1 ∧ Cond.initialized RX3 ∈ tables_1 := ⟨List.mem_of_getElem? (i := 350) (by decide +kernel), List.mem_of_getElem? (i := 11) (by decide +kernel)⟩
theorem zins_4 : Cond.instantiable RX4 7 ∈ tables_1 ∧ Cond.initialized RX4 ∈ tables_1 := ⟨List.mem_of_getElem? (i := 116) (by decide +kernel), List.mem_of_getElem? (i := 5) (by decide +kernel)⟩
theorem zins_5 : Cond.instantiable RX5 9 ∈ tables_1 ∧ Cond.initialized RX5 ∈ tables_1 := ⟨List.mem_of_getElem? (i := 32) (by decide +kernel), List.mem_of_getElem? (i := 2) (by decide +kernel)⟩
theorem zins_6 : Cond.instantiable RX6 4 ∈ tables_1 ∧ Cond.initialized RX6 ∈ tables_1 := ⟨List.mem_of_getElem? (i := 212) (by decide +kernel), List.mem_of_getElem? (i := 8) (by decide +kernel)⟩
theorem zins_7 : Cond.instantiable RX7 1 ∈ tables_1 ∧ Cond.initialized RX7 ∈ tables_1 := ⟨List.mem_of_getElem? (i := 574) (by decide +kernel), List.mem_of_getElem? (i := 18) (by decide +kernel)⟩
theorem zins_8 : Cond.instantiable RX8 4 ∈ tables_1 ∧ Cond.initialized RX8 ∈ tables_1 := ⟨List.mem_of_getElem? (i := 155) (by decide +kernel), List.mem_of_getElem? (i := 6) (by decide +kernel)⟩
theorem zins_9 : Cond.instantiable RX9 1 ∈ tables_1 ∧ Cond.initialized RX9 ∈ tables_1 := ⟨List.mem_of_getElem? (i := 110) (by decide +kernel), List.mem_of_getElem? (i := 4) (by decide +kernel)⟩
theorem zins_10 : Cond.instantiable RX10 20 ∈ tables_1 ∧ Cond.initialized RX10 ∈ tables_1 := ⟨List.mem_of_getElem? (i := 22) (by decide +kernel), List.mem_of_getElem? (i := 1) (by decide +kernel)⟩
theorem zins_11 : Cond.instantiable RX11 40 ∈ tables_1 ∧ Cond.initialized RX11 ∈ tables_1 := ⟨List.mem_of_getElem? (i := 951) (by decide +kernel), List.mem_of_getElem? (i := 10) (by decide +kernel)⟩
def zVl : List Bool := [false, false, false, false, false, false, false, false, false, true, true, true, true, true, false, true, false, false, true, false, true, true, true, true, true, true, true, true, true, true, true, true, true, true, true, true, true, true, true, true, true, true, true, true, false, false, true, true, false, true, true, true, true, true, true, true, false, true, true, true, true, true, true, true, true, true, true, false, false, false, true, true, true, true, true, true, true, true, false, true, true, true, true, true, true, false, true, true, true, true, true, true, true, true, true, true, true, true, true, true, true, true, true, true, true, true, false, false, true, true, true, true, true, true, true, true, true, true, true, true, true, true, false, true, true, true, true, true, true, true, true, true, false, true, true, true, true, true, true, true, true, true, true, true, true, true, true, true, true, true, false, true, true, true, true, true, true, true, true, true, true, true, true, true, true, true, true, true, true, true, false, true, true, true, true, true, true, true, true, true, true, true, true, true, true, true, true, true, true, true, true, true, true, true, false, true, true, true, true, true, true, true, false, true, true, true, true, true, true, true, true, true, true, true, true, true, true, true, true, true, true, true, true, true, true, true, true, true, true, true, true, true, true, true, true, true, true, true, true, true, true, true, true, true, true, true, true, true, true, true, true, true, true, true, true]
theorem zsel_9 : Cond.selects (zM 9).1.cls (zM 9).1 (zM 9).1 ∈ lw_tbl := List.mem_append_right _ (List.mem_of_getElem? (i := 331) (by decide +kernel))
theorem zsel_10 : Cond.selects (zM 10).1.cls (zM 10).1 (zM 10).1 ∈ lw_tbl := List.mem_append_left _ (List.mem_of_getElem? (i := 0) (by decide +kernel))
theorem zsel_11 : Cond.selects (zM 11).1.cls (zM 11).1 (zM 11).1 ∈ lw_tbl := List.mem_append_right _ (List.mem_of_getElem? (i := 339) (by decide +kernel))
theorem zsel_12 : Cond.selects (zM 12).1.cls (zM 12).1 (zM 12).1 ∈ lw_tbl := List.mem_append_right _ (List.mem_of_getElem? (i := 343) (by decide +kernel))
theorem zsel_13 : Cond.selects (zM 13).1.cls (zM 13).1 (zM 13).1 ∈ lw_tbl := List.mem_append_right _ (List.mem_of_getElem? (i := 347) (by decide +kernel))
theorem zsel_15 : Cond.selects (zM 15).1.cls (zM 15).1 (zM 15).1 ∈ lw_tbl := List.mem_append_right _ (List.mem_of_getElem? (i := 394) (by decide +kernel))
theorem zsel_18 : Cond.selects (zM 18).1.cls (zM 18).1 (zM 18).1 ∈ lw_tbl := List.mem_append_right _ (List.mem_of_getElem? (i := 407) (by decide +kernel))
theorem zsel_20 : Cond.selects (zM 20).1.cls (zM 20).1 (zM 20).1 ∈ lw_tbl := List.mem_append_left _ (List.mem_of_getElem? (i := 1) (by decide +kernel))
theorem zsel_21 : Cond.selects (zM 21).1.cls (zM 21).1 (zM 21).1 ∈ lw_tbl := List.mem_append_right _ (List.mem_of_getElem? (i := 419) (by decide +kernel))
theorem zsel_22 : Cond.selects (zM 22).1.cls (zM 22).1 (zM 22).1 ∈ lw_tbl := List.mem_append_right _ (List.mem_of_getElem? (i := 471) (by decide +kernel))
theorem zsel_23 : Cond.selects (zM 23).1.cls (zM 23).1 (zM 23).1 ∈ lw_tbl := List.mem_append_right _ (List.mem_of_getElem? (i := 476) (by decide +kernel))
theorem zsel_24 : Cond.selects (zM 24).1.cls (zM 24).1 (zM 24).1 ∈ lw_tbl := List.mem_append_right _ (List.mem_of_getElem? (i := 481) (by decide +kernel))
theorem zsel_25 : Cond.selects (zM 25).1.cls (zM 25).1 (zM 25).1 ∈ lw_tbl := List.mem_append_left _ (List.mem_of_getElem? (i := 2) (by decide +kernel))
theorem zsel_26 : Cond.selects (zM 26).1.cls (zM 26).1 (zM 26).1 ∈ lw_tbl := List.mem_append_right _ (List.mem_of_getElem? (i := 489) (by decide +kernel))
theorem zsel_27 : Cond.selects (zM 27).1.cls (zM 27).1 (zM 27).1 ∈ lw_tbl := List.mem_append_left _ (List.mem_of_getElem? (i := 3) (by decide +kernel))
theorem zsel_28 : Cond.selects (zM 28).1.cls (zM 28).1 (zM 28).1 ∈ lw_tbl := List.mem_append_right _ (List.mem_of_getElem? (i := 497) (by decide +kernel))
theorem zsel_29 : Cond.selects (zM 29).1.cls (zM 29).1 (zM 29).1 ∈ lw_tbl := List.mem_append_left _ (List.mem_of_getElem? (i := 4) (by decide +kernel))
theorem zsel_30 : Cond.selects (zM 30).1.cls (zM 30).1 (zM 30).1 ∈ lw_tbl := List.mem_append_right _ (List.mem_of_getElem? (i := 505) (by decide +kernel))
theorem zsel_31 : Cond.selects (zM 31).1.cls (zM 31).1 (zM 31).1 ∈ lw_tbl := List.mem_append_right _ (List.mem_of_getElem? (i := 509) (by decide +kernel))
theorem zsel_32 : Cond.selects (zM 32).1.cls (zM 32).1 (zM 32).1 ∈ lw_tbl := List.mem_append_right _ (List.mem_of_getElem? (i := 513) (by decide +kernel))
theorem zsel_33 : Cond.selects (zM 33).1.cls (zM 33).1 (zM 33).1 ∈ lw_tbl := List.mem_append_right _ (List.mem_of_getElem? (i := 517) (by decide +kernel))
theorem zsel_34 : Cond.selects (zM 34).1.cls (zM 34).1 (zM 34).1 ∈ lw_tbl := List.mem_append_right _ (List.mem_of_getElem? (i := 521) (by decide +kernel))
theorem zsel_35 : Cond.selects (zM 35).1.cls (zM 35).1 (zM 35).1 ∈ lw_tbl := List.mem_append_left _ (List.mem_of_getElem? (i := 5) (by decide +kernel))
theorem zsel_36 : Cond.selects (zM 36).1.cls (zM 36).1 (zM 36).1 ∈ lw_tbl := List.mem_append_left _ (List.mem_of_getElem? (i := 6) (by decide +kernel))
theorem zsel_37 : Cond.selects (zM 37).1.cls (zM 37).1 (zM 37).1 ∈ lw_tbl := List.mem_append_left _ (List.mem_of_getElem? (i := 7) (by decide +kernel))
theorem zsel_38 : Cond.selects (zM 38).1.cls (zM 38).1 (zM 38).1 ∈ lw_tbl := List.mem_append_left _ (List.mem_of_getElem? (i := 8) (by decide +kernel))
theorem zsel_39 : Cond.selects (zM 39).1.cls (zM 39).1 (zM 39).1 ∈ lw_tbl := List.mem_append_left _ (List.mem_of_getElem? (i := 9) (by decide +kernel))
theorem zsel_40 : Cond.selects (zM 40).1.cls (zM 40).1 (zM 40).1 ∈ lw_tbl := List.mem_append_left _ (List.mem_of_getElem? (i := 10) (by decide +kernel))
theorem zsel_41 : Cond.selects (zM 41).1.cls (zM 41).1 (zM 41).1 ∈ lw_tbl := List.mem_append_left _ (List.mem_of_getElem? (i := 11) (by decide +kernel))
theorem zsel_42 : Cond.selects (zM 42).1.cls (zM 42).1 (zM 42).1 ∈ lw_tbl := List.mem_append_left _ (List.mem_of_getElem? (i := 12) (by decide +kernel))
theorem zsel_43 : Cond.selects (zM 43).1.cls (zM 43).1 (zM 43).1 ∈ lw_tbl := List.mem_append_left _ (List.mem_of_getElem? (i := 13) (by decide +kernel))
theorem zsel_46 : Cond.selects (zM 46).1.cls (zM 46).1 (zM 46).1 ∈ lw_tbl := List.mem_append_right _ (List.mem_of_getElem? (i := 597) (by decide +kernel))
theorem zsel_47 : Cond.selects (zM 47).1.cls (zM 47).1 (zM 47).1 ∈ lw_tbl := List.mem_append_right _ (List.mem_of_getElem? (i := 601) (by decide +kernel))
theorem zsel_49 : Cond.selects (zM 49).1.cls (zM 49).1 (zM 49).1 ∈ lw_tbl := List.mem_append_right _ (List.mem_of_getElem? (i := 608) (by decide +kernel))
theorem zsel_50 : Cond.selects (zM 50).1.cls (zM 50).1 (zM 50).1 ∈ lw_tbl := List.mem_append_left _ (List.mem_of_getElem? (i := 14) (by decide +kernel))
theorem zsel_51 : Cond.selects (zM 51).1.cls (zM 51).1 (zM 51).1 ∈ lw_tbl := List.mem_append_right _ (List.mem_of_getElem? (i := 616) (by decide +kernel))
theorem zsel_52 : Cond.selects (zM 52).1.cls (zM 52).1 (zM 52).1 ∈ lw_tbl := List.mem_append_left _ (List.mem_of_getElem? (i := 15) (by decide +kernel))
theorem zsel_53 : Cond.selects (zM 53).1.cls (zM 53).1 (zM 53).1 ∈ lw_tbl := List.mem_append_right _ (List.mem_of_getElem? (i := 624) (by decide +kernel))
theorem zsel_54 : Cond.selects (zM 54).1.cls (zM 54).1 (zM 54).1 ∈ lw_tbl := List.mem_append_right _ (List.mem_of_getElem? (i := 628) (by decide +kernel))
theorem zsel_55 : Cond.selects (zM 55).1.cls (zM 55).1 (zM 55).1 ∈ lw_tbl := List.mem_append_right _ (List.mem_of_getElem? (i := 632) (by decide +kernel))
theorem zsel_57 : Cond.selects (zM 57).1.cls (zM 57).1 (zM 57).1 ∈ lw_tbl := List.mem_append_right _ (List.mem_of_getElem? (i := 642) (by decide +kernel))
theorem zsel_58 : Cond.selects (zM 58).1.cls (zM 58).1 (zM 58).1 ∈ lw_tbl := List.mem_append_right _ (List.mem_of_getElem? (i := 646) (by decide +kernel))
theorem zsel_59 : Cond.selects (zM 59).1.cls (zM 59).1 (zM 59).1 ∈ lw_tbl := List.mem_append_left _ (List.mem_of_getElem? (i := 16) (by decide +kernel))
theorem zsel_60 : Cond.selects (zM 60).1.cls (zM 60).1 (zM 60).1 ∈ lw_tbl := List.mem_append_left _ (List.mem_of_getElem? (i := 17) (by decide +kernel))
theorem zsel_61 : Cond.selects (zM 61).1.cls (zM 61).1 (zM 61).1 ∈ lw_tbl := List.mem_append_right _ (List.mem_of_getElem? (i := 659) (by decide +kernel))
theorem zsel_62 : Cond.selects (zM 62).1.cls (zM 62).1 (zM 62).1 ∈ lw_tbl := List.mem_append_left _ (List.mem_of_getElem? (i := 18) (by decide +kernel))
theorem zsel_63 : Cond.selects (zM 63).1.cls (zM 63).1 (zM 63).1 ∈ lw_tbl := List.mem_append_left _ (List.mem_of_getElem? (i := 19) (by decide +kernel))
theorem zsel_64 : Cond.selects (zM 64).1.cls (zM 64).1 (zM 64).1 ∈ lw_tbl := List.mem_append_left _ (List.mem_of_getElem? (i := 20) (by decide +kernel))
theorem zsel_65 : Cond.selects (zM 65).1.cls (zM 65).1 (zM 65).1 ∈ lw_tbl := List.mem_append_left _ (List.mem_of_getElem? (i := 21) (by decide +kernel))
theorem zsel_66 : Cond.selects (zM 66).1.cls (zM 66).1 (zM 66).1 ∈ lw_tbl := List.mem_append_right _ (List.mem_of_getElem? (i := 680) (by decide +kernel))
theorem zsel_70 : Cond.selects (zM 70).1.cls (zM 70).1 (zM 70).1 ∈ lw_tbl := List.mem_append_right _ (List.mem_of_getElem? (i := 695) (by decide +kernel))
theorem zsel_71 : Cond.selects (zM 71).1.cls (zM 71).1 (zM 71).1 ∈ lw_tbl := List.mem_append_left _ (List.mem_of_getElem? (i := 22) (by decide +kernel))
theorem zsel_72 : Cond.selects (zM 72).1.cls (zM 72).1 (zM 72).1 ∈ lw_tbl := List.mem_append_right _ (List.mem_of_getElem? (i := 703) (by decide +kernel))
theorem zsel_73 : Cond.selects (zM 73).1.cls (zM 73).1 (zM 73).1 ∈ lw_tbl := List.mem_append_right _ (List.mem_of_getElem? (i := 707) (by decide +kernel))
theorem zsel_74 : Cond.selects (zM 74).1.cls (zM 74).1 (zM 74).1 ∈ lw_tbl := List.mem_append_left _ (List.mem_of_getElem? (i := 23) (by decide +kernel))
theorem zsel_75 : Cond.selects (zM 75).1.cls (zM 75).1 (zM 75).1 ∈ lw_tbl := List.mem_append_right _ (List.mem_of_getElem? (i := 715) (by decide +kernel))
theorem zsel_76 : Cond.selects (zM 76).1.cls (zM 76).1 (zM 76).1 ∈ lw_tbl := List.mem_append_right _ (List.mem_of_getElem? (i := 720) (by decide +kernel))
theorem zsel_77 : Cond.selects (zM 77).1.cls (zM 77).1 (zM 77).1 ∈ lw_tbl := List.mem_append_left _ (List.mem_of_getElem? (i := 24) (by decide +kernel))
theorem zsel_79 : Cond.selects (zM 79).1.cls (zM 79).1 (zM 79).1 ∈ lw_tbl := List.mem_append_right _ (List.mem_of_getElem? (i := 731) (by decide +kernel))
theorem zsel_80 : Cond.selects (zM 80).1.cls (zM 80).1 (zM 80).1 ∈ lw_tbl := List.mem_append_right _ (List.mem_of_getElem? (i := 735) (by decide +kernel))
theorem zsel_81 : Cond.selects (zM 81).1.cls (zM 81).1 (zM 81).1 ∈ lw_tbl := List.mem_append_right _ (List.mem_of_getElem? (i := 740) (by decide +kernel))
theorem zsel_82 : Cond.selects (zM 82).1.cls (zM 82).1 (zM 82).1 ∈ lw_tbl := List.mem_append_right _ (List.mem_of_getElem? (i := 744) (by decide +kernel))
theorem zsel_83 : Cond.selects (zM 83).1.cls (zM 83).1 (zM 83).1 ∈ lw_tbl := List.mem_append_right _ (List.mem_of_getElem? (i := 748) (by decide +kernel))
theorem zsel_84 : Cond.selects (zM 84).1.cls (zM 84).1 (zM 84).1 ∈ lw_tbl := List.mem_append_right _ (List.mem_of_getElem? (i := 752) (by decide +kernel))
theorem zsel_86 : Cond.selects (zM 86).1.cls (zM 86).1 (zM 86).1 ∈ lw_tbl := List.mem_append_right _ (List.mem_of_getElem? (i := 759) (by decide +kernel))
theorem zsel_87 : Cond.selects (zM 87).1.cls (zM 87).1 (zM 87).1 ∈ lw_tbl := List.mem_append_left _ (List.mem_of_getElem? (i := 25) (by decide +kernel))
theorem zsel_88 : Cond.selects (zM 88).1.cls (zM 88).1 (zM 88).1 ∈ lw_tbl := List.mem_append_left _ (List.mem_of_getElem? (i := 26) (by decide +kernel))
theorem zsel_89 : Cond.selects (zM 89).1.cls (zM 89).1 (zM 89).1 ∈ lw_tbl := List.mem_append_right _ (List.mem_of_getElem? (i := 771) (by decide +kernel))
theorem zsel_90 : Cond.selects (zM 90).1.cls (zM 90).1 (zM 90).1 ∈ lw_tbl := List.mem_append_left _ (List.mem_of_getElem? (i := 27) (by decide +kernel))
theorem zsel_91 : Cond.selects (zM 91).1.cls (zM 91).1 (zM 91).1 ∈ lw_tbl := List.mem_append_right _ (List.mem_of_getElem? (i := 779) (by decide +kernel))
theorem zsel_92 : Cond.selects (zM 92).1.cls (zM 92).1 (zM 92).1 ∈ lw_tbl := List.mem_append_right _ (List.mem_of_getElem? (i := 783) (by decide +kernel))
theorem zsel_93 : Cond.selects (zM 93).1.cls (zM 93).1 (zM 93).1 ∈ lw_tbl := List.mem_append_right _ (List.mem_of_getElem? (i := 787) (by decide +kernel))
theorem zsel_94 : Cond.selects (zM 94).1.cls (zM 94).1 (zM 94).1 ∈ lw_tbl := List.mem_append_left _ (List.mem_of_getElem? (i := 28) (by decide +kernel))
theorem zsel_95 : Cond.selects (zM 95).1.cls (zM 95).1 (zM 95).1 ∈ lw_tbl := List.mem_append_left _ (List.mem_of_getElem? (i := 29) (by decide +kernel))
theorem zsel_96 : Cond.selects (zM 96).1.cls (zM 96).1 (zM 96).1 ∈ lw_tbl := List.mem_append_right _ (List.mem_of_getElem? (i := 799) (by decide +kernel))
theorem zsel_97 : Cond.selects (zM 97).1.cls (zM 97).1 (zM 97).1 ∈ lw_tbl := List.mem_append_right _ (List.mem_of_getElem? (i := 803) (by decide +kernel))
theorem zsel_98 : Cond.selects (zM 98).1.cls (zM 98).1 (zM 98).1 ∈ lw_tbl := List.mem_append_right _ (List.mem_of_getElem? (i := 807) (by decide +kernel))
theorem zsel_99 : Cond.selects (zM 99).1.cls (zM 99).1 (zM 99).1 ∈ lw_tbl := List.mem_append_right _ (List.mem_of_getElem? (i := 811) (by decide +kernel))
theorem zsel_100 : Cond.selects (zM 100).1.cls (zM 100).1 (zM 100).1 ∈ lw_tbl := List.mem_append_left _ (List.mem_of_getElem? (i := 30) (by decide +kernel))
theorem zsel_101 : Cond.selects (zM 101).1.cls (zM 101).1 (zM 101).1 ∈ lw_tbl := List.mem_append_right _ (List.mem_of_getElem? (i := 821) (by decide +kernel))
theorem zsel_102 : Cond.selects (zM 102).1.cls (zM 102).1 (zM 102).1 ∈ lw_tbl := List.mem_append_left _ (List.mem_of_getElem? (i := 31) (by decide +kernel))
theorem zsel_103 : Cond.selects (zM 103).1.cls (zM 103).1 (zM 103).1 ∈ lw_tbl := List.mem_append_right _ (List.mem_of_getElem? (i := 832) (by decide +kernel))
theorem zsel_104 : Cond.selects (zM 104).1.cls (zM 104).1 (zM 104).1 ∈ lw_tbl := List.mem_append_right _ (List.mem_of_getElem? (i := 837) (by decide +kernel))
theorem zsel_105 : Cond.selects (zM 105).1.cls (zM 105).1 (zM 105).1 ∈ lw_tbl := List.mem_append_left _ (List.mem_of_getElem? (i := 32) (by decide +kernel))
theorem zsel_108 : Cond.selects (zM 108).1.cls (zM 108).1 (zM 108).1 ∈ lw_tbl := List.mem_append_left _ (List.mem_of_getElem? (i := 33) (by decide +kernel))
theorem zsel_109 : Cond.selects (zM 109).1.cls (zM 109).1 (zM 109).1 ∈ lw_tbl := List.mem_append_right _ (List.mem_of_getElem? (i := 855) (by decide +kernel))
theorem zsel_110 : Cond.selects (zM 110).1.cls (zM 110).1 (zM 110).1 ∈ lw_tbl := List.mem_append_right _ (List.mem_of_getElem? (i := 859) (by decide +kernel))
theorem zsel_111 : Cond.selects (zM 111).1.cls (zM 111).1 (zM 111).1 ∈ lw_tbl := List.mem_append_right _ (List.mem_of_getElem? (i := 863) (by decide +kernel))
theorem zsel_112 : Cond.selects (zM 112).1.cls (zM 112).1 (zM 112).1 ∈ lw_tbl := List.mem_append_left _ (List.mem_of_getElem? (i := 34) (by decide +kernel))
theorem zsel_113 : Cond.selects (zM 113).1.cls (zM 113).1 (zM 113).1 ∈ lw_tbl := List.mem_append_right _ (List.mem_of_getElem? (i := 871) (by decide +kernel))
theorem zsel_114 : Cond.selects (zM 114).1.cls (zM 114).1 (zM 114).1 ∈ lw_tbl := List.mem_append_right _ (List.mem_of_getElem? (i := 875) (by decide +kernel))
theorem zsel_115 : Cond.selects (zM 115).1.cls (zM 115).1 (zM 115).1 ∈ lw_tbl := List.mem_append_right _ (List.mem_of_getElem? (i := 879) (by decide +kernel))
theorem zsel_116 : Cond.selects (zM 116).1.cls (zM 116).1 (zM 116).1 ∈ lw_tbl := List.mem_append_left _ (List.mem_of_getElem? (i := 35) (by decide +kernel))
theorem zsel_117 : Cond.selects (zM 117).1.cls (zM 117).1 (zM 117).1 ∈ lw_tbl := List.mem_append_left _ (List.mem_of_getElem? (i := 36) (by decide +kernel))
theorem zsel_118 : Cond.selects (zM 118).1.cls (zM 118).1 (zM 118).1 ∈ lw_tbl := List.mem_append_right _ (List.mem_of_getElem? (i := 891) (by decide +kernel))
theorem zsel_119 : Cond.selects (zM 119).1.cls (zM 119).1 (zM 119).1 ∈ lw_tbl := List.mem_append_right _ (List.mem_of_getElem? (i := 896) (by decide +kernel))
theorem zsel_120 : Cond.selects (zM 120).1.cls (zM 120).1 (zM 120).1 ∈ lw_tbl := List.mem_append_right _ (List.mem_of_getElem? (i := 900) (by decide +kernel))
theorem zsel_121 : Cond.selects (zM 121).1.cls (zM 121).1 (zM 121).1 ∈ lw_tbl := List.mem_append_right _ (List.mem_of_getElem? (i := 904) (by decide +kernel))
theorem zsel_123 : Cond.selects (zM 123).1.cls (zM 123).1 (zM 123).1 ∈ lw_tbl := List.mem_append_left _ (List.mem_of_getElem? (i := 37) (by decide +kernel))
theorem zsel_124 : Cond.selects (zM 124).1.cls (zM 124).1 (zM 124).1 ∈ lw_tbl := List.mem_append_left _ (List.mem_of_getElem? (i := 38) (by decide +kernel))
theorem zsel_125 : Cond.selects (zM 125).1.cls (zM 125).1 (zM 125).1 ∈ lw_tbl := List.mem_append_right _ (List.mem_of_getElem? (i := 919) (by decide +kernel))
theorem zsel_126 : Cond.selects (zM 126).1.cls (zM 126).1 (zM 126).1 ∈ lw_tbl := List.mem_append_right _ (List.mem_of_getElem? (i := 923) (by decide +kernel))
theorem zsel_127 : Cond.selects (zM 127).1.cls (zM 127).1 (zM 127).1 ∈ lw_tbl := List.mem_append_left _ (List.mem_of_getElem? (i := 39) (by decide +kernel))
theorem zsel_128 : Cond.selects (zM 128).1.cls (zM 128).1 (zM 128).1 ∈ lw_tbl := List.mem_append_left _ (List.mem_of_getElem? (i := 40) (by decide +kernel))
theorem zsel_129 : Cond.selects (zM 129).1.cls (zM 129).1 (zM 129).1 ∈ lw_tbl := List.mem_append_right _ (List.mem_of_getElem? (i := 939) (by decide +kernel))
theorem zsel_130 : Cond.selects (zM 130).1.cls (zM 130).1 (zM 130).1 ∈ lw_tbl := List.mem_append_right _ (List.mem_of_getElem? (i := 943) (by decide +kernel))
theorem zsel_131 : Cond.selects (zM 131).1.cls (zM 131).1 (zM 131).1 ∈ lw_tbl := List.mem_append_right _ (List.mem_of_getElem? (i := 948) (by decide +kernel))
theorem zsel_133 : Cond.selects (zM 133).1.cls (zM 133).1 (zM 133).1 ∈ lw_tbl := List.mem_append_right _ (List.mem_of_getElem? (i := 1080) (by decide +kernel))
theorem zsel_134 : Cond.selects (zM 134).1.cls (zM 134).1 (zM 134).1 ∈ lw_tbl := List.mem_append_left _ (List.mem_of_getElem? (i := 41) (by decide +kernel))
theorem zsel_135 : Cond.selects (zM 135).1.cls (zM 135).1 (zM 135).1 ∈ lw_tbl := List.mem_append_right _ (List.mem_of_getElem? (i := 1088) (by decide +kernel))
theorem zsel_136 : Cond.selects (zM 136).1.cls (zM 136).1 (zM 136).1 ∈ lw_tbl := List.mem_append_right _ (List.mem_of_getElem? (i := 1092) (by decide +kernel))
theorem zsel_137 : Cond.selects (zM 137).1.cls (zM 137).1 (zM 137).1 ∈ lw_tbl := List.mem_append_left _ (List.mem_of_getElem? (i := 42) (by decide +kernel))
theorem zsel_138 : Cond.selects (zM 138).1.cls (zM 138).1 (zM 138).1 ∈ lw_tbl := List.mem_append_left _ (List.mem_of_getElem? (i := 43) (by decide +kernel))
theorem zsel_139 : Cond.selects (zM 139).1.cls (zM 139).1 (zM 139).1 ∈ lw_tbl := List.mem_append_left _ (List.mem_of_getElem? (i := 44) (by decide +kernel))
theorem zsel_140 : Cond.selects (zM 140).1.cls (zM 140).1 (zM 140).1 ∈ lw_tbl := List.mem_append_left _ (List.mem_of_getElem? (i := 45) (by decide +kernel))
theorem zsel_141 : Cond.selects (zM 141).1.cls (zM 141).1 (zM 141).1 ∈ lw_tbl := List.mem_append_left _ (List.mem_of_getElem? (i := 46) (by decide +kernel))
theorem zsel_142 : Cond.selects (zM 142).1.cls (zM 142).1 (zM 142).1 ∈ lw_tbl := List.mem_append_left _ (List.mem_of_getElem? (i := 47) (by decide +kernel))
theorem zsel_143 : Cond.selects (zM 143).1.cls (zM 143).1 (zM 143).1 ∈ lw_tbl := List.mem_append_left _ (List.mem_of_getElem? (i := 48) (by decide +kernel))
theorem zsel_144 : Cond.selects (zM 144).1.cls (zM 144).1 (zM 144).1 ∈ lw_tbl := List.mem_append_left _ (List.mem_of_getElem? (i := 49) (by decide +kernel))
theorem zsel_145 : Cond.selects (zM 145).1.cls (zM 145).1 (zM 145).1 ∈ lw_tbl := List.mem_append_left _ (List.mem_of_getElem? (i := 50) (by decide +kernel))
theorem zsel_146 : Cond.selects (zM 146).1.cls (zM 146).1 (zM 146).1 ∈ lw_tbl := List.mem_append_left _ (List.mem_of_getElem? (i := 51) (by decide +kernel))
theorem zsel_147 : Cond.selects (zM 147).1.cls (zM 147).1 (zM 147).1 ∈ lw_tbl := List.mem_append_left _ (List.mem_of_getElem? (i := 52) (by decide +kernel))
theorem zsel_148 : Cond.selects (zM 148).1.cls (zM 148).1 (zM 148).1 ∈ lw_tbl := List.mem_append_left _ (List.mem_of_getElem? (i := 53) (by decide +kernel))
theorem zsel_149 : Cond.selects (zM 149).1.cls (zM 149).1 (zM 149).1 ∈ lw_tbl := List.mem_append_left _ (List.mem_of_getElem? (i := 54) (by decide +kernel))
theorem zsel_151 : Cond.selects (zM 151).1.cls (zM 151).1 (zM 151).1 ∈ lw_tbl := List.mem_append_left _ (List.mem_of_getElem? (i := 55) (by decide +kernel))
theorem zsel_152 : Cond.selects (zM 152).1.cls (zM 152).1 (zM 152).1 ∈ lw_tbl := List.mem_append_left _ (List.mem_of_getElem? (i := 56) (by decide +kernel))
theorem zsel_153 : Cond.selects (zM 153).1.cls (zM 153).1 (zM 153).1 ∈ lw_tbl := List.mem_append_left _ (List.mem_of_getElem? (i := 57) (by decide +kernel))
theorem zsel_154 : Cond.selects (zM 154).1.cls (zM 154).1 (zM 154).1 ∈ lw_tbl := List.mem_append_left _ (List.mem_of_getElem? (i := 58) (by decide +kernel))
theorem zsel_155 : Cond.selects (zM 155).1.cls (zM 155).1 (zM 155).1 ∈ lw_tbl := List.mem_append_left _ (List.mem_of_getElem? (i := 59) (by decide +kernel))
theorem zsel_156 : Cond.selects (zM 156).1.cls (zM 156).1 (zM 156).1 ∈ lw_tbl := List.mem_append_left _ (List.mem_of_getElem? (i := 60) (by decide +kernel))
theorem zsel_157 : Cond.selects (zM 157).1.cls (zM 157).1 (zM 157).1 ∈ lw_tbl := List.mem_append_left _ (List.mem_of_getElem? (i := 61) (by decide +kernel))
theorem zsel_158 : Cond.selects (zM 158).1.cls (zM 158).1 (zM 158).1 ∈ lw_tbl := List.mem_append_left _ (List.mem_of_getElem? (i := 62) (by decide +kernel))
theorem zsel_159 : Cond.selects (zM 159).1.cls (zM 159).1 (zM 159).1 ∈ lw_tbl := List.mem_append_left _ (List.mem_of_getElem? (i := 63) (by decide +kernel))
theorem zsel_160 : Cond.selects (zM 160).1.cls (zM 160).1 (zM 160).1 ∈ lw_tbl := List.mem_append_left _ (List.mem_of_getElem? (i := 64) (by decide +kernel))
theorem zsel_161 : Cond.selects (zM 161).1.cls (zM 161).1 (zM 161).1 ∈ lw_tbl := List.mem_append_left _ (List.mem_of_getElem? (i := 65) (by decide +kernel))
theorem zsel_162 : Cond.selects (zM 162).1.cls (zM 162).1 (zM 162).1 ∈ lw_tbl := List.mem_append_left _ (List.mem_of_getElem? (i := 66) (by decide +kernel))
theorem zsel_163 : Cond.selects (zM 163).1.cls (zM 163).1 (zM 163).1 ∈ lw_tbl := List.mem_append_left _ (List.mem_of_getElem? (i := 67) (by decide +kernel))
theorem zsel_164 : Cond.selects (zM 164).1.cls (zM 164).1 (zM 164).1 ∈ lw_tbl := List.mem_append_left _ (List.mem_of_getElem? (i := 68) (by decide +kernel))
theorem zsel_165 : Cond.selects (zM 165).1.cls (zM 165).1 (zM 165).1 ∈ lw_tbl := List.mem_append_left _ (List.mem_of_getElem? (i := 69) (by decide +kernel))
theorem zsel_166 : Cond.selects (zM 166).1.cls (zM 166).1 (zM 166).1 ∈ lw_tbl := List.mem_append_left _ (List.mem_of_getElem? (i := 70) (by decide +kernel))
theorem zsel_167 : Cond.selects (zM 167).1.cls (zM 167).1 (zM 167).1 ∈ lw_tbl := List.mem_append_left _ (List.mem_of_getElem? (i := 71) (by decide +kernel))
theorem zsel_168 : Cond.selects (zM 168).1.cls (zM 168).1 (zM 168).1 ∈ lw_tbl := List.mem_append_left _ (List.mem_of_getElem? (i := 72) (by decide +kernel))
theorem zsel_169 : Cond.selects (zM 169).1.cls (zM 169).1 (zM 169).1 ∈ lw_tbl := List.mem_append_left _ (List.mem_of_getElem? (i := 73) (by decide +kernel))
theorem zsel_171 : Cond.selects (zM 171).1.cls (zM 171).1 (zM 171).1 ∈ lw_tbl := List.mem_append_left _ (List.mem_of_getElem? (i := 74) (by decide +kernel))
theorem zsel_172 : Cond.selects (zM 172).1.cls (zM 172).1 (zM 172).1 ∈ lw_tbl := List.mem_append_right _ (List.mem_of_getElem? (i := 1252) (by decide +kernel))
theorem zsel_173 : Cond.selects (zM 173).1.cls (zM 173).1 (zM 173).1 ∈ lw_tbl := List.mem_append_left _ (List.mem_of_getElem? (i := 75) (by decide +kernel))
theorem zsel_174 : Cond.selects (zM 174).1.cls (zM 174).1 (zM 174).1 ∈ lw_tbl := List.mem_append_left _ (List.mem_of_getElem? (i := 76) (by decide +kernel))
theorem zsel_175 : Cond.selects (zM 175).1.cls (zM 175).1 (zM 175).1 ∈ lw_tbl := List.mem_append_right _ (List.mem_of_getElem? (i := 1264) (by decide +kernel))
theorem zsel_176 : Cond.selects (zM 176).1.cls (zM 176).1 (zM 176).1 ∈ lw_tbl := List.mem_append_left _ (List.mem_of_getElem? (i := 77) (by decide +kernel))
theorem zsel_177 : Cond.selects (zM 177).1.cls (zM 177).1 (zM 177).1 ∈ lw_tbl := List.mem_append_right _ (List.mem_of_getElem? (i := 1272) (by decide +kernel))
theorem zsel_178 : Cond.selects (zM 178).1.cls (zM 178).1 (zM 178).1 ∈ lw_tbl := List.mem_append_left _ (List.mem_of_getElem? (i := 78) (by decide +kernel))
theorem zsel_179 : Cond.selects (zM 179).1.cls (zM 179).1 (zM 179).1 ∈ lw_tbl := List.mem_append_left _ (List.mem_of_getElem? (i := 79) (by decide +kernel))
theorem zsel_180 : Cond.selects (zM 180).1.cls (zM 180).1 (zM 180).1 ∈ lw_tbl := List.mem_append_left _ (List.mem_of_getElem? (i := 80) (by decide +kernel))
theorem zsel_181 : Cond.selects (zM 181).1.cls (zM 181).1 (zM 181).1 ∈ lw_tbl := List.mem_append_right _ (List.mem_of_getElem? (i := 1290) (by decide +kernel))
theorem zsel_182 : Cond.selects (zM 182).1.cls (zM 182).1 (zM 182).1 ∈ lw_tbl := List.mem_append_left _ (List.mem_of_getElem? (i := 81) (by decide +kernel))
theorem zsel_183 : Cond.selects (zM 183).1.cls (zM 183).1 (zM 183).1 ∈ lw_tbl := List.mem_append_right _ (List.mem_of_getElem? (i := 1299) (by decide +kernel))
theorem zsel_184 : Cond.selects (zM 184).1.cls (zM 184).1 (zM 184).1 ∈ lw_tbl := List.mem_append_left _ (List.mem_of_getElem? (i := 82) (by decide +kernel))
theorem zsel_185 : Cond.selects (zM 185).1.cls (zM 185).1 (zM 185).1 ∈ lw_tbl := List.mem_append_right _ (List.mem_of_getElem? (i := 1307) (by decide +kernel))
theorem zsel_186 : Cond.selects (zM 186).1.cls (zM 186).1 (zM 186).1 ∈ lw_tbl := List.mem_append_right _ (List.mem_of_getElem? (i := 1311) (by decide +kernel))
theorem zsel_187 : Cond.selects (zM 187).1.cls (zM 187).1 (zM 187).1 ∈ lw_tbl := List.mem_append_left _ (List.mem_of_getElem? (i := 83) (by decide +kernel))
theorem zsel_188 : Cond.selects (zM 188).1.cls (zM 188).1 (zM 188).1 ∈ lw_tbl := List.mem_append_left _ (List.mem_of_getElem? (i := 84) (by decide +kernel))
theorem zsel_189 : Cond.selects (zM 189).1.cls (zM 189).1 (zM 189).1 ∈ lw_tbl := List.mem_append_left _ (List.mem_of_getElem? (i := 85) (by decide +kernel))
theorem zsel_190 : Cond.selects (zM 190).1.cls (zM 190).1 (zM 190).1 ∈ lw_tbl := List.mem_append_left _ (List.mem_of_getElem? (i := 86) (by decide +kernel))
theorem zsel_191 : Cond.selects (zM 191).1.cls (zM 191).1 (zM 191).1 ∈ lw_tbl := List.mem_append_left _ (List.mem_of_getElem? (i := 87) (by decide +kernel))
theorem zsel_192 : Cond.selects (zM 192).1.cls (zM 192).1 (zM 192).1 ∈ lw_tbl := List.mem_append_left _ (List.mem_of_getElem? (i := 88) (by decide +kernel))
theorem zsel_193 : Cond.selects (zM 193).1.cls (zM 193).1 (zM 193).1 ∈ lw_tbl := List.mem_append_left _ (List.mem_of_getElem? (i := 89) (by decide +kernel))
theorem zsel_195 : Cond.selects (zM 195).1.cls (zM 195).1 (zM 195).1 ∈ lw_tbl := List.mem_append_left _ (List.mem_of_getElem? (i := 90) (by decide +kernel))
theorem zsel_196 : Cond.selects (zM 196).1.cls (zM 196).1 (zM 196).1 ∈ lw_tbl := List.mem_append_left _ (List.mem_of_getElem? (i := 91) (by decide +kernel))
theorem zsel_197 : Cond.selects (zM 197).1.cls (zM 197).1 (zM 197).1 ∈ lw_tbl := List.mem_append_left _ (List.mem_of_getElem? (i := 92) (by decide +kernel))
theorem zsel_198 : Cond.selects (zM 198).1.cls (zM 198).1 (zM 198).1 ∈ lw_tbl := List.mem_append_left _ (List.mem_of_getElem? (i := 93) (by decide +kernel))
theorem zsel_199 : Cond.selects (zM 199).1.cls (zM 199).1 (zM 199).1 ∈ lw_tbl := List.mem_append_left _ (List.mem_of_getElem? (i := 94) (by decide +kernel))
theorem zsel_200 : Cond.selects (zM 200).1.cls (zM 200).1 (zM 200).1 ∈ lw_tbl := List.mem_append_left _ (List.mem_of_getElem? (i := 95) (by decide +kernel))
theorem zsel_201 : Cond.selects (zM 201).1.cls (zM 201).1 (zM 201).1 ∈ lw_tbl := List.mem_append_left _ (List.mem_of_getElem? (i := 96) (by decide +kernel))
theorem zsel_203 : Cond.selects (zM 203).1.cls (zM 203).1 (zM 203).1 ∈ lw_tbl := List.mem_append_left _ (List.mem_of_getElem? (i := 97) (by decide +kernel))
theorem zsel_204 : Cond.selects (zM 204).1.cls (zM 204).1 (zM 204).1 ∈ lw_tbl := List.mem_append_left _ (List.mem_of_getElem? (i := 98) (by decide +kernel))
theorem zsel_205 : Cond.selects (zM 205).1.cls (zM 205).1 (zM 205).1 ∈ lw_tbl := List.mem_append_left _ (List.mem_of_getElem? (i := 99) (by decide +kernel))
theorem zsel_206 : Cond.selects (zM 206).1.cls (zM 206).1 (zM 206).1 ∈ lw_tbl := List.mem_append_left _ (List.mem_of_getElem? (i := 100) (by decide +kernel))
theorem zsel_207 : Cond.selects (zM 207).1.cls (zM 207).1 (zM 207).1 ∈ lw_tbl := List.mem_append_right _ (List.mem_of_getElem? (i := 1393) (by decide +kernel))
theorem zsel_208 : Cond.selects (zM 208).1.cls (zM 208).1 (zM 208).1 ∈ lw_tbl := List.mem_append_left _ (List.mem_of_getElem? (i := 101) (by decide +kernel))
theorem zsel_209 : Cond.selects (zM 209).1.cls (zM 209).1 (zM 209).1 ∈ lw_tbl := List.mem_append_right _ (List.mem_of_getElem? (i := 1402) (by decide +kernel))
theorem zsel_210 : Cond.selects (zM 210).1.cls (zM 210).1 (zM 210).1 ∈ lw_tbl := List.mem_append_left _ (List.mem_of_getElem? (i := 102) (by decide +kernel))
theorem zsel_211 : Cond.selects (zM 211).1.cls (zM 211).1 (zM 211).1 ∈ lw_tbl := List.mem_append_right _ (List.mem_of_getElem? (i := 1410) (by decide +kernel))
theorem zsel_212 : Cond.selects (zM 212).1.cls (zM 212).1 (zM 212).1 ∈ lw_tbl := List.mem_append_left _ (List.mem_of_getElem? (i := 103) (by decide +kernel))
theorem zsel_213 : Cond.selects (zM 213).1.cls (zM 213).1 (zM 213).1 ∈ lw_tbl := List.mem_append_right _ (List.mem_of_getElem? (i := 1418) (by decide +kernel))
theorem zsel_214 : Cond.selects (zM 214).1.cls (zM 214).1 (zM 214).1 ∈ lw_tbl := List.mem_append_right _ (List.mem_of_getElem? (i := 1422) (by decide +kernel))
theorem zsel_215 : Cond.selects (zM 215).1.cls (zM 215).1 (zM 215).1 ∈ lw_tbl := List.mem_append_left _ (List.mem_of_getElem? (i := 104) (by decide +kernel))
theorem zsel_216 : Cond.selects (zM 216).1.cls (zM 216).1 (zM 216).1 ∈ lw_tbl := List.mem_append_left _ (List.mem_of_getElem? (i := 105) (by decide +kernel))
theorem zsel_217 : Cond.selects (zM 217).1.cls (zM 217).1 (zM 217).1 ∈ lw_tbl := List.mem_append_left _ (List.mem_of_getElem? (i := 106) (by decide +kernel))
theorem zsel_218 : Cond.selects (zM 218).1.cls (zM 218).1 (zM 218).1 ∈ lw_tbl := List.mem_append_right _ (List.mem_of_getElem? (i := 1440) (by decide +kernel))
theorem zsel_219 : Cond.selects (zM 219).1.cls (zM 219).1 (zM 219).1 ∈ lw_tbl := List.mem_append_right _ (List.mem_of_getElem? (i := 1444) (by decide +kernel))
theorem zsel_220 : Cond.selects (zM 220).1.cls (zM 220).1 (zM 220).1 ∈ lw_tbl := List.mem_append_right _ (List.mem_of_getElem? (i := 1448) (by decide +kernel))
theorem zsel_221 : Cond.selects (zM 221).1.cls (zM 221).1 (zM 221).1 ∈ lw_tbl := List.mem_append_left _ (List.mem_of_getElem? (i := 107) (by decide +kernel))
theorem zsel_222 : Cond.selects (zM 222).1.cls (zM 222).1 (zM 222).1 ∈ lw_tbl := List.mem_append_right _ (List.mem_of_getElem? (i := 1456) (by decide +kernel))
theorem zsel_223 : Cond.selects (zM 223).1.cls (zM 223).1 (zM 223).1 ∈ lw_tbl := List.mem_append_left _ (List.mem_of_getElem? (i := 108) (by decide +kernel))
theorem zsel_224 : Cond.selects (zM 224).1.cls (zM 224).1 (zM 224).1 ∈ lw_tbl := List.mem_append_left _ (List.mem_of_getElem? (i := 109) (by decide +kernel))
theorem zsel_225 : Cond.selects (zM 225).1.cls (zM 225).1 (zM 225).1 ∈ lw_tbl := List.mem_append_right _ (List.mem_of_getElem? (i := 1469) (by decide +kernel))
theorem zsel_226 : Cond.selects (zM 226).1.cls (zM 226).1 (zM 226).1 ∈ lw_tbl := List.mem_append_right _ (List.mem_of_getElem? (i := 1473) (by decide +kernel))
theorem zsel_227 : Cond.selects (zM 227).1.cls (zM 227).1 (zM 227).1 ∈ lw_tbl := List.mem_append_right _ (List.mem_of_getElem? (i := 1477) (by decide +kernel))
theorem zsel_228 : Cond.selects (zM 228).1.cls (zM 228).1 (zM 228).1 ∈ lw_tbl := List.mem_append_left _ (List.mem_of_getElem? (i := 110) (by decide +kernel))
theorem zsel_229 : Cond.selects (zM 229).1.cls (zM 229).1 (zM 229).1 ∈ lw_tbl := List.mem_append_right _ (List.mem_of_getElem? (i := 1485) (by decide +kernel))
theorem zsel_230 : Cond.selects (zM 230).1.cls (zM 230).1 (zM 230).1 ∈ lw_tbl := List.mem_append_right _ (List.mem_of_getElem? (i := 1489) (by decide +kernel))
theorem zsel_231 : Cond.selects (zM 231).1.cls (zM 231).1 (zM 231).1 ∈ lw_tbl := List.mem_append_left _ (List.mem_of_getElem? (i := 111) (by decide +kernel))
theorem zsel_232 : Cond.selects (zM 232).1.cls (zM 232).1 (zM 232).1 ∈ lw_tbl := List.mem_append_left _ (List.mem_of_getElem? (i := 112) (by decide +kernel))
theorem zsel_233 : Cond.selects (zM 233).1.cls (zM 233).1 (zM 233).1 ∈ lw_tbl := List.mem_append_left _ (List.mem_of_getElem? (i := 113) (by decide +kernel))
theorem zsel_234 : Cond.selects (zM 234).1.cls (zM 234).1 (zM 234).1 ∈ lw_tbl := List.mem_append_right _ (List.mem_of_getElem? (i := 1505) (by decide +kernel))
theorem zsel_235 : Cond.selects (zM 235).1.cls (zM 235).1 (zM 235).1 ∈ lw_tbl := List.mem_append_left _ (List.mem_of_getElem? (i := 114) (by decide +kernel))
theorem zsel_236 : Cond.selects (zM 236).1.cls (zM 236).1 (zM 236).1 ∈ lw_tbl := List.mem_append_right _ (List.mem_of_getElem? (i := 1513) (by decide +kernel))
theorem zsel_237 : Cond.selects (zM 237).1.cls (zM 237).1 (zM 237).1 ∈ lw_tbl := List.mem_append_left _ (List.mem_of_getElem? (i := 115) (by decide +kernel))
theorem zsel_238 : Cond.selects (zM 238).1.cls (zM 238).1 (zM 238).1 ∈ lw_tbl := List.mem_append_right _ (List.mem_of_getElem? (i := 1522) (by decide +kernel))
theorem zsel_239 : Cond.selects (zM 239).1.cls (zM 239).1 (zM 239).1 ∈ lw_tbl := List.mem_append_right _ (List.mem_of_getElem? (i := 1527) (by decide +kernel))
theorem zsel_240 : Cond.selects (zM 240).1.cls (zM 240).1 (zM 240).1 ∈ lw_tbl := List.mem_append_left _ (List.mem_of_getElem? (i := 116) (by decide +kernel))
theorem zsel_241 : Cond.selects (zM 241).1.cls (zM 241).1 (zM 241).1 ∈ lw_tbl := List.mem_append_left _ (List.mem_of_getElem? (i := 117) (by decide +kernel))
theorem zsel_242 : Cond.selects (zM 242).1.cls (zM 242).1 (zM 242).1 ∈ lw_tbl := List.mem_append_left _ (List.mem_of_getElem? (i := 118) (by decide +kernel))
theorem zsel_243 : Cond.selects (zM 243).1.cls (zM 243).1 (zM 243).1 ∈ lw_tbl := List.mem_append_right _ (List.mem_of_getElem? (i := 1543) (by decide +kernel))
theorem zsel_244 : Cond.selects (zM 244).1.cls (zM 244).1 (zM 244).1 ∈ lw_tbl := List.mem_append_left _ (List.mem_of_getElem? (i := 119) (by decide +kernel))
theorem zsel_245 : Cond.selects (zM 245).1.cls (zM 245).1 (zM 245).1 ∈ lw_tbl := List.mem_append_right _ (List.mem_of_getElem? (i := 1551) (by decide +kernel))
theorem zsel_246 : Cond.selects (zM 246).1.cls (zM 246).1 (zM 246).1 ∈ lw_tbl := List.mem_append_left _ (List.mem_of_getElem? (i := 120) (by decide +kernel))
theorem zsel_247 : Cond.selects (zM 247).1.cls (zM 247).1 (zM 247).1 ∈ lw_tbl := List.mem_append_right _ (List.mem_of_getElem? (i := 1559) (by decide +kernel))
theorem zsel_248 : Cond.selects (zM 248).1.cls (zM 248).1 (zM 248).1 ∈ lw_tbl := List.mem_append_right _ (List.mem_of_getElem? (i := 1563) (by decide +kernel))
theorem zsel_249 : Cond.selects (zM 249).1.cls (zM 249).1 (zM 249).1 ∈ lw_tbl := List.mem_append_left _ (List.mem_of_getElem? (i := 121) (by decide +kernel))
theorem zsel_250 : Cond.selects (zM 250).1.cls (zM 250).1 (zM 250).1 ∈ lw_tbl := List.mem_append_left _ (List.mem_of_getElem? (i := 122) (by decide +kernel))
theorem zsel_251 : Cond.selects (zM 251).1.cls (zM 251).1 (zM 251).1 ∈ lw_tbl := List.mem_append_right _ (List.mem_of_getElem? (i := 1580) (by decide +kernel))
theorem zsel_252 : Cond.selects (zM 252).1.cls (zM 252).1 (zM 252).1 ∈ lw_tbl := List.mem_append_left _ (List.mem_of_getElem? (i := 123) (by decide +kernel))
theorem zsel_253 : Cond.selects (zM 253).1.cls (zM 253).1 (zM 253).1 ∈ lw_tbl := List.mem_append_right _ (List.mem_of_getElem? (i := 1588) (by decide +kernel))
theorem zsel_254 : Cond.selects (zM 254).1.cls (zM 254).1 (zM 254).1 ∈ lw_tbl := List.mem_append_right _ (List.mem_of_getElem? (i := 1592) (by decide +kernel))
set_option maxRecDepth 100000 in
theorem zsel_all : ∀ y, znth zVl y = some true → Cond.selects (zM y).1.cls (zM y).1 (zM y).1 ∈ lw_tbl := by
  intro y hy
  have hl : y < 255 := by
    have g : ∀ (l : List Bool) (y : Nat), znth l y = some true → y < l.length := by
      intro l
      induction l with
      | nil => intro y h; cases y <;> cases h
      | cons a t ih =>
        intro y h
        cases y with
        | zero => simp
        | succ y => have := ih y h; simp; omega
    exact g zVl y hy
  by_cases h127 : y < 127
  · skip
    by_cases h63 : y < 63
    · skip
      by_cases h31 : y < 31
      · skip
        by_cases h15 : y < 15
        · skip
          by_cases h7 : y < 7
          · skip
            by_cases h3 : y < 3
            · skip
              by_cases h1 : y < 1
              · skip
                have e : y = 0 := by omega
                subst e; cases hy
              · skip
                by_cases h2 : y < 2
                · skip
                  have e : y = 1 := by omega
                  subst e; cases hy
                · skip
                  have e : y = 2 := by omega
                  subst e; cases hy
            · skip
              by_cases h5 : y < 5
              · skip
                by_cases h4 : y < 4
                · skip
                  have e : y = 3 := by omega
                  subst e; cases hy
                · skip
                  have e : y = 4 := by omega
                  subst e; cases hy
              · skip
                by_cases h6 : y < 6
                · skip
                  have e : y = 5 := by omega
                  subst e; cases hy
                · skip
                  have e : y = 6 := by omega
                  subst e; cases hy
          · skip
            by_cases h11 : y < 11
            · skip
              by_cases h9 : y < 9
              · skip
                by_cases h8 : y < 8
                · skip
                  have e : y = 7 := by omega
                  subst e; cases hy
                · skip
                  have e : y = 8 := by omega
                  subst e; cases hy
              · skip
                by_cases h10 : y < 10
                · skip
                  have e : y = 9 := by omega
                  subst e; exact zsel_9
                · skip
                  have e : y = 10 := by omega
                  subst e; exact zsel_10
            · skip
              by_cases h13 : y < 13
              · skip
                by_cases h12 : y < 12
                · skip
                  have e : y = 11 := by omega
                  subst e; exact zsel_11
                · skip
                  have e : y = 12 := by omega
                  subst e; exact zsel_12
              · skip
                by_cases h14 : y < 14
                · skip
                  have e : y = 13 := by omega
                  subst e; exact zsel_13
                · skip
                  have e : y = 14 := by omega
                  subst e; cases hy
        · skip
          by_cases h23 : y < 23
          · skip
            by_cases h19 : y < 19
            · skip
              by_cases h17 : y < 17
              · skip
                by_cases h16 : y < 16
                · skip
                  have e : y = 15 := by omega
                  subst e; exact zsel_15
                · skip
                  have e : y = 16 := by omega
                  subst e; cases hy
              · skip
                by_cases h18 : y < 18
                · skip
                  have e : y = 17 := by omega
                  subst e; cases hy
                · skip
                  have e : y = 18 := by omega
                  subst e; exact zsel_18
            · skip
              by_cases h21 : y < 21
              · skip
                by_cases h20 : y < 20
                · skip
                  have e : y = 19 := by omega
                  subst e; cases hy
                · skip
                  have e : y = 20 := by omega
                  subst e; exact zsel_20
              · skip
                by_cases h22 : y < 22
                · skip
                  have e : y = 21 := by omega
                  subst e; exact zsel_21
                · skip
                  have e : y = 22 := by omega
                  subst e; exact zsel_22
          · skip
            by_cases h27 : y < 27
            · skip
              by_cases h25 : y < 25
              · skip
                by_cases h24 : y < 24
                · skip
                  have e : y = 23 := by omega
                  subst e; exact zsel_23
                · skip
                  have e : y = 24 := by omega
                  subst e; exact zsel_24
              · skip
                by_cases h26 : y < 26
                · skip
                  have e : y = 25 := by omega
                  subst e; exact zsel_25
                · skip
                  have e : y = 26 := by omega
                  subst e; exact zsel_26
            · skip
              by_cases h29 : y < 29
              · skip
                by_cases h28 : y < 28
                · skip
                  have e : y = 27 := by omega
                  subst e; exact zsel_27
                · skip
                  have e : y = 28 := by omega
                  subst e; exact zsel_28
              · skip
                by_cases h30 : y < 30
                · skip
                  have e : y = 29 := by omega
                  subst e; exact zsel_29
                · skip
                  have e : y = 30 := by omega
                  subst e; exact zsel_30
      · skip
        by_cases h47 : y < 47
        · skip
          by_cases h39 : y < 39
          · skip
            by_cases h35 : y < 35
            · skip
              by_cases h33 : y < 33
              · skip
                by_cases h32 : y < 32
                · skip
                  have e : y = 31 := by omega
                  subst e; exact zsel_31
                · skip
                  have e : y = 32 := by omega
                  subst e; exact zsel_32
              · skip
                by_cases h34 : y < 34
                · skip
                  have e : y = 33 := by omega
                  subst e; exact zsel_33
                · skip
                  have e : y = 34 := by omega
                  subst e; exact zsel_34
            · skip
              by_cases h37 : y < 37
              · skip
                by_cases h36 : y < 36
                · skip
                  have e : y = 35 := by omega
                  subst e; exact zsel_35
                · skip
                  have e : y = 36 := by omega
                  subst e; exact zsel_36
              · skip
                by_cases h38 : y < 38
                · skip
                  have e : y = 37 := by omega
                  subst e; exact zsel_37
                · skip
                  have e : y = 38 := by omega
                  subst e; exact zsel_38
          · skip
            by_cases h43 : y < 43
            · skip
              by_cases h41 : y < 41
              · skip
                by_cases h40 : y < 40
                · skip
                  have e : y = 39 := by omega
                  subst e; exact zsel_39
                · skip
                  have e : y = 40 := by omega
                  subst e; exact zsel_40
              · skip
                by_cases h42 : y < 42
                · skip
                  have e : y = 41 := by omega
                  subst e; exact zsel_41
                · skip
                  have e : y = 42 := by omega
                  subst e; exact zsel_42
            · skip
              by_cases h45 : y < 45
              · skip
                by_cases h44 : y < 44
                · skip
                  have e : y = 43 := by omega
                  subst e; exact zsel_43
                · skip
                  have e : y = 44 := by omega
                  subst e; cases hy
              · skip
                by_cases h46 : y < 46
                · skip
                  have e : y = 45 := by omega
                  subst e; cases hy
                · skip
                  have e : y = 46 := by omega
                  subst e; exact zsel_46
        · skip
          by_cases h55 : y < 55
          · skip
            by_cases h51 : y < 51
            · skip
              by_cases h49 : y < 49
              · skip
                by_cases h48 : y < 48
                · skip
                  have e : y = 47 := by omega
                  subst e; exact zsel_47
                · skip
                  have e : y = 48 := by omega
                  subst e; cases hy
              · skip
                by_cases h50 : y < 50
                · skip
                  have e : y = 49 := by omega
                  subst e; exact zsel_49
                · skip
                  have e : y = 50 := by omega
                  subst e; exact zsel_50
            · skip
              by_cases h53 : y < 53
              · skip
                by_cases h52 : y < 52
                · skip
                  have e : y = 51 := by omega
                  subst e; exact zsel_51
                · skip
                  have e : y = 52 := by omega
                  subst e; exact zsel_52
              · skip
                by_cases h54 : y < 54
                · skip
                  have e : y = 53 := by omega
                  subst e; exact zsel_53
                · skip
                  have e : y = 54 := by omega
                  subst e; exact zsel_54
          · skip
            by_cases h59 : y < 59
            · skip
              by_cases h57 : y < 57
              · skip
                by_cases h56 : y < 56
                · skip
                  have e : y = 55 := by omega
                  subst e; exact zsel_55
                · skip
                  have e : y = 56 := by omega
                  subst e; cases hy
              · skip
                by_cases h58 : y < 58
                · skip
                  have e : y = 57 := by omega
                  subst e; exact zsel_57
                · skip
                  have e : y = 58 := by omega
                  subst e; exact zsel_58
            · skip
              by_cases h61 : y < 61
              · skip
                by_cases h60 : y < 60
                · skip
                  have e : y = 59 := by omega
                  subst e; exact zsel_59
                · skip
                  have e : y = 60 := by omega
                  subst e; exact zsel_60
              · skip
                by_cases h62 : y < 62
                · skip
                  have e : y = 61 := by omega
                  subst e; exact zsel_61
                · skip
                  have e : y = 62 := by omega
                  subst e; exact zsel_62
    · skip
      by_cases h95 : y < 95
      · skip
        by_cases h79 : y < 79
        · skip
          by_cases h71 : y < 71
          · skip
            by_cases h67 : y < 67
            · skip
              by_cases h65 : y < 65
              · skip
                by_cases h64 : y < 64
                · skip
                  have e : y = 63 := by omega
                  subst e; exact zsel_63
                · skip
                  have e : y = 64 := by omega
                  subst e; exact zsel_64
              · skip
                by_cases h66 : y < 66
                · skip
                  have e : y = 65 := by omega
                  subst e; exact zsel_65
                · skip
                  have e : y = 66 := by omega
                  subst e; exact zsel_66
            · skip
              by_cases h69 : y < 69
              · skip
                by_cases h68 : y < 68
                · skip
                  have e : y = 67 := by omega
                  subst e; cases hy
                · skip
                  have e : y = 68 := by omega
                  subst e; cases hy
              · skip
                by_cases h70 : y < 70
                · skip
                  have e : y = 69 := by omega
                  subst e; cases hy
                · skip
                  have e : y = 70 := by omega
                  subst e; exact zsel_70
          · skip
            by_cases h75 : y < 75
            · skip
              by_cases h73 : y < 73
              · skip
                by_cases h72 : y < 72
                · skip
                  have e : y = 71 := by omega
                  subst e; exact zsel_71
                · skip
                  have e : y = 72 := by omega
                  subst e; exact zsel_72
              · skip
                by_cases h74 : y < 74
                · skip
                  have e : y = 73 := by omega
                  subst e; exact zsel_73
                · skip
                  have e : y = 74 := by omega
                  subst e; exact zsel_74
            · skip
              by_cases h77 : y < 77
              · skip
                by_cases h76 : y < 76
                · skip
                  have e : y = 75 := by omega
                  subst e; exact zsel_75
                · skip
                  have e : y = 76 := by omega
                  subst e; exact zsel_76
              · skip
                by_cases h78 : y < 78
                · skip
                  have e : y = 77 := by omega
                  subst e; exact zsel_77
                · skip
                  have e : y = 78 := by omega
                  subst e; cases hy
        · skip
          by_cases h87 : y < 87
          · skip
            by_cases h83 : y < 83
            · skip
              by_cases h81 : y < 81
              · skip
                by_cases h80 : y < 80
                · skip
                  have e : y = 79 := by omega
                  subst e; exact zsel_79
                · skip
                  have e : y = 80 := by omega
                  subst e; exact zsel_80
              · skip
                by_cases h82 : y < 82
                · skip
                  have e : y = 81 := by omega
                  subst e; exact zsel_81
                · skip
                  have e : y = 82 := by omega
                  subst e; exact zsel_82
            · skip
              by_cases h85 : y < 85
              · skip
                by_cases h84 : y < 84
                · skip
                  have e : y = 83 := by omega
                  subst e; exact zsel_83
                · skip
                  have e : y = 84 := by omega
                  subst e; exact zsel_84
              · skip
                by_cases h86 : y < 86
                · skip
                  have e : y = 85 := by omega
                  subst e; cases hy
                · skip
                  have e : y = 86 := by omega
                  subst e; exact zsel_86
          · skip
            by_cases h91 : y < 91
            · skip
              by_cases h89 : y < 89
              · skip
                by_cases h88 : y < 88
                · skip
                  have e : y = 87 := by omega
                  subst e; exact zsel_87
                · skip
                  have e : y = 88 := by omega
                  subst e; exact zsel_88
              · skip
                by_cases h90 : y < 90
                · skip
                  have e : y = 89 := by omega
                  subst e; exact zsel_89
                · skip
                  have e : y = 90 := by omega
                  subst e; exact zsel_90
            · skip
              by_cases h93 : y < 93
              · skip
                by_cases h92 : y < 92
                · skip
                  have e : y = 91 := by omega
                  subst e; exact zsel_91
                · skip
                  have e : y = 92 := by omega
                  subst e; exact zsel_92
              · skip
                by_cases h94 : y < 94
                · skip
                  have e : y = 93 := by omega
                  subst e; exact zsel_93
                · skip
                  have e : y = 94 := by omega
                  subst e; exact zsel_94
      · skip
        by_cases h111 : y < 111
        · skip
          by_cases h103 : y < 103
          · skip
            by_cases h99 : y < 99
            · skip
              by_cases h97 : y < 97
              · skip
                by_cases h96 : y < 96
                · skip
                  have e : y = 95 := by omega
                  subst e; exact zsel_95
                · skip
                  have e : y = 96 := by omega
                  subst e; exact zsel_96
              · skip
                by_cases h98 : y < 98
                · skip
                  have e : y = 97 := by omega
                  subst e; exact zsel_97
                · skip
                  have e : y = 98 := by omega
                  subst e; exact zsel_98
            · skip
              by_cases h101 : y < 101
              · skip
                by_cases h100 : y < 100
                · skip
                  have e : y = 99 := by omega
                  subst e; exact zsel_99
                · skip
                  have e : y = 100 := by omega
                  subst e; exact zsel_100
              · skip
                by_cases h102 : y < 102
                · skip
                  have e : y = 101 := by omega
                  subst e; exact zsel_101
                · skip
                  have e : y = 102 := by omega
                  subst e; exact zsel_102
          · skip
            by_cases h107 : y < 107
            · skip
              by_cases h105 : y < 105
              · skip
                by_cases h104 : y < 104
                · skip
                  have e : y = 103 := by omega
                  subst e; exact zsel_103
                · skip
                  have e : y = 104 := by omega
                  subst e; exact zsel_104
              · skip
                by_cases h106 : y < 106
                · skip
                  have e : y = 105 := by omega
                  subst e; exact zsel_105
                · skip
                  have e : y = 106 := by omega
                  subst e; cases hy
            · skip
              by_cases h109 : y < 109
              · skip
                by_cases h108 : y < 108
                · skip
                  have e : y = 107 := by omega
                  subst e; cases hy
                · skip
                  have e : y = 108 := by omega
                  subst e; exact zsel_108
              · skip
                by_cases h110 : y < 110
                · skip
                  have e : y = 109 := by omega
                  subst e; exact zsel_109
                · skip
                  have e : y = 110 := by omega
                  subst e; exact zsel_110
        · skip
          by_cases h119 : y < 119
          · skip
            by_cases h115 : y < 115
            · skip
              by_cases h113 : y < 113
              · skip
                by_cases h112 : y < 112
                · skip
                  have e : y = 111 := by omega
                  subst e; exact zsel_111
                · skip
                  have e : y = 112 := by omega
                  subst e; exact zsel_112
              · skip
                by_cases h114 : y < 114
                · skip
                  have e : y = 113 := by omega
                  subst e; exact zsel_113
                · skip
                  have e : y = 114 := by omega
                  subst e; exact zsel_114
            · skip
              by_cases h117 : y < 117
              · skip
                by_cases h116 : y < 116
                · skip
                  have e : y = 115 := by omega
                  subst e; exact zsel_115
                · skip
                  have e : y = 116 := by omega
                  subst e; exact zsel_116
              · skip
                by_cases h118 : y < 118
                · skip
                  have e : y = 117 := by omega
                  subst e; exact zsel_117
                · skip
                  have e : y = 118 := by omega
                  subst e; exact zsel_118
          · skip
            by_cases h123 : y < 123
            · skip
              by_cases h121 : y < 121
              · skip
                by_cases h120 : y < 120
                · skip
                  have e : y = 119 := by omega
                  subst e; exact zsel_119
                · skip
                  have e : y = 120 := by omega
                  subst e; exact zsel_120
              · skip
                by_cases h122 : y < 122
                · skip
                  have e : y = 121 := by omega
                  subst e; exact zsel_121
                · skip
                  have e : y = 122 := by omega
                  subst e; cases hy
            · skip
              by_cases h125 : y < 125
              · skip
                by_cases h124 : y < 124
                · skip
                  have e : y = 123 := by omega
                  subst e; exact zsel_123
                · skip
                  have e : y = 124 := by omega
                  subst e; exact zsel_124
              · skip
                by_cases h126 : y < 126
                · skip
                  have e : y = 125 := by omega
                  subst e; exact zsel_125
                · skip
                  have e : y = 126 := by omega
                  subst e; exact zsel_126
  · skip
    by_cases h191 : y < 191
    · skip
      by_cases h159 : y < 159
      · skip
        by_cases h143 : y < 143
        · skip
          by_cases h135 : y < 135
          · skip
            by_cases h131 : y < 131
            · skip
              by_cases h129 : y < 129
              · skip
                by_cases h128 : y < 128
                · skip
                  have e : y = 127 := by omega
                  subst e; exact zsel_127
                · skip
                  have e : y = 128 := by omega
                  subst e; exact zsel_128
              · skip
                by_cases h130 : y < 130
                · skip
                  have e : y = 129 := by omega
                  subst e; exact zsel_129
                · skip
                  have e : y = 130 := by omega
                  subst e; exact zsel_130
            · skip
              by_cases h133 : y < 133
              · skip
                by_cases h132 : y < 132
                · skip
                  have e : y = 131 := by omega
                  subst e; exact zsel_131
                · skip
                  have e : y = 132 := by omega
                  subst e; cases hy
              · skip
                by_cases h134 : y < 134
                · skip
                  have e : y = 133 := by omega
                  subst e; exact zsel_133
                · skip
                  have e : y = 134 := by omega
                  subst e; exact zsel_134
          · skip
            by_cases h139 : y < 139
            · skip
              by_cases h137 : y < 137
              · skip
                by_cases h136 : y < 136
                · skip
                  have e : y = 135 := by omega
                  subst e; exact zsel_135
                · skip
                  have e : y = 136 := by omega
                  subst e; exact zsel_136
              · skip
                by_cases h138 : y < 138
                · skip
                  have e : y = 137 := by omega
                  subst e; exact zsel_137
                · skip
                  have e : y = 138 := by omega
                  subst e; exact zsel_138
            · skip
              by_cases h141 : y < 141
              · skip
                by_cases h140 : y < 140
                · skip
                  have e : y = 139 := by omega
                  subst e; exact zsel_139
                · skip
                  have e : y = 140 := by omega
                  subst e; exact zsel_140
              · skip
                by_cases h142 : y < 142
                · skip
                  have e : y = 141 := by omega
                  subst e; exact zsel_141
                · skip
                  have e : y = 142 := by omega
                  subst e; exact zsel_142
        · skip
          by_cases h151 : y < 151
          · skip
            by_cases h147 : y < 147
            · skip
              by_cases h145 : y < 145
              · skip
                by_cases h144 : y < 144
                · skip
                  have e : y = 143 := by omega
                  subst e; exact zsel_143
                · skip
                  have e : y = 144 := by omega
                  subst e; exact zsel_144
              · skip
                by_cases h146 : y < 146
                · skip
                  have e : y = 145 := by omega
                  subst e; exact zsel_145
                · skip
                  have e : y = 146 := by omega
                  subst e; exact zsel_146
            · skip
              by_cases h149 : y < 149
              · skip
                by_cases h148 : y < 148
                · skip
                  have e : y = 147 := by omega
                  subst e; exact zsel_147
                · skip
                  have e : y = 148 := by omega
                  subst e; exact zsel_148
              · skip
                by_cases h150 : y < 150
                · skip
                  have e : y = 149 := by omega
                  subst e; exact zsel_149
                · skip
                  have e : y = 150 := by omega
                  subst e; cases hy
          · skip
            by_cases h155 : y < 155
            · skip
              by_cases h153 : y < 153
              · skip
                by_cases h152 : y < 152
                · skip
                  have e : y = 151 := by omega
                  subst e; exact zsel_151
                · skip
                  have e : y = 152 := by omega
                  subst e; exact zsel_152
              · skip
                by_cases h154 : y < 154
                · skip
                  have e : y = 153 := by omega
                  subst e; exact zsel_153
                · skip
                  have e : y = 154 := by omega
                  subst e; exact zsel_154
            · skip
              by_cases h157 : y < 157
              · skip
                by_cases h156 : y < 156
                · skip
                  have e : y = 155 := by omega
                  subst e; exact zsel_155
                · skip
                  have e : y = 156 := by omega
                  subst e; exact zsel_156
              · skip
                by_cases h158 : y < 158
                · skip
                  have e : y = 157 := by omega
                  subst e; exact zsel_157
                · skip
                  have e : y = 158 := by omega
                  subst e; exact zsel_158
      · skip
        by_cases h175 : y < 175
        · skip
          by_cases h167 : y < 167
          · skip
            by_cases h163 : y < 163
            · skip
              by_cases h161 : y < 161
              · skip
                by_cases h160 : y < 160
                · skip
                  have e : y = 159 := by omega
                  subst e; exact zsel_159
                · skip
                  have e : y = 160 := by omega
                  subst e; exact zsel_160
              · skip
                by_cases h162 : y < 162
                · skip
                  have e : y = 161 := by omega
                  subst e; exact zsel_161
                · skip
                  have e : y = 162 := by omega
                  subst e; exact zsel_162
            · skip
              by_cases h165 : y < 165
              · skip
                by_cases h164 : y < 164
                · skip
                  have e : y = 163 := by omega
                  subst e; exact zsel_163
                · skip
                  have e : y = 164 := by omega
                  subst e; exact zsel_164
              · skip
                by_cases h166 : y < 166
                · skip
                  have e : y = 165 := by omega
                  subst e; exact zsel_165
                · skip
                  have e : y = 166 := by omega
                  subst e; exact zsel_166
          · skip
            by_cases h171 : y < 171
            · skip
              by_cases h169 : y < 169
              · skip
                by_cases h168 : y < 168
                · skip
                  have e : y = 167 := by omega
                  subst e; exact zsel_167
                · skip
                  have e : y = 168 := by omega
                  subst e; exact zsel_168
              · skip
                by_cases h170 : y < 170
                · skip
                  have e : y = 169 := by omega
                  subst e; exact zsel_169
                · skip
                  have e : y = 170 := by omega
                  subst e; cases hy
            · skip
              by_cases h173 : y < 173
              · skip
                by_cases h172 : y < 172
                · skip
                  have e : y = 171 := by omega
                  subst e; exact zsel_171
                · skip
                  have e : y = 172 := by omega
                  subst e; exact zsel_172
              · skip
                by_cases h174 : y < 174
                · skip
                  have e : y = 173 := by omega
                  subst e; exact zsel_173
                · skip
                  have e : y = 174 := by omega
                  subst e; exact zsel_174
        · skip
          by_cases h183 : y < 183
          · skip
            by_cases h179 : y < 179
            · skip
              by_cases h177 : y < 177
              · skip
                by_cases h176 : y < 176
                · skip
                  have e : y = 175 := by omega
                  subst e; exact zsel_175
                · skip
                  have e : y = 176 := by omega
                  subst e; exact zsel_176
              · skip
                by_cases h178 : y < 178
                · skip
                  have e : y = 177 := by omega
                  subst e; exact zsel_177
                · skip
                  have e : y = 178 := by omega
                  subst e; exact zsel_178
            · skip
              by_cases h181 : y < 181
              · skip
                by_cases h180 : y < 180
                · skip
                  have e : y = 179 := by omega
                  subst e; exact zsel_179
                · skip
                  have e : y = 180 := by omega
                  subst e; exact zsel_180
              · skip
                by_cases h182 : y < 182
                · skip
                  have e : y = 181 := by omega
                  subst e; exact zsel_181
                · skip
                  have e : y = 182 := by omega
                  subst e; exact zsel_182
          · skip
            by_cases h187 : y < 187
            · skip
              by_cases h185 : y < 185
              · skip
                by_cases h184 : y < 184
                · skip
                  have e : y = 183 := by omega
                  subst e; exact zsel_183
                · skip
                  have e : y = 184 := by omega
                  subst e; exact zsel_184
              · skip
                by_cases h186 : y < 186
                · skip
                  have e : y = 185 := by omega
                  subst e; exact zsel_185
                · skip
                  have e : y = 186 := by omega
                  subst e; exact zsel_186
            · skip
              by_cases h189 : y < 189
              · skip
                by_cases h188 : y < 188
                · skip
                  have e : y = 187 := by omega
                  subst e; exact zsel_187
                · skip
                  have e : y = 188 := by omega
                  subst e; exact zsel_188
              · skip
                by_cases h190 : y < 190
                · skip
                  have e : y = 189 := by omega
                  subst e; exact zsel_189
                · skip
                  have e : y = 190 := by omega
                  subst e; exact zsel_190
    · skip
      by_cases h223 : y < 223
      · skip
        by_cases h207 : y < 207
        · skip
          by_cases h199 : y < 199
          · skip
            by_cases h195 : y < 195
            · skip
              by_cases h193 : y < 193
              · skip
                by_cases h192 : y < 192
                · skip
                  have e : y = 191 := by omega
                  subst e; exact zsel_191
                · skip
                  have e : y = 192 := by omega
                  subst e; exact zsel_192
              · skip
                by_cases h194 : y < 194
                · skip
                  have e : y = 193 := by omega
                  subst e; exact zsel_193
                · skip
                  have e : y = 194 := by omega
                  subst e; cases hy
            · skip
              by_cases h197 : y < 197
              · skip
                by_cases h196 : y < 196
                · skip
                  have e : y = 195 := by omega
                  subst e; exact zsel_195
                · skip
                  have e : y = 196 := by omega
                  subst e; exact zsel_196
              · skip
                by_cases h198 : y < 198
                · skip
                  have e : y = 197 := by omega
                  subst e; exact zsel_197
                · skip
                  have e : y = 198 := by omega
                  subst e; exact zsel_198
          · skip
            by_cases h203 : y < 203
            · skip
              by_cases h201 : y < 201
              · skip
                by_cases h200 : y < 200
                · skip
                  have e : y = 199 := by omega
                  subst e; exact zsel_199
                · skip
                  have e : y = 200 := by omega
                  subst e; exact zsel_200
              · skip
                by_cases h202 : y < 202
                · skip
                  have e : y = 201 := by omega
                  subst e; exact zsel_201
                · skip
                  have e : y = 202 := by omega
                  subst e; cases hy
            · skip
              by_cases h205 : y < 205
              · skip
                by_cases h204 : y < 204
                · skip
                  have e : y = 203 := by omega
                  subst e; exact zsel_203
                · skip
                  have e : y = 204 := by omega
                  subst e; exact zsel_204
              · skip
                by_cases h206 : y < 206
                · skip
                  have e : y = 205 := by omega
                  subst e; exact zsel_205
                · skip
                  have e : y = 206 := by omega
                  subst e; exact zsel_206
        · skip
          by_cases h215 : y < 215
          · skip
            by_cases h211 : y < 211
            · skip
              by_cases h209 : y < 209
              · skip
                by_cases h208 : y < 208
                · skip
                  have e : y = 207 := by omega
                  subst e; exact zsel_207
                · skip
                  have e : y = 208 := by omega
                  subst e; exact zsel_208
              · skip
                by_cases h210 : y < 210
                · skip
                  have e : y = 209 := by omega
                  subst e; exact zsel_209
                · skip
                  have e : y = 210 := by omega
                  subst e; exact zsel_210
            · skip
              by_cases h213 : y < 213
              · skip
                by_cases h212 : y < 212
                · skip
                  have e : y = 211 := by omega
                  subst e; exact zsel_211
                · skip
                  have e : y = 212 := by omega
                  subst e; exact zsel_212
              · skip
                by_cases h214 : y < 214
                · skip
                  have e : y = 213 := by omega
                  subst e; exact zsel_213
                · skip
                  have e : y = 214 := by omega
                  subst e; exact zsel_214
          · skip
            by_cases h219 : y < 219
            · skip
              by_cases h217 : y < 217
              · skip
                by_cases h216 : y < 216
                · skip
                  have e : y = 215 := by omega
                  subst e; exact zsel_215
                · skip
                  have e : y = 216 := by omega
                  subst e; exact zsel_216
              · skip
                by_cases h218 : y < 218
                · skip
                  have e : y = 217 := by omega
                  subst e; exact zsel_217
                · skip
                  have e : y = 218 := by omega
                  subst e; exact zsel_218
            · skip
              by_cases h221 : y < 221
              · skip
                by_cases h220 : y < 220
                · skip
                  have e : y = 219 := by omega
                  subst e; exact zsel_219
                · skip
                  have e : y = 220 := by omega
                  subst e; exact zsel_220
              · skip
                by_cases h222 : y < 222
                · skip
                  have e : y = 221 := by omega
                  subst e; exact zsel_221
                · skip
                  have e : y = 222 := by omega
                  subst e; exact zsel_222
      · skip
        by_cases h239 : y < 239
        · skip
          by_cases h231 : y < 231
          · skip
            by_cases h227 : y < 227
            · skip
              by_cases h225 : y < 225
              · skip
                by_cases h224 : y < 224
                · skip
                  have e : y = 223 := by omega
                  subst e; exact zsel_223
                · skip
                  have e : y = 224 := by omega
                  subst e; exact zsel_224
              · skip
                by_cases h226 : y < 226
                · skip
                  have e : y = 225 := by omega
                  subst e; exact zsel_225
                · skip
                  have e : y = 226 := by omega
                  subst e; exact zsel_226
            · skip
              by_cases h229 : y < 229
              · skip
                by_cases h228 : y < 228
                · skip
                  have e : y = 227 := by omega
                  subst e; exact zsel_227
                · skip
                  have e : y = 228 := by omega
                  subst e; exact zsel_228
              · skip
                by_cases h230 : y < 230
                · skip
                  have e : y = 229 := by omega
                  subst e; exact zsel_229
                · skip
                  have e : y = 230 := by omega
                  subst e; exact zsel_230
          · skip
            by_cases h235 : y < 235
            · skip
              by_cases h233 : y < 233
              · skip
                by_cases h232 : y < 232
                · skip
                  have e : y = 231 := by omega
                  subst e; exact zsel_231
                · skip
                  have e : y = 232 := by omega
                  subst e; exact zsel_232
              · skip
                by_cases h234 : y < 234
                · skip
                  have e : y = 233 := by omega
                  subst e; exact zsel_233
                · skip
                  have e : y = 234 := by omega
                  subst e; exact zsel_234
            · skip
              by_cases h237 : y < 237
              · skip
                by_cases h236 : y < 236
                · skip
                  have e : y = 235 := by omega
                  subst e; exact zsel_235
                · skip
                  have e : y = 236 := by omega
                  subst e; exact zsel_236
              · skip
                by_cases h238 : y < 238
                · skip
                  have e : y = 237 := by omega
                  subst e; exact zsel_237
                · skip
                  have e : y = 238 := by omega
                  subst e; exact zsel_238
        · skip
          by_cases h247 : y < 247
          · skip
            by_cases h243 : y < 243
            · skip
              by_cases h241 : y < 241
              · skip
                by_cases h240 : y < 240
                · skip
                  have e : y = 239 := by omega
                  subst e; exact zsel_239
                · skip
                  have e : y = 240 := by omega
                  subst e; exact zsel_240
              · skip
                by_cases h242 : y < 242
                · skip
                  have e : y = 241 := by omega
                  subst e; exact zsel_241
                · skip
                  have e : y = 242 := by omega
                  subst e; exact zsel_242
            · skip
              by_cases h245 : y < 245
              · skip
                by_cases h244 : y < 244
                · skip
                  have e : y = 243 := by omega
                  subst e; exact zsel_243
                · skip
                  have e : y = 244 := by omega
                  subst e; exact zsel_244
              · skip
                by_cases h246 : y < 246
                · skip
                  have e : y = 245 := by omega
                  subst e; exact zsel_245
                · skip
                  have e : y = 246 := by omega
                  subst e; exact zsel_246
          · skip
            by_cases h251 : y < 251
            · skip
              by_cases h249 : y < 249
              · skip
                by_cases h248 : y < 248
                · skip
                  have e : y = 247 := by omega
                  subst e; exact zsel_247
                · skip
                  have e : y = 248 := by omega
                  subst e; exact zsel_248
              · skip
                by_cases h250 : y < 250
                · skip
                  have e : y = 249 := by omega
                  subst e; exact zsel_249
                · skip
                  have e : y = 250 := by omega
                  subst e; exact zsel_250
            · skip
              by_cases h253 : y < 253
              · skip
                by_cases h252 : y < 252
                · skip
                  have e : y = 251 := by omega
                  subst e; exact zsel_251
                · skip
                  have e : y = 252 := by omega
                  subst e; exact zsel_252
              · skip
                by_cases h254 : y < 254
                · skip
                  have e : y = 253 := by omega
                  subst e; exact zsel_253
                · skip
                  have e : y = 254 := by omega
                  subst e; exact zsel_254
