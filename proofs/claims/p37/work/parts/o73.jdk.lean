/-! the string builder and what it calls -/
theorem q_22 : Cond.initialized RJ5 ∈ tblG := tblG_of 22 (by decide +kernel) rfl
theorem q_23 : Cond.initialized RJ4 ∈ tblG := tblG_of 23 (by decide +kernel) rfl
theorem q_24 : Cond.initialized RJ0 ∈ tblG := tblG_of 24 (by decide +kernel) rfl
theorem q_26 : Cond.initialized RJ8 ∈ tblG := tblG_of 26 (by decide +kernel) rfl
theorem q_28 : Cond.initialized RJ3 ∈ tblG := tblG_of 28 (by decide +kernel) rfl
theorem q_29 : Cond.initialized RJ1 ∈ tblG := tblG_of 29 (by decide +kernel) rfl
theorem q_446 : Cond.methodLink RL 116 yX10_verdict ∈ tblG := tblG_of 446 (by decide +kernel) rfl
theorem q_447 : Cond.instanceMethod yX10_verdict ∈ tblG := tblG_of 447 (by decide +kernel) rfl
theorem q_448 : Cond.selects RX10 yX10_verdict yX10_verdict ∈ tblG := tblG_of 448 (by decide +kernel) rfl
theorem q_449 : Cond.code yX10_verdict cX10_verdict 3 (some .int) ∈ tblG := tblG_of 449 (by decide +kernel) rfl
theorem q_485 : Cond.methodLink RL 145 yX10_by ∈ tblG := tblG_of 485 (by decide +kernel) rfl
theorem q_486 : Cond.instanceMethod yX10_by ∈ tblG := tblG_of 486 (by decide +kernel) rfl
theorem q_487 : Cond.selects RX10 yX10_by yX10_by ∈ tblG := tblG_of 487 (by decide +kernel) rfl
theorem q_488 : Cond.code yX10_by cX10_by 3 (some .int) ∈ tblG := tblG_of 488 (by decide +kernel) rfl
theorem q_497 : Cond.methodLink RL 123 yX10_gap ∈ tblG := tblG_of 497 (by decide +kernel) rfl
theorem q_498 : Cond.instanceMethod yX10_gap ∈ tblG := tblG_of 498 (by decide +kernel) rfl
theorem q_499 : Cond.selects RX10 yX10_gap yX10_gap ∈ tblG := tblG_of 499 (by decide +kernel) rfl
theorem q_500 : Cond.code yX10_gap cX10_gap 7 (some .int) ∈ tblG := tblG_of 500 (by decide +kernel) rfl
theorem q_511 : Cond.methodLink RL 153 yX10_fewest ∈ tblG := tblG_of 511 (by decide +kernel) rfl
theorem q_512 : Cond.instanceMethod yX10_fewest ∈ tblG := tblG_of 512 (by decide +kernel) rfl
theorem q_513 : Cond.selects RX10 yX10_fewest yX10_fewest ∈ tblG := tblG_of 513 (by decide +kernel) rfl
theorem q_514 : Cond.code yX10_fewest cX10_fewest 2 (some .int) ∈ tblG := tblG_of 514 (by decide +kernel) rfl
theorem q_534 : Cond.methodLink RL 156 yX10_key ∈ tblG := tblG_of 534 (by decide +kernel) rfl
theorem q_535 : Cond.instanceMethod yX10_key ∈ tblG := tblG_of 535 (by decide +kernel) rfl
theorem q_536 : Cond.selects RX10 yX10_key yX10_key ∈ tblG := tblG_of 536 (by decide +kernel) rfl
theorem q_537 : Cond.code yX10_key cX10_key 2 (some .int) ∈ tblG := tblG_of 537 (by decide +kernel) rfl
theorem q_542 : Cond.methodLink RL 159 yX10_enough ∈ tblG := tblG_of 542 (by decide +kernel) rfl
theorem q_543 : Cond.instanceMethod yX10_enough ∈ tblG := tblG_of 543 (by decide +kernel) rfl
theorem q_544 : Cond.selects RX10 yX10_enough yX10_enough ∈ tblG := tblG_of 544 (by decide +kernel) rfl
theorem q_545 : Cond.code yX10_enough cX10_enough 2 (some .int) ∈ tblG := tblG_of 545 (by decide +kernel) rfl
theorem q_552 : Cond.methodLink RL 162 yX10_mend ∈ tblG := tblG_of 552 (by decide +kernel) rfl
theorem q_553 : Cond.instanceMethod yX10_mend ∈ tblG := tblG_of 553 (by decide +kernel) rfl
theorem q_554 : Cond.selects RX10 yX10_mend yX10_mend ∈ tblG := tblG_of 554 (by decide +kernel) rfl
theorem q_555 : Cond.code yX10_mend cX10_mend 2 (some .int) ∈ tblG := tblG_of 555 (by decide +kernel) rfl
theorem q_564 : Cond.methodLink RL 120 yX10_wrong ∈ tblG := tblG_of 564 (by decide +kernel) rfl
theorem q_565 : Cond.instanceMethod yX10_wrong ∈ tblG := tblG_of 565 (by decide +kernel) rfl
theorem q_566 : Cond.selects RX10 yX10_wrong yX10_wrong ∈ tblG := tblG_of 566 (by decide +kernel) rfl
theorem q_567 : Cond.code yX10_wrong cX10_wrong 4 (some .int) ∈ tblG := tblG_of 567 (by decide +kernel) rfl
theorem q_576 : Cond.methodLink RL 128 yL_begins ∈ tblG := tblG_of 576 (by decide +kernel) rfl
theorem q_577 : Cond.static yL_begins ∈ tblG := tblG_of 577 (by decide +kernel) rfl
theorem q_578 : Cond.code yL_begins cL_begins 10 (some .boolean) ∈ tblG := tblG_of 578 (by decide +kernel) rfl
theorem q_579 : Cond.classLink RL 35 RJ4 ∈ tblG := tblG_of 579 (by decide +kernel) rfl
theorem q_580 : Cond.instantiable RJ4 4 ∈ tblG := tblG_of 580 (by decide +kernel) rfl
theorem q_581 : Cond.methodLink RL 37 yJ4_init_da8c8 ∈ tblG := tblG_of 581 (by decide +kernel) rfl
theorem q_582 : Cond.instanceMethod yJ4_init_da8c8 ∈ tblG := tblG_of 582 (by decide +kernel) rfl
theorem q_583 : Cond.code yJ4_init_da8c8 cJ4_init_da8c8 1 none ∈ tblG := tblG_of 583 (by decide +kernel) rfl
theorem q_584 : Cond.methodLink RJ4 1 yJ5_init_d00df ∈ tblG := tblG_of 584 (by decide +kernel) rfl
theorem q_585 : Cond.instanceMethod yJ5_init_d00df ∈ tblG := tblG_of 585 (by decide +kernel) rfl
theorem q_586 : Cond.code yJ5_init_d00df cJ5_init_d00df 2 none ∈ tblG := tblG_of 586 (by decide +kernel) rfl
theorem q_587 : Cond.methodLink RJ5 3 Lib.objectInit ∈ tblG := tblG_of 587 (by decide +kernel) rfl
theorem q_588 : Cond.fieldLink RJ5 18 "java/lang/String" "COMPACT_STRINGS" "Z" ∈ tblG := tblG_of 588 (by decide +kernel) rfl
theorem q_597 : Cond.fieldLink RJ5 15 "java/lang/AbstractStringBuilder" "value" "[B" ∈ tblG := tblG_of 597 (by decide +kernel) rfl
theorem q_598 : Cond.fieldLink RJ5 22 "java/lang/AbstractStringBuilder" "coder" "B" ∈ tblG := tblG_of 598 (by decide +kernel) rfl
theorem q_599 : Cond.fieldLink RJ0 1048 "java/lang/AbstractStringBuilder" "maybeLatin1" "Z" ∈ tblG := tblG_of 599 (by decide +kernel) rfl
theorem q_600 : Cond.fieldLink RJ5 79 "java/lang/AbstractStringBuilder" "count" "I" ∈ tblG := tblG_of 600 (by decide +kernel) rfl
theorem q_609 : Cond.superclass RJ4 RJ5 ∈ tblG := tblG_of 609 (by decide +kernel) rfl
theorem q_611 : Cond.methodLink RL 40 yJ4_append_15ec4 ∈ tblG := tblG_of 611 (by decide +kernel) rfl
theorem q_612 : Cond.instanceMethod yJ4_append_15ec4 ∈ tblG := tblG_of 612 (by decide +kernel) rfl
theorem q_613 : Cond.selects RJ4 yJ4_append_15ec4 yJ4_append_15ec4 ∈ tblG := tblG_of 613 (by decide +kernel) rfl
theorem q_614 : Cond.code yJ4_append_15ec4 cJ4_append_15ec4 2 (some (.object "java/lang/StringBuilder")) ∈ tblG := tblG_of 614 (by decide +kernel) rfl
theorem q_615 : Cond.methodLink RJ4 29 yJ5_append_cf1ce ∈ tblG := tblG_of 615 (by decide +kernel) rfl
theorem q_616 : Cond.instanceMethod yJ5_append_cf1ce ∈ tblG := tblG_of 616 (by decide +kernel) rfl
theorem q_617 : Cond.code yJ5_append_cf1ce cJ5_append_cf1ce 3 (some (.object "java/lang/AbstractStringBuilder")) ∈ tblG := tblG_of 617 (by decide +kernel) rfl
theorem q_622 : Cond.methodLink RJ5 100 yJ5_ensureCapacityInternal_d00df ∈ tblG := tblG_of 622 (by decide +kernel) rfl
theorem q_623 : Cond.privateMethod yJ5_ensureCapacityInternal_d00df ∈ tblG := tblG_of 623 (by decide +kernel) rfl
theorem q_624 : Cond.instanceMethod yJ5_ensureCapacityInternal_d00df ∈ tblG := tblG_of 624 (by decide +kernel) rfl
theorem q_625 : Cond.code yJ5_ensureCapacityInternal_d00df cJ5_ensureCapacityInternal_d00df 3 none ∈ tblG := tblG_of 625 (by decide +kernel) rfl
theorem q_626 : Cond.methodLink RJ5 104 yJ5_newCapacity_0f7a4 ∈ tblG := tblG_of 626 (by decide +kernel) rfl
theorem q_627 : Cond.privateMethod yJ5_newCapacity_0f7a4 ∈ tblG := tblG_of 627 (by decide +kernel) rfl
theorem q_628 : Cond.instanceMethod yJ5_newCapacity_0f7a4 ∈ tblG := tblG_of 628 (by decide +kernel) rfl
theorem q_629 : Cond.code yJ5_newCapacity_0f7a4 cJ5_newCapacity_0f7a4 6 (some .int) ∈ tblG := tblG_of 629 (by decide +kernel) rfl
theorem q_630 : Cond.methodLink RJ5 114 yJ8_newLength_cabcc ∈ tblG := tblG_of 630 (by decide +kernel) rfl
theorem q_631 : Cond.static yJ8_newLength_cabcc ∈ tblG := tblG_of 631 (by decide +kernel) rfl
theorem q_632 : Cond.code yJ8_newLength_cabcc cJ8_newLength_cabcc 4 (some .int) ∈ tblG := tblG_of 632 (by decide +kernel) rfl
theorem q_640 : Cond.constant RJ5 39 (2147483647) ∈ tblG := tblG_of 640 (by decide +kernel) rfl
theorem q_641 : Cond.methodLink RJ5 108 yJ7_copyOf_9075b ∈ tblG := tblG_of 641 (by decide +kernel) rfl
theorem q_642 : Cond.static yJ7_copyOf_9075b ∈ tblG := tblG_of 642 (by decide +kernel) rfl
theorem q_643 : Cond.code yJ7_copyOf_9075b cJ7_copyOf_9075b 3 (some (.array .byte)) ∈ tblG := tblG_of 643 (by decide +kernel) rfl
theorem q_644 : Cond.methodLink RJ7 310 ⟨"[B", "clone", "()Ljava/lang/Object;"⟩ ∈ tblG := tblG_of 644 (by decide +kernel) rfl
theorem q_645 : Cond.sameMethod "[B" "java/lang/Object" "clone" "()Ljava/lang/Object;" ∈ tblG := tblG_of 645 (by decide +kernel) rfl
theorem q_646 : Cond.native ⟨"java/lang/Object", "clone", "()Ljava/lang/Object;"⟩ ∈ tblG := tblG_of 646 (by decide +kernel) rfl
theorem q_647 : Cond.instanceMethod ⟨"java/lang/Object", "clone", "()Ljava/lang/Object;"⟩ ∈ tblG := tblG_of 647 (by decide +kernel) rfl
theorem q_648 : Cond.selects "[B" ⟨"[B", "clone", "()Ljava/lang/Object;"⟩ ⟨"java/lang/Object", "clone", "()Ljava/lang/Object;"⟩ ∈ tblG := tblG_of 648 (by decide +kernel) rfl
theorem q_650 : Cond.classLink RJ7 311 "[B" ∈ tblG := tblG_of 650 (by decide +kernel) rfl
theorem q_651 : Cond.methodLink RJ7 304 yJ9_min_7cf53 ∈ tblG := tblG_of 651 (by decide +kernel) rfl
theorem q_654 : Cond.methodLink RJ7 150 ⟨"java/lang/System", "arraycopy", "(Ljava/lang/Object;ILjava/lang/Object;II)V"⟩ ∈ tblG := tblG_of 654 (by decide +kernel) rfl
theorem q_655 : Cond.methodLink RJ5 83 yJ5_isLatin1_aae02 ∈ tblG := tblG_of 655 (by decide +kernel) rfl
theorem q_659 : Cond.code yJ5_isLatin1_aae02 cJ5_isLatin1_aae02 1 (some .boolean) ∈ tblG := tblG_of 659 (by decide +kernel) rfl
theorem q_672 : Cond.fieldLink RJ0 1053 "jdk/internal/util/Preconditions" "SIOOBE_FORMATTER" "Ljava/util/function/BiFunction;" ∈ tblG := tblG_of 672 (by decide +kernel) rfl
theorem q_686 : Cond.methodLink RJ5 32 yJ0_length_8abf5 ∈ tblG := tblG_of 686 (by decide +kernel) rfl
theorem q_687 : Cond.instanceMethod yJ0_length_8abf5 ∈ tblG := tblG_of 687 (by decide +kernel) rfl
theorem q_688 : Cond.selects RJ0 yJ0_length_8abf5 yJ0_length_8abf5 ∈ tblG := tblG_of 688 (by decide +kernel) rfl
theorem q_689 : Cond.code yJ0_length_8abf5 cJ0_length_8abf5 1 (some .int) ∈ tblG := tblG_of 689 (by decide +kernel) rfl
theorem q_690 : Cond.methodLink RJ0 335 yJ0_coder_7d493 ∈ tblG := tblG_of 690 (by decide +kernel) rfl
theorem q_691 : Cond.instanceMethod yJ0_coder_7d493 ∈ tblG := tblG_of 691 (by decide +kernel) rfl
theorem q_692 : Cond.selects RJ0 yJ0_coder_7d493 yJ0_coder_7d493 ∈ tblG := tblG_of 692 (by decide +kernel) rfl
theorem q_693 : Cond.code yJ0_coder_7d493 cJ0_coder_7d493 1 (some .byte) ∈ tblG := tblG_of 693 (by decide +kernel) rfl
theorem q_694 : Cond.fieldLink RJ0 38 "java/lang/String" "COMPACT_STRINGS" "Z" ∈ tblG := tblG_of 694 (by decide +kernel) rfl
theorem q_695 : Cond.methodLink RJ5 208 yJ5_putStringAt_47b60 ∈ tblG := tblG_of 695 (by decide +kernel) rfl
theorem q_696 : Cond.privateMethod yJ5_putStringAt_47b60 ∈ tblG := tblG_of 696 (by decide +kernel) rfl
theorem q_697 : Cond.instanceMethod yJ5_putStringAt_47b60 ∈ tblG := tblG_of 697 (by decide +kernel) rfl
theorem q_698 : Cond.code yJ5_putStringAt_47b60 cJ5_putStringAt_47b60 3 none ∈ tblG := tblG_of 698 (by decide +kernel) rfl
theorem q_699 : Cond.methodLink RJ5 397 yJ5_inflateIfNeededFor_a7421 ∈ tblG := tblG_of 699 (by decide +kernel) rfl
theorem q_700 : Cond.privateMethod yJ5_inflateIfNeededFor_a7421 ∈ tblG := tblG_of 700 (by decide +kernel) rfl
theorem q_701 : Cond.instanceMethod yJ5_inflateIfNeededFor_a7421 ∈ tblG := tblG_of 701 (by decide +kernel) rfl
theorem q_702 : Cond.code yJ5_inflateIfNeededFor_a7421 cJ5_inflateIfNeededFor_a7421 2 none ∈ tblG := tblG_of 702 (by decide +kernel) rfl
theorem q_703 : Cond.methodLink RJ5 40 yJ0_coder_7d493 ∈ tblG := tblG_of 703 (by decide +kernel) rfl
theorem q_709 : Cond.static yJ1_inflate_0e8fd ∈ tblG := tblG_of 709 (by decide +kernel) rfl
theorem q_710 : Cond.code yJ1_inflate_0e8fd cJ1_inflate_0e8fd 5 none ∈ tblG := tblG_of 710 (by decide +kernel) rfl
theorem q_723 : Cond.methodLink RJ5 399 yJ0_getBytes_840e7 ∈ tblG := tblG_of 723 (by decide +kernel) rfl
theorem q_724 : Cond.instanceMethod yJ0_getBytes_840e7 ∈ tblG := tblG_of 724 (by decide +kernel) rfl
theorem q_725 : Cond.selects RJ0 yJ0_getBytes_840e7 yJ0_getBytes_840e7 ∈ tblG := tblG_of 725 (by decide +kernel) rfl
theorem q_726 : Cond.code yJ0_getBytes_840e7 cJ0_getBytes_840e7 4 none ∈ tblG := tblG_of 726 (by decide +kernel) rfl
theorem q_727 : Cond.methodLink RJ0 212 ⟨"java/lang/System", "arraycopy", "(Ljava/lang/Object;ILjava/lang/Object;II)V"⟩ ∈ tblG := tblG_of 727 (by decide +kernel) rfl
theorem q_728 : Cond.methodLink RJ0 106 yJ1_inflate_0e8fd ∈ tblG := tblG_of 728 (by decide +kernel) rfl
theorem q_729 : Cond.methodLink RL 44 yJ4_append_cf468 ∈ tblG := tblG_of 729 (by decide +kernel) rfl
theorem q_730 : Cond.instanceMethod yJ4_append_cf468 ∈ tblG := tblG_of 730 (by decide +kernel) rfl
theorem q_731 : Cond.selects RJ4 yJ4_append_cf468 yJ4_append_cf468 ∈ tblG := tblG_of 731 (by decide +kernel) rfl
theorem q_732 : Cond.code yJ4_append_cf468 cJ4_append_cf468 2 (some (.object "java/lang/StringBuilder")) ∈ tblG := tblG_of 732 (by decide +kernel) rfl
theorem q_733 : Cond.methodLink RJ4 50 yJ5_append_3fe6f ∈ tblG := tblG_of 733 (by decide +kernel) rfl
theorem q_734 : Cond.instanceMethod yJ5_append_3fe6f ∈ tblG := tblG_of 734 (by decide +kernel) rfl
theorem q_735 : Cond.code yJ5_append_3fe6f cJ5_append_3fe6f 2 (some (.object "java/lang/AbstractStringBuilder")) ∈ tblG := tblG_of 735 (by decide +kernel) rfl
theorem q_736 : Cond.methodLink RJ5 191 yJ1_canEncode_fc78d ∈ tblG := tblG_of 736 (by decide +kernel) rfl
theorem q_737 : Cond.static yJ1_canEncode_fc78d ∈ tblG := tblG_of 737 (by decide +kernel) rfl
theorem q_738 : Cond.code yJ1_canEncode_fc78d cJ1_canEncode_fc78d 1 (some .boolean) ∈ tblG := tblG_of 738 (by decide +kernel) rfl
theorem q_746 : Cond.static yJ0_checkIndex_df160 ∈ tblG := tblG_of 746 (by decide +kernel) rfl
theorem q_747 : Cond.code yJ0_checkIndex_df160 cJ0_checkIndex_df160 2 none ∈ tblG := tblG_of 747 (by decide +kernel) rfl
theorem q_748 : Cond.methodLink RJ0 1059 yJ3_checkIndex_8e157 ∈ tblG := tblG_of 748 (by decide +kernel) rfl
theorem q_749 : Cond.static yJ3_checkIndex_8e157 ∈ tblG := tblG_of 749 (by decide +kernel) rfl
theorem q_750 : Cond.code yJ3_checkIndex_8e157 cJ3_checkIndex_8e157 3 (some .int) ∈ tblG := tblG_of 750 (by decide +kernel) rfl
theorem q_760 : Cond.methodLink RL 53 yJ4_append_bf812 ∈ tblG := tblG_of 760 (by decide +kernel) rfl
theorem q_761 : Cond.instanceMethod yJ4_append_bf812 ∈ tblG := tblG_of 761 (by decide +kernel) rfl
theorem q_762 : Cond.selects RJ4 yJ4_append_bf812 yJ4_append_bf812 ∈ tblG := tblG_of 762 (by decide +kernel) rfl
theorem q_763 : Cond.code yJ4_append_bf812 cJ4_append_bf812 2 (some (.object "java/lang/StringBuilder")) ∈ tblG := tblG_of 763 (by decide +kernel) rfl
theorem q_764 : Cond.methodLink RJ4 53 yJ5_append_c97b9 ∈ tblG := tblG_of 764 (by decide +kernel) rfl
theorem q_765 : Cond.instanceMethod yJ5_append_c97b9 ∈ tblG := tblG_of 765 (by decide +kernel) rfl
theorem q_766 : Cond.code yJ5_append_c97b9 cJ5_append_c97b9 4 (some (.object "java/lang/AbstractStringBuilder")) ∈ tblG := tblG_of 766 (by decide +kernel) rfl
theorem q_767 : Cond.methodLink RJ5 245 yJ6_stringSize_0f7a4 ∈ tblG := tblG_of 767 (by decide +kernel) rfl
theorem q_768 : Cond.static yJ6_stringSize_0f7a4 ∈ tblG := tblG_of 768 (by decide +kernel) rfl
theorem q_769 : Cond.code yJ6_stringSize_0f7a4 cJ6_stringSize_0f7a4 4 (some .int) ∈ tblG := tblG_of 769 (by decide +kernel) rfl
theorem q_770 : Cond.methodLink RJ5 248 yJ6_getChars_ba4f3 ∈ tblG := tblG_of 770 (by decide +kernel) rfl
theorem q_771 : Cond.static yJ6_getChars_ba4f3 ∈ tblG := tblG_of 771 (by decide +kernel) rfl
theorem q_772 : Cond.code yJ6_getChars_ba4f3 cJ6_getChars_ba4f3 7 (some .int) ∈ tblG := tblG_of 772 (by decide +kernel) rfl
theorem q_809 : Cond.methodLink RL 104 yJ4_toString_0e30d ∈ tblG := tblG_of 809 (by decide +kernel) rfl
theorem q_810 : Cond.instanceMethod yJ4_toString_0e30d ∈ tblG := tblG_of 810 (by decide +kernel) rfl
theorem q_811 : Cond.selects RJ4 yJ4_toString_0e30d yJ4_toString_0e30d ∈ tblG := tblG_of 811 (by decide +kernel) rfl
theorem q_812 : Cond.code yJ4_toString_0e30d cJ4_toString_0e30d 1 (some (.object "java/lang/String")) ∈ tblG := tblG_of 812 (by decide +kernel) rfl
theorem q_813 : Cond.classLink RJ4 18 RJ0 ∈ tblG := tblG_of 813 (by decide +kernel) rfl
theorem q_814 : Cond.instantiable RJ0 4 ∈ tblG := tblG_of 814 (by decide +kernel) rfl
theorem q_815 : Cond.methodLink RJ4 137 yJ0_init_81219 ∈ tblG := tblG_of 815 (by decide +kernel) rfl
theorem q_816 : Cond.instanceMethod yJ0_init_81219 ∈ tblG := tblG_of 816 (by decide +kernel) rfl
theorem q_817 : Cond.code yJ0_init_81219 cJ0_init_81219 2 none ∈ tblG := tblG_of 817 (by decide +kernel) rfl
theorem q_818 : Cond.methodLink RJ0 489 yJ0_init_db425 ∈ tblG := tblG_of 818 (by decide +kernel) rfl
theorem q_819 : Cond.instanceMethod yJ0_init_db425 ∈ tblG := tblG_of 819 (by decide +kernel) rfl
theorem q_820 : Cond.code yJ0_init_db425 cJ0_init_db425 5 none ∈ tblG := tblG_of 820 (by decide +kernel) rfl
theorem q_821 : Cond.methodLink RJ0 1 Lib.objectInit ∈ tblG := tblG_of 821 (by decide +kernel) rfl
theorem q_822 : Cond.methodLink RJ0 552 yJ5_getValue_6d5f1 ∈ tblG := tblG_of 822 (by decide +kernel) rfl
theorem q_823 : Cond.instanceMethod yJ5_getValue_6d5f1 ∈ tblG := tblG_of 823 (by decide +kernel) rfl
theorem q_825 : Cond.selects RJ4 yJ5_getValue_6d5f1 yJ5_getValue_6d5f1 ∈ tblG := tblG_of 825 (by decide +kernel) rfl
theorem q_826 : Cond.code yJ5_getValue_6d5f1 cJ5_getValue_6d5f1 1 (some (.array .byte)) ∈ tblG := tblG_of 826 (by decide +kernel) rfl
theorem q_827 : Cond.methodLink RJ0 549 yJ5_length_8abf5 ∈ tblG := tblG_of 827 (by decide +kernel) rfl
theorem q_828 : Cond.instanceMethod yJ5_length_8abf5 ∈ tblG := tblG_of 828 (by decide +kernel) rfl
theorem q_829 : Cond.sameMethod RJ5 RJ5 "length" "()I" ∈ tblG := tblG_of 829 (by decide +kernel) rfl
theorem q_830 : Cond.selects RJ4 yJ5_length_8abf5 yJ4_length_8abf5 ∈ tblG := tblG_of 830 (by decide +kernel) rfl
theorem q_831 : Cond.instanceMethod yJ4_length_8abf5 ∈ tblG := tblG_of 831 (by decide +kernel) rfl
theorem q_832 : Cond.code yJ4_length_8abf5 cJ4_length_8abf5 1 (some .int) ∈ tblG := tblG_of 832 (by decide +kernel) rfl
theorem q_833 : Cond.methodLink RJ4 343 yJ5_length_8abf5 ∈ tblG := tblG_of 833 (by decide +kernel) rfl
theorem q_834 : Cond.code yJ5_length_8abf5 cJ5_length_8abf5 1 (some .int) ∈ tblG := tblG_of 834 (by decide +kernel) rfl
theorem q_835 : Cond.methodLink RJ0 1047 yJ5_isLatin1_aae02 ∈ tblG := tblG_of 835 (by decide +kernel) rfl
theorem q_836 : Cond.methodLink RJ0 54 yJ7_copyOfRange_39247 ∈ tblG := tblG_of 836 (by decide +kernel) rfl
theorem q_837 : Cond.static yJ7_copyOfRange_39247 ∈ tblG := tblG_of 837 (by decide +kernel) rfl
theorem q_838 : Cond.code yJ7_copyOfRange_39247 cJ7_copyOfRange_39247 3 (some (.array .byte)) ∈ tblG := tblG_of 838 (by decide +kernel) rfl
theorem q_839 : Cond.methodLink RJ7 339 yJ7_copyOfRangeByte_39247 ∈ tblG := tblG_of 839 (by decide +kernel) rfl
theorem q_840 : Cond.static yJ7_copyOfRangeByte_39247 ∈ tblG := tblG_of 840 (by decide +kernel) rfl
theorem q_841 : Cond.code yJ7_copyOfRangeByte_39247 cJ7_copyOfRangeByte_39247 5 (some (.array .byte)) ∈ tblG := tblG_of 841 (by decide +kernel) rfl
theorem q_842 : Cond.methodLink RJ7 343 yJ7_checkLength_df160 ∈ tblG := tblG_of 842 (by decide +kernel) rfl
theorem q_843 : Cond.static yJ7_checkLength_df160 ∈ tblG := tblG_of 843 (by decide +kernel) rfl
theorem q_844 : Cond.code yJ7_checkLength_df160 cJ7_checkLength_df160 2 none ∈ tblG := tblG_of 844 (by decide +kernel) rfl
theorem q_858 : Cond.fieldLink RJ0 9 "java/lang/String" "value" "[B" ∈ tblG := tblG_of 858 (by decide +kernel) rfl
theorem q_859 : Cond.fieldLink RJ0 15 "java/lang/String" "coder" "B" ∈ tblG := tblG_of 859 (by decide +kernel) rfl
theorem q_869 : Cond.methodLink RL 108 yL_feeds ∈ tblG := tblG_of 869 (by decide +kernel) rfl
theorem q_870 : Cond.static yL_feeds ∈ tblG := tblG_of 870 (by decide +kernel) rfl
theorem q_871 : Cond.code yL_feeds cL_feeds 6 (some .int) ∈ tblG := tblG_of 871 (by decide +kernel) rfl
theorem q_872 : Cond.methodLink RL 15 yJ0_length_8abf5 ∈ tblG := tblG_of 872 (by decide +kernel) rfl
theorem q_873 : Cond.methodLink RL 21 yJ0_charAt_5068e ∈ tblG := tblG_of 873 (by decide +kernel) rfl
theorem q_874 : Cond.instanceMethod yJ0_charAt_5068e ∈ tblG := tblG_of 874 (by decide +kernel) rfl
theorem q_875 : Cond.selects RJ0 yJ0_charAt_5068e yJ0_charAt_5068e ∈ tblG := tblG_of 875 (by decide +kernel) rfl
theorem q_876 : Cond.code yJ0_charAt_5068e cJ0_charAt_5068e 2 (some .char) ∈ tblG := tblG_of 876 (by decide +kernel) rfl
theorem q_877 : Cond.methodLink RJ0 492 yJ0_isLatin1_aae02 ∈ tblG := tblG_of 877 (by decide +kernel) rfl
theorem q_878 : Cond.instanceMethod yJ0_isLatin1_aae02 ∈ tblG := tblG_of 878 (by decide +kernel) rfl
theorem q_879 : Cond.selects RJ0 yJ0_isLatin1_aae02 yJ0_isLatin1_aae02 ∈ tblG := tblG_of 879 (by decide +kernel) rfl
theorem q_880 : Cond.code yJ0_isLatin1_aae02 cJ0_isLatin1_aae02 1 (some .boolean) ∈ tblG := tblG_of 880 (by decide +kernel) rfl
theorem q_881 : Cond.methodLink RJ0 495 yJ1_charAt_3b067 ∈ tblG := tblG_of 881 (by decide +kernel) rfl
theorem q_882 : Cond.static yJ1_charAt_3b067 ∈ tblG := tblG_of 882 (by decide +kernel) rfl
theorem q_883 : Cond.code yJ1_charAt_3b067 cJ1_charAt_3b067 2 (some .char) ∈ tblG := tblG_of 883 (by decide +kernel) rfl
theorem q_884 : Cond.methodLink RJ1 9 yJ0_checkIndex_df160 ∈ tblG := tblG_of 884 (by decide +kernel) rfl
theorem q_888 : Cond.methodLink RL 25 yX10_feed ∈ tblG := tblG_of 888 (by decide +kernel) rfl
theorem q_889 : Cond.instanceMethod yX10_feed ∈ tblG := tblG_of 889 (by decide +kernel) rfl
theorem q_890 : Cond.selects RX10 yX10_feed yX10_feed ∈ tblG := tblG_of 890 (by decide +kernel) rfl
theorem q_891 : Cond.code yX10_feed cX10_feed 6 (some .int) ∈ tblG := tblG_of 891 (by decide +kernel) rfl
theorem q_896 : Cond.methodLink RL 31 yX10_text ∈ tblG := tblG_of 896 (by decide +kernel) rfl
theorem q_897 : Cond.instanceMethod yX10_text ∈ tblG := tblG_of 897 (by decide +kernel) rfl
theorem q_898 : Cond.selects RX10 yX10_text yX10_text ∈ tblG := tblG_of 898 (by decide +kernel) rfl
theorem q_899 : Cond.code yX10_text cX10_text 4 (some .int) ∈ tblG := tblG_of 899 (by decide +kernel) rfl
theorem q_1097 : Cond.methodLink RL 141 yL_framesOf ∈ tblG := tblG_of 1097 (by decide +kernel) rfl
theorem q_1098 : Cond.static yL_framesOf ∈ tblG := tblG_of 1098 (by decide +kernel) rfl
theorem q_1099 : Cond.code yL_framesOf cL_framesOf 5 (some .int) ∈ tblG := tblG_of 1099 (by decide +kernel) rfl
theorem q_1169 : Cond.methodLink RL 138 yL_verdict ∈ tblG := tblG_of 1169 (by decide +kernel) rfl
theorem q_1170 : Cond.static yL_verdict ∈ tblG := tblG_of 1170 (by decide +kernel) rfl
theorem q_1171 : Cond.code yL_verdict cL_verdict 14 (some .int) ∈ tblG := tblG_of 1171 (by decide +kernel) rfl
theorem q_1184 : Cond.methodLink RL 172 yL_canBe ∈ tblG := tblG_of 1184 (by decide +kernel) rfl
theorem q_1185 : Cond.static yL_canBe ∈ tblG := tblG_of 1185 (by decide +kernel) rfl
theorem q_1186 : Cond.code yL_canBe cL_canBe 6 (some .boolean) ∈ tblG := tblG_of 1186 (by decide +kernel) rfl
theorem q_1187 : Cond.methodLink RL 176 yJ9_min_7cf53 ∈ tblG := tblG_of 1187 (by decide +kernel) rfl
theorem q_1188 : Cond.methodLink RL 181 yJ9_max_7cf53 ∈ tblG := tblG_of 1188 (by decide +kernel) rfl
theorem q_1189 : Cond.methodLink RL 184 yL_doAll ∈ tblG := tblG_of 1189 (by decide +kernel) rfl
theorem q_1190 : Cond.static yL_doAll ∈ tblG := tblG_of 1190 (by decide +kernel) rfl
theorem q_1191 : Cond.code yL_doAll cL_doAll 5 (some .boolean) ∈ tblG := tblG_of 1191 (by decide +kernel) rfl
theorem q_1201 : Cond.methodLink RL 188 yL_canAll ∈ tblG := tblG_of 1201 (by decide +kernel) rfl
theorem q_1202 : Cond.static yL_canAll ∈ tblG := tblG_of 1202 (by decide +kernel) rfl
theorem q_1203 : Cond.code yL_canAll cL_canAll 7 (some .boolean) ∈ tblG := tblG_of 1203 (by decide +kernel) rfl
theorem q_1204 : Cond.methodLink RL 203 ⟨"[I", "clone", "()Ljava/lang/Object;"⟩ ∈ tblG := tblG_of 1204 (by decide +kernel) rfl
theorem q_1205 : Cond.sameMethod "[I" "java/lang/Object" "clone" "()Ljava/lang/Object;" ∈ tblG := tblG_of 1205 (by decide +kernel) rfl
theorem q_1206 : Cond.selects "[I" ⟨"[I", "clone", "()Ljava/lang/Object;"⟩ ⟨"java/lang/Object", "clone", "()Ljava/lang/Object;"⟩ ∈ tblG := tblG_of 1206 (by decide +kernel) rfl
theorem q_1208 : Cond.classLink RL 204 "[I" ∈ tblG := tblG_of 1208 (by decide +kernel) rfl
theorem q_1209 : Cond.methodLink RL 191 yL_goesOn ∈ tblG := tblG_of 1209 (by decide +kernel) rfl
theorem q_1210 : Cond.static yL_goesOn ∈ tblG := tblG_of 1210 (by decide +kernel) rfl
theorem q_1211 : Cond.code yL_goesOn cL_goesOn 3 (some .boolean) ∈ tblG := tblG_of 1211 (by decide +kernel) rfl
theorem q_1212 : Cond.methodLink RL 132 yL_areClocks ∈ tblG := tblG_of 1212 (by decide +kernel) rfl
theorem q_1213 : Cond.static yL_areClocks ∈ tblG := tblG_of 1213 (by decide +kernel) rfl
theorem q_1214 : Cond.code yL_areClocks cL_areClocks 6 (some .boolean) ∈ tblG := tblG_of 1214 (by decide +kernel) rfl
theorem q_1215 : Cond.methodLink RL 148 yJ6_bitCount_0f7a4 ∈ tblG := tblG_of 1215 (by decide +kernel) rfl
theorem q_1216 : Cond.constant RL 127 (3000000) ∈ tblG := tblG_of 1216 (by decide +kernel) rfl
theorem q_1217 : Cond.sameMethod RJ5 RJ5 "append" "(Ljava/lang/String;)Ljava/lang/AbstractStringBuilder;" ∈ tblG := tblG_of 1217 (by decide +kernel) rfl
theorem q_1224 : Cond.sameMethod RJ5 RJ5 "append" "(C)Ljava/lang/AbstractStringBuilder;" ∈ tblG := tblG_of 1224 (by decide +kernel) rfl
theorem q_1225 : Cond.sameMethod RJ5 RJ5 "append" "(I)Ljava/lang/AbstractStringBuilder;" ∈ tblG := tblG_of 1225 (by decide +kernel) rfl
theorem ff_J0_0 : FF 9 0 2 "java/lang/String" "java/lang/String" "value" true := ⟨RJ0, TJ0, 4, tyJ0, rfl, inG_J0, by decide, by decide +kernel, rfl, tyJ0_ok, nmJ0, by decide +kernel⟩
theorem ff_J0_1 : FF 9 1 0 "java/lang/String" "java/lang/String" "coder" true := ⟨RJ0, TJ0, 4, tyJ0, rfl, inG_J0, by decide, by decide +kernel, rfl, tyJ0_ok, nmJ0, by decide +kernel⟩
theorem ff_J4_0 : FF 10 0 2 "java/lang/AbstractStringBuilder" "java/lang/AbstractStringBuilder" "value" true := ⟨RJ4, TJ4, 4, tyJ4, rfl, inG_J4, by decide, by decide +kernel, rfl, tyJ4_ok, nmJ4, by decide +kernel⟩
theorem ff_J4_1 : FF 10 1 0 "java/lang/AbstractStringBuilder" "java/lang/AbstractStringBuilder" "coder" true := ⟨RJ4, TJ4, 4, tyJ4, rfl, inG_J4, by decide, by decide +kernel, rfl, tyJ4_ok, nmJ4, by decide +kernel⟩
theorem ff_J4_2 : FF 10 2 0 "java/lang/AbstractStringBuilder" "java/lang/AbstractStringBuilder" "maybeLatin1" true := ⟨RJ4, TJ4, 4, tyJ4, rfl, inG_J4, by decide, by decide +kernel, rfl, tyJ4_ok, nmJ4, by decide +kernel⟩
theorem ff_J4_3 : FF 10 3 0 "java/lang/AbstractStringBuilder" "java/lang/AbstractStringBuilder" "count" true := ⟨RJ4, TJ4, 4, tyJ4, rfl, inG_J4, by decide, by decide +kernel, rfl, tyJ4_ok, nmJ4, by decide +kernel⟩
theorem dz_J0 : ∀ j, j < 4 → defaultValue (tyJ0 j) = vp_V ((kd 9).map dfv) j := by decide +kernel
theorem dz_J4 : ∀ j, j < 4 → defaultValue (tyJ4 j) = vp_V ((kd 10).map dfv) j := by decide +kernel
theorem cw_L_104 : CWs RL 104 RJ4 yJ4_toString_0e30d cJ4_toString_0e30d 1 (some (.object "java/lang/String")) 0 := ⟨q_809, q_23, q_812, rfl, by decide +kernel, by decide +kernel⟩
theorem cw_L_108 : CWs RL 108 RL yL_feeds cL_feeds 6 (some .int) 2 := ⟨q_869, q_8, q_871, rfl, by decide +kernel, by decide +kernel⟩
theorem cw_L_116 : CWs RL 116 RX10 yX10_verdict cX10_verdict 3 (some .int) 2 := ⟨q_446, q_9, q_449, rfl, by decide +kernel, by decide +kernel⟩
theorem cw_L_120 : CWs RL 120 RX10 yX10_wrong cX10_wrong 4 (some .int) 0 := ⟨q_564, q_9, q_567, rfl, by decide +kernel, by decide +kernel⟩
theorem cw_L_123 : CWs RL 123 RX10 yX10_gap cX10_gap 7 (some .int) 4 := ⟨q_497, q_9, q_500, rfl, by decide +kernel, by decide +kernel⟩
theorem cw_L_128 : CWs RL 128 RL yL_begins cL_begins 10 (some .boolean) 2 := ⟨q_576, q_8, q_578, rfl, by decide +kernel, by decide +kernel⟩
theorem cw_L_132 : CWs RL 132 RL yL_areClocks cL_areClocks 6 (some .boolean) 2 := ⟨q_1212, q_8, q_1214, rfl, by decide +kernel, by decide +kernel⟩
theorem cw_L_138 : CWs RL 138 RL yL_verdict cL_verdict 14 (some .int) 4 := ⟨q_1169, q_8, q_1171, rfl, by decide +kernel, by decide +kernel⟩
theorem cw_L_141 : CWs RL 141 RL yL_framesOf cL_framesOf 5 (some .int) 3 := ⟨q_1097, q_8, q_1099, rfl, by decide +kernel, by decide +kernel⟩
theorem cw_L_145 : CWs RL 145 RX10 yX10_by cX10_by 3 (some .int) 2 := ⟨q_485, q_9, q_488, rfl, by decide +kernel, by decide +kernel⟩
theorem cw_L_148 : CWs RL 148 RJ6 yJ6_bitCount_0f7a4 cJ6_bitCount_0f7a4 1 (some .int) 1 := ⟨q_1215, q_31, q_530, rfl, by decide +kernel, by decide +kernel⟩
theorem cw_L_15 : CWs RL 15 RJ0 yJ0_length_8abf5 cJ0_length_8abf5 1 (some .int) 0 := ⟨q_872, q_24, q_689, rfl, by decide +kernel, by decide +kernel⟩
theorem cw_L_153 : CWs RL 153 RX10 yX10_fewest cX10_fewest 2 (some .int) 1 := ⟨q_511, q_9, q_514, rfl, by decide +kernel, by decide +kernel⟩
theorem cw_L_156 : CWs RL 156 RX10 yX10_key cX10_key 2 (some .int) 1 := ⟨q_534, q_9, q_537, rfl, by decide +kernel, by decide +kernel⟩
theorem cw_L_159 : CWs RL 159 RX10 yX10_enough cX10_enough 2 (some .int) 1 := ⟨q_542, q_9, q_545, rfl, by decide +kernel, by decide +kernel⟩
theorem cw_L_162 : CWs RL 162 RX10 yX10_mend cX10_mend 2 (some .int) 1 := ⟨q_552, q_9, q_555, rfl, by decide +kernel, by decide +kernel⟩
theorem cw_L_172 : CWs RL 172 RL yL_canBe cL_canBe 6 (some .boolean) 3 := ⟨q_1184, q_8, q_1186, rfl, by decide +kernel, by decide +kernel⟩
theorem cw_L_184 : CWs RL 184 RL yL_doAll cL_doAll 5 (some .boolean) 4 := ⟨q_1189, q_8, q_1191, rfl, by decide +kernel, by decide +kernel⟩
theorem cw_L_188 : CWs RL 188 RL yL_canAll cL_canAll 7 (some .boolean) 4 := ⟨q_1201, q_8, q_1203, rfl, by decide +kernel, by decide +kernel⟩
theorem cw_L_191 : CWs RL 191 RL yL_goesOn cL_goesOn 3 (some .boolean) 2 := ⟨q_1209, q_8, q_1211, rfl, by decide +kernel, by decide +kernel⟩
theorem cw_L_21 : CWs RL 21 RJ0 yJ0_charAt_5068e cJ0_charAt_5068e 2 (some .char) 1 := ⟨q_873, q_24, q_876, rfl, by decide +kernel, by decide +kernel⟩
theorem cw_L_25 : CWs RL 25 RX10 yX10_feed cX10_feed 6 (some .int) 5 := ⟨q_888, q_9, q_891, rfl, by decide +kernel, by decide +kernel⟩
theorem cw_L_31 : CWs RL 31 RX10 yX10_text cX10_text 4 (some .int) 1 := ⟨q_896, q_9, q_899, rfl, by decide +kernel, by decide +kernel⟩
theorem cw_L_37 : CWs RL 37 RJ4 yJ4_init_da8c8 cJ4_init_da8c8 1 none 0 := ⟨q_581, q_23, q_583, rfl, by decide +kernel, by decide +kernel⟩
theorem cw_L_40 : CWs RL 40 RJ4 yJ4_append_15ec4 cJ4_append_15ec4 2 (some (.object "java/lang/StringBuilder")) 1 := ⟨q_611, q_23, q_614, rfl, by decide +kernel, by decide +kernel⟩
theorem cw_L_44 : CWs RL 44 RJ4 yJ4_append_cf468 cJ4_append_cf468 2 (some (.object "java/lang/StringBuilder")) 1 := ⟨q_729, q_23, q_732, rfl, by decide +kernel, by decide +kernel⟩
theorem cw_L_53 : CWs RL 53 RJ4 yJ4_append_bf812 cJ4_append_bf812 2 (some (.object "java/lang/StringBuilder")) 1 := ⟨q_760, q_23, q_763, rfl, by decide +kernel, by decide +kernel⟩
theorem cw_J5_100 : CWs RJ5 100 RJ5 yJ5_ensureCapacityInternal_d00df cJ5_ensureCapacityInternal_d00df 3 none 1 := ⟨q_622, q_22, q_625, rfl, by decide +kernel, by decide +kernel⟩
theorem cw_J5_104 : CWs RJ5 104 RJ5 yJ5_newCapacity_0f7a4 cJ5_newCapacity_0f7a4 6 (some .int) 1 := ⟨q_626, q_22, q_629, rfl, by decide +kernel, by decide +kernel⟩
theorem cw_J5_108 : CWs RJ5 108 RJ7 yJ7_copyOf_9075b cJ7_copyOf_9075b 3 (some (.array .byte)) 2 := ⟨q_641, q_15, q_643, rfl, by decide +kernel, by decide +kernel⟩
theorem cw_J5_114 : CWs RJ5 114 RJ8 yJ8_newLength_cabcc cJ8_newLength_cabcc 4 (some .int) 3 := ⟨q_630, q_26, q_632, rfl, by decide +kernel, by decide +kernel⟩
theorem cw_J5_191 : CWs RJ5 191 RJ1 yJ1_canEncode_fc78d cJ1_canEncode_fc78d 1 (some .boolean) 1 := ⟨q_736, q_29, q_738, rfl, by decide +kernel, by decide +kernel⟩
theorem cw_J5_208 : CWs RJ5 208 RJ5 yJ5_putStringAt_47b60 cJ5_putStringAt_47b60 3 none 2 := ⟨q_695, q_22, q_698, rfl, by decide +kernel, by decide +kernel⟩
theorem cw_J5_245 : CWs RJ5 245 RJ6 yJ6_stringSize_0f7a4 cJ6_stringSize_0f7a4 4 (some .int) 1 := ⟨q_767, q_31, q_769, rfl, by decide +kernel, by decide +kernel⟩
theorem cw_J5_248 : CWs RJ5 248 RJ6 yJ6_getChars_ba4f3 cJ6_getChars_ba4f3 7 (some .int) 3 := ⟨q_770, q_31, q_772, rfl, by decide +kernel, by decide +kernel⟩
theorem cw_J5_32 : CWs RJ5 32 RJ0 yJ0_length_8abf5 cJ0_length_8abf5 1 (some .int) 0 := ⟨q_686, q_24, q_689, rfl, by decide +kernel, by decide +kernel⟩
theorem cw_J5_397 : CWs RJ5 397 RJ5 yJ5_inflateIfNeededFor_a7421 cJ5_inflateIfNeededFor_a7421 2 none 1 := ⟨q_699, q_22, q_702, rfl, by decide +kernel, by decide +kernel⟩
theorem cw_J5_399 : CWs RJ5 399 RJ0 yJ0_getBytes_840e7 cJ0_getBytes_840e7 4 none 3 := ⟨q_723, q_24, q_726, rfl, by decide +kernel, by decide +kernel⟩
theorem cw_J5_40 : CWs RJ5 40 RJ0 yJ0_coder_7d493 cJ0_coder_7d493 1 (some .byte) 0 := ⟨q_703, q_24, q_693, rfl, by decide +kernel, by decide +kernel⟩
theorem cw_J5_83 : CWs RJ5 83 RJ5 yJ5_isLatin1_aae02 cJ5_isLatin1_aae02 1 (some .boolean) 0 := ⟨q_655, q_22, q_659, rfl, by decide +kernel, by decide +kernel⟩
theorem cw_J0_1047 : CWs RJ0 1047 RJ5 yJ5_isLatin1_aae02 cJ5_isLatin1_aae02 1 (some .boolean) 0 := ⟨q_835, q_22, q_659, rfl, by decide +kernel, by decide +kernel⟩
theorem cw_J0_1059 : CWs RJ0 1059 RJ3 yJ3_checkIndex_8e157 cJ3_checkIndex_8e157 3 (some .int) 3 := ⟨q_748, q_28, q_750, rfl, by decide +kernel, by decide +kernel⟩
theorem cw_J0_106 : CWs RJ0 106 RJ1 yJ1_inflate_0e8fd cJ1_inflate_0e8fd 5 none 5 := ⟨q_728, q_29, q_710, rfl, by decide +kernel, by decide +kernel⟩
theorem cw_J0_335 : CWs RJ0 335 RJ0 yJ0_coder_7d493 cJ0_coder_7d493 1 (some .byte) 0 := ⟨q_690, q_24, q_693, rfl, by decide +kernel, by decide +kernel⟩
theorem cw_J0_489 : CWs RJ0 489 RJ0 yJ0_init_db425 cJ0_init_db425 5 none 2 := ⟨q_818, q_24, q_820, rfl, by decide +kernel, by decide +kernel⟩
theorem cw_J0_492 : CWs RJ0 492 RJ0 yJ0_isLatin1_aae02 cJ0_isLatin1_aae02 1 (some .boolean) 0 := ⟨q_877, q_24, q_880, rfl, by decide +kernel, by decide +kernel⟩
theorem cw_J0_495 : CWs RJ0 495 RJ1 yJ1_charAt_3b067 cJ1_charAt_3b067 2 (some .char) 2 := ⟨q_881, q_29, q_883, rfl, by decide +kernel, by decide +kernel⟩
theorem cw_J0_54 : CWs RJ0 54 RJ7 yJ7_copyOfRange_39247 cJ7_copyOfRange_39247 3 (some (.array .byte)) 3 := ⟨q_836, q_15, q_838, rfl, by decide +kernel, by decide +kernel⟩
theorem cw_J0_552 : CWs RJ0 552 RJ5 yJ5_getValue_6d5f1 cJ5_getValue_6d5f1 1 (some (.array .byte)) 0 := ⟨q_822, q_22, q_826, rfl, by decide +kernel, by decide +kernel⟩
theorem cw_J4_1 : CWs RJ4 1 RJ5 yJ5_init_d00df cJ5_init_d00df 2 none 1 := ⟨q_584, q_22, q_586, rfl, by decide +kernel, by decide +kernel⟩
theorem cw_J4_137 : CWs RJ4 137 RJ0 yJ0_init_81219 cJ0_init_81219 2 none 1 := ⟨q_815, q_24, q_817, rfl, by decide +kernel, by decide +kernel⟩
theorem cw_J1_9 : CWs RJ1 9 RJ0 yJ0_checkIndex_df160 cJ0_checkIndex_df160 2 none 2 := ⟨q_884, q_24, q_747, rfl, by decide +kernel, by decide +kernel⟩
theorem cw_J7_339 : CWs RJ7 339 RJ7 yJ7_copyOfRangeByte_39247 cJ7_copyOfRangeByte_39247 5 (some (.array .byte)) 3 := ⟨q_839, q_15, q_841, rfl, by decide +kernel, by decide +kernel⟩
theorem cw_J7_343 : CWs RJ7 343 RJ7 yJ7_checkLength_df160 cJ7_checkLength_df160 2 none 2 := ⟨q_842, q_15, q_844, rfl, by decide +kernel, by decide +kernel⟩
set_option maxRecDepth 100000 in
set_option maxHeartbeats 4000000 in
theorem b_J3_checkIndex_8e157_b9 {K : Kt} {X : Xt} (hp : St K) (hB : Bx K X { frames := 0, cells := 0, slots := 0, locals := 0 } cJ3_checkIndex_8e157 3 RJ3 (some .int)) {r : Int32} {M1 : Mem} {x0 : Int32} {x1 : Int32} {n2 : Nat} {M : Mem} (hF : f_J3_checkIndex_8e157_b9 x0 x1 n2 M = some (r, M1)) : Wt K X (QM K X (some (vi r)) M1 0 0) 0 0 M 9 [(0, vi x0), (1, vi x1), (2, vr n2)] [] := by
  unfold f_J3_checkIndex_8e157_b9 at hF
  refine w_aload_n hB 2 dJ3_checkIndex_8e157_9 rfl rfl ?_
  refine w_iload_n hB 0 dJ3_checkIndex_8e157_10 rfl rfl ?_
  refine w_iload_n hB 1 dJ3_checkIndex_8e157_11 rfl rfl ?_
  cases hF
set_option maxRecDepth 100000 in
set_option maxHeartbeats 4000000 in
theorem b_J3_checkIndex_8e157 {K : Kt} {X : Xt} (hp : St K) (hB : Bx K X { frames := 0, cells := 0, slots := 0, locals := 0 } cJ3_checkIndex_8e157 3 RJ3 (some .int)) {r : Int32} {M1 : Mem} {x0 : Int32} {x1 : Int32} {n2 : Nat} {M : Mem} (hF : f_J3_checkIndex_8e157 x0 x1 n2 M = some (r, M1)) : Wt K X (QM K X (some (vi r)) M1 0 0) 0 0 M 0 [(0, vi x0), (1, vi x1), (2, vr n2)] [] := by
  unfold f_J3_checkIndex_8e157 at hF
  refine w_iload_n hB 0 dJ3_checkIndex_8e157_0 rfl rfl ?_
  refine w_if_lt hB 9 dJ3_checkIndex_8e157_1 (by decide) (fun hc => ?_) (fun hc => ?_)
  · replace hF := ifT hc hF
    exact Wt.sub (L' := [(0, vi x0), (1, vi x1), (2, vr n2)]) [0, 1, 2] rfl (b_J3_checkIndex_8e157_b9 hp hB hF)
  · replace hF := ifF hc hF
    refine w_iload_n hB 0 dJ3_checkIndex_8e157_4 rfl rfl ?_
    refine w_iload_n hB 1 dJ3_checkIndex_8e157_5 rfl rfl ?_
    refine w_icmp_lt hB 16 dJ3_checkIndex_8e157_6 (by decide) (fun hc => ?_) (fun hc => ?_)
    · replace hF := ifT hc hF
      refine w_iload_n hB 0 dJ3_checkIndex_8e157_16 rfl rfl ?_
      obtain ⟨e1, e2⟩ := retS hF
      subst e2
      exact w_iret hB dJ3_checkIndex_8e157_17 e1
    · replace hF := ifF hc hF
      exact Wt.sub (L' := [(0, vi x0), (1, vi x1), (2, vr n2)]) [0, 1, 2] rfl (b_J3_checkIndex_8e157_b9 hp hB hF)
theorem c_J3_checkIndex_8e157 {K : Kt} {l : Launch} (hp : St K) {r : Int32} {M1 : Mem} {x0 : Int32} {x1 : Int32} {n2 : Nat} {M : Mem} (hF : f_J3_checkIndex_8e157 x0 x1 n2 M = some (r, M1)) : MT K l yJ3_checkIndex_8e157 cJ3_checkIndex_8e157 3 (some .int) { frames := 0, cells := 0, slots := 0, locals := 0 } [vi x0, vi x1, vr n2] M (some (vi r)) M1 0 0 :=
  MT_of (by decide) rfl (Nat.le_of_ble_eq_true rfl) (fun X _ hB _ => b_J3_checkIndex_8e157 hp hB hF)
set_option maxRecDepth 100000 in
set_option maxHeartbeats 4000000 in
theorem b_J0_checkIndex_df160 {K : Kt} {X : Xt} (hp : St K) (hB : Bx K X { frames := 1, cells := 0, slots := 0, locals := 22 } cJ0_checkIndex_df160 2 RJ0 none) {M1 : Mem} {x0 : Int32} {x1 : Int32} {M : Mem} (hF : f_J0_checkIndex_df160 x0 x1 M = some M1) : Wt K X (QM K X none M1 0 0) 0 0 M 0 [(0, vi x0), (1, vi x1)] [] := by
  unfold f_J0_checkIndex_df160 at hF
  refine w_iload_n hB 0 dJ0_checkIndex_df160_0 rfl rfl ?_
  refine w_iload_n hB 1 dJ0_checkIndex_df160_1 rfl rfl ?_
  refine w_getfmt hB hp q_672 dJ0_checkIndex_df160_2 ?_
  obtain ⟨r1, M1m, hc_M1m, hF⟩ := clS hF
  have q_M1m : EQ M M1m := k_J3_checkIndex_8e157 hc_M1m
  have x_M1m := q_M1m.gx
  refine w_callS (M1 := M1m) hB (As := [vi x0, vi x1, vr 60]) (st := []) cw_J0_1059 q_749 (c_J3_checkIndex_8e157 hp hc_M1m) ⟨rfl, rfl⟩ ⟨Nat.le_of_ble_eq_true rfl, Nat.le_of_ble_eq_true rfl⟩ (by decide) rfl (Nat.le_of_ble_eq_true rfl) dJ0_checkIndex_df160_5 rfl ?_ (Or.inl rfl)
  refine w_pop hB rfl dJ0_checkIndex_df160_8 ?_
  cases hF
  exact w_vret hB dJ0_checkIndex_df160_9
theorem c_J0_checkIndex_df160 {K : Kt} {l : Launch} (hp : St K) {M1 : Mem} {x0 : Int32} {x1 : Int32} {M : Mem} (hF : f_J0_checkIndex_df160 x0 x1 M = some M1) : MT K l yJ0_checkIndex_df160 cJ0_checkIndex_df160 2 none { frames := 1, cells := 0, slots := 0, locals := 22 } [vi x0, vi x1] M none M1 0 0 :=
  MT_of (by decide) rfl (Nat.le_of_ble_eq_true rfl) (fun X _ hB _ => b_J0_checkIndex_df160 hp hB hF)
def f_J0_coder_7d493K (n0 : Nat) (M : Mem) : Option (Int32 × Mem) :=
  if (1 : Int32) = 0 then
    some (1, M)
  else
    gd (400 ≤ n0 ∧ n0 < 426) <|
    some (0, M)
theorem k_J0_coder_7d493K {n0 : Nat} {M Z : Mem} {r : Int32} (h : f_J0_coder_7d493K n0 M = some (r, Z)) : EQ M Z := by
  unfold f_J0_coder_7d493K at h
  rcases ifS h with ⟨-, h⟩ | ⟨-, h⟩
  · obtain ⟨-, e⟩ := retS h
    rw [← e]
    exact (EQ.refl M)
  · obtain ⟨gq3, h⟩ := gdS h
    obtain ⟨-, e⟩ := retS h
    rw [← e]
    exact (EQ.refl M)
set_option maxRecDepth 100000 in
set_option maxHeartbeats 4000000 in
theorem b_J0_coder_7d493K {K : Kt} {X : Xt} (hp : St K) (hB : Bx K X { frames := 0, cells := 0, slots := 0, locals := 0 } cJ0_coder_7d493 1 RJ0 (some .byte)) {r : Int32} {M1 : Mem} {n0 : Nat} {M : Mem} (hF : f_J0_coder_7d493K n0 M = some (r, M1)) : Wt K X (QM K X (some (vi r)) M1 0 0) 0 0 M 0 [(0, vr n0)] [] := by
  unfold f_J0_coder_7d493K at hF
  refine w_getcomp hB hp q_694 dJ0_coder_7d493_0 ?_
  refine w_if_eq hB 13 dJ0_coder_7d493_3 (by decide) (fun hc => ?_) (fun hc => ?_)
  · replace hF := ifT hc hF
    refine w_iconst hB 1 (by decide) dJ0_coder_7d493_13 ?_
    obtain ⟨e1, e2⟩ := retS hF
    subst e2
    exact w_sret hB rfl dJ0_coder_7d493_14 e1
  · replace hF := ifF hc hF
    refine w_aload_n hB 0 dJ0_coder_7d493_6 rfl rfl ?_
    obtain ⟨g1, hF⟩ := gdS hF
    refine w_strcoder hB hp g1 q_859 dJ0_coder_7d493_7 ?_
    refine w_goto hB 14 dJ0_coder_7d493_10 (by decide) ?_
    obtain ⟨e1, e2⟩ := retS hF
    subst e2
    exact w_sret hB rfl dJ0_coder_7d493_14 e1
theorem c_J0_coder_7d493K {K : Kt} {l : Launch} (hp : St K) {r : Int32} {M1 : Mem} {n0 : Nat} {M : Mem} (hF : f_J0_coder_7d493K n0 M = some (r, M1)) : MT K l yJ0_coder_7d493 cJ0_coder_7d493 1 (some .byte) { frames := 0, cells := 0, slots := 0, locals := 0 } [vr n0] M (some (vi r)) M1 0 0 :=
  MT_of (by decide) rfl (Nat.le_of_ble_eq_true rfl) (fun X _ hB _ => b_J0_coder_7d493K hp hB hF)
def f_J0_coder_7d493D (n0 : Nat) (M : Mem) : Option (Int32 × Mem) :=
  if (1 : Int32) = 0 then
    some (1, M)
  else
    gd (1000 ≤ n0 ∧ dsc M n0 = 10 ∧ n0 - 753 < M.2.2.2) <|
    gd (vp_nar .byte (M.1 n0 1) = (M.1 n0 1)) <|
    some (M.1 n0 1, M)
theorem k_J0_coder_7d493D {n0 : Nat} {M Z : Mem} {r : Int32} (h : f_J0_coder_7d493D n0 M = some (r, Z)) : EQ M Z := by
  unfold f_J0_coder_7d493D at h
  rcases ifS h with ⟨-, h⟩ | ⟨-, h⟩
  · obtain ⟨-, e⟩ := retS h
    rw [← e]
    exact (EQ.refl M)
  · obtain ⟨gq3, h⟩ := gdS h
    obtain ⟨gq4, h⟩ := gdS h
    obtain ⟨-, e⟩ := retS h
    rw [← e]
    exact (EQ.refl M)
set_option maxRecDepth 100000 in
set_option maxHeartbeats 4000000 in
theorem b_J0_coder_7d493D {K : Kt} {X : Xt} (hp : St K) (hB : Bx K X { frames := 0, cells := 0, slots := 0, locals := 0 } cJ0_coder_7d493 1 RJ0 (some .byte)) {r : Int32} {M1 : Mem} {n0 : Nat} {M : Mem} (hF : f_J0_coder_7d493D n0 M = some (r, M1)) : Wt K X (QM K X (some (vi r)) M1 0 0) 0 0 M 0 [(0, vr n0)] [] := by
  unfold f_J0_coder_7d493D at hF
  refine w_getcomp hB hp q_694 dJ0_coder_7d493_0 ?_
  refine w_if_eq hB 13 dJ0_coder_7d493_3 (by decide) (fun hc => ?_) (fun hc => ?_)
  · replace hF := ifT hc hF
    refine w_iconst hB 1 (by decide) dJ0_coder_7d493_13 ?_
    obtain ⟨e1, e2⟩ := retS hF
    subst e2
    exact w_sret hB rfl dJ0_coder_7d493_14 e1
  · replace hF := ifF hc hF
    refine w_aload_n hB 0 dJ0_coder_7d493_6 rfl rfl ?_
    obtain ⟨g1, hF⟩ := gdS hF
    refine w_getI hB ff_J0_1 (dqM g1) q_859 dJ0_coder_7d493_7 ?_
    refine w_goto hB 14 dJ0_coder_7d493_10 (by decide) ?_
    obtain ⟨g2, hF⟩ := gdS hF
    obtain ⟨e1, e2⟩ := retS hF
    subst e2
    exact w_sret hB (congrArg Value.int g2) dJ0_coder_7d493_14 e1
theorem c_J0_coder_7d493D {K : Kt} {l : Launch} (hp : St K) {r : Int32} {M1 : Mem} {n0 : Nat} {M : Mem} (hF : f_J0_coder_7d493D n0 M = some (r, M1)) : MT K l yJ0_coder_7d493 cJ0_coder_7d493 1 (some .byte) { frames := 0, cells := 0, slots := 0, locals := 0 } [vr n0] M (some (vi r)) M1 0 0 :=
  MT_of (by decide) rfl (Nat.le_of_ble_eq_true rfl) (fun X _ hB _ => b_J0_coder_7d493D hp hB hF)
def f_J0_length_8abf5K (n0 : Nat) (M : Mem) : Option (Int32 × Mem) :=
  gd (400 ≤ n0 ∧ n0 < 426) <|
  cl (f_J0_coder_7d493K n0 M) fun r1 M1m =>
  some ((Int32.ofNat (lsL.getD ((n0 + 50) - 450) 0)) >>> (r1 &&& 31), M1m)
theorem k_J0_length_8abf5K {n0 : Nat} {M Z : Mem} {r : Int32} (h : f_J0_length_8abf5K n0 M = some (r, Z)) : EQ M Z := by
  unfold f_J0_length_8abf5K at h
  obtain ⟨gq0, h⟩ := gdS h
  obtain ⟨r1, M1m, c_M1m, h⟩ := clS h
  have q_M1m : EQ M M1m := EQ.tr (EQ.refl M) (k_J0_coder_7d493K c_M1m)
  obtain ⟨-, e⟩ := retS h
  rw [← e]
  exact q_M1m
set_option maxRecDepth 100000 in
set_option maxHeartbeats 4000000 in
theorem b_J0_length_8abf5K {K : Kt} {X : Xt} (hp : St K) (hB : Bx K X { frames := 1, cells := 0, slots := 0, locals := 20 } cJ0_length_8abf5 1 RJ0 (some .int)) {r : Int32} {M1 : Mem} {n0 : Nat} {M : Mem} (hF : f_J0_length_8abf5K n0 M = some (r, M1)) : Wt K X (QM K X (some (vi r)) M1 0 0) 0 0 M 0 [(0, vr n0)] [] := by
  unfold f_J0_length_8abf5K at hF
  refine w_aload_n hB 0 dJ0_length_8abf5_0 rfl rfl ?_
  obtain ⟨g1, hF⟩ := gdS hF
  refine w_strval hB hp g1 q_858 dJ0_length_8abf5_1 ?_
  refine w_salen hB hp (by omega) dJ0_length_8abf5_4 ?_
  refine w_aload_n hB 0 dJ0_length_8abf5_5 rfl rfl ?_
  obtain ⟨r1, M1m, hc_M1m, hF⟩ := clS hF
  have q_M1m : EQ M M1m := k_J0_coder_7d493K hc_M1m
  have x_M1m := q_M1m.gx
  refine w_callStr (M1 := M1m) hB hp g1 (As := []) (st := [vi (Int32.ofNat (lsL.getD ((n0 + 50) - 450) 0))]) cw_J0_335 q_691 q_692 (c_J0_coder_7d493K hp hc_M1m) ⟨rfl, rfl⟩ ⟨Nat.le_of_ble_eq_true rfl, Nat.le_of_ble_eq_true rfl⟩ (by decide) rfl (Nat.le_of_ble_eq_true rfl) dJ0_length_8abf5_6 rfl ?_ (Or.inl rfl)
  refine w_ishr hB dJ0_length_8abf5_9 ?_
  obtain ⟨e1, e2⟩ := retS hF
  subst e2
  exact w_iret hB dJ0_length_8abf5_10 e1
theorem c_J0_length_8abf5K {K : Kt} {l : Launch} (hp : St K) {r : Int32} {M1 : Mem} {n0 : Nat} {M : Mem} (hF : f_J0_length_8abf5K n0 M = some (r, M1)) : MT K l yJ0_length_8abf5 cJ0_length_8abf5 1 (some .int) { frames := 1, cells := 0, slots := 0, locals := 20 } [vr n0] M (some (vi r)) M1 0 0 :=
  MT_of (by decide) rfl (Nat.le_of_ble_eq_true rfl) (fun X _ hB _ => b_J0_length_8abf5K hp hB hF)
def f_J0_length_8abf5D (n0 : Nat) (M : Mem) : Option (Int32 × Mem) :=
  gd (1000 ≤ n0 ∧ dsc M n0 = 10 ∧ n0 - 753 < M.2.2.2) <|
  gd (1000 ≤ (M.2.2.1 n0 0) ∧ dsc M (M.2.2.1 n0 0) = 22 ∧ (M.2.2.1 n0 0) - 753 < M.2.2.2) <|
  cl (f_J0_coder_7d493D n0 M) fun r1 M1m =>
  some ((Int32.ofNat (dln M (M.2.2.1 n0 0))) >>> (r1 &&& 31), M1m)
theorem k_J0_length_8abf5D {n0 : Nat} {M Z : Mem} {r : Int32} (h : f_J0_length_8abf5D n0 M = some (r, Z)) : EQ M Z := by
  unfold f_J0_length_8abf5D at h
  obtain ⟨gq0, h⟩ := gdS h
  obtain ⟨gq1, h⟩ := gdS h
  obtain ⟨r1, M1m, c_M1m, h⟩ := clS h
  have q_M1m : EQ M M1m := EQ.tr (EQ.refl M) (k_J0_coder_7d493D c_M1m)
  obtain ⟨-, e⟩ := retS h
  rw [← e]
  exact q_M1m
set_option maxRecDepth 100000 in
set_option maxHeartbeats 4000000 in
theorem b_J0_length_8abf5D {K : Kt} {X : Xt} (hp : St K) (hB : Bx K X { frames := 1, cells := 0, slots := 0, locals := 20 } cJ0_length_8abf5 1 RJ0 (some .int)) {r : Int32} {M1 : Mem} {n0 : Nat} {M : Mem} (hF : f_J0_length_8abf5D n0 M = some (r, M1)) : Wt K X (QM K X (some (vi r)) M1 0 0) 0 0 M 0 [(0, vr n0)] [] := by
  unfold f_J0_length_8abf5D at hF
  refine w_aload_n hB 0 dJ0_length_8abf5_0 rfl rfl ?_
  obtain ⟨g1, hF⟩ := gdS hF
  refine w_getR hB ff_J0_0 (dqM g1) q_858 dJ0_length_8abf5_1 ?_
  obtain ⟨g2, hF⟩ := gdS hF
  refine w_alen hB (v := Int32.ofNat (dln M (M.2.2.1 n0 0))) (c := 2) (dqM g2) (by decide) (sl_d g2.1 rfl) rfl dJ0_length_8abf5_4 ?_
  refine w_aload_n hB 0 dJ0_length_8abf5_5 rfl rfl ?_
  obtain ⟨r1, M1m, hc_M1m, hF⟩ := clS hF
  have q_M1m : EQ M M1m := k_J0_coder_7d493D hc_M1m
  have x_M1m := q_M1m.gx
  refine w_callV (M1 := M1m) hB (ci := 9) (As := []) (st := [vi (Int32.ofNat (dln M (M.2.2.1 n0 0)))]) cw_J0_335 q_691 q_692 rfl (dqM g1) (c_J0_coder_7d493D hp hc_M1m) ⟨rfl, rfl⟩ ⟨Nat.le_of_ble_eq_true rfl, Nat.le_of_ble_eq_true rfl⟩ (by decide) rfl (Nat.le_of_ble_eq_true rfl) dJ0_length_8abf5_6 rfl ?_ (Or.inl rfl)
  refine w_ishr hB dJ0_length_8abf5_9 ?_
  obtain ⟨e1, e2⟩ := retS hF
  subst e2
  exact w_iret hB dJ0_length_8abf5_10 e1
theorem c_J0_length_8abf5D {K : Kt} {l : Launch} (hp : St K) {r : Int32} {M1 : Mem} {n0 : Nat} {M : Mem} (hF : f_J0_length_8abf5D n0 M = some (r, M1)) : MT K l yJ0_length_8abf5 cJ0_length_8abf5 1 (some .int) { frames := 1, cells := 0, slots := 0, locals := 20 } [vr n0] M (some (vi r)) M1 0 0 :=
  MT_of (by decide) rfl (Nat.le_of_ble_eq_true rfl) (fun X _ hB _ => b_J0_length_8abf5D hp hB hF)
def f_J0_isLatin1_aae02D (n0 : Nat) (M : Mem) : Option (Int32 × Mem) :=
  if (1 : Int32) = 0 then
    some (0, M)
  else
    gd (1000 ≤ n0 ∧ dsc M n0 = 10 ∧ n0 - 753 < M.2.2.2) <|
    if (M.1 n0 1) = 0 then
      some (1, M)
    else
      some (0, M)
theorem k_J0_isLatin1_aae02D {n0 : Nat} {M Z : Mem} {r : Int32} (h : f_J0_isLatin1_aae02D n0 M = some (r, Z)) : EQ M Z := by
  unfold f_J0_isLatin1_aae02D at h
  rcases ifS h with ⟨-, h⟩ | ⟨-, h⟩
  · obtain ⟨-, e⟩ := retS h
    rw [← e]
    exact (EQ.refl M)
  · obtain ⟨gq3, h⟩ := gdS h
    rcases ifS h with ⟨-, h⟩ | ⟨-, h⟩
    · obtain ⟨-, e⟩ := retS h
      rw [← e]
      exact (EQ.refl M)
    · obtain ⟨-, e⟩ := retS h
      rw [← e]
      exact (EQ.refl M)
set_option maxRecDepth 100000 in
set_option maxHeartbeats 4000000 in
theorem b_J0_isLatin1_aae02D {K : Kt} {X : Xt} (hp : St K) (hB : Bx K X { frames := 0, cells := 0, slots := 0, locals := 0 } cJ0_isLatin1_aae02 1 RJ0 (some .boolean)) {r : Int32} {M1 : Mem} {n0 : Nat} {M : Mem} (hF : f_J0_isLatin1_aae02D n0 M = some (r, M1)) : Wt K X (QM K X (some (vi r)) M1 0 0) 0 0 M 0 [(0, vr n0)] [] := by
  unfold f_J0_isLatin1_aae02D at hF
  refine w_getcomp hB hp q_694 dJ0_isLatin1_aae02_0 ?_
  refine w_if_eq hB 17 dJ0_isLatin1_aae02_3 (by decide) (fun hc => ?_) (fun hc => ?_)
  · replace hF := ifT hc hF
    refine w_iconst hB 0 (by decide) dJ0_isLatin1_aae02_17 ?_
    obtain ⟨e1, e2⟩ := retS hF
    subst e2
    exact w_zret hB (by decide) dJ0_isLatin1_aae02_18 e1
  · replace hF := ifF hc hF
    refine w_aload_n hB 0 dJ0_isLatin1_aae02_6 rfl rfl ?_
    obtain ⟨g1, hF⟩ := gdS hF
    refine w_getI hB ff_J0_1 (dqM g1) q_859 dJ0_isLatin1_aae02_7 ?_
    refine w_if_ne hB 17 dJ0_isLatin1_aae02_10 (by decide) (fun hc => ?_) (fun hc => ?_)
    · replace hF := ifF hc hF
      refine w_iconst hB 0 (by decide) dJ0_isLatin1_aae02_17 ?_
      obtain ⟨e1, e2⟩ := retS hF
      subst e2
      exact w_zret hB (by decide) dJ0_isLatin1_aae02_18 e1
    · replace hF := ifT hc hF
      refine w_iconst hB 1 (by decide) dJ0_isLatin1_aae02_13 ?_
      refine w_goto hB 18 dJ0_isLatin1_aae02_14 (by decide) ?_
      obtain ⟨e1, e2⟩ := retS hF
      subst e2
      exact w_zret hB (by decide) dJ0_isLatin1_aae02_18 e1
theorem c_J0_isLatin1_aae02D {K : Kt} {l : Launch} (hp : St K) {r : Int32} {M1 : Mem} {n0 : Nat} {M : Mem} (hF : f_J0_isLatin1_aae02D n0 M = some (r, M1)) : MT K l yJ0_isLatin1_aae02 cJ0_isLatin1_aae02 1 (some .boolean) { frames := 0, cells := 0, slots := 0, locals := 0 } [vr n0] M (some (vi r)) M1 0 0 :=
  MT_of (by decide) rfl (Nat.le_of_ble_eq_true rfl) (fun X _ hB _ => b_J0_isLatin1_aae02D hp hB hF)
def f_J1_charAt_3b067D (n0 : Nat) (x1 : Int32) (M : Mem) : Option (Int32 × Mem) :=
  gd (1000 ≤ n0 ∧ dsc M n0 = 22 ∧ n0 - 753 < M.2.2.2) <|
  clv (f_J0_checkIndex_df160 x1 (Int32.ofNat (dln M n0)) M) fun M1m =>
  gd (inb x1 (dln M n0)) <|
  gd (vp_nar .char ((((M1m.1 n0 x1.toNatClampNeg) &&& 255).toUInt32 % 65536).toInt32) = ((((M1m.1 n0 x1.toNatClampNeg) &&& 255).toUInt32 % 65536).toInt32)) <|
  some ((((M1m.1 n0 x1.toNatClampNeg) &&& 255).toUInt32 % 65536).toInt32, M1m)
theorem k_J1_charAt_3b067D {n0 : Nat} {x1 : Int32} {M Z : Mem} {r : Int32} (h : f_J1_charAt_3b067D n0 x1 M = some (r, Z)) : EQ M Z := by
  unfold f_J1_charAt_3b067D at h
  obtain ⟨gq0, h⟩ := gdS h
  obtain ⟨M1m, c_M1m, h⟩ := clvS h
  have q_M1m : EQ M M1m := EQ.tr (EQ.refl M) (k_J0_checkIndex_df160 c_M1m)
  obtain ⟨gq2, h⟩ := gdS h
  obtain ⟨gq3, h⟩ := gdS h
  obtain ⟨-, e⟩ := retS h
  rw [← e]
  exact q_M1m
set_option maxRecDepth 100000 in
set_option maxHeartbeats 4000000 in
theorem b_J1_charAt_3b067D {K : Kt} {X : Xt} (hp : St K) (hB : Bx K X { frames := 2, cells := 0, slots := 0, locals := 43 } cJ1_charAt_3b067 2 RJ1 (some .char)) {r : Int32} {M1 : Mem} {n0 : Nat} {x1 : Int32} {M : Mem} (hF : f_J1_charAt_3b067D n0 x1 M = some (r, M1)) : Wt K X (QM K X (some (vi r)) M1 0 0) 0 0 M 0 [(0, vr n0), (1, vi x1)] [] := by
  unfold f_J1_charAt_3b067D at hF
  refine w_iload_n hB 1 dJ1_charAt_3b067_0 rfl rfl ?_
  refine w_aload_n hB 0 dJ1_charAt_3b067_1 rfl rfl ?_
  obtain ⟨g1, hF⟩ := gdS hF
  refine w_alen hB (v := Int32.ofNat (dln M n0)) (c := 2) (dqM g1) (by decide) (sl_d g1.1 rfl) rfl dJ1_charAt_3b067_2 ?_
  obtain ⟨M1m, hc_M1m, hF⟩ := clvS hF
  have q_M1m : EQ M M1m := k_J0_checkIndex_df160 hc_M1m
  have x_M1m := q_M1m.gx
  refine w_callS (M1 := M1m) hB (As := [vi x1, vi (Int32.ofNat (dln M n0))]) (st := []) cw_J1_9 q_746 (c_J0_checkIndex_df160 hp hc_M1m) ⟨rfl, rfl⟩ ⟨Nat.le_of_ble_eq_true rfl, Nat.le_of_ble_eq_true rfl⟩ (by decide) rfl (Nat.le_of_ble_eq_true rfl) dJ1_charAt_3b067_3 rfl ?_ (Or.inl rfl)
  refine w_aload_n hB 0 dJ1_charAt_3b067_6 rfl rfl ?_
  refine w_iload_n hB 1 dJ1_charAt_3b067_7 rfl rfl ?_
  obtain ⟨g2, hF⟩ := gdS hF
  refine w_bald hB (dqM (GX.dyo x_M1m g1)) (sl_d (GX.dyo x_M1m g1).1 (GX.dl x_M1m g1 rfl)) g2 dJ1_charAt_3b067_8 ?_
  refine w_sipush hB 255 (by decide) dJ1_charAt_3b067_9 ?_
  refine w_iand hB dJ1_charAt_3b067_12 ?_
  refine w_i2c hB dJ1_charAt_3b067_13 ?_
  obtain ⟨g3, hF⟩ := gdS hF
  obtain ⟨e1, e2⟩ := retS hF
  subst e2
  exact w_sret hB (congrArg Value.int g3) dJ1_charAt_3b067_14 e1
theorem c_J1_charAt_3b067D {K : Kt} {l : Launch} (hp : St K) {r : Int32} {M1 : Mem} {n0 : Nat} {x1 : Int32} {M : Mem} (hF : f_J1_charAt_3b067D n0 x1 M = some (r, M1)) : MT K l yJ1_charAt_3b067 cJ1_charAt_3b067 2 (some .char) { frames := 2, cells := 0, slots := 0, locals := 43 } [vr n0, vi x1] M (some (vi r)) M1 0 0 :=
  MT_of (by decide) rfl (Nat.le_of_ble_eq_true rfl) (fun X _ hB _ => b_J1_charAt_3b067D hp hB hF)
def f_J0_charAt_5068eD (n0 : Nat) (x1 : Int32) (M : Mem) : Option (Int32 × Mem) :=
  gd (1000 ≤ n0 ∧ dsc M n0 = 10 ∧ n0 - 753 < M.2.2.2) <|
  cl (f_J0_isLatin1_aae02D n0 M) fun r1 M1m =>
  if r1 = 0 then
    none
  else
    cl (f_J1_charAt_3b067D (M1m.2.2.1 n0 0) x1 M1m) fun r2 M2m =>
    gd (vp_nar .char r2 = r2) <|
    some (r2, M2m)
theorem k_J0_charAt_5068eD {n0 : Nat} {x1 : Int32} {M Z : Mem} {r : Int32} (h : f_J0_charAt_5068eD n0 x1 M = some (r, Z)) : EQ M Z := by
  unfold f_J0_charAt_5068eD at h
  obtain ⟨gq0, h⟩ := gdS h
  obtain ⟨r1, M1m, c_M1m, h⟩ := clS h
  have q_M1m : EQ M M1m := EQ.tr (EQ.refl M) (k_J0_isLatin1_aae02D c_M1m)
  rcases ifS h with ⟨-, h⟩ | ⟨-, h⟩
  · cases h
  · obtain ⟨r2, M2m, c_M2m, h⟩ := clS h
    have q_M2m : EQ M M2m := EQ.tr q_M1m (k_J1_charAt_3b067D c_M2m)
    obtain ⟨gq6, h⟩ := gdS h
    obtain ⟨-, e⟩ := retS h
    rw [← e]
    exact q_M2m
set_option maxRecDepth 100000 in
set_option maxHeartbeats 4000000 in
theorem b_J0_charAt_5068eD {K : Kt} {X : Xt} (hp : St K) (hB : Bx K X { frames := 3, cells := 0, slots := 0, locals := 64 } cJ0_charAt_5068e 2 RJ0 (some .char)) {r : Int32} {M1 : Mem} {n0 : Nat} {x1 : Int32} {M : Mem} (hF : f_J0_charAt_5068eD n0 x1 M = some (r, M1)) : Wt K X (QM K X (some (vi r)) M1 0 0) 0 0 M 0 [(0, vr n0), (1, vi x1)] [] := by
  unfold f_J0_charAt_5068eD at hF
  refine w_aload_n hB 0 dJ0_charAt_5068e_0 rfl rfl ?_
  obtain ⟨g1, hF⟩ := gdS hF
  obtain ⟨r1, M1m, hc_M1m, hF⟩ := clS hF
  have q_M1m : EQ M M1m := k_J0_isLatin1_aae02D hc_M1m
  have x_M1m := q_M1m.gx
  refine w_callV (M1 := M1m) hB (ci := 9) (As := []) (st := []) cw_J0_492 q_878 q_879 rfl (dqM g1) (c_J0_isLatin1_aae02D hp hc_M1m) ⟨rfl, rfl⟩ ⟨Nat.le_of_ble_eq_true rfl, Nat.le_of_ble_eq_true rfl⟩ (by decide) rfl (Nat.le_of_ble_eq_true rfl) dJ0_charAt_5068e_1 rfl ?_ (Or.inl rfl)
  refine w_if_eq hB 16 dJ0_charAt_5068e_4 (by decide) (fun hc => ?_) (fun hc => ?_)
  · replace hF := ifT hc hF
    refine w_aload_n hB 0 dJ0_charAt_5068e_16 rfl rfl ?_
    refine w_getR hB ff_J0_0 (dqM (GX.dyo x_M1m g1)) q_858 dJ0_charAt_5068e_17 ?_
    refine w_iload_n hB 1 dJ0_charAt_5068e_20 rfl rfl ?_
    cases hF
  · replace hF := ifF hc hF
    refine w_aload_n hB 0 dJ0_charAt_5068e_7 rfl rfl ?_
    refine w_getR hB ff_J0_0 (dqM (GX.dyo x_M1m g1)) q_858 dJ0_charAt_5068e_8 ?_
    refine w_iload_n hB 1 dJ0_charAt_5068e_11 rfl rfl ?_
    obtain ⟨r2, M2m, hc_M2m, hF⟩ := clS hF
    have q_M2m : EQ M1m M2m := k_J1_charAt_3b067D hc_M2m
    have x_M2m := q_M2m.gx
    refine w_callS (M1 := M2m) hB (As := [vr (M1m.2.2.1 n0 0), vi x1]) (st := []) cw_J0_495 q_882 (c_J1_charAt_3b067D hp hc_M2m) ⟨rfl, rfl⟩ ⟨Nat.le_of_ble_eq_true rfl, Nat.le_of_ble_eq_true rfl⟩ (by decide) rfl (Nat.le_of_ble_eq_true rfl) dJ0_charAt_5068e_12 rfl ?_ (Or.inl rfl)
    obtain ⟨g2, hF⟩ := gdS hF
    obtain ⟨e1, e2⟩ := retS hF
    subst e2
    exact w_sret hB (congrArg Value.int g2) dJ0_charAt_5068e_15 e1
theorem c_J0_charAt_5068eD {K : Kt} {l : Launch} (hp : St K) {r : Int32} {M1 : Mem} {n0 : Nat} {x1 : Int32} {M : Mem} (hF : f_J0_charAt_5068eD n0 x1 M = some (r, M1)) : MT K l yJ0_charAt_5068e cJ0_charAt_5068e 2 (some .char) { frames := 3, cells := 0, slots := 0, locals := 64 } [vr n0, vi x1] M (some (vi r)) M1 0 0 :=
  MT_of (by decide) rfl (Nat.le_of_ble_eq_true rfl) (fun X _ hB _ => b_J0_charAt_5068eD hp hB hF)
def f_J1_canEncode_fc78d (x0 : Int32) (M : Mem) : Option (Int32 × Mem) :=
  if 255 < x0 then
    some (0, M)
  else
    some (1, M)
theorem k_J1_canEncode_fc78d {x0 : Int32} {M Z : Mem} {r : Int32} (h : f_J1_canEncode_fc78d x0 M = some (r, Z)) : EQ M Z := by
  unfold f_J1_canEncode_fc78d at h
  rcases ifS h with ⟨-, h⟩ | ⟨-, h⟩
  · obtain ⟨-, e⟩ := retS h
    rw [← e]
    exact (EQ.refl M)
  · obtain ⟨-, e⟩ := retS h
    rw [← e]
    exact (EQ.refl M)
set_option maxRecDepth 100000 in
set_option maxHeartbeats 4000000 in
theorem b_J1_canEncode_fc78d {K : Kt} {X : Xt} (hp : St K) (hB : Bx K X { frames := 0, cells := 0, slots := 0, locals := 0 } cJ1_canEncode_fc78d 1 RJ1 (some .boolean)) {r : Int32} {M1 : Mem} {x0 : Int32} {M : Mem} (hF : f_J1_canEncode_fc78d x0 M = some (r, M1)) : Wt K X (QM K X (some (vi r)) M1 0 0) 0 0 M 0 [(0, vi x0)] [] := by
  unfold f_J1_canEncode_fc78d at hF
  refine w_iload_n hB 0 dJ1_canEncode_fc78d_0 rfl rfl ?_
  refine w_sipush hB 255 (by decide) dJ1_canEncode_fc78d_1 ?_
  refine w_icmp_gt hB 11 dJ1_canEncode_fc78d_4 (by decide) (fun hc => ?_) (fun hc => ?_)
  · replace hF := ifT hc hF
    refine w_iconst hB 0 (by decide) dJ1_canEncode_fc78d_11 ?_
    obtain ⟨e1, e2⟩ := retS hF
    subst e2
    exact w_zret hB (by decide) dJ1_canEncode_fc78d_12 e1
  · replace hF := ifF hc hF
    refine w_iconst hB 1 (by decide) dJ1_canEncode_fc78d_7 ?_
    refine w_goto hB 12 dJ1_canEncode_fc78d_8 (by decide) ?_
    obtain ⟨e1, e2⟩ := retS hF
    subst e2
    exact w_zret hB (by decide) dJ1_canEncode_fc78d_12 e1
theorem c_J1_canEncode_fc78d {K : Kt} {l : Launch} (hp : St K) {r : Int32} {M1 : Mem} {x0 : Int32} {M : Mem} (hF : f_J1_canEncode_fc78d x0 M = some (r, M1)) : MT K l yJ1_canEncode_fc78d cJ1_canEncode_fc78d 1 (some .boolean) { frames := 0, cells := 0, slots := 0, locals := 0 } [vi x0] M (some (vi r)) M1 0 0 :=
  MT_of (by decide) rfl (Nat.le_of_ble_eq_true rfl) (fun X _ hB _ => b_J1_canEncode_fc78d hp hB hF)
def f_J5_isLatin1_aae02 (n0 : Nat) (M : Mem) : Option (Int32 × Mem) :=
  if (1 : Int32) = 0 then
    some (0, M)
  else
    gd (1000 ≤ n0 ∧ dsc M n0 = 11 ∧ n0 - 753 < M.2.2.2) <|
    if (M.1 n0 1) = 0 then
      some (1, M)
    else
      some (0, M)
theorem k_J5_isLatin1_aae02 {n0 : Nat} {M Z : Mem} {r : Int32} (h : f_J5_isLatin1_aae02 n0 M = some (r, Z)) : EQ M Z := by
  unfold f_J5_isLatin1_aae02 at h
  rcases ifS h with ⟨-, h⟩ | ⟨-, h⟩
  · obtain ⟨-, e⟩ := retS h
    rw [← e]
    exact (EQ.refl M)
  · obtain ⟨gq3, h⟩ := gdS h
    rcases ifS h with ⟨-, h⟩ | ⟨-, h⟩
    · obtain ⟨-, e⟩ := retS h
      rw [← e]
      exact (EQ.refl M)
    · obtain ⟨-, e⟩ := retS h
      rw [← e]
      exact (EQ.refl M)
set_option maxRecDepth 100000 in
set_option maxHeartbeats 4000000 in
theorem b_J5_isLatin1_aae02 {K : Kt} {X : Xt} (hp : St K) (hB : Bx K X { frames := 0, cells := 0, slots := 0, locals := 0 } cJ5_isLatin1_aae02 1 RJ5 (some .boolean)) {r : Int32} {M1 : Mem} {n0 : Nat} {M : Mem} (hF : f_J5_isLatin1_aae02 n0 M = some (r, M1)) : Wt K X (QM K X (some (vi r)) M1 0 0) 0 0 M 0 [(0, vr n0)] [] := by
  unfold f_J5_isLatin1_aae02 at hF
  refine w_getcomp hB hp q_588 dJ5_isLatin1_aae02_0 ?_
  refine w_if_eq hB 17 dJ5_isLatin1_aae02_3 (by decide) (fun hc => ?_) (fun hc => ?_)
  · replace hF := ifT hc hF
    refine w_iconst hB 0 (by decide) dJ5_isLatin1_aae02_17 ?_
    obtain ⟨e1, e2⟩ := retS hF
    subst e2
    exact w_zret hB (by decide) dJ5_isLatin1_aae02_18 e1
  · replace hF := ifF hc hF
    refine w_aload_n hB 0 dJ5_isLatin1_aae02_6 rfl rfl ?_
    obtain ⟨g1, hF⟩ := gdS hF
    refine w_getI hB ff_J4_1 (dqM g1) q_598 dJ5_isLatin1_aae02_7 ?_
    refine w_if_ne hB 17 dJ5_isLatin1_aae02_10 (by decide) (fun hc => ?_) (fun hc => ?_)
    · replace hF := ifF hc hF
      refine w_iconst hB 0 (by decide) dJ5_isLatin1_aae02_17 ?_
      obtain ⟨e1, e2⟩ := retS hF
      subst e2
      exact w_zret hB (by decide) dJ5_isLatin1_aae02_18 e1
    · replace hF := ifT hc hF
      refine w_iconst hB 1 (by decide) dJ5_isLatin1_aae02_13 ?_
      refine w_goto hB 18 dJ5_isLatin1_aae02_14 (by decide) ?_
      obtain ⟨e1, e2⟩ := retS hF
      subst e2
      exact w_zret hB (by decide) dJ5_isLatin1_aae02_18 e1
theorem c_J5_isLatin1_aae02 {K : Kt} {l : Launch} (hp : St K) {r : Int32} {M1 : Mem} {n0 : Nat} {M : Mem} (hF : f_J5_isLatin1_aae02 n0 M = some (r, M1)) : MT K l yJ5_isLatin1_aae02 cJ5_isLatin1_aae02 1 (some .boolean) { frames := 0, cells := 0, slots := 0, locals := 0 } [vr n0] M (some (vi r)) M1 0 0 :=
  MT_of (by decide) rfl (Nat.le_of_ble_eq_true rfl) (fun X _ hB _ => b_J5_isLatin1_aae02 hp hB hF)
def f_J5_getValue_6d5f1 (n0 : Nat) (M : Mem) : Option (Nat × Mem) :=
  gd (1000 ≤ n0 ∧ dsc M n0 = 11 ∧ n0 - 753 < M.2.2.2) <|
  some (M.2.2.1 n0 0, M)
theorem k_J5_getValue_6d5f1 {n0 : Nat} {M Z : Mem} {r : Nat} (h : f_J5_getValue_6d5f1 n0 M = some (r, Z)) : EQ M Z := by
  unfold f_J5_getValue_6d5f1 at h
  obtain ⟨gq0, h⟩ := gdS h
  obtain ⟨-, e⟩ := retS h
  rw [← e]
  exact (EQ.refl M)
set_option maxRecDepth 100000 in
set_option maxHeartbeats 4000000 in
theorem b_J5_getValue_6d5f1 {K : Kt} {X : Xt} (hp : St K) (hB : Bx K X { frames := 0, cells := 0, slots := 0, locals := 0 } cJ5_getValue_6d5f1 1 RJ5 (some (.array .byte))) {r : Nat} {M1 : Mem} {n0 : Nat} {M : Mem} (hF : f_J5_getValue_6d5f1 n0 M = some (r, M1)) : Wt K X (QM K X (some (vr r)) M1 0 0) 0 0 M 0 [(0, vr n0)] [] := by
  unfold f_J5_getValue_6d5f1 at hF
  refine w_aload_n hB 0 dJ5_getValue_6d5f1_0 rfl rfl ?_
  obtain ⟨g1, hF⟩ := gdS hF
  refine w_getR hB ff_J4_0 (dqM g1) q_597 dJ5_getValue_6d5f1_1 ?_
  obtain ⟨e1, e2⟩ := retS hF
  subst e2
  exact w_areta hB dJ5_getValue_6d5f1_4 e1
theorem c_J5_getValue_6d5f1 {K : Kt} {l : Launch} (hp : St K) {r : Nat} {M1 : Mem} {n0 : Nat} {M : Mem} (hF : f_J5_getValue_6d5f1 n0 M = some (r, M1)) : MT K l yJ5_getValue_6d5f1 cJ5_getValue_6d5f1 1 (some (.array .byte)) { frames := 0, cells := 0, slots := 0, locals := 0 } [vr n0] M (some (vr r)) M1 0 0 :=
  MT_of (by decide) rfl (Nat.le_of_ble_eq_true rfl) (fun X _ hB _ => b_J5_getValue_6d5f1 hp hB hF)
def f_J5_length_8abf5 (n0 : Nat) (M : Mem) : Option (Int32 × Mem) :=
  gd (1000 ≤ n0 ∧ dsc M n0 = 11 ∧ n0 - 753 < M.2.2.2) <|
  some (M.1 n0 3, M)
theorem k_J5_length_8abf5 {n0 : Nat} {M Z : Mem} {r : Int32} (h : f_J5_length_8abf5 n0 M = some (r, Z)) : EQ M Z := by
  unfold f_J5_length_8abf5 at h
  obtain ⟨gq0, h⟩ := gdS h
  obtain ⟨-, e⟩ := retS h
  rw [← e]
  exact (EQ.refl M)
set_option maxRecDepth 100000 in
set_option maxHeartbeats 4000000 in
theorem b_J5_length_8abf5 {K : Kt} {X : Xt} (hp : St K) (hB : Bx K X { frames := 0, cells := 0, slots := 0, locals := 0 } cJ5_length_8abf5 1 RJ5 (some .int)) {r : Int32} {M1 : Mem} {n0 : Nat} {M : Mem} (hF : f_J5_length_8abf5 n0 M = some (r, M1)) : Wt K X (QM K X (some (vi r)) M1 0 0) 0 0 M 0 [(0, vr n0)] [] := by
  unfold f_J5_length_8abf5 at hF
  refine w_aload_n hB 0 dJ5_length_8abf5_0 rfl rfl ?_
  obtain ⟨g1, hF⟩ := gdS hF
  refine w_getI hB ff_J4_3 (dqM g1) q_600 dJ5_length_8abf5_1 ?_
  obtain ⟨e1, e2⟩ := retS hF
  subst e2
  exact w_iret hB dJ5_length_8abf5_4 e1
theorem c_J5_length_8abf5 {K : Kt} {l : Launch} (hp : St K) {r : Int32} {M1 : Mem} {n0 : Nat} {M : Mem} (hF : f_J5_length_8abf5 n0 M = some (r, M1)) : MT K l yJ5_length_8abf5 cJ5_length_8abf5 1 (some .int) { frames := 0, cells := 0, slots := 0, locals := 0 } [vr n0] M (some (vi r)) M1 0 0 :=
  MT_of (by decide) rfl (Nat.le_of_ble_eq_true rfl) (fun X _ hB _ => b_J5_length_8abf5 hp hB hF)
def f_J4_length_8abf5 (n0 : Nat) (M : Mem) : Option (Int32 × Mem) :=
  gd (1000 ≤ n0 ∧ dsc M n0 = 11 ∧ n0 - 753 < M.2.2.2) <|
  cl (f_J5_length_8abf5 n0 M) fun r1 M1m =>
  some (r1, M1m)
theorem k_J4_length_8abf5 {n0 : Nat} {M Z : Mem} {r : Int32} (h : f_J4_length_8abf5 n0 M = some (r, Z)) : EQ M Z := by
  unfold f_J4_length_8abf5 at h
  obtain ⟨gq0, h⟩ := gdS h
  obtain ⟨r1, M1m, c_M1m, h⟩ := clS h
  have q_M1m : EQ M M1m := EQ.tr (EQ.refl M) (k_J5_length_8abf5 c_M1m)
  obtain ⟨-, e⟩ := retS h
  rw [← e]
  exact q_M1m
set_option maxRecDepth 100000 in
set_option maxHeartbeats 4000000 in
theorem b_J4_length_8abf5 {K : Kt} {X : Xt} (hp : St K) (hB : Bx K X { frames := 1, cells := 0, slots := 0, locals := 20 } cJ4_length_8abf5 1 RJ4 (some .int)) {r : Int32} {M1 : Mem} {n0 : Nat} {M : Mem} (hF : f_J4_length_8abf5 n0 M = some (r, M1)) : Wt K X (QM K X (some (vi r)) M1 0 0) 0 0 M 0 [(0, vr n0)] [] := by
  unfold f_J4_length_8abf5 at hF
  refine w_aload_n hB 0 dJ4_length_8abf5_0 rfl rfl ?_
  obtain ⟨g1, hF⟩ := gdS hF
  obtain ⟨r1, M1m, hc_M1m, hF⟩ := clS hF
  have q_M1m : EQ M M1m := k_J5_length_8abf5 hc_M1m
  have x_M1m := q_M1m.gx
  refine w_callSU (M1 := M1m) (y := yJ5_length_8abf5) hB (As := []) (st := []) (mem5 q_833 q_829 q_609 q_828 q_22) q_834 ⟨by decide, by decide +kernel⟩ (ci := 10) rfl (dqM g1) (c_J5_length_8abf5 hp hc_M1m) ⟨rfl, rfl⟩ ⟨Nat.le_of_ble_eq_true rfl, Nat.le_of_ble_eq_true rfl⟩ (by decide) rfl (Nat.le_of_ble_eq_true rfl) dJ4_length_8abf5_1 rfl ?_ (Or.inl rfl)
  obtain ⟨e1, e2⟩ := retS hF
  subst e2
  exact w_iret hB dJ4_length_8abf5_4 e1
theorem c_J4_length_8abf5 {K : Kt} {l : Launch} (hp : St K) {r : Int32} {M1 : Mem} {n0 : Nat} {M : Mem} (hF : f_J4_length_8abf5 n0 M = some (r, M1)) : MT K l yJ4_length_8abf5 cJ4_length_8abf5 1 (some .int) { frames := 1, cells := 0, slots := 0, locals := 20 } [vr n0] M (some (vi r)) M1 0 0 :=
  MT_of (by decide) rfl (Nat.le_of_ble_eq_true rfl) (fun X _ hB _ => b_J4_length_8abf5 hp hB hF)
def f_J5_newCapacity_0f7a4 (n0 : Nat) (x1 : Int32) (M : Mem) : Option (Int32 × Mem) :=
  gd (1000 ≤ n0 ∧ dsc M n0 = 11 ∧ n0 - 753 < M.2.2.2) <|
  gd (1000 ≤ (M.2.2.1 n0 0) ∧ dsc M (M.2.2.1 n0 0) = 22 ∧ (M.2.2.1 n0 0) - 753 < M.2.2.2) <|
  bnd (Int32.ofNat (dln M (M.2.2.1 n0 0))) fun a1 =>
  bnd (x1 <<< ((M.1 n0 1) &&& 31)) fun a2 =>
  bnd (a2 - a1) fun a3 =>
  cl (f_J8_newLength_cabcc a1 a3 (a1 + ((2 : Int32) <<< ((M.1 n0 1) &&& 31))) M) fun r1 M1m =>
  if r1 = 2147483647 then
    none
  else
    some (r1 >>> ((M1m.1 n0 1) &&& 31), M1m)
theorem k_J5_newCapacity_0f7a4 {n0 : Nat} {x1 : Int32} {M Z : Mem} {r : Int32} (h : f_J5_newCapacity_0f7a4 n0 x1 M = some (r, Z)) : EQ M Z := by
  unfold f_J5_newCapacity_0f7a4 at h
  obtain ⟨gq0, h⟩ := gdS h
  obtain ⟨gq1, h⟩ := gdS h
  obtain ⟨a1, e_a1, h⟩ := bndS h
  obtain ⟨a2, e_a2, h⟩ := bndS h
  obtain ⟨a3, e_a3, h⟩ := bndS h
  obtain ⟨r1, M1m, c_M1m, h⟩ := clS h
  have q_M1m : EQ M M1m := EQ.tr (EQ.refl M) (k_J8_newLength_cabcc c_M1m)
  rcases ifS h with ⟨-, h⟩ | ⟨-, h⟩
  · cases h
  · obtain ⟨-, e⟩ := retS h
    rw [← e]
    exact q_M1m
set_option maxRecDepth 100000 in
set_option maxHeartbeats 4000000 in
theorem b_J5_newCapacity_0f7a4 {K : Kt} {X : Xt} (hp : St K) (hB : Bx K X { frames := 2, cells := 0, slots := 0, locals := 44 } cJ5_newCapacity_0f7a4 6 RJ5 (some .int)) {r : Int32} {M1 : Mem} {n0 : Nat} {x1 : Int32} {M : Mem} (hF : f_J5_newCapacity_0f7a4 n0 x1 M = some (r, M1)) : Wt K X (QM K X (some (vi r)) M1 0 0) 0 0 M 0 [(0, vr n0), (1, vi x1)] [] := by
  unfold f_J5_newCapacity_0f7a4 at hF
  refine w_aload_n hB 0 dJ5_newCapacity_0f7a4_0 rfl rfl ?_
  obtain ⟨g1, hF⟩ := gdS hF
  refine w_getR hB ff_J4_0 (dqM g1) q_597 dJ5_newCapacity_0f7a4_1 ?_
  obtain ⟨g2, hF⟩ := gdS hF
  refine w_alen hB (v := Int32.ofNat (dln M (M.2.2.1 n0 0))) (c := 2) (dqM g2) (by decide) (sl_d g2.1 rfl) rfl dJ5_newCapacity_0f7a4_4 ?_
  obtain ⟨a1, e_a1, hF⟩ := bndS hF
  refine w_istore_n hB (L' := [(2, vi a1), (0, vr n0), (1, vi x1)]) dJ5_newCapacity_0f7a4_5 rfl (by decide) e_a1 rfl ?_
  refine w_iload_n hB 2 dJ5_newCapacity_0f7a4_6 rfl rfl ?_
  refine w_aload_n hB 1 dJ5_newCapacity_0f7a4_7 rfl rfl ?_
  refine w_getI hB ff_J4_1 (dqM g1) q_598 dJ5_newCapacity_0f7a4_8 ?_
  refine w_ishl hB dJ5_newCapacity_0f7a4_11 ?_
  obtain ⟨a2, e_a2, hF⟩ := bndS hF
  refine w_istore_n hB (L' := [(3, vi a2), (2, vi a1), (0, vr n0), (1, vi x1)]) dJ5_newCapacity_0f7a4_12 rfl (by decide) e_a2 rfl ?_
  refine w_iload_n hB 0 dJ5_newCapacity_0f7a4_13 rfl rfl ?_
  refine w_iload_n hB 1 dJ5_newCapacity_0f7a4_14 rfl rfl ?_
  refine w_isub hB dJ5_newCapacity_0f7a4_15 ?_
  obtain ⟨a3, e_a3, hF⟩ := bndS hF
  refine w_istore hB (L' := [(4, vi a3), (3, vi a2), (2, vi a1), (0, vr n0), (1, vi x1)]) dJ5_newCapacity_0f7a4_16 (by decide) e_a3 rfl ?_
  refine w_iload_n hB 2 dJ5_newCapacity_0f7a4_18 rfl rfl ?_
  refine w_iload hB 0 dJ5_newCapacity_0f7a4_19 rfl ?_
  refine w_iload_n hB 2 dJ5_newCapacity_0f7a4_21 rfl rfl ?_
  refine w_iconst hB 2 (by decide) dJ5_newCapacity_0f7a4_22 ?_
  refine w_aload_n hB 3 dJ5_newCapacity_0f7a4_23 rfl rfl ?_
  refine w_getI hB ff_J4_1 (dqM g1) q_598 dJ5_newCapacity_0f7a4_24 ?_
  refine w_ishl hB dJ5_newCapacity_0f7a4_27 ?_
  refine w_iadd hB dJ5_newCapacity_0f7a4_28 ?_
  obtain ⟨r1, M1m, hc_M1m, hF⟩ := clS hF
  have q_M1m : EQ M M1m := k_J8_newLength_cabcc hc_M1m
  have x_M1m := q_M1m.gx
  refine w_callS (M1 := M1m) hB (As := [vi a1, vi a3, vi (a1 + ((2 : Int32) <<< ((M.1 n0 1) &&& 31)))]) (st := []) cw_J5_114 q_631 (c_J8_newLength_cabcc hp hc_M1m) ⟨rfl, rfl⟩ ⟨Nat.le_of_ble_eq_true rfl, Nat.le_of_ble_eq_true rfl⟩ (by decide) rfl (Nat.le_of_ble_eq_true rfl) dJ5_newCapacity_0f7a4_29 rfl ?_ (Or.inl rfl)
  refine w_istore hB (L' := [(5, vi r1), (4, vi a3), (3, vi a2), (2, vi a1), (0, vr n0), (1, vi x1)]) dJ5_newCapacity_0f7a4_32 (by decide) rfl rfl ?_
  refine w_iload hB 0 dJ5_newCapacity_0f7a4_34 rfl ?_
  refine w_ldc hB (v := 2147483647) q_640 dJ5_newCapacity_0f7a4_36 ?_
  refine w_icmp_ne hB 51 dJ5_newCapacity_0f7a4_38 (by decide) (fun hc => ?_) (fun hc => ?_)
  · replace hF := ifF hc hF
    refine w_iload hB 0 dJ5_newCapacity_0f7a4_51 rfl ?_
    refine w_aload_n hB 4 dJ5_newCapacity_0f7a4_53 rfl rfl ?_
    refine w_getI hB ff_J4_1 (dqM (GX.dyo x_M1m g1)) q_598 dJ5_newCapacity_0f7a4_54 ?_
    refine w_ishr hB dJ5_newCapacity_0f7a4_57 ?_
    obtain ⟨e1, e2⟩ := retS hF
    subst e2
    exact w_iret hB dJ5_newCapacity_0f7a4_58 e1
  · replace hF := ifT hc hF
    cases hF
theorem c_J5_newCapacity_0f7a4 {K : Kt} {l : Launch} (hp : St K) {r : Int32} {M1 : Mem} {n0 : Nat} {x1 : Int32} {M : Mem} (hF : f_J5_newCapacity_0f7a4 n0 x1 M = some (r, M1)) : MT K l yJ5_newCapacity_0f7a4 cJ5_newCapacity_0f7a4 6 (some .int) { frames := 2, cells := 0, slots := 0, locals := 44 } [vr n0, vi x1] M (some (vi r)) M1 0 0 :=
  MT_of (by decide) rfl (Nat.le_of_ble_eq_true rfl) (fun X _ hB _ => b_J5_newCapacity_0f7a4 hp hB hF)
def f_J5_inflateIfNeededFor_a7421 (n0 : Nat) (n1 : Nat) (M : Mem) : Option Mem :=
  if (1 : Int32) = 0 then
    some M
  else
    gd (1000 ≤ n0 ∧ dsc M n0 = 11 ∧ n0 - 753 < M.2.2.2) <|
    gd (400 ≤ n1 ∧ n1 < 426) <|
    cl (f_J0_coder_7d493K n1 M) fun r1 M1m =>
    if (M.1 n0 1) = r1 then
      some M1m
    else
      none
theorem k_J5_inflateIfNeededFor_a7421 {n0 : Nat} {n1 : Nat} {M Z : Mem} (h : f_J5_inflateIfNeededFor_a7421 n0 n1 M = some Z) : EQ M Z := by
  unfold f_J5_inflateIfNeededFor_a7421 at h
  rcases ifS h with ⟨-, h⟩ | ⟨-, h⟩
  · rw [← Option.some.inj h]
    exact (EQ.refl M)
  · obtain ⟨gq3, h⟩ := gdS h
    obtain ⟨gq4, h⟩ := gdS h
    obtain ⟨r1, M1m, c_M1m, h⟩ := clS h
    have q_M1m : EQ M M1m := EQ.tr (EQ.refl M) (k_J0_coder_7d493K c_M1m)
    rcases ifS h with ⟨-, h⟩ | ⟨-, h⟩
    · rw [← Option.some.inj h]
      exact q_M1m
    · cases h
set_option maxRecDepth 100000 in
set_option maxHeartbeats 4000000 in
theorem b_J5_inflateIfNeededFor_a7421 {K : Kt} {X : Xt} (hp : St K) (hB : Bx K X { frames := 1, cells := 0, slots := 0, locals := 20 } cJ5_inflateIfNeededFor_a7421 2 RJ5 none) {M1 : Mem} {n0 : Nat} {n1 : Nat} {M : Mem} (hF : f_J5_inflateIfNeededFor_a7421 n0 n1 M = some M1) : Wt K X (QM K X none M1 0 0) 0 0 M 0 [(0, vr n0), (1, vr n1)] [] := by
  unfold f_J5_inflateIfNeededFor_a7421 at hF
  refine w_getcomp hB hp q_588 dJ5_inflateIfNeededFor_a7421_0 ?_
  refine w_if_eq hB 21 dJ5_inflateIfNeededFor_a7421_3 (by decide) (fun hc => ?_) (fun hc => ?_)
  · replace hF := ifT hc hF
    cases hF
    exact w_vret hB dJ5_inflateIfNeededFor_a7421_21
  · replace hF := ifF hc hF
    refine w_aload_n hB 0 dJ5_inflateIfNeededFor_a7421_6 rfl rfl ?_
    obtain ⟨g1, hF⟩ := gdS hF
    refine w_getI hB ff_J4_1 (dqM g1) q_598 dJ5_inflateIfNeededFor_a7421_7 ?_
    refine w_aload_n hB 1 dJ5_inflateIfNeededFor_a7421_10 rfl rfl ?_
    obtain ⟨g2, hF⟩ := gdS hF
    obtain ⟨r1, M1m, hc_M1m, hF⟩ := clS hF
    have q_M1m : EQ M M1m := k_J0_coder_7d493K hc_M1m
    have x_M1m := q_M1m.gx
    refine w_callStr (M1 := M1m) hB hp g2 (As := []) (st := [vi (M.1 n0 1)]) cw_J5_40 q_691 q_692 (c_J0_coder_7d493K hp hc_M1m) ⟨rfl, rfl⟩ ⟨Nat.le_of_ble_eq_true rfl, Nat.le_of_ble_eq_true rfl⟩ (by decide) rfl (Nat.le_of_ble_eq_true rfl) dJ5_inflateIfNeededFor_a7421_11 rfl ?_ (Or.inl rfl)
    refine w_icmp_eq hB 21 dJ5_inflateIfNeededFor_a7421_14 (by decide) (fun hc => ?_) (fun hc => ?_)
    · replace hF := ifT hc hF
      cases hF
      exact w_vret hB dJ5_inflateIfNeededFor_a7421_21
    · replace hF := ifF hc hF
      refine w_aload_n hB 0 dJ5_inflateIfNeededFor_a7421_17 rfl rfl ?_
      cases hF
theorem c_J5_inflateIfNeededFor_a7421 {K : Kt} {l : Launch} (hp : St K) {M1 : Mem} {n0 : Nat} {n1 : Nat} {M : Mem} (hF : f_J5_inflateIfNeededFor_a7421 n0 n1 M = some M1) : MT K l yJ5_inflateIfNeededFor_a7421 cJ5_inflateIfNeededFor_a7421 2 none { frames := 1, cells := 0, slots := 0, locals := 20 } [vr n0, vr n1] M none M1 0 0 :=
  MT_of (by decide) rfl (Nat.le_of_ble_eq_true rfl) (fun X _ hB _ => b_J5_inflateIfNeededFor_a7421 hp hB hF)
def f_J0_getBytes_840e7K (n0 : Nat) (n1 : Nat) (x2 : Int32) (x3 : Int32) (M : Mem) : Option Mem :=
  gd (400 ≤ n0 ∧ n0 < 426) <|
  cl (f_J0_coder_7d493K n0 M) fun r1 M1m =>
  if r1 = x3 then
    gd (1000 ≤ n1 ∧ dsc M1m n1 = 22 ∧ n1 - 753 < M1m.2.2.2) <|
    gd (¬ (x2 <<< (x3 &&& 31)) < 0) <|
    gd (¬ (Int32.ofNat (lsL.getD ((n0 + 50) - 450) 0)) < 0) <|
    gd ((0 : Int32).toNatClampNeg + (Int32.ofNat (lsL.getD ((n0 + 50) - 450) 0)).toNatClampNeg ≤ lsL.getD (n0 - 400) 0) <|
    gd ((x2 <<< (x3 &&& 31)).toNatClampNeg + (Int32.ofNat (lsL.getD ((n0 + 50) - 450) 0)).toNatClampNeg ≤ dln M1m n1) <|
    bnd (cpK (fun j => (lsBy.getD (n0 - 400) []).getD j 0) n1 ((0 : Int32).toNatClampNeg) ((x2 <<< (x3 &&& 31)).toNatClampNeg) ((Int32.ofNat (lsL.getD ((n0 + 50) - 450) 0)).toNatClampNeg) M1m) fun M2m =>
    some M2m
  else
    clv (f_J1_inflate_0e8fd (n0 + 50) 0 n1 x2 (Int32.ofNat (lsL.getD ((n0 + 50) - 450) 0)) M1m) fun M3m =>
    some M3m
theorem k_J0_getBytes_840e7K {n0 : Nat} {n1 : Nat} {x2 : Int32} {x3 : Int32} {M Z : Mem} (h : f_J0_getBytes_840e7K n0 n1 x2 x3 M = some Z) : EQ M Z := by
  unfold f_J0_getBytes_840e7K at h
  obtain ⟨gq0, h⟩ := gdS h
  obtain ⟨r1, M1m, c_M1m, h⟩ := clS h
  have q_M1m : EQ M M1m := EQ.tr (EQ.refl M) (k_J0_coder_7d493K c_M1m)
  rcases ifS h with ⟨-, h⟩ | ⟨-, h⟩
  · obtain ⟨gq3, h⟩ := gdS h
    obtain ⟨gq4, h⟩ := gdS h
    obtain ⟨gq5, h⟩ := gdS h
    obtain ⟨gq6, h⟩ := gdS h
    obtain ⟨gq7, h⟩ := gdS h
    obtain ⟨M2m, e_M2m, h⟩ := bndS h
    have q_M2m : EQ M M2m := EQ.tr q_M1m (by rw [e_M2m]; exact (EQ_cpK _ _ _ _ _ _))
    rw [← Option.some.inj h]
    exact q_M2m
  · obtain ⟨M3m, c_M3m, h⟩ := clvS h
    have q_M3m : EQ M M3m := EQ.tr q_M1m (k_J1_inflate_0e8fd c_M3m)
    rw [← Option.some.inj h]
    exact q_M3m
set_option maxRecDepth 100000 in
set_option maxHeartbeats 4000000 in
theorem b_J0_getBytes_840e7K {K : Kt} {X : Xt} (hp : St K) (hB : Bx K X { frames := 1, cells := 0, slots := 0, locals := 26 } cJ0_getBytes_840e7 4 RJ0 none) {M1 : Mem} {n0 : Nat} {n1 : Nat} {x2 : Int32} {x3 : Int32} {M : Mem} (hF : f_J0_getBytes_840e7K n0 n1 x2 x3 M = some M1) : Wt K X (QM K X none M1 0 0) 0 0 M 0 [(0, vr n0), (1, vr n1), (2, vi x2), (3, vi x3)] [] := by
  unfold f_J0_getBytes_840e7K at hF
  refine w_aload_n hB 0 dJ0_getBytes_840e7_0 rfl rfl ?_
  obtain ⟨g1, hF⟩ := gdS hF
  obtain ⟨r1, M1m, hc_M1m, hF⟩ := clS hF
  have q_M1m : EQ M M1m := k_J0_coder_7d493K hc_M1m
  have x_M1m := q_M1m.gx
  refine w_callStr (M1 := M1m) hB hp g1 (As := []) (st := []) cw_J0_335 q_691 q_692 (c_J0_coder_7d493K hp hc_M1m) ⟨rfl, rfl⟩ ⟨Nat.le_of_ble_eq_true rfl, Nat.le_of_ble_eq_true rfl⟩ (by decide) rfl (Nat.le_of_ble_eq_true rfl) dJ0_getBytes_840e7_1 rfl ?_ (Or.inl rfl)
  refine w_iload_n hB 3 dJ0_getBytes_840e7_4 rfl rfl ?_
  refine w_icmp_ne hB 28 dJ0_getBytes_840e7_5 (by decide) (fun hc => ?_) (fun hc => ?_)
  · replace hF := ifF hc hF
    refine w_aload_n hB 0 dJ0_getBytes_840e7_28 rfl rfl ?_
    refine w_strval hB hp g1 q_858 dJ0_getBytes_840e7_29 ?_
    refine w_iconst hB 0 (by decide) dJ0_getBytes_840e7_32 ?_
    refine w_aload_n hB 1 dJ0_getBytes_840e7_33 rfl rfl ?_
    refine w_iload_n hB 2 dJ0_getBytes_840e7_34 rfl rfl ?_
    refine w_aload_n hB 0 dJ0_getBytes_840e7_35 rfl rfl ?_
    refine w_strval hB hp g1 q_858 dJ0_getBytes_840e7_36 ?_
    refine w_salen hB hp (by omega) dJ0_getBytes_840e7_39 ?_
    obtain ⟨M3m, hc_M3m, hF⟩ := clvS hF
    have q_M3m : EQ M1m M3m := k_J1_inflate_0e8fd hc_M3m
    have x_M3m := q_M3m.gx
    refine w_callS (M1 := M3m) hB (As := [vr (n0 + 50), vi 0, vr n1, vi x2, vi (Int32.ofNat (lsL.getD ((n0 + 50) - 450) 0))]) (st := []) cw_J0_106 q_709 (c_J1_inflate_0e8fd hp hc_M3m) ⟨rfl, rfl⟩ ⟨Nat.le_of_ble_eq_true rfl, Nat.le_of_ble_eq_true rfl⟩ (by decide) rfl (Nat.le_of_ble_eq_true rfl) dJ0_getBytes_840e7_40 rfl ?_ (Or.inl rfl)
    cases hF
    exact w_vret hB dJ0_getBytes_840e7_43
  · replace hF := ifT hc hF
    refine w_aload_n hB 0 dJ0_getBytes_840e7_8 rfl rfl ?_
    refine w_strval hB hp g1 q_858 dJ0_getBytes_840e7_9 ?_
    refine w_iconst hB 0 (by decide) dJ0_getBytes_840e7_12 ?_
    refine w_aload_n hB 1 dJ0_getBytes_840e7_13 rfl rfl ?_
    refine w_iload_n hB 2 dJ0_getBytes_840e7_14 rfl rfl ?_
    refine w_iload_n hB 3 dJ0_getBytes_840e7_15 rfl rfl ?_
    refine w_ishl hB dJ0_getBytes_840e7_16 ?_
    refine w_aload_n hB 0 dJ0_getBytes_840e7_17 rfl rfl ?_
    refine w_strval hB hp g1 q_858 dJ0_getBytes_840e7_18 ?_
    refine w_salen hB hp (by omega) dJ0_getBytes_840e7_21 ?_
    obtain ⟨g2, hF⟩ := gdS hF
    obtain ⟨g3, hF⟩ := gdS hF
    obtain ⟨g4, hF⟩ := gdS hF
    obtain ⟨g5, hF⟩ := gdS hF
    obtain ⟨g6, hF⟩ := gdS hF
    obtain ⟨M2m, e_M2m, hF⟩ := bndS hF
    have q_M2m : EQ M1m M2m := by rw [e_M2m]; exact EQ_cpK _ _ _ _ _ _
    have x_M2m := q_M2m.gx
    refine w_cpS hB hp (n := n0) g1 (dqM g2) (sl_d g2.1 rfl) (by decide) g3 g4 g5 g6 q_727 e_M2m dJ0_getBytes_840e7_22 (Nat.le_of_ble_eq_true rfl) (Nat.le_of_ble_eq_true rfl) ?_
    refine w_goto hB 43 dJ0_getBytes_840e7_25 (by decide) ?_
    cases hF
    exact w_vret hB dJ0_getBytes_840e7_43
theorem c_J0_getBytes_840e7K {K : Kt} {l : Launch} (hp : St K) {M1 : Mem} {n0 : Nat} {n1 : Nat} {x2 : Int32} {x3 : Int32} {M : Mem} (hF : f_J0_getBytes_840e7K n0 n1 x2 x3 M = some M1) : MT K l yJ0_getBytes_840e7 cJ0_getBytes_840e7 4 none { frames := 1, cells := 0, slots := 0, locals := 26 } [vr n0, vr n1, vi x2, vi x3] M none M1 0 0 :=
  MT_of (by decide) rfl (Nat.le_of_ble_eq_true rfl) (fun X _ hB _ => b_J0_getBytes_840e7K hp hB hF)
def f_J5_putStringAt_47b60 (n0 : Nat) (x1 : Int32) (n2 : Nat) (M : Mem) : Option Mem :=
  gd (1000 ≤ n0 ∧ dsc M n0 = 11 ∧ n0 - 753 < M.2.2.2) <|
  clv (f_J5_inflateIfNeededFor_a7421 n0 n2 M) fun M1m =>
  gd (400 ≤ n2 ∧ n2 < 426) <|
  clv (f_J0_getBytes_840e7K n2 (M1m.2.2.1 n0 0) x1 (M1m.1 n0 1) M1m) fun M2m =>
  some M2m
theorem k_J5_putStringAt_47b60 {n0 : Nat} {x1 : Int32} {n2 : Nat} {M Z : Mem} (h : f_J5_putStringAt_47b60 n0 x1 n2 M = some Z) : EQ M Z := by
  unfold f_J5_putStringAt_47b60 at h
  obtain ⟨gq0, h⟩ := gdS h
  obtain ⟨M1m, c_M1m, h⟩ := clvS h
  have q_M1m : EQ M M1m := EQ.tr (EQ.refl M) (k_J5_inflateIfNeededFor_a7421 c_M1m)
  obtain ⟨gq2, h⟩ := gdS h
  obtain ⟨M2m, c_M2m, h⟩ := clvS h
  have q_M2m : EQ M M2m := EQ.tr q_M1m (k_J0_getBytes_840e7K c_M2m)
  rw [← Option.some.inj h]
  exact q_M2m
set_option maxRecDepth 100000 in
set_option maxHeartbeats 4000000 in
theorem b_J5_putStringAt_47b60 {K : Kt} {X : Xt} (hp : St K) (hB : Bx K X { frames := 2, cells := 0, slots := 0, locals := 49 } cJ5_putStringAt_47b60 3 RJ5 none) {M1 : Mem} {n0 : Nat} {x1 : Int32} {n2 : Nat} {M : Mem} (hF : f_J5_putStringAt_47b60 n0 x1 n2 M = some M1) : Wt K X (QM K X none M1 0 0) 0 0 M 0 [(0, vr n0), (1, vi x1), (2, vr n2)] [] := by
  unfold f_J5_putStringAt_47b60 at hF
  refine w_aload_n hB 0 dJ5_putStringAt_47b60_0 rfl rfl ?_
  refine w_aload_n hB 2 dJ5_putStringAt_47b60_1 rfl rfl ?_
  obtain ⟨g1, hF⟩ := gdS hF
  obtain ⟨M1m, hc_M1m, hF⟩ := clvS hF
  have q_M1m : EQ M M1m := k_J5_inflateIfNeededFor_a7421 hc_M1m
  have x_M1m := q_M1m.gx
  refine w_callP (M1 := M1m) hB (As := [vr n2]) (st := []) cw_J5_397 q_701 (selP hB rfl q_700 q_701) (ci := 10) rfl (dqM g1) (c_J5_inflateIfNeededFor_a7421 hp hc_M1m) ⟨rfl, rfl⟩ ⟨Nat.le_of_ble_eq_true rfl, Nat.le_of_ble_eq_true rfl⟩ (by decide) rfl (Nat.le_of_ble_eq_true rfl) dJ5_putStringAt_47b60_2 rfl ?_ (Or.inl rfl)
  refine w_aload_n hB 2 dJ5_putStringAt_47b60_5 rfl rfl ?_
  refine w_aload_n hB 0 dJ5_putStringAt_47b60_6 rfl rfl ?_
  refine w_getR hB ff_J4_0 (dqM (GX.dyo x_M1m g1)) q_597 dJ5_putStringAt_47b60_7 ?_
  refine w_iload_n hB 1 dJ5_putStringAt_47b60_10 rfl rfl ?_
  refine w_aload_n hB 0 dJ5_putStringAt_47b60_11 rfl rfl ?_
  refine w_getI hB ff_J4_1 (dqM (GX.dyo x_M1m g1)) q_598 dJ5_putStringAt_47b60_12 ?_
  obtain ⟨g2, hF⟩ := gdS hF
  obtain ⟨M2m, hc_M2m, hF⟩ := clvS hF
  have q_M2m : EQ M1m M2m := k_J0_getBytes_840e7K hc_M2m
  have x_M2m := q_M2m.gx
  refine w_callStr (M1 := M2m) hB hp g2 (As := [vr (M1m.2.2.1 n0 0), vi x1, vi (M1m.1 n0 1)]) (st := []) cw_J5_399 q_724 q_725 (c_J0_getBytes_840e7K hp hc_M2m) ⟨rfl, rfl⟩ ⟨Nat.le_of_ble_eq_true rfl, Nat.le_of_ble_eq_true rfl⟩ (by decide) rfl (Nat.le_of_ble_eq_true rfl) dJ5_putStringAt_47b60_15 rfl ?_ (Or.inl rfl)
  cases hF
  exact w_vret hB dJ5_putStringAt_47b60_18
theorem c_J5_putStringAt_47b60 {K : Kt} {l : Launch} (hp : St K) {M1 : Mem} {n0 : Nat} {x1 : Int32} {n2 : Nat} {M : Mem} (hF : f_J5_putStringAt_47b60 n0 x1 n2 M = some M1) : MT K l yJ5_putStringAt_47b60 cJ5_putStringAt_47b60 3 none { frames := 2, cells := 0, slots := 0, locals := 49 } [vr n0, vi x1, vr n2] M none M1 0 0 :=
  MT_of (by decide) rfl (Nat.le_of_ble_eq_true rfl) (fun X _ hB _ => b_J5_putStringAt_47b60 hp hB hF)
def f_J7_checkLength_df160 (x0 : Int32) (x1 : Int32) (M : Mem) : Option Mem :=
  if x0 ≤ x1 then
    some M
  else
    none
theorem k_J7_checkLength_df160 {x0 : Int32} {x1 : Int32} {M Z : Mem} (h : f_J7_checkLength_df160 x0 x1 M = some Z) : EQ M Z := by
  unfold f_J7_checkLength_df160 at h
  rcases ifS h with ⟨-, h⟩ | ⟨-, h⟩
  · rw [← Option.some.inj h]
    exact (EQ.refl M)
  · cases h
set_option maxRecDepth 100000 in
set_option maxHeartbeats 4000000 in
theorem b_J7_checkLength_df160 {K : Kt} {X : Xt} (hp : St K) (hB : Bx K X { frames := 0, cells := 0, slots := 0, locals := 0 } cJ7_checkLength_df160 2 RJ7 none) {M1 : Mem} {x0 : Int32} {x1 : Int32} {M : Mem} (hF : f_J7_checkLength_df160 x0 x1 M = some M1) : Wt K X (QM K X none M1 0 0) 0 0 M 0 [(0, vi x0), (1, vi x1)] [] := by
  unfold f_J7_checkLength_df160 at hF
  refine w_iload_n hB 1 dJ7_checkLength_df160_0 rfl rfl ?_
  refine w_iload_n hB 0 dJ7_checkLength_df160_1 rfl rfl ?_
  refine w_icmp_ge hB 37 dJ7_checkLength_df160_2 (by decide) (fun hc => ?_) (fun hc => ?_)
  · replace hF := ifT hc hF
    cases hF
    exact w_vret hB dJ7_checkLength_df160_37
  · replace hF := ifF hc hF
    cases hF
theorem c_J7_checkLength_df160 {K : Kt} {l : Launch} (hp : St K) {M1 : Mem} {x0 : Int32} {x1 : Int32} {M : Mem} (hF : f_J7_checkLength_df160 x0 x1 M = some M1) : MT K l yJ7_checkLength_df160 cJ7_checkLength_df160 2 none { frames := 0, cells := 0, slots := 0, locals := 0 } [vi x0, vi x1] M none M1 0 0 :=
  MT_of (by decide) rfl (Nat.le_of_ble_eq_true rfl) (fun X _ hB _ => b_J7_checkLength_df160 hp hB hF)
def f_J5_init_d00df_b14 (n0 : Nat) (ns0 : Nat) (ns1 : Nat) (M : Mem) : Option Mem :=
  gd (1000 ≤ ns0 ∧ dsc M ns0 = 11 ∧ ns0 - 753 < M.2.2.2) <|
  bnd (setR M ns0 0 ns1) fun M1m =>
  gd (1000 ≤ n0 ∧ dsc M1m n0 = 11 ∧ n0 - 753 < M1m.2.2.2) <|
  bnd (setI M1m n0 1 0) fun M2m =>
  some M2m
set_option maxRecDepth 100000 in
set_option maxHeartbeats 4000000 in
theorem m_J5_init_d00df_b14 {n0 : Nat} {ns0 : Nat} {ns1 : Nat} {M Z : Mem} (h : f_J5_init_d00df_b14 n0 ns0 ns1 M = some Z) : GX M Z := by
  unfold f_J5_init_d00df_b14 at h
  obtain ⟨gq0, h⟩ := gdS h
  obtain ⟨M1m, e_M1m, h⟩ := bndS h
  have q_M1m : GX M M1m := GX.tr (GX.refl M) (by rw [e_M1m]; exact (EQ_R _ _ _ (by omega)).gx)
  obtain ⟨gq2, h⟩ := gdS h
  obtain ⟨M2m, e_M2m, h⟩ := bndS h
  have q_M2m : GX M M2m := GX.tr q_M1m (by rw [e_M2m]; exact (EQ_I _ _ _ _).gx)
  rw [← Option.some.inj h]
  exact q_M2m
set_option maxRecDepth 100000 in
set_option maxHeartbeats 4000000 in
theorem b_J5_init_d00df_b14 {K : Kt} {X : Xt} (hp : St K) (hk : KC K) {mc ms : Nat} (hB : Bx K X { frames := 1, cells := mc, slots := ms, locals := 20 } cJ5_init_d00df 2 RJ5 none) {M1 : Mem} {n0 : Nat} {ns0 : Nat} {ns1 : Nat} {ce sl : Nat} {M : Mem} (hF : f_J5_init_d00df_b14 n0 ns0 ns1 M = some M1) (hn : mc + M.2.2.2 = ce + M1.2.2.2) (hz : ms + szM M = sl + szM M1) : Wt K X (QM K X none M1 mc ms) ce sl M 14 [(0, vr n0)] [vr ns1, vr ns0] := by
  have hg := m_J5_init_d00df_b14 hF
  have hg1 := hg.1
  have hg2 := hg.2.1
  unfold f_J5_init_d00df_b14 at hF
  obtain ⟨g1, hF⟩ := gdS hF
  obtain ⟨M1m, e_M1m, hF⟩ := bndS hF
  have q_M1m : EQ M M1m := by rw [e_M1m]; exact EQ_R _ _ _ (by omega)
  have x_M1m := q_M1m.gx
  have n_M1m := q_M1m.1
  have z_M1m := q_M1m.sz
  refine w_putRd hB ff_J4_0 (dqM g1) g1.1 q_597 (ty := .array .byte) rfl (nar_arr _ _) (fit_arr _ _) e_M1m dJ5_init_d00df_14 ?_
  refine w_aload_n hB 0 dJ5_init_d00df_17 rfl rfl ?_
  refine w_iconst hB 0 (by decide) dJ5_init_d00df_18 ?_
  obtain ⟨g2, hF⟩ := gdS hF
  obtain ⟨M2m, e_M2m, hF⟩ := bndS hF
  have q_M2m : EQ M1m M2m := by rw [e_M2m]; exact EQ_I _ _ _ _
  have x_M2m := q_M2m.gx
  have n_M2m := q_M2m.1
  have z_M2m := q_M2m.sz
  refine w_putIN hB ff_J4_1 (dqM g2) q_598 (ty := .byte) rfl rfl rfl e_M2m dJ5_init_d00df_19 ?_
  refine w_goto hB 38 dJ5_init_d00df_22 (by decide) ?_
  cases hF
  have hmc : mc = ce := by omega
  have hms : ms = sl := by omega
  subst hmc
  subst hms
  exact w_vret hB dJ5_init_d00df_38
def f_J5_init_d00df (n0 : Nat) (x1 : Int32) (M : Mem) : Option Mem :=
  gd (1000 ≤ n0 ∧ dsc M n0 = 11 ∧ n0 - 753 < M.2.2.2) <|
  if (1 : Int32) = 0 then
    none
  else
    gd (¬ x1 < 0 ∧ x1.toNatClampNeg ≤ 100000) <|
    bnd (nwA 22 (x1.toNatClampNeg) (x1.toNatClampNeg) M) fun M1m =>
    f_J5_init_d00df_b14 n0 n0 (nn M) M1m
set_option maxRecDepth 100000 in
set_option maxHeartbeats 4000000 in
theorem m_J5_init_d00df {n0 : Nat} {x1 : Int32} {M Z : Mem} (h : f_J5_init_d00df n0 x1 M = some Z) : GX M Z := by
  unfold f_J5_init_d00df at h
  obtain ⟨gq0, h⟩ := gdS h
  rcases ifS h with ⟨-, h⟩ | ⟨-, h⟩
  · cases h
  · obtain ⟨gq4, h⟩ := gdS h
    obtain ⟨M1m, e_M1m, h⟩ := bndS h
    have q_M1m : GX M M1m := GX.tr (GX.refl M) (by rw [e_M1m]; exact GX_nw _ _ _ _)
    exact GX.tr q_M1m (m_J5_init_d00df_b14 h)
set_option maxRecDepth 100000 in
set_option maxHeartbeats 4000000 in
theorem b_J5_init_d00df {K : Kt} {X : Xt} (hp : St K) (hk : KC K) {mc ms : Nat} (hB : Bx K X { frames := 1, cells := mc, slots := ms, locals := 20 } cJ5_init_d00df 2 RJ5 none) {M1 : Mem} {n0 : Nat} {x1 : Int32} {ce sl : Nat} {M : Mem} (hF : f_J5_init_d00df n0 x1 M = some M1) (hn : mc + M.2.2.2 = ce + M1.2.2.2) (hz : ms + szM M = sl + szM M1) : Wt K X (QM K X none M1 mc ms) ce sl M 0 [(0, vr n0), (1, vi x1)] [] := by
  have hg := m_J5_init_d00df hF
  have hg1 := hg.1
  have hg2 := hg.2.1
  unfold f_J5_init_d00df at hF
  refine w_aload_n hB 0 dJ5_init_d00df_0 rfl rfl ?_
  obtain ⟨g1, hF⟩ := gdS hF
  refine w_objinit hB (dqM g1).1 q_587 q_43 q_oc ⟨Nat.le_of_ble_eq_true rfl, Nat.le_of_ble_eq_true rfl⟩ dJ5_init_d00df_1 ?_
  refine w_getcomp hB hp q_588 dJ5_init_d00df_4 ?_
  refine w_if_eq hB 25 dJ5_init_d00df_7 (by decide) (fun hc => ?_) (fun hc => ?_)
  · replace hF := ifT hc hF
    refine w_aload_n hB 0 dJ5_init_d00df_25 rfl rfl ?_
    refine w_iload_n hB 1 dJ5_init_d00df_26 rfl rfl ?_
    cases hF
  · replace hF := ifF hc hF
    refine w_aload_n hB 0 dJ5_init_d00df_10 rfl rfl ?_
    refine w_iload_n hB 1 dJ5_init_d00df_11 rfl rfl ?_
    obtain ⟨g2, hF⟩ := gdS hF
    obtain ⟨M1m, e_M1m, hF⟩ := bndS hF
    have x_M1m : GX M M1m := by rw [e_M1m]; exact GX_nw _ _ _ _
    have n_M1m : M1m.2.2.2 = M.2.2.2 + 1 := by rw [e_M1m]; exact nwA_cn
    have z_M1m : szM M1m = szM M + (x1.toNatClampNeg) := by rw [e_M1m]; exact nwA_sz
    have hg3 := m_J5_init_d00df_b14 hF
    have hg4 := hg3.1
    have hg5 := hg3.2.1
    refine w_nwY hB hp.1 (N := (x1.toNatClampNeg)) e_M1m ⟨g2.1, rfl⟩ g2.2 ⟨show ce + 1 ≤ mc by omega, show sl + (x1.toNatClampNeg) ≤ ms by omega⟩ dJ5_init_d00df_12 ?_
    exact Wt.sub (L' := [(0, vr n0)]) [0] rfl (b_J5_init_d00df_b14 hp hk hB hF (by omega) (by omega))
theorem c_J5_init_d00df {K : Kt} {l : Launch} (hp : St K) (hk : KC K) {M1 : Mem} {n0 : Nat} {x1 : Int32} {M : Mem} (hF : f_J5_init_d00df n0 x1 M = some M1) : MT K l yJ5_init_d00df cJ5_init_d00df 2 none { frames := 1, cells := M1.2.2.2 - M.2.2.2, slots := szM M1 - szM M, locals := 20 } [vr n0, vi x1] M none M1 (M1.2.2.2 - M.2.2.2) (szM M1 - szM M) := by
  have hg := m_J5_init_d00df hF
  have hg1 := hg.1
  have hg2 := hg.2.1
  exact MT_of (by decide) rfl (Nat.le_of_ble_eq_true rfl) (fun X _ hB _ => b_J5_init_d00df hp hk hB hF (by omega) (by omega))
def f_J4_init_da8c8_b6 (M : Mem) : Option Mem :=
  some M
set_option maxRecDepth 100000 in
set_option maxHeartbeats 4000000 in
theorem m_J4_init_da8c8_b6 {M Z : Mem} (h : f_J4_init_da8c8_b6 M = some Z) : GX M Z := by
  unfold f_J4_init_da8c8_b6 at h
  rw [← Option.some.inj h]
  exact (GX.refl M)
set_option maxRecDepth 100000 in
set_option maxHeartbeats 4000000 in
theorem b_J4_init_da8c8_b6 {K : Kt} {X : Xt} (hp : St K) (hk : KC K) {mc ms : Nat} (hB : Bx K X { frames := 2, cells := mc, slots := ms, locals := 41 } cJ4_init_da8c8 1 RJ4 none) {M1 : Mem} {ce sl : Nat} {M : Mem} (hF : f_J4_init_da8c8_b6 M = some M1) (hn : mc + M.2.2.2 = ce + M1.2.2.2) (hz : ms + szM M = sl + szM M1) : Wt K X (QM K X none M1 mc ms) ce sl M 6 [] [] := by
  have hg := m_J4_init_da8c8_b6 hF
  have hg1 := hg.1
  have hg2 := hg.2.1
  unfold f_J4_init_da8c8_b6 at hF
  cases hF
  have hmc : mc = ce := by omega
  have hms : ms = sl := by omega
  subst hmc
  subst hms
  exact w_vret hB dJ4_init_da8c8_6
def f_J4_init_da8c8 (n0 : Nat) (M : Mem) : Option Mem :=
  gd (1000 ≤ n0 ∧ dsc M n0 = 11 ∧ n0 - 753 < M.2.2.2) <|
  clv (f_J5_init_d00df n0 16 M) fun M1m =>
  f_J4_init_da8c8_b6 M1m
set_option maxRecDepth 100000 in
set_option maxHeartbeats 4000000 in
theorem m_J4_init_da8c8 {n0 : Nat} {M Z : Mem} (h : f_J4_init_da8c8 n0 M = some Z) : GX M Z := by
  unfold f_J4_init_da8c8 at h
  obtain ⟨gq0, h⟩ := gdS h
  obtain ⟨M1m, c_M1m, h⟩ := clvS h
  have q_M1m : GX M M1m := GX.tr (GX.refl M) (m_J5_init_d00df c_M1m)
  exact GX.tr q_M1m (m_J4_init_da8c8_b6 h)
set_option maxRecDepth 100000 in
set_option maxHeartbeats 4000000 in
theorem b_J4_init_da8c8 {K : Kt} {X : Xt} (hp : St K) (hk : KC K) {mc ms : Nat} (hB : Bx K X { frames := 2, cells := mc, slots := ms, locals := 41 } cJ4_init_da8c8 1 RJ4 none) {M1 : Mem} {n0 : Nat} {ce sl : Nat} {M : Mem} (hF : f_J4_init_da8c8 n0 M = some M1) (hn : mc + M.2.2.2 = ce + M1.2.2.2) (hz : ms + szM M = sl + szM M1) : Wt K X (QM K X none M1 mc ms) ce sl M 0 [(0, vr n0)] [] := by
  have hg := m_J4_init_da8c8 hF
  have hg1 := hg.1
  have hg2 := hg.2.1
  unfold f_J4_init_da8c8 at hF
  refine w_aload_n hB 0 dJ4_init_da8c8_0 rfl rfl ?_
  refine w_bipush hB 16 (by decide) dJ4_init_da8c8_1 ?_
  obtain ⟨g1, hF⟩ := gdS hF
  obtain ⟨M1m, hc_M1m, hF⟩ := clvS hF
  have x_M1m := m_J5_init_d00df hc_M1m
  have xa_M1m := x_M1m.1
  have xb_M1m := x_M1m.2.1
  have hg3 := m_J4_init_da8c8_b6 hF
  have hg4 := hg3.1
  have hg5 := hg3.2.1
  refine w_callI (M1 := M1m) hB (As := [vi 16]) (st := []) cw_J4_1 rfl q_585 (dqM g1).1 (c_J5_init_d00df hp hk hc_M1m) ⟨rfl, rfl⟩ ⟨Nat.le_of_ble_eq_true rfl, Nat.le_of_ble_eq_true rfl⟩ ⟨show ce + (M1m.2.2.2 - M.2.2.2) ≤ mc by omega, show sl + (szM M1m - szM M) ≤ ms by omega⟩ rfl (Nat.le_of_ble_eq_true rfl) dJ4_init_da8c8_3 rfl ?_ (Or.inr (by omega))
  exact Wt.sub (L' := []) [] rfl (b_J4_init_da8c8_b6 hp hk hB hF (by omega) (by omega))
theorem c_J4_init_da8c8 {K : Kt} {l : Launch} (hp : St K) (hk : KC K) {M1 : Mem} {n0 : Nat} {M : Mem} (hF : f_J4_init_da8c8 n0 M = some M1) : MT K l yJ4_init_da8c8 cJ4_init_da8c8 1 none { frames := 2, cells := M1.2.2.2 - M.2.2.2, slots := szM M1 - szM M, locals := 41 } [vr n0] M none M1 (M1.2.2.2 - M.2.2.2) (szM M1 - szM M) := by
  have hg := m_J4_init_da8c8 hF
  have hg1 := hg.1
  have hg2 := hg.2.1
  exact MT_of (by decide) rfl (Nat.le_of_ble_eq_true rfl) (fun X _ hB _ => b_J4_init_da8c8 hp hk hB hF (by omega) (by omega))
def f_J7_copyOf_9075b_b17 (n0 : Nat) (x1 : Int32) (ns0 : Nat) (M : Mem) : Option (Nat × Mem) :=
  gd (1000 ≤ n0 ∧ dsc M n0 = 22 ∧ n0 - 753 < M.2.2.2) <|
  gd (1000 ≤ ns0 ∧ dsc M ns0 = 22 ∧ ns0 - 753 < M.2.2.2) <|
  gd (¬ (min32 (Int32.ofNat (dln M n0)) x1) < 0) <|
  gd ((0 : Int32).toNatClampNeg + (min32 (Int32.ofNat (dln M n0)) x1).toNatClampNeg ≤ dln M n0) <|
  gd ((0 : Int32).toNatClampNeg + (min32 (Int32.ofNat (dln M n0)) x1).toNatClampNeg ≤ dln M ns0) <|
  gd (∀ i, i < (min32 (Int32.ofNat (dln M n0)) x1).toNatClampNeg → (-128 : Int32) ≤ M.1 n0 ((0 : Int32).toNatClampNeg + i) ∧ M.1 n0 ((0 : Int32).toNatClampNeg + i) ≤ 127) <|
  bnd (cpG M n0 ns0 ((0 : Int32).toNatClampNeg) ((0 : Int32).toNatClampNeg) ((min32 (Int32.ofNat (dln M n0)) x1).toNatClampNeg)) fun M1m =>
  some (ns0, M1m)
set_option maxRecDepth 100000 in
set_option maxHeartbeats 4000000 in
theorem m_J7_copyOf_9075b_b17 {n0 : Nat} {x1 : Int32} {ns0 : Nat} {M Z : Mem} {r : Nat} (h : f_J7_copyOf_9075b_b17 n0 x1 ns0 M = some (r, Z)) : GX M Z := by
  unfold f_J7_copyOf_9075b_b17 at h
  obtain ⟨gq0, h⟩ := gdS h
  obtain ⟨gq1, h⟩ := gdS h
  obtain ⟨gq2, h⟩ := gdS h
  obtain ⟨gq3, h⟩ := gdS h
  obtain ⟨gq4, h⟩ := gdS h
  obtain ⟨gq5, h⟩ := gdS h
  obtain ⟨M1m, e_M1m, h⟩ := bndS h
  have q_M1m : GX M M1m := GX.tr (GX.refl M) (by rw [e_M1m]; exact (EQ_cpG _ _ _ _ _ _).gx)
  obtain ⟨-, e⟩ := retS h
  rw [← e]
  exact q_M1m
set_option maxRecDepth 100000 in
set_option maxHeartbeats 4000000 in
theorem b_J7_copyOf_9075b_b17 {K : Kt} {X : Xt} (hp : St K) (hk : KC K) {mc ms : Nat} (hB : Bx K X { frames := 1, cells := mc, slots := ms, locals := 26 } cJ7_copyOf_9075b 3 RJ7 (some (.array .byte))) {r : Nat} {M1 : Mem} {n0 : Nat} {x1 : Int32} {ns0 : Nat} {ce sl : Nat} {M : Mem} (hF : f_J7_copyOf_9075b_b17 n0 x1 ns0 M = some (r, M1)) (hn : mc + M.2.2.2 = ce + M1.2.2.2) (hz : ms + szM M = sl + szM M1) : Wt K X (QM K X (some (vr r)) M1 mc ms) ce sl M 17 [(0, vr n0), (1, vi x1)] [vr ns0] := by
  have hg := m_J7_copyOf_9075b_b17 hF
  have hg1 := hg.1
  have hg2 := hg.2.1
  unfold f_J7_copyOf_9075b_b17 at hF
  refine w_astore_n hB (L' := [(2, vr ns0), (0, vr n0), (1, vi x1)]) dJ7_copyOf_9075b_17 rfl (by decide) rfl ?_
  refine w_aload_n hB 1 dJ7_copyOf_9075b_18 rfl rfl ?_
  refine w_iconst hB 0 (by decide) dJ7_copyOf_9075b_19 ?_
  refine w_aload_n hB 0 dJ7_copyOf_9075b_20 rfl rfl ?_
  refine w_iconst hB 0 (by decide) dJ7_copyOf_9075b_21 ?_
  refine w_aload_n hB 1 dJ7_copyOf_9075b_22 rfl rfl ?_
  obtain ⟨g1, hF⟩ := gdS hF
  refine w_alen hB (v := Int32.ofNat (dln M n0)) (c := 2) (dqM g1) (by decide) (sl_d g1.1 rfl) rfl dJ7_copyOf_9075b_23 ?_
  refine w_iload_n hB 2 dJ7_copyOf_9075b_24 rfl rfl ?_
  refine w_min hB q_651 (by decide) (Nat.le_of_ble_eq_true rfl) (by decide) dJ7_copyOf_9075b_25 ?_
  obtain ⟨g2, hF⟩ := gdS hF
  obtain ⟨g3, hF⟩ := gdS hF
  obtain ⟨g4, hF⟩ := gdS hF
  obtain ⟨g5, hF⟩ := gdS hF
  obtain ⟨g6, hF⟩ := gdS hF
  obtain ⟨M1m, e_M1m, hF⟩ := bndS hF
  have q_M1m : EQ M M1m := by rw [e_M1m]; exact EQ_cpG _ _ _ _ _ _
  have x_M1m := q_M1m.gx
  have n_M1m := q_M1m.1
  have z_M1m := q_M1m.sz
  refine w_cpy (c := 2) (ty := .byte) hB (by decide) rfl rfl (dqM g1) (dqM g2) (sl_d g1.1 rfl) (sl_d g2.1 rfl) (by decide) (by decide) g3 g4 g5 (fun i hi9 => fitB (g6 i hi9)) q_654 e_M1m dJ7_copyOf_9075b_28 (Nat.le_of_ble_eq_true rfl) (Nat.le_of_ble_eq_true rfl) ?_
  refine w_aload_n hB 0 dJ7_copyOf_9075b_31 rfl rfl ?_
  obtain ⟨e1, e2⟩ := retS hF
  subst e2
  have hmc : mc = ce := by omega
  have hms : ms = sl := by omega
  subst hmc
  subst hms
  exact w_areta hB dJ7_copyOf_9075b_32 e1
def f_J7_copyOf_9075b_b10 (ns0 : Nat) (M : Mem) : Option (Nat × Mem) :=
  gd (1000 ≤ ns0 ∧ dsc M ns0 = 22 ∧ ns0 - 753 < M.2.2.2) <|
  some (ns0, M)
set_option maxRecDepth 100000 in
set_option maxHeartbeats 4000000 in
theorem m_J7_copyOf_9075b_b10 {ns0 : Nat} {M Z : Mem} {r : Nat} (h : f_J7_copyOf_9075b_b10 ns0 M = some (r, Z)) : GX M Z := by
  unfold f_J7_copyOf_9075b_b10 at h
  obtain ⟨gq0, h⟩ := gdS h
  obtain ⟨-, e⟩ := retS h
  rw [← e]
  exact (GX.refl M)
set_option maxRecDepth 100000 in
set_option maxHeartbeats 4000000 in
theorem b_J7_copyOf_9075b_b10 {K : Kt} {X : Xt} (hp : St K) (hk : KC K) {mc ms : Nat} (hB : Bx K X { frames := 1, cells := mc, slots := ms, locals := 26 } cJ7_copyOf_9075b 3 RJ7 (some (.array .byte))) {r : Nat} {M1 : Mem} {ns0 : Nat} {ce sl : Nat} {M : Mem} (hF : f_J7_copyOf_9075b_b10 ns0 M = some (r, M1)) (hn : mc + M.2.2.2 = ce + M1.2.2.2) (hz : ms + szM M = sl + szM M1) : Wt K X (QM K X (some (vr r)) M1 mc ms) ce sl M 10 [] [vr ns0] := by
  have hg := m_J7_copyOf_9075b_b10 hF
  have hg1 := hg.1
  have hg2 := hg.2.1
  unfold f_J7_copyOf_9075b_b10 at hF
  obtain ⟨g1, hF⟩ := gdS hF
  refine w_castA hB (c := 2) (by decide) (dqM g1) q_650 ((hB.2.2.2.2.2.1).K.2 2 _ rfl).2 dJ7_copyOf_9075b_10 ?_
  obtain ⟨e1, e2⟩ := retS hF
  subst e2
  have hmc : mc = ce := by omega
  have hms : ms = sl := by omega
  subst hmc
  subst hms
  exact w_areta hB dJ7_copyOf_9075b_13 e1
def f_J7_copyOf_9075b (n0 : Nat) (x1 : Int32) (M : Mem) : Option (Nat × Mem) :=
  gd (1000 ≤ n0 ∧ dsc M n0 = 22 ∧ n0 - 753 < M.2.2.2) <|
  if x1 = (Int32.ofNat (dln M n0)) then
    gd (∀ i, i < dln M n0 → (-128 : Int32) ≤ M.1 n0 i ∧ M.1 n0 i ≤ 127) <|
    bnd (cpRow n0 (nn M) (nwA 22 (dln M n0) (dln M n0) M)) fun M1m =>
    f_J7_copyOf_9075b_b10 (nn M) M1m
  else
    gd (¬ x1 < 0 ∧ x1.toNatClampNeg ≤ 100000) <|
    bnd (nwA 22 (x1.toNatClampNeg) (x1.toNatClampNeg) M) fun M2m =>
    f_J7_copyOf_9075b_b17 n0 x1 (nn M) M2m
set_option maxRecDepth 100000 in
set_option maxHeartbeats 4000000 in
theorem m_J7_copyOf_9075b {n0 : Nat} {x1 : Int32} {M Z : Mem} {r : Nat} (h : f_J7_copyOf_9075b n0 x1 M = some (r, Z)) : GX M Z := by
  unfold f_J7_copyOf_9075b at h
  obtain ⟨gq0, h⟩ := gdS h
  rcases ifS h with ⟨-, h⟩ | ⟨-, h⟩
  · obtain ⟨gq2, h⟩ := gdS h
    obtain ⟨M1m, e_M1m, h⟩ := bndS h
    have q_M1m : GX M M1m := GX.tr (GX.refl M) (by rw [e_M1m]; exact GX_cl _ _ _ _ _)
    exact GX.tr q_M1m (m_J7_copyOf_9075b_b10 h)
  · obtain ⟨gq6, h⟩ := gdS h
    obtain ⟨M2m, e_M2m, h⟩ := bndS h
    have q_M2m : GX M M2m := GX.tr (GX.refl M) (by rw [e_M2m]; exact GX_nw _ _ _ _)
    exact GX.tr q_M2m (m_J7_copyOf_9075b_b17 h)
set_option maxRecDepth 100000 in
set_option maxHeartbeats 4000000 in
theorem b_J7_copyOf_9075b {K : Kt} {X : Xt} (hp : St K) (hk : KC K) {mc ms : Nat} (hB : Bx K X { frames := 1, cells := mc, slots := ms, locals := 26 } cJ7_copyOf_9075b 3 RJ7 (some (.array .byte))) {r : Nat} {M1 : Mem} {n0 : Nat} {x1 : Int32} {ce sl : Nat} {M : Mem} (hF : f_J7_copyOf_9075b n0 x1 M = some (r, M1)) (hn : mc + M.2.2.2 = ce + M1.2.2.2) (hz : ms + szM M = sl + szM M1) : Wt K X (QM K X (some (vr r)) M1 mc ms) ce sl M 0 [(0, vr n0), (1, vi x1)] [] := by
  have hg := m_J7_copyOf_9075b hF
  have hg1 := hg.1
  have hg2 := hg.2.1
  unfold f_J7_copyOf_9075b at hF
  refine w_iload_n hB 1 dJ7_copyOf_9075b_0 rfl rfl ?_
  refine w_aload_n hB 0 dJ7_copyOf_9075b_1 rfl rfl ?_
  obtain ⟨g1, hF⟩ := gdS hF
  refine w_alen hB (v := Int32.ofNat (dln M n0)) (c := 2) (dqM g1) (by decide) (sl_d g1.1 rfl) rfl dJ7_copyOf_9075b_2 ?_
  refine w_icmp_ne hB 14 dJ7_copyOf_9075b_3 (by decide) (fun hc => ?_) (fun hc => ?_)
  · replace hF := ifF hc hF
    refine w_iload_n hB 1 dJ7_copyOf_9075b_14 rfl rfl ?_
    obtain ⟨g3, hF⟩ := gdS hF
    obtain ⟨M2m, e_M2m, hF⟩ := bndS hF
    have x_M2m : GX M M2m := by rw [e_M2m]; exact GX_nw _ _ _ _
    have n_M2m : M2m.2.2.2 = M.2.2.2 + 1 := by rw [e_M2m]; exact nwA_cn
    have z_M2m : szM M2m = szM M + (x1.toNatClampNeg) := by rw [e_M2m]; exact nwA_sz
    have hg3 := m_J7_copyOf_9075b_b17 hF
    have hg4 := hg3.1
    have hg5 := hg3.2.1
    refine w_nwY hB hp.1 (N := (x1.toNatClampNeg)) e_M2m ⟨g3.1, rfl⟩ g3.2 ⟨show ce + 1 ≤ mc by omega, show sl + (x1.toNatClampNeg) ≤ ms by omega⟩ dJ7_copyOf_9075b_15 ?_
    exact Wt.sub (L' := [(0, vr n0), (1, vi x1)]) [0, 1] rfl (b_J7_copyOf_9075b_b17 hp hk hB hF (by omega) (by omega))
  · replace hF := ifT hc hF
    refine w_aload_n hB 0 dJ7_copyOf_9075b_6 rfl rfl ?_
    obtain ⟨g2, hF⟩ := gdS hF
    obtain ⟨M1m, e_M1m, hF⟩ := bndS hF
    have x_M1m : GX M M1m := by rw [e_M1m]; exact GX_cl _ _ _ _ _
    have n_M1m : M1m.2.2.2 = M.2.2.2 + 1 := by rw [e_M1m]; exact (EQ_cpRow _ _ _).1.trans nwA_cn
    have z_M1m : szM M1m = szM M + (dln M n0) := by rw [e_M1m]; exact (EQ_cpRow _ _ _).sz.trans nwA_sz
    have hg3 := m_J7_copyOf_9075b_b10 hF
    have hg4 := hg3.1
    have hg5 := hg3.2.1
    refine w_clone hB hp.1 (c := 2) (ty := .byte) (len := dln M n0) (by decide) rfl (dqM g1) (sl_d g1.1 rfl) e_M1m (fun i hi9 => fitB (g2 i hi9)) ((hB.2.2.2.2.2.1).K.2 2 _ rfl).2 q_644 q_645 q_646 q_647 q_648 (va_Nw.warmC hB.2.2.2.2.2.1.1 hk.1) (Nat.le_of_ble_eq_true rfl) (Nat.le_of_ble_eq_true rfl) ⟨show ce + 1 ≤ mc by omega, show sl + (dln M n0) ≤ ms by omega⟩ dJ7_copyOf_9075b_7 ?_
    exact Wt.sub (L' := []) [] rfl (b_J7_copyOf_9075b_b10 hp hk hB hF (by omega) (by omega))
theorem c_J7_copyOf_9075b {K : Kt} {l : Launch} (hp : St K) (hk : KC K) {r : Nat} {M1 : Mem} {n0 : Nat} {x1 : Int32} {M : Mem} (hF : f_J7_copyOf_9075b n0 x1 M = some (r, M1)) : MT K l yJ7_copyOf_9075b cJ7_copyOf_9075b 3 (some (.array .byte)) { frames := 1, cells := M1.2.2.2 - M.2.2.2, slots := szM M1 - szM M, locals := 26 } [vr n0, vi x1] M (some (vr r)) M1 (M1.2.2.2 - M.2.2.2) (szM M1 - szM M) := by
  have hg := m_J7_copyOf_9075b hF
  have hg1 := hg.1
  have hg2 := hg.2.1
  exact MT_of (by decide) rfl (Nat.le_of_ble_eq_true rfl) (fun X _ hB _ => b_J7_copyOf_9075b hp hk hB hF (by omega) (by omega))
def f_J7_copyOfRangeByte_39247_b12 (n0 : Nat) (x1 : Int32) (x3 : Int32) (ns0 : Nat) (M : Mem) : Option (Nat × Mem) :=
  gd (1000 ≤ n0 ∧ dsc M n0 = 22 ∧ n0 - 753 < M.2.2.2) <|
  gd (1000 ≤ ns0 ∧ dsc M ns0 = 22 ∧ ns0 - 753 < M.2.2.2) <|
  gd (¬ x1 < 0) <|
  gd (¬ (min32 ((Int32.ofNat (dln M n0)) - x1) x3) < 0) <|
  gd (x1.toNatClampNeg + (min32 ((Int32.ofNat (dln M n0)) - x1) x3).toNatClampNeg ≤ dln M n0) <|
  gd ((0 : Int32).toNatClampNeg + (min32 ((Int32.ofNat (dln M n0)) - x1) x3).toNatClampNeg ≤ dln M ns0) <|
  gd (∀ i, i < (min32 ((Int32.ofNat (dln M n0)) - x1) x3).toNatClampNeg → (-128 : Int32) ≤ M.1 n0 (x1.toNatClampNeg + i) ∧ M.1 n0 (x1.toNatClampNeg + i) ≤ 127) <|
  bnd (cpG M n0 ns0 (x1.toNatClampNeg) ((0 : Int32).toNatClampNeg) ((min32 ((Int32.ofNat (dln M n0)) - x1) x3).toNatClampNeg)) fun M1m =>
  some (ns0, M1m)
set_option maxRecDepth 100000 in
set_option maxHeartbeats 4000000 in
theorem m_J7_copyOfRangeByte_39247_b12 {n0 : Nat} {x1 : Int32} {x3 : Int32} {ns0 : Nat} {M Z : Mem} {r : Nat} (h : f_J7_copyOfRangeByte_39247_b12 n0 x1 x3 ns0 M = some (r, Z)) : GX M Z := by
  unfold f_J7_copyOfRangeByte_39247_b12 at h
  obtain ⟨gq0, h⟩ := gdS h
  obtain ⟨gq1, h⟩ := gdS h
  obtain ⟨gq2, h⟩ := gdS h
  obtain ⟨gq3, h⟩ := gdS h
  obtain ⟨gq4, h⟩ := gdS h
  obtain ⟨gq5, h⟩ := gdS h
  obtain ⟨gq6, h⟩ := gdS h
  obtain ⟨M1m, e_M1m, h⟩ := bndS h
  have q_M1m : GX M M1m := GX.tr (GX.refl M) (by rw [e_M1m]; exact (EQ_cpG _ _ _ _ _ _).gx)
  obtain ⟨-, e⟩ := retS h
  rw [← e]
  exact q_M1m
set_option maxRecDepth 100000 in
set_option maxHeartbeats 4000000 in
theorem b_J7_copyOfRangeByte_39247_b12 {K : Kt} {X : Xt} (hp : St K) (hk : KC K) {mc ms : Nat} (hB : Bx K X { frames := 1, cells := mc, slots := ms, locals := 26 } cJ7_copyOfRangeByte_39247 5 RJ7 (some (.array .byte))) {r : Nat} {M1 : Mem} {n0 : Nat} {x1 : Int32} {x3 : Int32} {ns0 : Nat} {ce sl : Nat} {M : Mem} (hF : f_J7_copyOfRangeByte_39247_b12 n0 x1 x3 ns0 M = some (r, M1)) (hn : mc + M.2.2.2 = ce + M1.2.2.2) (hz : ms + szM M = sl + szM M1) : Wt K X (QM K X (some (vr r)) M1 mc ms) ce sl M 12 [(0, vr n0), (1, vi x1), (3, vi x3)] [vr ns0] := by
  have hg := m_J7_copyOfRangeByte_39247_b12 hF
  have hg1 := hg.1
  have hg2 := hg.2.1
  unfold f_J7_copyOfRangeByte_39247_b12 at hF
  refine w_astore hB (L' := [(4, vr ns0), (0, vr n0), (1, vi x1), (3, vi x3)]) dJ7_copyOfRangeByte_39247_12 (by decide) rfl ?_
  refine w_aload_n hB 1 dJ7_copyOfRangeByte_39247_14 rfl rfl ?_
  refine w_iload_n hB 2 dJ7_copyOfRangeByte_39247_15 rfl rfl ?_
  refine w_aload hB 0 dJ7_copyOfRangeByte_39247_16 rfl ?_
  refine w_iconst hB 0 (by decide) dJ7_copyOfRangeByte_39247_18 ?_
  refine w_aload_n hB 1 dJ7_copyOfRangeByte_39247_19 rfl rfl ?_
  obtain ⟨g1, hF⟩ := gdS hF
  refine w_alen hB (v := Int32.ofNat (dln M n0)) (c := 2) (dqM g1) (by decide) (sl_d g1.1 rfl) rfl dJ7_copyOfRangeByte_39247_20 ?_
  refine w_iload_n hB 2 dJ7_copyOfRangeByte_39247_21 rfl rfl ?_
  refine w_isub hB dJ7_copyOfRangeByte_39247_22 ?_
  refine w_iload_n hB 3 dJ7_copyOfRangeByte_39247_23 rfl rfl ?_
  refine w_min hB q_651 (by decide) (Nat.le_of_ble_eq_true rfl) (by decide) dJ7_copyOfRangeByte_39247_24 ?_
  obtain ⟨g2, hF⟩ := gdS hF
  obtain ⟨g3, hF⟩ := gdS hF
  obtain ⟨g4, hF⟩ := gdS hF
  obtain ⟨g5, hF⟩ := gdS hF
  obtain ⟨g6, hF⟩ := gdS hF
  obtain ⟨g7, hF⟩ := gdS hF
  obtain ⟨M1m, e_M1m, hF⟩ := bndS hF
  have q_M1m : EQ M M1m := by rw [e_M1m]; exact EQ_cpG _ _ _ _ _ _
  have x_M1m := q_M1m.gx
  have n_M1m := q_M1m.1
  have z_M1m := q_M1m.sz
  refine w_cpy (c := 2) (ty := .byte) hB (by decide) rfl rfl (dqM g1) (dqM g2) (sl_d g1.1 rfl) (sl_d g2.1 rfl) g3 (by decide) g4 g5 g6 (fun i hi9 => fitB (g7 i hi9)) q_654 e_M1m dJ7_copyOfRangeByte_39247_27 (Nat.le_of_ble_eq_true rfl) (Nat.le_of_ble_eq_true rfl) ?_
  refine w_aload hB 0 dJ7_copyOfRangeByte_39247_30 rfl ?_
  obtain ⟨e1, e2⟩ := retS hF
  subst e2
  have hmc : mc = ce := by omega
  have hms : ms = sl := by omega
  subst hmc
  subst hms
  exact w_areta hB dJ7_copyOfRangeByte_39247_32 e1
def f_J7_copyOfRangeByte_39247 (n0 : Nat) (x1 : Int32) (x2 : Int32) (M : Mem) : Option (Nat × Mem) :=
  clv (f_J7_checkLength_df160 x1 x2 M) fun M1m =>
  bnd (x2 - x1) fun a1 =>
  gd (¬ a1 < 0 ∧ a1.toNatClampNeg ≤ 100000) <|
  bnd (nwA 22 (a1.toNatClampNeg) (a1.toNatClampNeg) M1m) fun M2m =>
  f_J7_copyOfRangeByte_39247_b12 n0 x1 a1 (nn M1m) M2m
set_option maxRecDepth 100000 in
set_option maxHeartbeats 4000000 in
theorem m_J7_copyOfRangeByte_39247 {n0 : Nat} {x1 : Int32} {x2 : Int32} {M Z : Mem} {r : Nat} (h : f_J7_copyOfRangeByte_39247 n0 x1 x2 M = some (r, Z)) : GX M Z := by
  unfold f_J7_copyOfRangeByte_39247 at h
  obtain ⟨M1m, c_M1m, h⟩ := clvS h
  have q_M1m : GX M M1m := GX.tr (GX.refl M) ((k_J7_checkLength_df160 c_M1m).gx)
  obtain ⟨a1, e_a1, h⟩ := bndS h
  obtain ⟨gq2, h⟩ := gdS h
  obtain ⟨M2m, e_M2m, h⟩ := bndS h
  have q_M2m : GX M M2m := GX.tr q_M1m (by rw [e_M2m]; exact GX_nw _ _ _ _)
  exact GX.tr q_M2m (m_J7_copyOfRangeByte_39247_b12 h)
set_option maxRecDepth 100000 in
set_option maxHeartbeats 4000000 in
theorem b_J7_copyOfRangeByte_39247 {K : Kt} {X : Xt} (hp : St K) (hk : KC K) {mc ms : Nat} (hB : Bx K X { frames := 1, cells := mc, slots := ms, locals := 26 } cJ7_copyOfRangeByte_39247 5 RJ7 (some (.array .byte))) {r : Nat} {M1 : Mem} {n0 : Nat} {x1 : Int32} {x2 : Int32} {ce sl : Nat} {M : Mem} (hF : f_J7_copyOfRangeByte_39247 n0 x1 x2 M = some (r, M1)) (hn : mc + M.2.2.2 = ce + M1.2.2.2) (hz : ms + szM M = sl + szM M1) : Wt K X (QM K X (some (vr r)) M1 mc ms) ce sl M 0 [(0, vr n0), (1, vi x1), (2, vi x2)] [] := by
  have hg := m_J7_copyOfRangeByte_39247 hF
  have hg1 := hg.1
  have hg2 := hg.2.1
  unfold f_J7_copyOfRangeByte_39247 at hF
  refine w_iload_n hB 1 dJ7_copyOfRangeByte_39247_0 rfl rfl ?_
  refine w_iload_n hB 2 dJ7_copyOfRangeByte_39247_1 rfl rfl ?_
  obtain ⟨M1m, hc_M1m, hF⟩ := clvS hF
  have q_M1m : EQ M M1m := k_J7_checkLength_df160 hc_M1m
  have x_M1m := q_M1m.gx
  have n_M1m := q_M1m.1
  have z_M1m := q_M1m.sz
  refine w_callS (M1 := M1m) hB (As := [vi x1, vi x2]) (st := []) cw_J7_343 q_843 (c_J7_checkLength_df160 hp hc_M1m) ⟨rfl, rfl⟩ ⟨Nat.le_of_ble_eq_true rfl, Nat.le_of_ble_eq_true rfl⟩ ⟨show ce ≤ mc by omega, show sl ≤ ms by omega⟩ rfl (Nat.le_of_ble_eq_true rfl) dJ7_copyOfRangeByte_39247_2 rfl ?_ (Or.inl rfl)
  refine w_iload_n hB 2 dJ7_copyOfRangeByte_39247_5 rfl rfl ?_
  refine w_iload_n hB 1 dJ7_copyOfRangeByte_39247_6 rfl rfl ?_
  refine w_isub hB dJ7_copyOfRangeByte_39247_7 ?_
  obtain ⟨a1, e_a1, hF⟩ := bndS hF
  refine w_istore_n hB (L' := [(3, vi a1), (0, vr n0), (1, vi x1), (2, vi x2)]) dJ7_copyOfRangeByte_39247_8 rfl (by decide) e_a1 rfl ?_
  refine w_iload_n hB 0 dJ7_copyOfRangeByte_39247_9 rfl rfl ?_
  obtain ⟨g1, hF⟩ := gdS hF
  obtain ⟨M2m, e_M2m, hF⟩ := bndS hF
  have x_M2m : GX M1m M2m := by rw [e_M2m]; exact GX_nw _ _ _ _
  have n_M2m : M2m.2.2.2 = M1m.2.2.2 + 1 := by rw [e_M2m]; exact nwA_cn
  have z_M2m : szM M2m = szM M1m + (a1.toNatClampNeg) := by rw [e_M2m]; exact nwA_sz
  have hg3 := m_J7_copyOfRangeByte_39247_b12 hF
  have hg4 := hg3.1
  have hg5 := hg3.2.1
  refine w_nwY hB hp.1 (N := (a1.toNatClampNeg)) e_M2m ⟨g1.1, rfl⟩ g1.2 ⟨show ce + 1 ≤ mc by omega, show sl + (a1.toNatClampNeg) ≤ ms by omega⟩ dJ7_copyOfRangeByte_39247_10 ?_
  exact Wt.sub (L' := [(0, vr n0), (1, vi x1), (3, vi a1)]) [1, 2, 0] rfl (b_J7_copyOfRangeByte_39247_b12 hp hk hB hF (by omega) (by omega))
theorem c_J7_copyOfRangeByte_39247 {K : Kt} {l : Launch} (hp : St K) (hk : KC K) {r : Nat} {M1 : Mem} {n0 : Nat} {x1 : Int32} {x2 : Int32} {M : Mem} (hF : f_J7_copyOfRangeByte_39247 n0 x1 x2 M = some (r, M1)) : MT K l yJ7_copyOfRangeByte_39247 cJ7_copyOfRangeByte_39247 5 (some (.array .byte)) { frames := 1, cells := M1.2.2.2 - M.2.2.2, slots := szM M1 - szM M, locals := 26 } [vr n0, vi x1, vi x2] M (some (vr r)) M1 (M1.2.2.2 - M.2.2.2) (szM M1 - szM M) := by
  have hg := m_J7_copyOfRangeByte_39247 hF
  have hg1 := hg.1
  have hg2 := hg.2.1
  exact MT_of (by decide) rfl (Nat.le_of_ble_eq_true rfl) (fun X _ hB _ => b_J7_copyOfRangeByte_39247 hp hk hB hF (by omega) (by omega))
def f_J7_copyOfRange_39247_b16 (ns0 : Nat) (M : Mem) : Option (Nat × Mem) :=
  some (ns0, M)
set_option maxRecDepth 100000 in
set_option maxHeartbeats 4000000 in
theorem m_J7_copyOfRange_39247_b16 {ns0 : Nat} {M Z : Mem} {r : Nat} (h : f_J7_copyOfRange_39247_b16 ns0 M = some (r, Z)) : GX M Z := by
  unfold f_J7_copyOfRange_39247_b16 at h
  obtain ⟨-, e⟩ := retS h
  rw [← e]
  exact (GX.refl M)
set_option maxRecDepth 100000 in
set_option maxHeartbeats 4000000 in
theorem b_J7_copyOfRange_39247_b16 {K : Kt} {X : Xt} (hp : St K) (hk : KC K) {mc ms : Nat} (hB : Bx K X { frames := 2, cells := mc, slots := ms, locals := 50 } cJ7_copyOfRange_39247 3 RJ7 (some (.array .byte))) {r : Nat} {M1 : Mem} {ns0 : Nat} {ce sl : Nat} {M : Mem} (hF : f_J7_copyOfRange_39247_b16 ns0 M = some (r, M1)) (hn : mc + M.2.2.2 = ce + M1.2.2.2) (hz : ms + szM M = sl + szM M1) : Wt K X (QM K X (some (vr r)) M1 mc ms) ce sl M 16 [] [vr ns0] := by
  have hg := m_J7_copyOfRange_39247_b16 hF
  have hg1 := hg.1
  have hg2 := hg.2.1
  unfold f_J7_copyOfRange_39247_b16 at hF
  obtain ⟨e1, e2⟩ := retS hF
  subst e2
  have hmc : mc = ce := by omega
  have hms : ms = sl := by omega
  subst hmc
  subst hms
  exact w_areta hB dJ7_copyOfRange_39247_16 e1
def f_J7_copyOfRange_39247_b10 (n0 : Nat) (x1 : Int32) (x2 : Int32) (M : Mem) : Option (Nat × Mem) :=
  cl (f_J7_copyOfRangeByte_39247 n0 x1 x2 M) fun o1 M1m =>
  f_J7_copyOfRange_39247_b16 o1 M1m
set_option maxRecDepth 100000 in
set_option maxHeartbeats 4000000 in
theorem m_J7_copyOfRange_39247_b10 {n0 : Nat} {x1 : Int32} {x2 : Int32} {M Z : Mem} {r : Nat} (h : f_J7_copyOfRange_39247_b10 n0 x1 x2 M = some (r, Z)) : GX M Z := by
  unfold f_J7_copyOfRange_39247_b10 at h
  obtain ⟨o1, M1m, c_M1m, h⟩ := clS h
  have q_M1m : GX M M1m := GX.tr (GX.refl M) (m_J7_copyOfRangeByte_39247 c_M1m)
  exact GX.tr q_M1m (m_J7_copyOfRange_39247_b16 h)
set_option maxRecDepth 100000 in
set_option maxHeartbeats 4000000 in
theorem b_J7_copyOfRange_39247_b10 {K : Kt} {X : Xt} (hp : St K) (hk : KC K) {mc ms : Nat} (hB : Bx K X { frames := 2, cells := mc, slots := ms, locals := 50 } cJ7_copyOfRange_39247 3 RJ7 (some (.array .byte))) {r : Nat} {M1 : Mem} {n0 : Nat} {x1 : Int32} {x2 : Int32} {ce sl : Nat} {M : Mem} (hF : f_J7_copyOfRange_39247_b10 n0 x1 x2 M = some (r, M1)) (hn : mc + M.2.2.2 = ce + M1.2.2.2) (hz : ms + szM M = sl + szM M1) : Wt K X (QM K X (some (vr r)) M1 mc ms) ce sl M 10 [(0, vr n0), (1, vi x1), (2, vi x2)] [] := by
  have hg := m_J7_copyOfRange_39247_b10 hF
  have hg1 := hg.1
  have hg2 := hg.2.1
  unfold f_J7_copyOfRange_39247_b10 at hF
  refine w_aload_n hB 0 dJ7_copyOfRange_39247_10 rfl rfl ?_
  refine w_iload_n hB 1 dJ7_copyOfRange_39247_11 rfl rfl ?_
  refine w_iload_n hB 2 dJ7_copyOfRange_39247_12 rfl rfl ?_
  obtain ⟨o1, M1m, hc_M1m, hF⟩ := clS hF
  have x_M1m := m_J7_copyOfRangeByte_39247 hc_M1m
  have xa_M1m := x_M1m.1
  have xb_M1m := x_M1m.2.1
  have hg3 := m_J7_copyOfRange_39247_b16 hF
  have hg4 := hg3.1
  have hg5 := hg3.2.1
  refine w_callS (M1 := M1m) hB (As := [vr n0, vi x1, vi x2]) (st := []) cw_J7_339 q_840 (c_J7_copyOfRangeByte_39247 hp hk hc_M1m) ⟨rfl, rfl⟩ ⟨Nat.le_of_ble_eq_true rfl, Nat.le_of_ble_eq_true rfl⟩ ⟨show ce + (M1m.2.2.2 - M.2.2.2) ≤ mc by omega, show sl + (szM M1m - szM M) ≤ ms by omega⟩ rfl (Nat.le_of_ble_eq_true rfl) dJ7_copyOfRange_39247_13 rfl ?_ (Or.inr (by omega))
  exact Wt.sub (L' := []) [] rfl (b_J7_copyOfRange_39247_b16 hp hk hB hF (by omega) (by omega))
def f_J7_copyOfRange_39247_b21 (ns0 : Nat) (M : Mem) : Option (Nat × Mem) :=
  gd (1000 ≤ ns0 ∧ dsc M ns0 = 22 ∧ ns0 - 753 < M.2.2.2) <|
  some (ns0, M)
set_option maxRecDepth 100000 in
set_option maxHeartbeats 4000000 in
theorem m_J7_copyOfRange_39247_b21 {ns0 : Nat} {M Z : Mem} {r : Nat} (h : f_J7_copyOfRange_39247_b21 ns0 M = some (r, Z)) : GX M Z := by
  unfold f_J7_copyOfRange_39247_b21 at h
  obtain ⟨gq0, h⟩ := gdS h
  obtain ⟨-, e⟩ := retS h
  rw [← e]
  exact (GX.refl M)
set_option maxRecDepth 100000 in
set_option maxHeartbeats 4000000 in
theorem b_J7_copyOfRange_39247_b21 {K : Kt} {X : Xt} (hp : St K) (hk : KC K) {mc ms : Nat} (hB : Bx K X { frames := 2, cells := mc, slots := ms, locals := 50 } cJ7_copyOfRange_39247 3 RJ7 (some (.array .byte))) {r : Nat} {M1 : Mem} {ns0 : Nat} {ce sl : Nat} {M : Mem} (hF : f_J7_copyOfRange_39247_b21 ns0 M = some (r, M1)) (hn : mc + M.2.2.2 = ce + M1.2.2.2) (hz : ms + szM M = sl + szM M1) : Wt K X (QM K X (some (vr r)) M1 mc ms) ce sl M 21 [] [vr ns0] := by
  have hg := m_J7_copyOfRange_39247_b21 hF
  have hg1 := hg.1
  have hg2 := hg.2.1
  unfold f_J7_copyOfRange_39247_b21 at hF
  obtain ⟨g1, hF⟩ := gdS hF
  refine w_castA hB (c := 2) (by decide) (dqM g1) q_650 ((hB.2.2.2.2.2.1).K.2 2 _ rfl).2 dJ7_copyOfRange_39247_21 ?_
  obtain ⟨e1, e2⟩ := retS hF
  subst e2
  have hmc : mc = ce := by omega
  have hms : ms = sl := by omega
  subst hmc
  subst hms
  exact w_areta hB dJ7_copyOfRange_39247_24 e1
def f_J7_copyOfRange_39247 (n0 : Nat) (x1 : Int32) (x2 : Int32) (M : Mem) : Option (Nat × Mem) :=
  if x1 = 0 then
    gd (1000 ≤ n0 ∧ dsc M n0 = 22 ∧ n0 - 753 < M.2.2.2) <|
    if x2 = (Int32.ofNat (dln M n0)) then
      gd (∀ i, i < dln M n0 → (-128 : Int32) ≤ M.1 n0 i ∧ M.1 n0 i ≤ 127) <|
      bnd (cpRow n0 (nn M) (nwA 22 (dln M n0) (dln M n0) M)) fun M1m =>
      f_J7_copyOfRange_39247_b21 (nn M) M1m
    else
      f_J7_copyOfRange_39247_b10 n0 x1 x2 M
  else
    f_J7_copyOfRange_39247_b10 n0 x1 x2 M
set_option maxRecDepth 100000 in
set_option maxHeartbeats 4000000 in
theorem m_J7_copyOfRange_39247 {n0 : Nat} {x1 : Int32} {x2 : Int32} {M Z : Mem} {r : Nat} (h : f_J7_copyOfRange_39247 n0 x1 x2 M = some (r, Z)) : GX M Z := by
  unfold f_J7_copyOfRange_39247 at h
  rcases ifS h with ⟨-, h⟩ | ⟨-, h⟩
  · obtain ⟨gq1, h⟩ := gdS h
    rcases ifS h with ⟨-, h⟩ | ⟨-, h⟩
    · obtain ⟨gq3, h⟩ := gdS h
      obtain ⟨M1m, e_M1m, h⟩ := bndS h
      have q_M1m : GX M M1m := GX.tr (GX.refl M) (by rw [e_M1m]; exact GX_cl _ _ _ _ _)
      exact GX.tr q_M1m (m_J7_copyOfRange_39247_b21 h)
    · exact GX.tr (GX.refl M) (m_J7_copyOfRange_39247_b10 h)
  · exact GX.tr (GX.refl M) (m_J7_copyOfRange_39247_b10 h)
set_option maxRecDepth 100000 in
set_option maxHeartbeats 4000000 in
theorem b_J7_copyOfRange_39247 {K : Kt} {X : Xt} (hp : St K) (hk : KC K) {mc ms : Nat} (hB : Bx K X { frames := 2, cells := mc, slots := ms, locals := 50 } cJ7_copyOfRange_39247 3 RJ7 (some (.array .byte))) {r : Nat} {M1 : Mem} {n0 : Nat} {x1 : Int32} {x2 : Int32} {ce sl : Nat} {M : Mem} (hF : f_J7_copyOfRange_39247 n0 x1 x2 M = some (r, M1)) (hn : mc + M.2.2.2 = ce + M1.2.2.2) (hz : ms + szM M = sl + szM M1) : Wt K X (QM K X (some (vr r)) M1 mc ms) ce sl M 0 [(0, vr n0), (1, vi x1), (2, vi x2)] [] := by
  have hg := m_J7_copyOfRange_39247 hF
  have hg1 := hg.1
  have hg2 := hg.2.1
  unfold f_J7_copyOfRange_39247 at hF
  refine w_iload_n hB 1 dJ7_copyOfRange_39247_0 rfl rfl ?_
  refine w_if_ne hB 10 dJ7_copyOfRange_39247_1 (by decide) (fun hc => ?_) (fun hc => ?_)
  · replace hF := ifF hc hF
    exact Wt.sub (L' := [(0, vr n0), (1, vi x1), (2, vi x2)]) [0, 1, 2] rfl (b_J7_copyOfRange_39247_b10 hp hk hB hF (by omega) (by omega))
  · replace hF := ifT hc hF
    refine w_iload_n hB 2 dJ7_copyOfRange_39247_4 rfl rfl ?_
    refine w_aload_n hB 0 dJ7_copyOfRange_39247_5 rfl rfl ?_
    obtain ⟨g1, hF⟩ := gdS hF
    refine w_alen hB (v := Int32.ofNat (dln M n0)) (c := 2) (dqM g1) (by decide) (sl_d g1.1 rfl) rfl dJ7_copyOfRange_39247_6 ?_
    refine w_icmp_eq hB 17 dJ7_copyOfRange_39247_7 (by decide) (fun hc => ?_) (fun hc => ?_)
    · replace hF := ifT hc hF
      refine w_aload_n hB 0 dJ7_copyOfRange_39247_17 rfl rfl ?_
      obtain ⟨g2, hF⟩ := gdS hF
      obtain ⟨M1m, e_M1m, hF⟩ := bndS hF
      have x_M1m : GX M M1m := by rw [e_M1m]; exact GX_cl _ _ _ _ _
      have n_M1m : M1m.2.2.2 = M.2.2.2 + 1 := by rw [e_M1m]; exact (EQ_cpRow _ _ _).1.trans nwA_cn
      have z_M1m : szM M1m = szM M + (dln M n0) := by rw [e_M1m]; exact (EQ_cpRow _ _ _).sz.trans nwA_sz
      have hg3 := m_J7_copyOfRange_39247_b21 hF
      have hg4 := hg3.1
      have hg5 := hg3.2.1
      refine w_clone hB hp.1 (c := 2) (ty := .byte) (len := dln M n0) (by decide) rfl (dqM g1) (sl_d g1.1 rfl) e_M1m (fun i hi9 => fitB (g2 i hi9)) ((hB.2.2.2.2.2.1).K.2 2 _ rfl).2 q_644 q_645 q_646 q_647 q_648 (va_Nw.warmC hB.2.2.2.2.2.1.1 hk.1) (Nat.le_of_ble_eq_true rfl) (Nat.le_of_ble_eq_true rfl) ⟨show ce + 1 ≤ mc by omega, show sl + (dln M n0) ≤ ms by omega⟩ dJ7_copyOfRange_39247_18 ?_
      exact Wt.sub (L' := []) [] rfl (b_J7_copyOfRange_39247_b21 hp hk hB hF (by omega) (by omega))
    · replace hF := ifF hc hF
      exact Wt.sub (L' := [(0, vr n0), (1, vi x1), (2, vi x2)]) [0, 1, 2] rfl (b_J7_copyOfRange_39247_b10 hp hk hB hF (by omega) (by omega))
theorem c_J7_copyOfRange_39247 {K : Kt} {l : Launch} (hp : St K) (hk : KC K) {r : Nat} {M1 : Mem} {n0 : Nat} {x1 : Int32} {x2 : Int32} {M : Mem} (hF : f_J7_copyOfRange_39247 n0 x1 x2 M = some (r, M1)) : MT K l yJ7_copyOfRange_39247 cJ7_copyOfRange_39247 3 (some (.array .byte)) { frames := 2, cells := M1.2.2.2 - M.2.2.2, slots := szM M1 - szM M, locals := 50 } [vr n0, vi x1, vi x2] M (some (vr r)) M1 (M1.2.2.2 - M.2.2.2) (szM M1 - szM M) := by
  have hg := m_J7_copyOfRange_39247 hF
  have hg1 := hg.1
  have hg2 := hg.2.1
  exact MT_of (by decide) rfl (Nat.le_of_ble_eq_true rfl) (fun X _ hB _ => b_J7_copyOfRange_39247 hp hk hB hF (by omega) (by omega))
def f_J5_ensureCapacityInternal_d00df_b35 (ns0 : Nat) (ns1 : Nat) (M : Mem) : Option Mem :=
  gd (1000 ≤ ns0 ∧ dsc M ns0 = 11 ∧ ns0 - 753 < M.2.2.2) <|
  bnd (setR M ns0 0 ns1) fun M1m =>
  some M1m
set_option maxRecDepth 100000 in
set_option maxHeartbeats 4000000 in
theorem m_J5_ensureCapacityInternal_d00df_b35 {ns0 : Nat} {ns1 : Nat} {M Z : Mem} (h : f_J5_ensureCapacityInternal_d00df_b35 ns0 ns1 M = some Z) : GX M Z := by
  unfold f_J5_ensureCapacityInternal_d00df_b35 at h
  obtain ⟨gq0, h⟩ := gdS h
  obtain ⟨M1m, e_M1m, h⟩ := bndS h
  have q_M1m : GX M M1m := GX.tr (GX.refl M) (by rw [e_M1m]; exact (EQ_R _ _ _ (by omega)).gx)
  rw [← Option.some.inj h]
  exact q_M1m
set_option maxRecDepth 100000 in
set_option maxHeartbeats 4000000 in
theorem b_J5_ensureCapacityInternal_d00df_b35 {K : Kt} {X : Xt} (hp : St K) (hk : KC K) {mc ms : Nat} (hB : Bx K X { frames := 3, cells := mc, slots := ms, locals := 69 } cJ5_ensureCapacityInternal_d00df 3 RJ5 none) {M1 : Mem} {ns0 : Nat} {ns1 : Nat} {ce sl : Nat} {M : Mem} (hF : f_J5_ensureCapacityInternal_d00df_b35 ns0 ns1 M = some M1) (hn : mc + M.2.2.2 = ce + M1.2.2.2) (hz : ms + szM M = sl + szM M1) : Wt K X (QM K X none M1 mc ms) ce sl M 35 [] [vr ns1, vr ns0] := by
  have hg := m_J5_ensureCapacityInternal_d00df_b35 hF
  have hg1 := hg.1
  have hg2 := hg.2.1
  unfold f_J5_ensureCapacityInternal_d00df_b35 at hF
  obtain ⟨g1, hF⟩ := gdS hF
  obtain ⟨M1m, e_M1m, hF⟩ := bndS hF
  have q_M1m : EQ M M1m := by rw [e_M1m]; exact EQ_R _ _ _ (by omega)
  have x_M1m := q_M1m.gx
  have n_M1m := q_M1m.1
  have z_M1m := q_M1m.sz
  refine w_putRd hB ff_J4_0 (dqM g1) g1.1 q_597 (ty := .array .byte) rfl (nar_arr _ _) (fit_arr _ _) e_M1m dJ5_ensureCapacityInternal_d00df_35 ?_
  cases hF
  have hmc : mc = ce := by omega
  have hms : ms = sl := by omega
  subst hmc
  subst hms
  exact w_vret hB dJ5_ensureCapacityInternal_d00df_38
def f_J5_ensureCapacityInternal_d00df (n0 : Nat) (x1 : Int32) (M : Mem) : Option Mem :=
  gd (1000 ≤ n0 ∧ dsc M n0 = 11 ∧ n0 - 753 < M.2.2.2) <|
  gd (1000 ≤ (M.2.2.1 n0 0) ∧ dsc M (M.2.2.1 n0 0) = 22 ∧ (M.2.2.1 n0 0) - 753 < M.2.2.2) <|
  bnd ((Int32.ofNat (dln M (M.2.2.1 n0 0))) >>> ((M.1 n0 1) &&& 31)) fun a1 =>
  if (x1 - a1) ≤ 0 then
    some M
  else
    cl (f_J5_newCapacity_0f7a4 n0 x1 M) fun r1 M1m =>
    cl (f_J7_copyOf_9075b (M.2.2.1 n0 0) (r1 <<< ((M1m.1 n0 1) &&& 31)) M1m) fun o1 M2m =>
    f_J5_ensureCapacityInternal_d00df_b35 n0 o1 M2m
set_option maxRecDepth 100000 in
set_option maxHeartbeats 4000000 in
theorem m_J5_ensureCapacityInternal_d00df {n0 : Nat} {x1 : Int32} {M Z : Mem} (h : f_J5_ensureCapacityInternal_d00df n0 x1 M = some Z) : GX M Z := by
  unfold f_J5_ensureCapacityInternal_d00df at h
  obtain ⟨gq0, h⟩ := gdS h
  obtain ⟨gq1, h⟩ := gdS h
  obtain ⟨a1, e_a1, h⟩ := bndS h
  rcases ifS h with ⟨-, h⟩ | ⟨-, h⟩
  · rw [← Option.some.inj h]
    exact (GX.refl M)
  · obtain ⟨r1, M1m, c_M1m, h⟩ := clS h
    have q_M1m : GX M M1m := GX.tr (GX.refl M) ((k_J5_newCapacity_0f7a4 c_M1m).gx)
    obtain ⟨o1, M2m, c_M2m, h⟩ := clS h
    have q_M2m : GX M M2m := GX.tr q_M1m (m_J7_copyOf_9075b c_M2m)
    exact GX.tr q_M2m (m_J5_ensureCapacityInternal_d00df_b35 h)
set_option maxRecDepth 100000 in
set_option maxHeartbeats 4000000 in
theorem b_J5_ensureCapacityInternal_d00df {K : Kt} {X : Xt} (hp : St K) (hk : KC K) {mc ms : Nat} (hB : Bx K X { frames := 3, cells := mc, slots := ms, locals := 69 } cJ5_ensureCapacityInternal_d00df 3 RJ5 none) {M1 : Mem} {n0 : Nat} {x1 : Int32} {ce sl : Nat} {M : Mem} (hF : f_J5_ensureCapacityInternal_d00df n0 x1 M = some M1) (hn : mc + M.2.2.2 = ce + M1.2.2.2) (hz : ms + szM M = sl + szM M1) : Wt K X (QM K X none M1 mc ms) ce sl M 0 [(0, vr n0), (1, vi x1)] [] := by
  have hg := m_J5_ensureCapacityInternal_d00df hF
  have hg1 := hg.1
  have hg2 := hg.2.1
  unfold f_J5_ensureCapacityInternal_d00df at hF
  refine w_aload_n hB 0 dJ5_ensureCapacityInternal_d00df_0 rfl rfl ?_
  obtain ⟨g1, hF⟩ := gdS hF
  refine w_getR hB ff_J4_0 (dqM g1) q_597 dJ5_ensureCapacityInternal_d00df_1 ?_
  obtain ⟨g2, hF⟩ := gdS hF
  refine w_alen hB (v := Int32.ofNat (dln M (M.2.2.1 n0 0))) (c := 2) (dqM g2) (by decide) (sl_d g2.1 rfl) rfl dJ5_ensureCapacityInternal_d00df_4 ?_
  refine w_aload_n hB 0 dJ5_ensureCapacityInternal_d00df_5 rfl rfl ?_
  refine w_getI hB ff_J4_1 (dqM g1) q_598 dJ5_ensureCapacityInternal_d00df_6 ?_
  refine w_ishr hB dJ5_ensureCapacityInternal_d00df_9 ?_
  obtain ⟨a1, e_a1, hF⟩ := bndS hF
  refine w_istore_n hB (L' := [(2, vi a1), (0, vr n0), (1, vi x1)]) dJ5_ensureCapacityInternal_d00df_10 rfl (by decide) e_a1 rfl ?_
  refine w_iload_n hB 2 dJ5_ensureCapacityInternal_d00df_11 rfl rfl ?_
  refine w_iload_n hB 0 dJ5_ensureCapacityInternal_d00df_12 rfl rfl ?_
  refine w_isub hB dJ5_ensureCapacityInternal_d00df_13 ?_
  refine w_if_le hB 38 dJ5_ensureCapacityInternal_d00df_14 (by decide) (fun hc => ?_) (fun hc => ?_)
  · replace hF := ifT hc hF
    cases hF
    have hmc : mc = ce := by omega
    have hms : ms = sl := by omega
    subst hmc
    subst hms
    exact w_vret hB dJ5_ensureCapacityInternal_d00df_38
  · replace hF := ifF hc hF
    refine w_aload_n hB 1 dJ5_ensureCapacityInternal_d00df_17 rfl rfl ?_
    refine w_aload_n hB 1 dJ5_ensureCapacityInternal_d00df_18 rfl rfl ?_
    refine w_getR hB ff_J4_0 (dqM g1) q_597 dJ5_ensureCapacityInternal_d00df_19 ?_
    refine w_aload_n hB 1 dJ5_ensureCapacityInternal_d00df_22 rfl rfl ?_
    refine w_iload_n hB 2 dJ5_ensureCapacityInternal_d00df_23 rfl rfl ?_
    obtain ⟨r1, M1m, hc_M1m, hF⟩ := clS hF
    have q_M1m : EQ M M1m := k_J5_newCapacity_0f7a4 hc_M1m
    have x_M1m := q_M1m.gx
    have n_M1m := q_M1m.1
    have z_M1m := q_M1m.sz
    refine w_callP (M1 := M1m) hB (As := [vi x1]) (st := [vr (M.2.2.1 n0 0), vr n0]) cw_J5_104 q_628 (selP hB rfl q_627 q_628) (ci := 10) rfl (dqM g1) (c_J5_newCapacity_0f7a4 hp hc_M1m) ⟨rfl, rfl⟩ ⟨Nat.le_of_ble_eq_true rfl, Nat.le_of_ble_eq_true rfl⟩ ⟨show ce ≤ mc by omega, show sl ≤ ms by omega⟩ rfl (Nat.le_of_ble_eq_true rfl) dJ5_ensureCapacityInternal_d00df_24 rfl ?_ (Or.inl rfl)
    refine w_aload_n hB 1 dJ5_ensureCapacityInternal_d00df_27 rfl rfl ?_
    refine w_getI hB ff_J4_1 (dqM (GX.dyo x_M1m g1)) q_598 dJ5_ensureCapacityInternal_d00df_28 ?_
    refine w_ishl hB dJ5_ensureCapacityInternal_d00df_31 ?_
    obtain ⟨o1, M2m, hc_M2m, hF⟩ := clS hF
    have x_M2m := m_J7_copyOf_9075b hc_M2m
    have xa_M2m := x_M2m.1
    have xb_M2m := x_M2m.2.1
    have hg3 := m_J5_ensureCapacityInternal_d00df_b35 hF
    have hg4 := hg3.1
    have hg5 := hg3.2.1
    refine w_callS (M1 := M2m) hB (As := [vr (M.2.2.1 n0 0), vi (r1 <<< ((M1m.1 n0 1) &&& 31))]) (st := [vr n0]) cw_J5_108 q_642 (c_J7_copyOf_9075b hp hk hc_M2m) ⟨rfl, rfl⟩ ⟨Nat.le_of_ble_eq_true rfl, Nat.le_of_ble_eq_true rfl⟩ ⟨show ce + (M2m.2.2.2 - M1m.2.2.2) ≤ mc by omega, show sl + (szM M2m - szM M1m) ≤ ms by omega⟩ rfl (Nat.le_of_ble_eq_true rfl) dJ5_ensureCapacityInternal_d00df_32 rfl ?_ (Or.inr (by omega))
    exact Wt.sub (L' := []) [] rfl (b_J5_ensureCapacityInternal_d00df_b35 hp hk hB hF (by omega) (by omega))
theorem c_J5_ensureCapacityInternal_d00df {K : Kt} {l : Launch} (hp : St K) (hk : KC K) {M1 : Mem} {n0 : Nat} {x1 : Int32} {M : Mem} (hF : f_J5_ensureCapacityInternal_d00df n0 x1 M = some M1) : MT K l yJ5_ensureCapacityInternal_d00df cJ5_ensureCapacityInternal_d00df 3 none { frames := 3, cells := M1.2.2.2 - M.2.2.2, slots := szM M1 - szM M, locals := 69 } [vr n0, vi x1] M none M1 (M1.2.2.2 - M.2.2.2) (szM M1 - szM M) := by
  have hg := m_J5_ensureCapacityInternal_d00df hF
  have hg1 := hg.1
  have hg2 := hg.2.1
  exact MT_of (by decide) rfl (Nat.le_of_ble_eq_true rfl) (fun X _ hB _ => b_J5_ensureCapacityInternal_d00df hp hk hB hF (by omega) (by omega))
def f_J5_append_cf1ce_b24 (n0 : Nat) (n1 : Nat) (x2 : Int32) (M : Mem) : Option (Nat × Mem) :=
  gd (1000 ≤ n0 ∧ dsc M n0 = 11 ∧ n0 - 753 < M.2.2.2) <|
  clv (f_J5_putStringAt_47b60 n0 (M.1 n0 3) n1 M) fun M1m =>
  bnd (setI M1m n0 3 ((M1m.1 n0 3) + x2)) fun M2m =>
  some (n0, M2m)
set_option maxRecDepth 100000 in
set_option maxHeartbeats 4000000 in
theorem m_J5_append_cf1ce_b24 {n0 : Nat} {n1 : Nat} {x2 : Int32} {M Z : Mem} {r : Nat} (h : f_J5_append_cf1ce_b24 n0 n1 x2 M = some (r, Z)) : GX M Z := by
  unfold f_J5_append_cf1ce_b24 at h
  obtain ⟨gq0, h⟩ := gdS h
  obtain ⟨M1m, c_M1m, h⟩ := clvS h
  have q_M1m : GX M M1m := GX.tr (GX.refl M) ((k_J5_putStringAt_47b60 c_M1m).gx)
  obtain ⟨M2m, e_M2m, h⟩ := bndS h
  have q_M2m : GX M M2m := GX.tr q_M1m (by rw [e_M2m]; exact (EQ_I _ _ _ _).gx)
  obtain ⟨-, e⟩ := retS h
  rw [← e]
  exact q_M2m
set_option maxRecDepth 100000 in
set_option maxHeartbeats 4000000 in
theorem b_J5_append_cf1ce_b24 {K : Kt} {X : Xt} (hp : St K) (hk : KC K) {mc ms : Nat} (hB : Bx K X { frames := 4, cells := mc, slots := ms, locals := 91 } cJ5_append_cf1ce 3 RJ5 (some (.object "java/lang/AbstractStringBuilder"))) {r : Nat} {M1 : Mem} {n0 : Nat} {n1 : Nat} {x2 : Int32} {ce sl : Nat} {M : Mem} (hF : f_J5_append_cf1ce_b24 n0 n1 x2 M = some (r, M1)) (hn : mc + M.2.2.2 = ce + M1.2.2.2) (hz : ms + szM M = sl + szM M1) : Wt K X (QM K X (some (vr r)) M1 mc ms) ce sl M 24 [(0, vr n0), (1, vr n1), (2, vi x2)] [] := by
  have hg := m_J5_append_cf1ce_b24 hF
  have hg1 := hg.1
  have hg2 := hg.2.1
  unfold f_J5_append_cf1ce_b24 at hF
  refine w_aload_n hB 0 dJ5_append_cf1ce_24 rfl rfl ?_
  refine w_aload_n hB 0 dJ5_append_cf1ce_25 rfl rfl ?_
  obtain ⟨g1, hF⟩ := gdS hF
  refine w_getI hB ff_J4_3 (dqM g1) q_600 dJ5_append_cf1ce_26 ?_
  refine w_aload_n hB 1 dJ5_append_cf1ce_29 rfl rfl ?_
  obtain ⟨M1m, hc_M1m, hF⟩ := clvS hF
  have q_M1m : EQ M M1m := k_J5_putStringAt_47b60 hc_M1m
  have x_M1m := q_M1m.gx
  have n_M1m := q_M1m.1
  have z_M1m := q_M1m.sz
  refine w_callP (M1 := M1m) hB (As := [vi (M.1 n0 3), vr n1]) (st := []) cw_J5_208 q_697 (selP hB rfl q_696 q_697) (ci := 10) rfl (dqM g1) (c_J5_putStringAt_47b60 hp hc_M1m) ⟨rfl, rfl⟩ ⟨Nat.le_of_ble_eq_true rfl, Nat.le_of_ble_eq_true rfl⟩ ⟨show ce ≤ mc by omega, show sl ≤ ms by omega⟩ rfl (Nat.le_of_ble_eq_true rfl) dJ5_append_cf1ce_30 rfl ?_ (Or.inl rfl)
  refine w_aload_n hB 0 dJ5_append_cf1ce_33 rfl rfl ?_
  refine w_dup hB rfl dJ5_append_cf1ce_34 ?_
  refine w_getI hB ff_J4_3 (dqM (GX.dyo x_M1m g1)) q_600 dJ5_append_cf1ce_35 ?_
  refine w_iload_n hB 2 dJ5_append_cf1ce_38 rfl rfl ?_
  refine w_iadd hB dJ5_append_cf1ce_39 ?_
  obtain ⟨M2m, e_M2m, hF⟩ := bndS hF
  have q_M2m : EQ M1m M2m := by rw [e_M2m]; exact EQ_I _ _ _ _
  have x_M2m := q_M2m.gx
  have n_M2m := q_M2m.1
  have z_M2m := q_M2m.sz
  refine w_putI hB ff_J4_3 (dqM (GX.dyo x_M1m g1)) q_600 e_M2m dJ5_append_cf1ce_40 ?_
  refine w_aload_n hB 0 dJ5_append_cf1ce_43 rfl rfl ?_
  obtain ⟨e1, e2⟩ := retS hF
  subst e2
  have hmc : mc = ce := by omega
  have hms : ms = sl := by omega
  subst hmc
  subst hms
  exact w_aret hB dJ5_append_cf1ce_44 e1
def f_J5_append_cf1ce (n0 : Nat) (n1 : Nat) (M : Mem) : Option (Nat × Mem) :=
  gd (400 ≤ n1 ∧ n1 < 426) <|
  cl (f_J0_length_8abf5K n1 M) fun r1 M1m =>
  gd (1000 ≤ n0 ∧ dsc M1m n0 = 11 ∧ n0 - 753 < M1m.2.2.2) <|
  clv (f_J5_ensureCapacityInternal_d00df n0 ((M1m.1 n0 3) + r1) M1m) fun M2m =>
  f_J5_append_cf1ce_b24 n0 n1 r1 M2m
set_option maxRecDepth 100000 in
set_option maxHeartbeats 4000000 in
theorem m_J5_append_cf1ce {n0 : Nat} {n1 : Nat} {M Z : Mem} {r : Nat} (h : f_J5_append_cf1ce n0 n1 M = some (r, Z)) : GX M Z := by
  unfold f_J5_append_cf1ce at h
  obtain ⟨gq0, h⟩ := gdS h
  obtain ⟨r1, M1m, c_M1m, h⟩ := clS h
  have q_M1m : GX M M1m := GX.tr (GX.refl M) ((k_J0_length_8abf5K c_M1m).gx)
  obtain ⟨gq2, h⟩ := gdS h
  obtain ⟨M2m, c_M2m, h⟩ := clvS h
  have q_M2m : GX M M2m := GX.tr q_M1m (m_J5_ensureCapacityInternal_d00df c_M2m)
  exact GX.tr q_M2m (m_J5_append_cf1ce_b24 h)
set_option maxRecDepth 100000 in
set_option maxHeartbeats 4000000 in
theorem b_J5_append_cf1ce {K : Kt} {X : Xt} (hp : St K) (hk : KC K) {mc ms : Nat} (hB : Bx K X { frames := 4, cells := mc, slots := ms, locals := 91 } cJ5_append_cf1ce 3 RJ5 (some (.object "java/lang/AbstractStringBuilder"))) {r : Nat} {M1 : Mem} {n0 : Nat} {n1 : Nat} {ce sl : Nat} {M : Mem} (hF : f_J5_append_cf1ce n0 n1 M = some (r, M1)) (hn : mc + M.2.2.2 = ce + M1.2.2.2) (hz : ms + szM M = sl + szM M1) : Wt K X (QM K X (some (vr r)) M1 mc ms) ce sl M 0 [(0, vr n0), (1, vr n1)] [] := by
  have hg := m_J5_append_cf1ce hF
  have hg1 := hg.1
  have hg2 := hg.2.1
  unfold f_J5_append_cf1ce at hF
  refine w_aload_n hB 1 dJ5_append_cf1ce_0 rfl rfl ?_
  obtain ⟨g1, hF⟩ := gdS hF
  refine w_ifnn hB 9 (Or.inr (Or.inr ⟨by omega, by omega⟩)) dJ5_append_cf1ce_1 (by decide) ?_
  refine w_aload_n hB 1 dJ5_append_cf1ce_9 rfl rfl ?_
  obtain ⟨r1, M1m, hc_M1m, hF⟩ := clS hF
  have q_M1m : EQ M M1m := k_J0_length_8abf5K hc_M1m
  have x_M1m := q_M1m.gx
  have n_M1m := q_M1m.1
  have z_M1m := q_M1m.sz
  refine w_callStr (M1 := M1m) hB hp g1 (As := []) (st := []) cw_J5_32 q_687 q_688 (c_J0_length_8abf5K hp hc_M1m) ⟨rfl, rfl⟩ ⟨Nat.le_of_ble_eq_true rfl, Nat.le_of_ble_eq_true rfl⟩ ⟨show ce ≤ mc by omega, show sl ≤ ms by omega⟩ rfl (Nat.le_of_ble_eq_true rfl) dJ5_append_cf1ce_10 rfl ?_ (Or.inl rfl)
  refine w_istore_n hB (L' := [(2, vi r1), (0, vr n0), (1, vr n1)]) dJ5_append_cf1ce_13 rfl (by decide) rfl rfl ?_
  refine w_aload_n hB 1 dJ5_append_cf1ce_14 rfl rfl ?_
  refine w_aload_n hB 1 dJ5_append_cf1ce_15 rfl rfl ?_
  obtain ⟨g2, hF⟩ := gdS hF
  refine w_getI hB ff_J4_3 (dqM g2) q_600 dJ5_append_cf1ce_16 ?_
  refine w_iload_n hB 0 dJ5_append_cf1ce_19 rfl rfl ?_
  refine w_iadd hB dJ5_append_cf1ce_20 ?_
  obtain ⟨M2m, hc_M2m, hF⟩ := clvS hF
  have x_M2m := m_J5_ensureCapacityInternal_d00df hc_M2m
  have xa_M2m := x_M2m.1
  have xb_M2m := x_M2m.2.1
  have hg3 := m_J5_append_cf1ce_b24 hF
  have hg4 := hg3.1
  have hg5 := hg3.2.1
  refine w_callP (M1 := M2m) hB (As := [vi ((M1m.1 n0 3) + r1)]) (st := []) cw_J5_100 q_624 (selP hB rfl q_623 q_624) (ci := 10) rfl (dqM g2) (c_J5_ensureCapacityInternal_d00df hp hk hc_M2m) ⟨rfl, rfl⟩ ⟨Nat.le_of_ble_eq_true rfl, Nat.le_of_ble_eq_true rfl⟩ ⟨show ce + (M2m.2.2.2 - M1m.2.2.2) ≤ mc by omega, show sl + (szM M2m - szM M1m) ≤ ms by omega⟩ rfl (Nat.le_of_ble_eq_true rfl) dJ5_append_cf1ce_21 rfl ?_ (Or.inr (by omega))
  exact Wt.sub (L' := [(0, vr n0), (1, vr n1), (2, vi r1)]) [1, 2, 0] rfl (b_J5_append_cf1ce_b24 hp hk hB hF (by omega) (by omega))
theorem c_J5_append_cf1ce {K : Kt} {l : Launch} (hp : St K) (hk : KC K) {r : Nat} {M1 : Mem} {n0 : Nat} {n1 : Nat} {M : Mem} (hF : f_J5_append_cf1ce n0 n1 M = some (r, M1)) : MT K l yJ5_append_cf1ce cJ5_append_cf1ce 3 (some (.object "java/lang/AbstractStringBuilder")) { frames := 4, cells := M1.2.2.2 - M.2.2.2, slots := szM M1 - szM M, locals := 91 } [vr n0, vr n1] M (some (vr r)) M1 (M1.2.2.2 - M.2.2.2) (szM M1 - szM M) := by
  have hg := m_J5_append_cf1ce hF
  have hg1 := hg.1
  have hg2 := hg.2.1
  exact MT_of (by decide) rfl (Nat.le_of_ble_eq_true rfl) (fun X _ hB _ => b_J5_append_cf1ce hp hk hB hF (by omega) (by omega))
def f_J5_append_3fe6f_b56 (n0 : Nat) (x1 : Int32) (M : Mem) : Option (Nat × Mem) :=
  gd (1000 ≤ n0 ∧ dsc M n0 = 11 ∧ n0 - 753 < M.2.2.2) <|
  bnd (setI M n0 3 ((M.1 n0 3) + 1)) fun M1m =>
  none
set_option maxRecDepth 100000 in
set_option maxHeartbeats 4000000 in
theorem m_J5_append_3fe6f_b56 {n0 : Nat} {x1 : Int32} {M Z : Mem} {r : Nat} (h : f_J5_append_3fe6f_b56 n0 x1 M = some (r, Z)) : GX M Z := by
  unfold f_J5_append_3fe6f_b56 at h
  obtain ⟨gq0, h⟩ := gdS h
  obtain ⟨M1m, e_M1m, h⟩ := bndS h
  have q_M1m : GX M M1m := GX.tr (GX.refl M) (by rw [e_M1m]; exact (EQ_I _ _ _ _).gx)
  cases h
set_option maxRecDepth 100000 in
set_option maxHeartbeats 4000000 in
theorem b_J5_append_3fe6f_b56 {K : Kt} {X : Xt} (hp : St K) (hk : KC K) {mc ms : Nat} (hB : Bx K X { frames := 4, cells := mc, slots := ms, locals := 91 } cJ5_append_3fe6f 2 RJ5 (some (.object "java/lang/AbstractStringBuilder"))) {r : Nat} {M1 : Mem} {n0 : Nat} {x1 : Int32} {ce sl : Nat} {M : Mem} (hF : f_J5_append_3fe6f_b56 n0 x1 M = some (r, M1)) (hn : mc + M.2.2.2 = ce + M1.2.2.2) (hz : ms + szM M = sl + szM M1) : Wt K X (QM K X (some (vr r)) M1 mc ms) ce sl M 56 [(0, vr n0), (1, vi x1)] [] := by
  have hg := m_J5_append_3fe6f_b56 hF
  have hg1 := hg.1
  have hg2 := hg.2.1
  unfold f_J5_append_3fe6f_b56 at hF
  refine w_aload_n hB 0 dJ5_append_3fe6f_56 rfl rfl ?_
  obtain ⟨g1, hF⟩ := gdS hF
  refine w_getR hB ff_J4_0 (dqM g1) q_597 dJ5_append_3fe6f_57 ?_
  refine w_aload_n hB 0 dJ5_append_3fe6f_60 rfl rfl ?_
  refine w_dup hB rfl dJ5_append_3fe6f_61 ?_
  refine w_getI hB ff_J4_3 (dqM g1) q_600 dJ5_append_3fe6f_62 ?_
  refine w_dupx1 hB rfl rfl dJ5_append_3fe6f_65 ?_
  refine w_iconst hB 1 (by decide) dJ5_append_3fe6f_66 ?_
  refine w_iadd hB dJ5_append_3fe6f_67 ?_
  obtain ⟨M1m, e_M1m, hF⟩ := bndS hF
  have q_M1m : EQ M M1m := by rw [e_M1m]; exact EQ_I _ _ _ _
  have x_M1m := q_M1m.gx
  have n_M1m := q_M1m.1
  have z_M1m := q_M1m.sz
  refine w_putI hB ff_J4_3 (dqM g1) q_600 e_M1m dJ5_append_3fe6f_68 ?_
  refine w_iload_n hB 1 dJ5_append_3fe6f_71 rfl rfl ?_
  cases hF
def f_J5_append_3fe6f_b45 (n0 : Nat) (x1 : Int32) (M : Mem) : Option (Nat × Mem) :=
  gd (1000 ≤ n0 ∧ dsc M n0 = 11 ∧ n0 - 753 < M.2.2.2) <|
  cl (f_J5_isLatin1_aae02 n0 M) fun r1 M1m =>
  if r1 = 0 then
    f_J5_append_3fe6f_b56 n0 x1 M1m
  else
    none
set_option maxRecDepth 100000 in
set_option maxHeartbeats 4000000 in
theorem m_J5_append_3fe6f_b45 {n0 : Nat} {x1 : Int32} {M Z : Mem} {r : Nat} (h : f_J5_append_3fe6f_b45 n0 x1 M = some (r, Z)) : GX M Z := by
  unfold f_J5_append_3fe6f_b45 at h
  obtain ⟨gq0, h⟩ := gdS h
  obtain ⟨r1, M1m, c_M1m, h⟩ := clS h
  have q_M1m : GX M M1m := GX.tr (GX.refl M) ((k_J5_isLatin1_aae02 c_M1m).gx)
  rcases ifS h with ⟨-, h⟩ | ⟨-, h⟩
  · exact GX.tr q_M1m (m_J5_append_3fe6f_b56 h)
  · cases h
set_option maxRecDepth 100000 in
set_option maxHeartbeats 4000000 in
theorem b_J5_append_3fe6f_b45 {K : Kt} {X : Xt} (hp : St K) (hk : KC K) {mc ms : Nat} (hB : Bx K X { frames := 4, cells := mc, slots := ms, locals := 91 } cJ5_append_3fe6f 2 RJ5 (some (.object "java/lang/AbstractStringBuilder"))) {r : Nat} {M1 : Mem} {n0 : Nat} {x1 : Int32} {ce sl : Nat} {M : Mem} (hF : f_J5_append_3fe6f_b45 n0 x1 M = some (r, M1)) (hn : mc + M.2.2.2 = ce + M1.2.2.2) (hz : ms + szM M = sl + szM M1) : Wt K X (QM K X (some (vr r)) M1 mc ms) ce sl M 45 [(0, vr n0), (1, vi x1)] [] := by
  have hg := m_J5_append_3fe6f_b45 hF
  have hg1 := hg.1
  have hg2 := hg.2.1
  unfold f_J5_append_3fe6f_b45 at hF
  refine w_aload_n hB 0 dJ5_append_3fe6f_45 rfl rfl ?_
  obtain ⟨g1, hF⟩ := gdS hF
  obtain ⟨r1, M1m, hc_M1m, hF⟩ := clS hF
  have q_M1m : EQ M M1m := k_J5_isLatin1_aae02 hc_M1m
  have x_M1m := q_M1m.gx
  have n_M1m := q_M1m.1
  have z_M1m := q_M1m.sz
  refine w_callP (M1 := M1m) hB (As := []) (st := []) cw_J5_83 q_656 (hB.2.2.2.2.1 _ q_658) (ci := 10) rfl (dqM g1) (c_J5_isLatin1_aae02 hp hc_M1m) ⟨rfl, rfl⟩ ⟨Nat.le_of_ble_eq_true rfl, Nat.le_of_ble_eq_true rfl⟩ ⟨show ce ≤ mc by omega, show sl ≤ ms by omega⟩ rfl (Nat.le_of_ble_eq_true rfl) dJ5_append_3fe6f_46 rfl ?_ (Or.inl rfl)
  refine w_if_eq hB 56 dJ5_append_3fe6f_49 (by decide) (fun hc => ?_) (fun hc => ?_)
  · replace hF := ifT hc hF
    exact Wt.sub (L' := [(0, vr n0), (1, vi x1)]) [0, 1] rfl (b_J5_append_3fe6f_b56 hp hk hB hF (by omega) (by omega))
  · replace hF := ifF hc hF
    refine w_aload_n hB 0 dJ5_append_3fe6f_52 rfl rfl ?_
    cases hF
def f_J5_append_3fe6f_b10 (n0 : Nat) (x1 : Int32) (M : Mem) : Option (Nat × Mem) :=
  gd (1000 ≤ n0 ∧ dsc M n0 = 11 ∧ n0 - 753 < M.2.2.2) <|
  cl (f_J5_isLatin1_aae02 n0 M) fun r1 M1m =>
  if r1 = 0 then
    f_J5_append_3fe6f_b45 n0 x1 M1m
  else
    cl (f_J1_canEncode_fc78d x1 M1m) fun r2 M2m =>
    if r2 = 0 then
      f_J5_append_3fe6f_b45 n0 x1 M2m
    else
      bnd (setI M2m n0 3 ((M2m.1 n0 3) + 1)) fun M3m =>
      gd (1000 ≤ (M2m.2.2.1 n0 0) ∧ dsc M3m (M2m.2.2.1 n0 0) = 22 ∧ (M2m.2.2.1 n0 0) - 753 < M3m.2.2.2) <|
      gd (inb (M2m.1 n0 3) (dln M3m (M2m.2.2.1 n0 0))) <|
      bnd (setI M3m (M2m.2.2.1 n0 0) ((M2m.1 n0 3).toNatClampNeg) (vp_nar .byte (x1.toInt8.toInt32))) fun M4m =>
      some (n0, M4m)
set_option maxRecDepth 100000 in
set_option maxHeartbeats 4000000 in
theorem m_J5_append_3fe6f_b10 {n0 : Nat} {x1 : Int32} {M Z : Mem} {r : Nat} (h : f_J5_append_3fe6f_b10 n0 x1 M = some (r, Z)) : GX M Z := by
  unfold f_J5_append_3fe6f_b10 at h
  obtain ⟨gq0, h⟩ := gdS h
  obtain ⟨r1, M1m, c_M1m, h⟩ := clS h
  have q_M1m : GX M M1m := GX.tr (GX.refl M) ((k_J5_isLatin1_aae02 c_M1m).gx)
  rcases ifS h with ⟨-, h⟩ | ⟨-, h⟩
  · exact GX.tr q_M1m (m_J5_append_3fe6f_b45 h)
  · obtain ⟨r2, M2m, c_M2m, h⟩ := clS h
    have q_M2m : GX M M2m := GX.tr q_M1m ((k_J1_canEncode_fc78d c_M2m).gx)
    rcases ifS h with ⟨-, h⟩ | ⟨-, h⟩
    · exact GX.tr q_M2m (m_J5_append_3fe6f_b45 h)
    · obtain ⟨M3m, e_M3m, h⟩ := bndS h
      have q_M3m : GX M M3m := GX.tr q_M2m (by rw [e_M3m]; exact (EQ_I _ _ _ _).gx)
      obtain ⟨gq10, h⟩ := gdS h
      obtain ⟨gq11, h⟩ := gdS h
      obtain ⟨M4m, e_M4m, h⟩ := bndS h
      have q_M4m : GX M M4m := GX.tr q_M3m (by rw [e_M4m]; exact (EQ_I _ _ _ _).gx)
      obtain ⟨-, e⟩ := retS h
      rw [← e]
      exact q_M4m
set_option maxRecDepth 100000 in
set_option maxHeartbeats 4000000 in
theorem b_J5_append_3fe6f_b10 {K : Kt} {X : Xt} (hp : St K) (hk : KC K) {mc ms : Nat} (hB : Bx K X { frames := 4, cells := mc, slots := ms, locals := 91 } cJ5_append_3fe6f 2 RJ5 (some (.object "java/lang/AbstractStringBuilder"))) {r : Nat} {M1 : Mem} {n0 : Nat} {x1 : Int32} {ce sl : Nat} {M : Mem} (hF : f_J5_append_3fe6f_b10 n0 x1 M = some (r, M1)) (hn : mc + M.2.2.2 = ce + M1.2.2.2) (hz : ms + szM M = sl + szM M1) : Wt K X (QM K X (some (vr r)) M1 mc ms) ce sl M 10 [(0, vr n0), (1, vi x1)] [] := by
  have hg := m_J5_append_3fe6f_b10 hF
  have hg1 := hg.1
  have hg2 := hg.2.1
  unfold f_J5_append_3fe6f_b10 at hF
  refine w_aload_n hB 0 dJ5_append_3fe6f_10 rfl rfl ?_
  obtain ⟨g1, hF⟩ := gdS hF
  obtain ⟨r1, M1m, hc_M1m, hF⟩ := clS hF
  have q_M1m : EQ M M1m := k_J5_isLatin1_aae02 hc_M1m
  have x_M1m := q_M1m.gx
  have n_M1m := q_M1m.1
  have z_M1m := q_M1m.sz
  refine w_callP (M1 := M1m) hB (As := []) (st := []) cw_J5_83 q_656 (hB.2.2.2.2.1 _ q_658) (ci := 10) rfl (dqM g1) (c_J5_isLatin1_aae02 hp hc_M1m) ⟨rfl, rfl⟩ ⟨Nat.le_of_ble_eq_true rfl, Nat.le_of_ble_eq_true rfl⟩ ⟨show ce ≤ mc by omega, show sl ≤ ms by omega⟩ rfl (Nat.le_of_ble_eq_true rfl) dJ5_append_3fe6f_11 rfl ?_ (Or.inl rfl)
  refine w_if_eq hB 45 dJ5_append_3fe6f_14 (by decide) (fun hc => ?_) (fun hc => ?_)
  · replace hF := ifT hc hF
    exact Wt.sub (L' := [(0, vr n0), (1, vi x1)]) [0, 1] rfl (b_J5_append_3fe6f_b45 hp hk hB hF (by omega) (by omega))
  · replace hF := ifF hc hF
    refine w_iload_n hB 1 dJ5_append_3fe6f_17 rfl rfl ?_
    obtain ⟨r2, M2m, hc_M2m, hF⟩ := clS hF
    have q_M2m : EQ M1m M2m := k_J1_canEncode_fc78d hc_M2m
    have x_M2m := q_M2m.gx
    have n_M2m := q_M2m.1
    have z_M2m := q_M2m.sz
    refine w_callS (M1 := M2m) hB (As := [vi x1]) (st := []) cw_J5_191 q_737 (c_J1_canEncode_fc78d hp hc_M2m) ⟨rfl, rfl⟩ ⟨Nat.le_of_ble_eq_true rfl, Nat.le_of_ble_eq_true rfl⟩ ⟨show ce ≤ mc by omega, show sl ≤ ms by omega⟩ rfl (Nat.le_of_ble_eq_true rfl) dJ5_append_3fe6f_18 rfl ?_ (Or.inl rfl)
    refine w_if_eq hB 45 dJ5_append_3fe6f_21 (by decide) (fun hc => ?_) (fun hc => ?_)
    · replace hF := ifT hc hF
      exact Wt.sub (L' := [(0, vr n0), (1, vi x1)]) [0, 1] rfl (b_J5_append_3fe6f_b45 hp hk hB hF (by omega) (by omega))
    · replace hF := ifF hc hF
      refine w_aload_n hB 0 dJ5_append_3fe6f_24 rfl rfl ?_
      refine w_getR hB ff_J4_0 (dqM (GX.dyo x_M2m (GX.dyo x_M1m g1))) q_597 dJ5_append_3fe6f_25 ?_
      refine w_aload_n hB 0 dJ5_append_3fe6f_28 rfl rfl ?_
      refine w_dup hB rfl dJ5_append_3fe6f_29 ?_
      refine w_getI hB ff_J4_3 (dqM (GX.dyo x_M2m (GX.dyo x_M1m g1))) q_600 dJ5_append_3fe6f_30 ?_
      refine w_dupx1 hB rfl rfl dJ5_append_3fe6f_33 ?_
      refine w_iconst hB 1 (by decide) dJ5_append_3fe6f_34 ?_
      refine w_iadd hB dJ5_append_3fe6f_35 ?_
      obtain ⟨M3m, e_M3m, hF⟩ := bndS hF
      have q_M3m : EQ M2m M3m := by rw [e_M3m]; exact EQ_I _ _ _ _
      have x_M3m := q_M3m.gx
      have n_M3m := q_M3m.1
      have z_M3m := q_M3m.sz
      refine w_putI hB ff_J4_3 (dqM (GX.dyo x_M2m (GX.dyo x_M1m g1))) q_600 e_M3m dJ5_append_3fe6f_36 ?_
      refine w_iload_n hB 1 dJ5_append_3fe6f_39 rfl rfl ?_
      refine w_i2b hB dJ5_append_3fe6f_40 ?_
      obtain ⟨g2, hF⟩ := gdS hF
      obtain ⟨g3, hF⟩ := gdS hF
      obtain ⟨M4m, e_M4m, hF⟩ := bndS hF
      have q_M4m : EQ M3m M4m := by rw [e_M4m]; exact EQ_I _ _ _ _
      have x_M4m := q_M4m.gx
      have n_M4m := q_M4m.1
      have z_M4m := q_M4m.sz
      refine w_bast hB (dqM g2) (sl_d g2.1 rfl) g3 e_M4m dJ5_append_3fe6f_41 ?_
      refine w_goto hB 75 dJ5_append_3fe6f_42 (by decide) ?_
      refine w_aload_n hB 0 dJ5_append_3fe6f_75 rfl rfl ?_
      obtain ⟨e1, e2⟩ := retS hF
      subst e2
      have hmc : mc = ce := by omega
      have hms : ms = sl := by omega
      subst hmc
      subst hms
      exact w_aret hB dJ5_append_3fe6f_76 e1
def f_J5_append_3fe6f (n0 : Nat) (x1 : Int32) (M : Mem) : Option (Nat × Mem) :=
  gd (1000 ≤ n0 ∧ dsc M n0 = 11 ∧ n0 - 753 < M.2.2.2) <|
  clv (f_J5_ensureCapacityInternal_d00df n0 ((M.1 n0 3) + 1) M) fun M1m =>
  f_J5_append_3fe6f_b10 n0 x1 M1m
set_option maxRecDepth 100000 in
set_option maxHeartbeats 4000000 in
theorem m_J5_append_3fe6f {n0 : Nat} {x1 : Int32} {M Z : Mem} {r : Nat} (h : f_J5_append_3fe6f n0 x1 M = some (r, Z)) : GX M Z := by
  unfold f_J5_append_3fe6f at h
  obtain ⟨gq0, h⟩ := gdS h
  obtain ⟨M1m, c_M1m, h⟩ := clvS h
  have q_M1m : GX M M1m := GX.tr (GX.refl M) (m_J5_ensureCapacityInternal_d00df c_M1m)
  exact GX.tr q_M1m (m_J5_append_3fe6f_b10 h)
set_option maxRecDepth 100000 in
set_option maxHeartbeats 4000000 in
theorem b_J5_append_3fe6f {K : Kt} {X : Xt} (hp : St K) (hk : KC K) {mc ms : Nat} (hB : Bx K X { frames := 4, cells := mc, slots := ms, locals := 91 } cJ5_append_3fe6f 2 RJ5 (some (.object "java/lang/AbstractStringBuilder"))) {r : Nat} {M1 : Mem} {n0 : Nat} {x1 : Int32} {ce sl : Nat} {M : Mem} (hF : f_J5_append_3fe6f n0 x1 M = some (r, M1)) (hn : mc + M.2.2.2 = ce + M1.2.2.2) (hz : ms + szM M = sl + szM M1) : Wt K X (QM K X (some (vr r)) M1 mc ms) ce sl M 0 [(0, vr n0), (1, vi x1)] [] := by
  have hg := m_J5_append_3fe6f hF
  have hg1 := hg.1
  have hg2 := hg.2.1
  unfold f_J5_append_3fe6f at hF
  refine w_aload_n hB 0 dJ5_append_3fe6f_0 rfl rfl ?_
  refine w_aload_n hB 0 dJ5_append_3fe6f_1 rfl rfl ?_
  obtain ⟨g1, hF⟩ := gdS hF
  refine w_getI hB ff_J4_3 (dqM g1) q_600 dJ5_append_3fe6f_2 ?_
  refine w_iconst hB 1 (by decide) dJ5_append_3fe6f_5 ?_
  refine w_iadd hB dJ5_append_3fe6f_6 ?_
  obtain ⟨M1m, hc_M1m, hF⟩ := clvS hF
  have x_M1m := m_J5_ensureCapacityInternal_d00df hc_M1m
  have xa_M1m := x_M1m.1
  have xb_M1m := x_M1m.2.1
  have hg3 := m_J5_append_3fe6f_b10 hF
  have hg4 := hg3.1
  have hg5 := hg3.2.1
  refine w_callP (M1 := M1m) hB (As := [vi ((M.1 n0 3) + 1)]) (st := []) cw_J5_100 q_624 (selP hB rfl q_623 q_624) (ci := 10) rfl (dqM g1) (c_J5_ensureCapacityInternal_d00df hp hk hc_M1m) ⟨rfl, rfl⟩ ⟨Nat.le_of_ble_eq_true rfl, Nat.le_of_ble_eq_true rfl⟩ ⟨show ce + (M1m.2.2.2 - M.2.2.2) ≤ mc by omega, show sl + (szM M1m - szM M) ≤ ms by omega⟩ rfl (Nat.le_of_ble_eq_true rfl) dJ5_append_3fe6f_7 rfl ?_ (Or.inr (by omega))
  exact Wt.sub (L' := [(0, vr n0), (1, vi x1)]) [0, 1] rfl (b_J5_append_3fe6f_b10 hp hk hB hF (by omega) (by omega))
theorem c_J5_append_3fe6f {K : Kt} {l : Launch} (hp : St K) (hk : KC K) {r : Nat} {M1 : Mem} {n0 : Nat} {x1 : Int32} {M : Mem} (hF : f_J5_append_3fe6f n0 x1 M = some (r, M1)) : MT K l yJ5_append_3fe6f cJ5_append_3fe6f 2 (some (.object "java/lang/AbstractStringBuilder")) { frames := 4, cells := M1.2.2.2 - M.2.2.2, slots := szM M1 - szM M, locals := 91 } [vr n0, vi x1] M (some (vr r)) M1 (M1.2.2.2 - M.2.2.2) (szM M1 - szM M) := by
  have hg := m_J5_append_3fe6f hF
  have hg1 := hg.1
  have hg2 := hg.2.1
  exact MT_of (by decide) rfl (Nat.le_of_ble_eq_true rfl) (fun X _ hB _ => b_J5_append_3fe6f hp hk hB hF (by omega) (by omega))
def f_J5_append_c97b9_b48 (n0 : Nat) (x3 : Int32) (M : Mem) : Option (Nat × Mem) :=
  gd (1000 ≤ n0 ∧ dsc M n0 = 11 ∧ n0 - 753 < M.2.2.2) <|
  bnd (setI M n0 3 x3) fun M1m =>
  some (n0, M1m)
set_option maxRecDepth 100000 in
set_option maxHeartbeats 4000000 in
theorem m_J5_append_c97b9_b48 {n0 : Nat} {x3 : Int32} {M Z : Mem} {r : Nat} (h : f_J5_append_c97b9_b48 n0 x3 M = some (r, Z)) : GX M Z := by
  unfold f_J5_append_c97b9_b48 at h
  obtain ⟨gq0, h⟩ := gdS h
  obtain ⟨M1m, e_M1m, h⟩ := bndS h
  have q_M1m : GX M M1m := GX.tr (GX.refl M) (by rw [e_M1m]; exact (EQ_I _ _ _ _).gx)
  obtain ⟨-, e⟩ := retS h
  rw [← e]
  exact q_M1m
set_option maxRecDepth 100000 in
set_option maxHeartbeats 4000000 in
theorem b_J5_append_c97b9_b48 {K : Kt} {X : Xt} (hp : St K) (hk : KC K) {mc ms : Nat} (hB : Bx K X { frames := 4, cells := mc, slots := ms, locals := 91 } cJ5_append_c97b9 4 RJ5 (some (.object "java/lang/AbstractStringBuilder"))) {r : Nat} {M1 : Mem} {n0 : Nat} {x3 : Int32} {ce sl : Nat} {M : Mem} (hF : f_J5_append_c97b9_b48 n0 x3 M = some (r, M1)) (hn : mc + M.2.2.2 = ce + M1.2.2.2) (hz : ms + szM M = sl + szM M1) : Wt K X (QM K X (some (vr r)) M1 mc ms) ce sl M 48 [(0, vr n0), (3, vi x3)] [] := by
  have hg := m_J5_append_c97b9_b48 hF
  have hg1 := hg.1
  have hg2 := hg.2.1
  unfold f_J5_append_c97b9_b48 at hF
  refine w_aload_n hB 0 dJ5_append_c97b9_48 rfl rfl ?_
  refine w_iload_n hB 1 dJ5_append_c97b9_49 rfl rfl ?_
  obtain ⟨g1, hF⟩ := gdS hF
  obtain ⟨M1m, e_M1m, hF⟩ := bndS hF
  have q_M1m : EQ M M1m := by rw [e_M1m]; exact EQ_I _ _ _ _
  have x_M1m := q_M1m.gx
  have n_M1m := q_M1m.1
  have z_M1m := q_M1m.sz
  refine w_putI hB ff_J4_3 (dqM g1) q_600 e_M1m dJ5_append_c97b9_50 ?_
  refine w_aload_n hB 0 dJ5_append_c97b9_53 rfl rfl ?_
  obtain ⟨e1, e2⟩ := retS hF
  subst e2
  have hmc : mc = ce := by omega
  have hms : ms = sl := by omega
  subst hmc
  subst hms
  exact w_aret hB dJ5_append_c97b9_54 e1
def f_J5_append_c97b9_b17 (n0 : Nat) (x1 : Int32) (x2 : Int32) (x3 : Int32) (M : Mem) : Option (Nat × Mem) :=
  gd (1000 ≤ n0 ∧ dsc M n0 = 11 ∧ n0 - 753 < M.2.2.2) <|
  cl (f_J5_isLatin1_aae02 n0 M) fun r1 M1m =>
  if r1 = 0 then
    none
  else
    cl (f_J6_getChars_ba4f3 x1 x3 (M1m.2.2.1 n0 0) M1m) fun r2 M2m =>
    f_J5_append_c97b9_b48 n0 x3 M2m
set_option maxRecDepth 100000 in
set_option maxHeartbeats 4000000 in
theorem m_J5_append_c97b9_b17 {n0 : Nat} {x1 : Int32} {x2 : Int32} {x3 : Int32} {M Z : Mem} {r : Nat} (h : f_J5_append_c97b9_b17 n0 x1 x2 x3 M = some (r, Z)) : GX M Z := by
  unfold f_J5_append_c97b9_b17 at h
  obtain ⟨gq0, h⟩ := gdS h
  obtain ⟨r1, M1m, c_M1m, h⟩ := clS h
  have q_M1m : GX M M1m := GX.tr (GX.refl M) ((k_J5_isLatin1_aae02 c_M1m).gx)
  rcases ifS h with ⟨-, h⟩ | ⟨-, h⟩
  · cases h
  · obtain ⟨r2, M2m, c_M2m, h⟩ := clS h
    have q_M2m : GX M M2m := GX.tr q_M1m ((k_J6_getChars_ba4f3 c_M2m).gx)
    exact GX.tr q_M2m (m_J5_append_c97b9_b48 h)
set_option maxRecDepth 100000 in
set_option maxHeartbeats 4000000 in
theorem b_J5_append_c97b9_b17 {K : Kt} {X : Xt} (hp : St K) (hk : KC K) {mc ms : Nat} (hB : Bx K X { frames := 4, cells := mc, slots := ms, locals := 91 } cJ5_append_c97b9 4 RJ5 (some (.object "java/lang/AbstractStringBuilder"))) {r : Nat} {M1 : Mem} {n0 : Nat} {x1 : Int32} {x2 : Int32} {x3 : Int32} {ce sl : Nat} {M : Mem} (hF : f_J5_append_c97b9_b17 n0 x1 x2 x3 M = some (r, M1)) (hn : mc + M.2.2.2 = ce + M1.2.2.2) (hz : ms + szM M = sl + szM M1) : Wt K X (QM K X (some (vr r)) M1 mc ms) ce sl M 17 [(0, vr n0), (1, vi x1), (2, vi x2), (3, vi x3)] [] := by
  have hg := m_J5_append_c97b9_b17 hF
  have hg1 := hg.1
  have hg2 := hg.2.1
  unfold f_J5_append_c97b9_b17 at hF
  refine w_aload_n hB 0 dJ5_append_c97b9_17 rfl rfl ?_
  obtain ⟨g1, hF⟩ := gdS hF
  obtain ⟨r1, M1m, hc_M1m, hF⟩ := clS hF
  have q_M1m : EQ M M1m := k_J5_isLatin1_aae02 hc_M1m
  have x_M1m := q_M1m.gx
  have n_M1m := q_M1m.1
  have z_M1m := q_M1m.sz
  refine w_callP (M1 := M1m) hB (As := []) (st := []) cw_J5_83 q_656 (hB.2.2.2.2.1 _ q_658) (ci := 10) rfl (dqM g1) (c_J5_isLatin1_aae02 hp hc_M1m) ⟨rfl, rfl⟩ ⟨Nat.le_of_ble_eq_true rfl, Nat.le_of_ble_eq_true rfl⟩ ⟨show ce ≤ mc by omega, show sl ≤ ms by omega⟩ rfl (Nat.le_of_ble_eq_true rfl) dJ5_append_c97b9_18 rfl ?_ (Or.inl rfl)
  refine w_if_eq hB 37 dJ5_append_c97b9_21 (by decide) (fun hc => ?_) (fun hc => ?_)
  · replace hF := ifT hc hF
    refine w_iload_n hB 1 dJ5_append_c97b9_37 rfl rfl ?_
    refine w_iload_n hB 2 dJ5_append_c97b9_38 rfl rfl ?_
    refine w_iload_n hB 3 dJ5_append_c97b9_39 rfl rfl ?_
    refine w_aload_n hB 0 dJ5_append_c97b9_40 rfl rfl ?_
    refine w_getR hB ff_J4_0 (dqM (GX.dyo x_M1m g1)) q_597 dJ5_append_c97b9_41 ?_
    cases hF
  · replace hF := ifF hc hF
    refine w_iload_n hB 1 dJ5_append_c97b9_24 rfl rfl ?_
    refine w_iload_n hB 3 dJ5_append_c97b9_25 rfl rfl ?_
    refine w_aload_n hB 0 dJ5_append_c97b9_26 rfl rfl ?_
    refine w_getR hB ff_J4_0 (dqM (GX.dyo x_M1m g1)) q_597 dJ5_append_c97b9_27 ?_
    obtain ⟨r2, M2m, hc_M2m, hF⟩ := clS hF
    have q_M2m : EQ M1m M2m := k_J6_getChars_ba4f3 hc_M2m
    have x_M2m := q_M2m.gx
    have n_M2m := q_M2m.1
    have z_M2m := q_M2m.sz
    refine w_callS (M1 := M2m) hB (As := [vi x1, vi x3, vr (M1m.2.2.1 n0 0)]) (st := []) cw_J5_248 q_771 (c_J6_getChars_ba4f3 hp hc_M2m) ⟨rfl, rfl⟩ ⟨Nat.le_of_ble_eq_true rfl, Nat.le_of_ble_eq_true rfl⟩ ⟨show ce ≤ mc by omega, show sl ≤ ms by omega⟩ rfl (Nat.le_of_ble_eq_true rfl) dJ5_append_c97b9_30 rfl ?_ (Or.inl rfl)
    refine w_pop hB rfl dJ5_append_c97b9_33 ?_
    refine w_goto hB 48 dJ5_append_c97b9_34 (by decide) ?_
    exact Wt.sub (L' := [(0, vr n0), (3, vi x3)]) [0, 3] rfl (b_J5_append_c97b9_b48 hp hk hB hF (by omega) (by omega))
def f_J5_append_c97b9 (n0 : Nat) (x1 : Int32) (M : Mem) : Option (Nat × Mem) :=
  gd (1000 ≤ n0 ∧ dsc M n0 = 11 ∧ n0 - 753 < M.2.2.2) <|
  bnd (M.1 n0 3) fun a1 =>
  cl (f_J6_stringSize_0f7a4 x1 M) fun r1 M1m =>
  bnd (a1 + r1) fun a2 =>
  clv (f_J5_ensureCapacityInternal_d00df n0 a2 M1m) fun M2m =>
  f_J5_append_c97b9_b17 n0 x1 a1 a2 M2m
set_option maxRecDepth 100000 in
set_option maxHeartbeats 4000000 in
theorem m_J5_append_c97b9 {n0 : Nat} {x1 : Int32} {M Z : Mem} {r : Nat} (h : f_J5_append_c97b9 n0 x1 M = some (r, Z)) : GX M Z := by
  unfold f_J5_append_c97b9 at h
  obtain ⟨gq0, h⟩ := gdS h
  obtain ⟨a1, e_a1, h⟩ := bndS h
  obtain ⟨r1, M1m, c_M1m, h⟩ := clS h
  have q_M1m : GX M M1m := GX.tr (GX.refl M) ((k_J6_stringSize_0f7a4 c_M1m).gx)
  obtain ⟨a2, e_a2, h⟩ := bndS h
  obtain ⟨M2m, c_M2m, h⟩ := clvS h
  have q_M2m : GX M M2m := GX.tr q_M1m (m_J5_ensureCapacityInternal_d00df c_M2m)
  exact GX.tr q_M2m (m_J5_append_c97b9_b17 h)
set_option maxRecDepth 100000 in
set_option maxHeartbeats 4000000 in
theorem b_J5_append_c97b9 {K : Kt} {X : Xt} (hp : St K) (hk : KC K) {mc ms : Nat} (hB : Bx K X { frames := 4, cells := mc, slots := ms, locals := 91 } cJ5_append_c97b9 4 RJ5 (some (.object "java/lang/AbstractStringBuilder"))) {r : Nat} {M1 : Mem} {n0 : Nat} {x1 : Int32} {ce sl : Nat} {M : Mem} (hF : f_J5_append_c97b9 n0 x1 M = some (r, M1)) (hn : mc + M.2.2.2 = ce + M1.2.2.2) (hz : ms + szM M = sl + szM M1) : Wt K X (QM K X (some (vr r)) M1 mc ms) ce sl M 0 [(0, vr n0), (1, vi x1)] [] := by
  have hg := m_J5_append_c97b9 hF
  have hg1 := hg.1
  have hg2 := hg.2.1
  unfold f_J5_append_c97b9 at hF
  refine w_aload_n hB 0 dJ5_append_c97b9_0 rfl rfl ?_
  obtain ⟨g1, hF⟩ := gdS hF
  refine w_getI hB ff_J4_3 (dqM g1) q_600 dJ5_append_c97b9_1 ?_
  obtain ⟨a1, e_a1, hF⟩ := bndS hF
  refine w_istore_n hB (L' := [(2, vi a1), (0, vr n0), (1, vi x1)]) dJ5_append_c97b9_4 rfl (by decide) e_a1 rfl ?_
  refine w_iload_n hB 0 dJ5_append_c97b9_5 rfl rfl ?_
  refine w_iload_n hB 2 dJ5_append_c97b9_6 rfl rfl ?_
  obtain ⟨r1, M1m, hc_M1m, hF⟩ := clS hF
  have q_M1m : EQ M M1m := k_J6_stringSize_0f7a4 hc_M1m
  have x_M1m := q_M1m.gx
  have n_M1m := q_M1m.1
  have z_M1m := q_M1m.sz
  refine w_callS (M1 := M1m) hB (As := [vi x1]) (st := [vi a1]) cw_J5_245 q_768 (c_J6_stringSize_0f7a4 hp hc_M1m) ⟨rfl, rfl⟩ ⟨Nat.le_of_ble_eq_true rfl, Nat.le_of_ble_eq_true rfl⟩ ⟨show ce ≤ mc by omega, show sl ≤ ms by omega⟩ rfl (Nat.le_of_ble_eq_true rfl) dJ5_append_c97b9_7 rfl ?_ (Or.inl rfl)
  refine w_iadd hB dJ5_append_c97b9_10 ?_
  obtain ⟨a2, e_a2, hF⟩ := bndS hF
  refine w_istore_n hB (L' := [(3, vi a2), (2, vi a1), (0, vr n0), (1, vi x1)]) dJ5_append_c97b9_11 rfl (by decide) e_a2 rfl ?_
  refine w_aload_n hB 2 dJ5_append_c97b9_12 rfl rfl ?_
  refine w_iload_n hB 0 dJ5_append_c97b9_13 rfl rfl ?_
  obtain ⟨M2m, hc_M2m, hF⟩ := clvS hF
  have x_M2m := m_J5_ensureCapacityInternal_d00df hc_M2m
  have xa_M2m := x_M2m.1
  have xb_M2m := x_M2m.2.1
  have hg3 := m_J5_append_c97b9_b17 hF
  have hg4 := hg3.1
  have hg5 := hg3.2.1
  refine w_callP (M1 := M2m) hB (As := [vi a2]) (st := []) cw_J5_100 q_624 (selP hB rfl q_623 q_624) (ci := 10) rfl (dqM (GX.dyo x_M1m g1)) (c_J5_ensureCapacityInternal_d00df hp hk hc_M2m) ⟨rfl, rfl⟩ ⟨Nat.le_of_ble_eq_true rfl, Nat.le_of_ble_eq_true rfl⟩ ⟨show ce + (M2m.2.2.2 - M1m.2.2.2) ≤ mc by omega, show sl + (szM M2m - szM M1m) ≤ ms by omega⟩ rfl (Nat.le_of_ble_eq_true rfl) dJ5_append_c97b9_14 rfl ?_ (Or.inr (by omega))
  exact Wt.sub (L' := [(0, vr n0), (1, vi x1), (2, vi a1), (3, vi a2)]) [2, 3, 1, 0] rfl (b_J5_append_c97b9_b17 hp hk hB hF (by omega) (by omega))
theorem c_J5_append_c97b9 {K : Kt} {l : Launch} (hp : St K) (hk : KC K) {r : Nat} {M1 : Mem} {n0 : Nat} {x1 : Int32} {M : Mem} (hF : f_J5_append_c97b9 n0 x1 M = some (r, M1)) : MT K l yJ5_append_c97b9 cJ5_append_c97b9 4 (some (.object "java/lang/AbstractStringBuilder")) { frames := 4, cells := M1.2.2.2 - M.2.2.2, slots := szM M1 - szM M, locals := 91 } [vr n0, vi x1] M (some (vr r)) M1 (M1.2.2.2 - M.2.2.2) (szM M1 - szM M) := by
  have hg := m_J5_append_c97b9 hF
  have hg1 := hg.1
  have hg2 := hg.2.1
  exact MT_of (by decide) rfl (Nat.le_of_ble_eq_true rfl) (fun X _ hB _ => b_J5_append_c97b9 hp hk hB hF (by omega) (by omega))
def f_J4_append_15ec4_b5 (n0 : Nat) (ns0 : Nat) (M : Mem) : Option (Nat × Mem) :=
  some (n0, M)
set_option maxRecDepth 100000 in
set_option maxHeartbeats 4000000 in
theorem m_J4_append_15ec4_b5 {n0 : Nat} {ns0 : Nat} {M Z : Mem} {r : Nat} (h : f_J4_append_15ec4_b5 n0 ns0 M = some (r, Z)) : GX M Z := by
  unfold f_J4_append_15ec4_b5 at h
  obtain ⟨-, e⟩ := retS h
  rw [← e]
  exact (GX.refl M)
set_option maxRecDepth 100000 in
set_option maxHeartbeats 4000000 in
theorem b_J4_append_15ec4_b5 {K : Kt} {X : Xt} (hp : St K) (hk : KC K) {mc ms : Nat} (hB : Bx K X { frames := 5, cells := mc, slots := ms, locals := 113 } cJ4_append_15ec4 2 RJ4 (some (.object "java/lang/StringBuilder"))) {r : Nat} {M1 : Mem} {n0 : Nat} {ns0 : Nat} {ce sl : Nat} {M : Mem} (hF : f_J4_append_15ec4_b5 n0 ns0 M = some (r, M1)) (hn : mc + M.2.2.2 = ce + M1.2.2.2) (hz : ms + szM M = sl + szM M1) : Wt K X (QM K X (some (vr r)) M1 mc ms) ce sl M 5 [(0, vr n0)] [vr ns0] := by
  have hg := m_J4_append_15ec4_b5 hF
  have hg1 := hg.1
  have hg2 := hg.2.1
  unfold f_J4_append_15ec4_b5 at hF
  refine w_pop hB rfl dJ4_append_15ec4_5 ?_
  refine w_aload_n hB 0 dJ4_append_15ec4_6 rfl rfl ?_
  obtain ⟨e1, e2⟩ := retS hF
  subst e2
  have hmc : mc = ce := by omega
  have hms : ms = sl := by omega
  subst hmc
  subst hms
  exact w_aret hB dJ4_append_15ec4_7 e1
def f_J4_append_15ec4 (n0 : Nat) (n1 : Nat) (M : Mem) : Option (Nat × Mem) :=
  gd (1000 ≤ n0 ∧ dsc M n0 = 11 ∧ n0 - 753 < M.2.2.2) <|
  cl (f_J5_append_cf1ce n0 n1 M) fun o1 M1m =>
  f_J4_append_15ec4_b5 n0 o1 M1m
set_option maxRecDepth 100000 in
set_option maxHeartbeats 4000000 in
theorem m_J4_append_15ec4 {n0 : Nat} {n1 : Nat} {M Z : Mem} {r : Nat} (h : f_J4_append_15ec4 n0 n1 M = some (r, Z)) : GX M Z := by
  unfold f_J4_append_15ec4 at h
  obtain ⟨gq0, h⟩ := gdS h
  obtain ⟨o1, M1m, c_M1m, h⟩ := clS h
  have q_M1m : GX M M1m := GX.tr (GX.refl M) (m_J5_append_cf1ce c_M1m)
  exact GX.tr q_M1m (m_J4_append_15ec4_b5 h)
set_option maxRecDepth 100000 in
set_option maxHeartbeats 4000000 in
theorem b_J4_append_15ec4 {K : Kt} {X : Xt} (hp : St K) (hk : KC K) {mc ms : Nat} (hB : Bx K X { frames := 5, cells := mc, slots := ms, locals := 113 } cJ4_append_15ec4 2 RJ4 (some (.object "java/lang/StringBuilder"))) {r : Nat} {M1 : Mem} {n0 : Nat} {n1 : Nat} {ce sl : Nat} {M : Mem} (hF : f_J4_append_15ec4 n0 n1 M = some (r, M1)) (hn : mc + M.2.2.2 = ce + M1.2.2.2) (hz : ms + szM M = sl + szM M1) : Wt K X (QM K X (some (vr r)) M1 mc ms) ce sl M 0 [(0, vr n0), (1, vr n1)] [] := by
  have hg := m_J4_append_15ec4 hF
  have hg1 := hg.1
  have hg2 := hg.2.1
  unfold f_J4_append_15ec4 at hF
  refine w_aload_n hB 0 dJ4_append_15ec4_0 rfl rfl ?_
  refine w_aload_n hB 1 dJ4_append_15ec4_1 rfl rfl ?_
  obtain ⟨g1, hF⟩ := gdS hF
  obtain ⟨o1, M1m, hc_M1m, hF⟩ := clS hF
  have x_M1m := m_J5_append_cf1ce hc_M1m
  have xa_M1m := x_M1m.1
  have xb_M1m := x_M1m.2.1
  have hg3 := m_J4_append_15ec4_b5 hF
  have hg4 := hg3.1
  have hg5 := hg3.2.1
  refine w_callSU (M1 := M1m) (y := yJ5_append_cf1ce) hB (As := [vr n1]) (st := []) (mem5 q_615 q_1217 q_609 q_616 q_22) q_617 ⟨by decide, by decide +kernel⟩ (ci := 10) rfl (dqM g1) (c_J5_append_cf1ce hp hk hc_M1m) ⟨rfl, rfl⟩ ⟨Nat.le_of_ble_eq_true rfl, Nat.le_of_ble_eq_true rfl⟩ ⟨show ce + (M1m.2.2.2 - M.2.2.2) ≤ mc by omega, show sl + (szM M1m - szM M) ≤ ms by omega⟩ rfl (Nat.le_of_ble_eq_true rfl) dJ4_append_15ec4_2 rfl ?_ (Or.inr (by omega))
  exact Wt.sub (L' := [(0, vr n0)]) [0] rfl (b_J4_append_15ec4_b5 hp hk hB hF (by omega) (by omega))
theorem c_J4_append_15ec4 {K : Kt} {l : Launch} (hp : St K) (hk : KC K) {r : Nat} {M1 : Mem} {n0 : Nat} {n1 : Nat} {M : Mem} (hF : f_J4_append_15ec4 n0 n1 M = some (r, M1)) : MT K l yJ4_append_15ec4 cJ4_append_15ec4 2 (some (.object "java/lang/StringBuilder")) { frames := 5, cells := M1.2.2.2 - M.2.2.2, slots := szM M1 - szM M, locals := 113 } [vr n0, vr n1] M (some (vr r)) M1 (M1.2.2.2 - M.2.2.2) (szM M1 - szM M) := by
  have hg := m_J4_append_15ec4 hF
  have hg1 := hg.1
  have hg2 := hg.2.1
  exact MT_of (by decide) rfl (Nat.le_of_ble_eq_true rfl) (fun X _ hB _ => b_J4_append_15ec4 hp hk hB hF (by omega) (by omega))
def f_J4_append_cf468_b5 (n0 : Nat) (ns0 : Nat) (M : Mem) : Option (Nat × Mem) :=
  some (n0, M)
set_option maxRecDepth 100000 in
set_option maxHeartbeats 4000000 in
theorem m_J4_append_cf468_b5 {n0 : Nat} {ns0 : Nat} {M Z : Mem} {r : Nat} (h : f_J4_append_cf468_b5 n0 ns0 M = some (r, Z)) : GX M Z := by
  unfold f_J4_append_cf468_b5 at h
  obtain ⟨-, e⟩ := retS h
  rw [← e]
  exact (GX.refl M)
set_option maxRecDepth 100000 in
set_option maxHeartbeats 4000000 in
theorem b_J4_append_cf468_b5 {K : Kt} {X : Xt} (hp : St K) (hk : KC K) {mc ms : Nat} (hB : Bx K X { frames := 5, cells := mc, slots := ms, locals := 112 } cJ4_append_cf468 2 RJ4 (some (.object "java/lang/StringBuilder"))) {r : Nat} {M1 : Mem} {n0 : Nat} {ns0 : Nat} {ce sl : Nat} {M : Mem} (hF : f_J4_append_cf468_b5 n0 ns0 M = some (r, M1)) (hn : mc + M.2.2.2 = ce + M1.2.2.2) (hz : ms + szM M = sl + szM M1) : Wt K X (QM K X (some (vr r)) M1 mc ms) ce sl M 5 [(0, vr n0)] [vr ns0] := by
  have hg := m_J4_append_cf468_b5 hF
  have hg1 := hg.1
  have hg2 := hg.2.1
  unfold f_J4_append_cf468_b5 at hF
  refine w_pop hB rfl dJ4_append_cf468_5 ?_
  refine w_aload_n hB 0 dJ4_append_cf468_6 rfl rfl ?_
  obtain ⟨e1, e2⟩ := retS hF
  subst e2
  have hmc : mc = ce := by omega
  have hms : ms = sl := by omega
  subst hmc
  subst hms
  exact w_aret hB dJ4_append_cf468_7 e1
def f_J4_append_cf468 (n0 : Nat) (x1 : Int32) (M : Mem) : Option (Nat × Mem) :=
  gd (1000 ≤ n0 ∧ dsc M n0 = 11 ∧ n0 - 753 < M.2.2.2) <|
  cl (f_J5_append_3fe6f n0 x1 M) fun o1 M1m =>
  f_J4_append_cf468_b5 n0 o1 M1m
set_option maxRecDepth 100000 in
set_option maxHeartbeats 4000000 in
theorem m_J4_append_cf468 {n0 : Nat} {x1 : Int32} {M Z : Mem} {r : Nat} (h : f_J4_append_cf468 n0 x1 M = some (r, Z)) : GX M Z := by
  unfold f_J4_append_cf468 at h
  obtain ⟨gq0, h⟩ := gdS h
  obtain ⟨o1, M1m, c_M1m, h⟩ := clS h
  have q_M1m : GX M M1m := GX.tr (GX.refl M) (m_J5_append_3fe6f c_M1m)
  exact GX.tr q_M1m (m_J4_append_cf468_b5 h)
set_option maxRecDepth 100000 in
set_option maxHeartbeats 4000000 in
theorem b_J4_append_cf468 {K : Kt} {X : Xt} (hp : St K) (hk : KC K) {mc ms : Nat} (hB : Bx K X { frames := 5, cells := mc, slots := ms, locals := 112 } cJ4_append_cf468 2 RJ4 (some (.object "java/lang/StringBuilder"))) {r : Nat} {M1 : Mem} {n0 : Nat} {x1 : Int32} {ce sl : Nat} {M : Mem} (hF : f_J4_append_cf468 n0 x1 M = some (r, M1)) (hn : mc + M.2.2.2 = ce + M1.2.2.2) (hz : ms + szM M = sl + szM M1) : Wt K X (QM K X (some (vr r)) M1 mc ms) ce sl M 0 [(0, vr n0), (1, vi x1)] [] := by
  have hg := m_J4_append_cf468 hF
  have hg1 := hg.1
  have hg2 := hg.2.1
  unfold f_J4_append_cf468 at hF
  refine w_aload_n hB 0 dJ4_append_cf468_0 rfl rfl ?_
  refine w_iload_n hB 1 dJ4_append_cf468_1 rfl rfl ?_
  obtain ⟨g1, hF⟩ := gdS hF
  obtain ⟨o1, M1m, hc_M1m, hF⟩ := clS hF
  have x_M1m := m_J5_append_3fe6f hc_M1m
  have xa_M1m := x_M1m.1
  have xb_M1m := x_M1m.2.1
  have hg3 := m_J4_append_cf468_b5 hF
  have hg4 := hg3.1
  have hg5 := hg3.2.1
  refine w_callSU (M1 := M1m) (y := yJ5_append_3fe6f) hB (As := [vi x1]) (st := []) (mem5 q_733 q_1224 q_609 q_734 q_22) q_735 ⟨by decide, by decide +kernel⟩ (ci := 10) rfl (dqM g1) (c_J5_append_3fe6f hp hk hc_M1m) ⟨rfl, rfl⟩ ⟨Nat.le_of_ble_eq_true rfl, Nat.le_of_ble_eq_true rfl⟩ ⟨show ce + (M1m.2.2.2 - M.2.2.2) ≤ mc by omega, show sl + (szM M1m - szM M) ≤ ms by omega⟩ rfl (Nat.le_of_ble_eq_true rfl) dJ4_append_cf468_2 rfl ?_ (Or.inr (by omega))
  exact Wt.sub (L' := [(0, vr n0)]) [0] rfl (b_J4_append_cf468_b5 hp hk hB hF (by omega) (by omega))
theorem c_J4_append_cf468 {K : Kt} {l : Launch} (hp : St K) (hk : KC K) {r : Nat} {M1 : Mem} {n0 : Nat} {x1 : Int32} {M : Mem} (hF : f_J4_append_cf468 n0 x1 M = some (r, M1)) : MT K l yJ4_append_cf468 cJ4_append_cf468 2 (some (.object "java/lang/StringBuilder")) { frames := 5, cells := M1.2.2.2 - M.2.2.2, slots := szM M1 - szM M, locals := 112 } [vr n0, vi x1] M (some (vr r)) M1 (M1.2.2.2 - M.2.2.2) (szM M1 - szM M) := by
  have hg := m_J4_append_cf468 hF
  have hg1 := hg.1
  have hg2 := hg.2.1
  exact MT_of (by decide) rfl (Nat.le_of_ble_eq_true rfl) (fun X _ hB _ => b_J4_append_cf468 hp hk hB hF (by omega) (by omega))
def f_J4_append_bf812_b5 (n0 : Nat) (ns0 : Nat) (M : Mem) : Option (Nat × Mem) :=
  some (n0, M)
set_option maxRecDepth 100000 in
set_option maxHeartbeats 4000000 in
theorem m_J4_append_bf812_b5 {n0 : Nat} {ns0 : Nat} {M Z : Mem} {r : Nat} (h : f_J4_append_bf812_b5 n0 ns0 M = some (r, Z)) : GX M Z := by
  unfold f_J4_append_bf812_b5 at h
  obtain ⟨-, e⟩ := retS h
  rw [← e]
  exact (GX.refl M)
set_option maxRecDepth 100000 in
set_option maxHeartbeats 4000000 in
theorem b_J4_append_bf812_b5 {K : Kt} {X : Xt} (hp : St K) (hk : KC K) {mc ms : Nat} (hB : Bx K X { frames := 5, cells := mc, slots := ms, locals := 114 } cJ4_append_bf812 2 RJ4 (some (.object "java/lang/StringBuilder"))) {r : Nat} {M1 : Mem} {n0 : Nat} {ns0 : Nat} {ce sl : Nat} {M : Mem} (hF : f_J4_append_bf812_b5 n0 ns0 M = some (r, M1)) (hn : mc + M.2.2.2 = ce + M1.2.2.2) (hz : ms + szM M = sl + szM M1) : Wt K X (QM K X (some (vr r)) M1 mc ms) ce sl M 5 [(0, vr n0)] [vr ns0] := by
  have hg := m_J4_append_bf812_b5 hF
  have hg1 := hg.1
  have hg2 := hg.2.1
  unfold f_J4_append_bf812_b5 at hF
  refine w_pop hB rfl dJ4_append_bf812_5 ?_
  refine w_aload_n hB 0 dJ4_append_bf812_6 rfl rfl ?_
  obtain ⟨e1, e2⟩ := retS hF
  subst e2
  have hmc : mc = ce := by omega
  have hms : ms = sl := by omega
  subst hmc
  subst hms
  exact w_aret hB dJ4_append_bf812_7 e1
def f_J4_append_bf812 (n0 : Nat) (x1 : Int32) (M : Mem) : Option (Nat × Mem) :=
  gd (1000 ≤ n0 ∧ dsc M n0 = 11 ∧ n0 - 753 < M.2.2.2) <|
  cl (f_J5_append_c97b9 n0 x1 M) fun o1 M1m =>
  f_J4_append_bf812_b5 n0 o1 M1m
set_option maxRecDepth 100000 in
set_option maxHeartbeats 4000000 in
theorem m_J4_append_bf812 {n0 : Nat} {x1 : Int32} {M Z : Mem} {r : Nat} (h : f_J4_append_bf812 n0 x1 M = some (r, Z)) : GX M Z := by
  unfold f_J4_append_bf812 at h
  obtain ⟨gq0, h⟩ := gdS h
  obtain ⟨o1, M1m, c_M1m, h⟩ := clS h
  have q_M1m : GX M M1m := GX.tr (GX.refl M) (m_J5_append_c97b9 c_M1m)
  exact GX.tr q_M1m (m_J4_append_bf812_b5 h)
set_option maxRecDepth 100000 in
set_option maxHeartbeats 4000000 in
theorem b_J4_append_bf812 {K : Kt} {X : Xt} (hp : St K) (hk : KC K) {mc ms : Nat} (hB : Bx K X { frames := 5, cells := mc, slots := ms, locals := 114 } cJ4_append_bf812 2 RJ4 (some (.object "java/lang/StringBuilder"))) {r : Nat} {M1 : Mem} {n0 : Nat} {x1 : Int32} {ce sl : Nat} {M : Mem} (hF : f_J4_append_bf812 n0 x1 M = some (r, M1)) (hn : mc + M.2.2.2 = ce + M1.2.2.2) (hz : ms + szM M = sl + szM M1) : Wt K X (QM K X (some (vr r)) M1 mc ms) ce sl M 0 [(0, vr n0), (1, vi x1)] [] := by
  have hg := m_J4_append_bf812 hF
  have hg1 := hg.1
  have hg2 := hg.2.1
  unfold f_J4_append_bf812 at hF
  refine w_aload_n hB 0 dJ4_append_bf812_0 rfl rfl ?_
  refine w_iload_n hB 1 dJ4_append_bf812_1 rfl rfl ?_
  obtain ⟨g1, hF⟩ := gdS hF
  obtain ⟨o1, M1m, hc_M1m, hF⟩ := clS hF
  have x_M1m := m_J5_append_c97b9 hc_M1m
  have xa_M1m := x_M1m.1
  have xb_M1m := x_M1m.2.1
  have hg3 := m_J4_append_bf812_b5 hF
  have hg4 := hg3.1
  have hg5 := hg3.2.1
  refine w_callSU (M1 := M1m) (y := yJ5_append_c97b9) hB (As := [vi x1]) (st := []) (mem5 q_764 q_1225 q_609 q_765 q_22) q_766 ⟨by decide, by decide +kernel⟩ (ci := 10) rfl (dqM g1) (c_J5_append_c97b9 hp hk hc_M1m) ⟨rfl, rfl⟩ ⟨Nat.le_of_ble_eq_true rfl, Nat.le_of_ble_eq_true rfl⟩ ⟨show ce + (M1m.2.2.2 - M.2.2.2) ≤ mc by omega, show sl + (szM M1m - szM M) ≤ ms by omega⟩ rfl (Nat.le_of_ble_eq_true rfl) dJ4_append_bf812_2 rfl ?_ (Or.inr (by omega))
  exact Wt.sub (L' := [(0, vr n0)]) [0] rfl (b_J4_append_bf812_b5 hp hk hB hF (by omega) (by omega))
theorem c_J4_append_bf812 {K : Kt} {l : Launch} (hp : St K) (hk : KC K) {r : Nat} {M1 : Mem} {n0 : Nat} {x1 : Int32} {M : Mem} (hF : f_J4_append_bf812 n0 x1 M = some (r, M1)) : MT K l yJ4_append_bf812 cJ4_append_bf812 2 (some (.object "java/lang/StringBuilder")) { frames := 5, cells := M1.2.2.2 - M.2.2.2, slots := szM M1 - szM M, locals := 114 } [vr n0, vi x1] M (some (vr r)) M1 (M1.2.2.2 - M.2.2.2) (szM M1 - szM M) := by
  have hg := m_J4_append_bf812 hF
  have hg1 := hg.1
  have hg2 := hg.2.1
  exact MT_of (by decide) rfl (Nat.le_of_ble_eq_true rfl) (fun X _ hB _ => b_J4_append_bf812 hp hk hB hF (by omega) (by omega))
def f_J0_init_db425_b94 (ns0 : Nat) (ns1 : Nat) (M : Mem) : Option Mem :=
  gd (1000 ≤ ns0 ∧ dsc M ns0 = 10 ∧ ns0 - 753 < M.2.2.2) <|
  bnd (setR M ns0 0 ns1) fun M1m =>
  some M1m
set_option maxRecDepth 100000 in
set_option maxHeartbeats 4000000 in
theorem m_J0_init_db425_b94 {ns0 : Nat} {ns1 : Nat} {M Z : Mem} (h : f_J0_init_db425_b94 ns0 ns1 M = some Z) : GX M Z := by
  unfold f_J0_init_db425_b94 at h
  obtain ⟨gq0, h⟩ := gdS h
  obtain ⟨M1m, e_M1m, h⟩ := bndS h
  have q_M1m : GX M M1m := GX.tr (GX.refl M) (by rw [e_M1m]; exact (EQ_R _ _ _ (by omega)).gx)
  rw [← Option.some.inj h]
  exact q_M1m
set_option maxRecDepth 100000 in
set_option maxHeartbeats 4000000 in
theorem b_J0_init_db425_b94 {K : Kt} {X : Xt} (hp : St K) (hk : KC K) {mc ms : Nat} (hB : Bx K X { frames := 3, cells := mc, slots := ms, locals := 72 } cJ0_init_db425 5 RJ0 none) (hi : X.2.2.2.2.2.2.2.2.1.name = "<init>") {M1 : Mem} {ns0 : Nat} {ns1 : Nat} {ce sl : Nat} {M : Mem} (hF : f_J0_init_db425_b94 ns0 ns1 M = some M1) (hn : mc + M.2.2.2 = ce + M1.2.2.2) (hz : ms + szM M = sl + szM M1) : Wt K X (QM K X none M1 mc ms) ce sl M 94 [] [vr ns1, vr ns0] := by
  have hg := m_J0_init_db425_b94 hF
  have hg1 := hg.1
  have hg2 := hg.2.1
  unfold f_J0_init_db425_b94 at hF
  obtain ⟨g1, hF⟩ := gdS hF
  obtain ⟨M1m, e_M1m, hF⟩ := bndS hF
  have q_M1m : EQ M M1m := by rw [e_M1m]; exact EQ_R _ _ _ (by omega)
  have x_M1m := q_M1m.gx
  have n_M1m := q_M1m.1
  have z_M1m := q_M1m.sz
  refine w_putRFd hB ff_J0_0 hi (dqM g1) g1.1 q_858 (ty := .array .byte) rfl (nar_arr _ _) (fit_arr _ _) e_M1m dJ0_init_db425_94 ?_
  cases hF
  have hmc : mc = ce := by omega
  have hms : ms = sl := by omega
  subst hmc
  subst hms
  exact w_vret hB dJ0_init_db425_97
def f_J0_init_db425_b79 (n0 : Nat) (n3 : Nat) (x4 : Int32) (M : Mem) : Option Mem :=
  gd (1000 ≤ n0 ∧ dsc M n0 = 10 ∧ n0 - 753 < M.2.2.2) <|
  bnd (setI M n0 1 1) fun M1m =>
  cl (f_J7_copyOfRange_39247 n3 0 (x4 <<< ((1 : Int32) &&& 31)) M1m) fun o1 M2m =>
  f_J0_init_db425_b94 n0 o1 M2m
set_option maxRecDepth 100000 in
set_option maxHeartbeats 4000000 in
theorem m_J0_init_db425_b79 {n0 : Nat} {n3 : Nat} {x4 : Int32} {M Z : Mem} (h : f_J0_init_db425_b79 n0 n3 x4 M = some Z) : GX M Z := by
  unfold f_J0_init_db425_b79 at h
  obtain ⟨gq0, h⟩ := gdS h
  obtain ⟨M1m, e_M1m, h⟩ := bndS h
  have q_M1m : GX M M1m := GX.tr (GX.refl M) (by rw [e_M1m]; exact (EQ_I _ _ _ _).gx)
  obtain ⟨o1, M2m, c_M2m, h⟩ := clS h
  have q_M2m : GX M M2m := GX.tr q_M1m (m_J7_copyOfRange_39247 c_M2m)
  exact GX.tr q_M2m (m_J0_init_db425_b94 h)
set_option maxRecDepth 100000 in
set_option maxHeartbeats 4000000 in
theorem b_J0_init_db425_b79 {K : Kt} {X : Xt} (hp : St K) (hk : KC K) {mc ms : Nat} (hB : Bx K X { frames := 3, cells := mc, slots := ms, locals := 72 } cJ0_init_db425 5 RJ0 none) (hi : X.2.2.2.2.2.2.2.2.1.name = "<init>") {M1 : Mem} {n0 : Nat} {n3 : Nat} {x4 : Int32} {ce sl : Nat} {M : Mem} (hF : f_J0_init_db425_b79 n0 n3 x4 M = some M1) (hn : mc + M.2.2.2 = ce + M1.2.2.2) (hz : ms + szM M = sl + szM M1) : Wt K X (QM K X none M1 mc ms) ce sl M 79 [(0, vr n0), (3, vr n3), (4, vi x4)] [] := by
  have hg := m_J0_init_db425_b79 hF
  have hg1 := hg.1
  have hg2 := hg.2.1
  unfold f_J0_init_db425_b79 at hF
  refine w_aload_n hB 0 dJ0_init_db425_79 rfl rfl ?_
  refine w_iconst hB 1 (by decide) dJ0_init_db425_80 ?_
  obtain ⟨g1, hF⟩ := gdS hF
  obtain ⟨M1m, e_M1m, hF⟩ := bndS hF
  have q_M1m : EQ M M1m := by rw [e_M1m]; exact EQ_I _ _ _ _
  have x_M1m := q_M1m.gx
  have n_M1m := q_M1m.1
  have z_M1m := q_M1m.sz
  refine w_putIFd hB ff_J0_1 hi (dqM g1) q_859 (ty := .byte) rfl rfl rfl e_M1m dJ0_init_db425_81 ?_
  refine w_aload_n hB 0 dJ0_init_db425_84 rfl rfl ?_
  refine w_aload_n hB 1 dJ0_init_db425_85 rfl rfl ?_
  refine w_iconst hB 0 (by decide) dJ0_init_db425_86 ?_
  refine w_iload hB 2 dJ0_init_db425_87 rfl ?_
  refine w_iconst hB 1 (by decide) dJ0_init_db425_89 ?_
  refine w_ishl hB dJ0_init_db425_90 ?_
  obtain ⟨o1, M2m, hc_M2m, hF⟩ := clS hF
  have x_M2m := m_J7_copyOfRange_39247 hc_M2m
  have xa_M2m := x_M2m.1
  have xb_M2m := x_M2m.2.1
  have hg3 := m_J0_init_db425_b94 hF
  have hg4 := hg3.1
  have hg5 := hg3.2.1
  refine w_callS (M1 := M2m) hB (As := [vr n3, vi 0, vi (x4 <<< ((1 : Int32) &&& 31))]) (st := [vr n0]) cw_J0_54 q_837 (c_J7_copyOfRange_39247 hp hk hc_M2m) ⟨rfl, rfl⟩ ⟨Nat.le_of_ble_eq_true rfl, Nat.le_of_ble_eq_true rfl⟩ ⟨show ce + (M2m.2.2.2 - M1m.2.2.2) ≤ mc by omega, show sl + (szM M2m - szM M1m) ≤ ms by omega⟩ rfl (Nat.le_of_ble_eq_true rfl) dJ0_init_db425_91 rfl ?_ (Or.inr (by omega))
  exact Wt.sub (L' := []) [] rfl (b_J0_init_db425_b94 hp hk hB hi hF (by omega) (by omega))
def f_J0_init_db425_b35 (ns0 : Nat) (ns1 : Nat) (M : Mem) : Option Mem :=
  gd (1000 ≤ ns0 ∧ dsc M ns0 = 10 ∧ ns0 - 753 < M.2.2.2) <|
  bnd (setR M ns0 0 ns1) fun M1m =>
  some M1m
set_option maxRecDepth 100000 in
set_option maxHeartbeats 4000000 in
theorem m_J0_init_db425_b35 {ns0 : Nat} {ns1 : Nat} {M Z : Mem} (h : f_J0_init_db425_b35 ns0 ns1 M = some Z) : GX M Z := by
  unfold f_J0_init_db425_b35 at h
  obtain ⟨gq0, h⟩ := gdS h
  obtain ⟨M1m, e_M1m, h⟩ := bndS h
  have q_M1m : GX M M1m := GX.tr (GX.refl M) (by rw [e_M1m]; exact (EQ_R _ _ _ (by omega)).gx)
  rw [← Option.some.inj h]
  exact q_M1m
set_option maxRecDepth 100000 in
set_option maxHeartbeats 4000000 in
theorem b_J0_init_db425_b35 {K : Kt} {X : Xt} (hp : St K) (hk : KC K) {mc ms : Nat} (hB : Bx K X { frames := 3, cells := mc, slots := ms, locals := 72 } cJ0_init_db425 5 RJ0 none) (hi : X.2.2.2.2.2.2.2.2.1.name = "<init>") {M1 : Mem} {ns0 : Nat} {ns1 : Nat} {ce sl : Nat} {M : Mem} (hF : f_J0_init_db425_b35 ns0 ns1 M = some M1) (hn : mc + M.2.2.2 = ce + M1.2.2.2) (hz : ms + szM M = sl + szM M1) : Wt K X (QM K X none M1 mc ms) ce sl M 35 [] [vr ns1, vr ns0] := by
  have hg := m_J0_init_db425_b35 hF
  have hg1 := hg.1
  have hg2 := hg.2.1
  unfold f_J0_init_db425_b35 at hF
  obtain ⟨g1, hF⟩ := gdS hF
  obtain ⟨M1m, e_M1m, hF⟩ := bndS hF
  have q_M1m : EQ M M1m := by rw [e_M1m]; exact EQ_R _ _ _ (by omega)
  have x_M1m := q_M1m.gx
  have n_M1m := q_M1m.1
  have z_M1m := q_M1m.sz
  refine w_putRFd hB ff_J0_0 hi (dqM g1) g1.1 q_858 (ty := .array .byte) rfl (nar_arr _ _) (fit_arr _ _) e_M1m dJ0_init_db425_35 ?_
  refine w_goto hB 97 dJ0_init_db425_38 (by decide) ?_
  cases hF
  have hmc : mc = ce := by omega
  have hms : ms = sl := by omega
  subst hmc
  subst hms
  exact w_vret hB dJ0_init_db425_97
def f_J0_init_db425 (n0 : Nat) (n1 : Nat) (n2 : Nat) (M : Mem) : Option Mem :=
  gd (1000 ≤ n0 ∧ dsc M n0 = 10 ∧ n0 - 753 < M.2.2.2) <|
  gd (1000 ≤ n1 ∧ dsc M n1 = 11 ∧ n1 - 753 < M.2.2.2) <|
  cl (f_J5_getValue_6d5f1 n1 M) fun o1 M1m =>
  cl (f_J4_length_8abf5 n1 M1m) fun r1 M2m =>
  cl (f_J5_isLatin1_aae02 n1 M2m) fun r2 M3m =>
  if r2 = 0 then
    if (1 : Int32) = 0 then
      f_J0_init_db425_b79 n0 o1 r1 M3m
    else
      if (M3m.1 n1 2) = 0 then
        f_J0_init_db425_b79 n0 o1 r1 M3m
      else
        none
  else
    bnd (setI M3m n0 1 0) fun M4m =>
    cl (f_J7_copyOfRange_39247 o1 0 r1 M4m) fun o2 M5m =>
    f_J0_init_db425_b35 n0 o2 M5m
set_option maxRecDepth 100000 in
set_option maxHeartbeats 4000000 in
theorem m_J0_init_db425 {n0 : Nat} {n1 : Nat} {n2 : Nat} {M Z : Mem} (h : f_J0_init_db425 n0 n1 n2 M = some Z) : GX M Z := by
  unfold f_J0_init_db425 at h
  obtain ⟨gq0, h⟩ := gdS h
  obtain ⟨gq1, h⟩ := gdS h
  obtain ⟨o1, M1m, c_M1m, h⟩ := clS h
  have q_M1m : GX M M1m := GX.tr (GX.refl M) ((k_J5_getValue_6d5f1 c_M1m).gx)
  obtain ⟨r1, M2m, c_M2m, h⟩ := clS h
  have q_M2m : GX M M2m := GX.tr q_M1m ((k_J4_length_8abf5 c_M2m).gx)
  obtain ⟨r2, M3m, c_M3m, h⟩ := clS h
  have q_M3m : GX M M3m := GX.tr q_M2m ((k_J5_isLatin1_aae02 c_M3m).gx)
  rcases ifS h with ⟨-, h⟩ | ⟨-, h⟩
  · rcases ifS h with ⟨-, h⟩ | ⟨-, h⟩
    · exact GX.tr q_M3m (m_J0_init_db425_b79 h)
    · rcases ifS h with ⟨-, h⟩ | ⟨-, h⟩
      · exact GX.tr q_M3m (m_J0_init_db425_b79 h)
      · cases h
  · obtain ⟨M4m, e_M4m, h⟩ := bndS h
    have q_M4m : GX M M4m := GX.tr q_M3m (by rw [e_M4m]; exact (EQ_I _ _ _ _).gx)
    obtain ⟨o2, M5m, c_M5m, h⟩ := clS h
    have q_M5m : GX M M5m := GX.tr q_M4m (m_J7_copyOfRange_39247 c_M5m)
    exact GX.tr q_M5m (m_J0_init_db425_b35 h)
set_option maxRecDepth 100000 in
set_option maxHeartbeats 4000000 in
theorem b_J0_init_db425 {K : Kt} {X : Xt} (hp : St K) (hk : KC K) {mc ms : Nat} (hB : Bx K X { frames := 3, cells := mc, slots := ms, locals := 72 } cJ0_init_db425 5 RJ0 none) (hi : X.2.2.2.2.2.2.2.2.1.name = "<init>") {M1 : Mem} {n0 : Nat} {n1 : Nat} {n2 : Nat} {ce sl : Nat} {M : Mem} (hF : f_J0_init_db425 n0 n1 n2 M = some M1) (hn : mc + M.2.2.2 = ce + M1.2.2.2) (hz : ms + szM M = sl + szM M1) : Wt K X (QM K X none M1 mc ms) ce sl M 0 [(0, vr n0), (1, vr n1), (2, vr n2)] [] := by
  have hg := m_J0_init_db425 hF
  have hg1 := hg.1
  have hg2 := hg.2.1
  unfold f_J0_init_db425 at hF
  refine w_aload_n hB 0 dJ0_init_db425_0 rfl rfl ?_
  obtain ⟨g1, hF⟩ := gdS hF
  refine w_objinit hB (dqM g1).1 q_821 q_43 q_oc ⟨Nat.le_of_ble_eq_true rfl, Nat.le_of_ble_eq_true rfl⟩ dJ0_init_db425_1 ?_
  refine w_aload_n hB 1 dJ0_init_db425_4 rfl rfl ?_
  obtain ⟨g2, hF⟩ := gdS hF
  obtain ⟨o1, M1m, hc_M1m, hF⟩ := clS hF
  have q_M1m : EQ M M1m := k_J5_getValue_6d5f1 hc_M1m
  have x_M1m := q_M1m.gx
  have n_M1m := q_M1m.1
  have z_M1m := q_M1m.sz
  refine w_callP (M1 := M1m) hB (As := []) (st := []) cw_J0_552 q_823 (hB.2.2.2.2.1 _ q_825) (ci := 10) rfl (dqM g2) (c_J5_getValue_6d5f1 hp hc_M1m) ⟨rfl, rfl⟩ ⟨Nat.le_of_ble_eq_true rfl, Nat.le_of_ble_eq_true rfl⟩ ⟨show ce ≤ mc by omega, show sl ≤ ms by omega⟩ rfl (Nat.le_of_ble_eq_true rfl) dJ0_init_db425_5 rfl ?_ (Or.inl rfl)
  refine w_astore_n hB (L' := [(3, vr o1), (0, vr n0), (1, vr n1), (2, vr n2)]) dJ0_init_db425_8 rfl (by decide) rfl ?_
  refine w_aload_n hB 2 dJ0_init_db425_9 rfl rfl ?_
  obtain ⟨r1, M2m, hc_M2m, hF⟩ := clS hF
  have q_M2m : EQ M1m M2m := k_J4_length_8abf5 hc_M2m
  have x_M2m := q_M2m.gx
  have n_M2m := q_M2m.1
  have z_M2m := q_M2m.sz
  refine w_callO (M1 := M2m) (x := yJ5_length_8abf5) (y := yJ4_length_8abf5) hB (owner := RJ5) (As := []) (st := []) (mem6 q_827 q_829 q_828 q_830 q_831 q_23) q_832 q_834 ⟨by decide, by decide, by decide +kernel⟩ (ci := 10) rfl (dqM (GX.dyo x_M1m g2)) (c_J4_length_8abf5 hp hc_M2m) ⟨rfl, rfl⟩ ⟨Nat.le_of_ble_eq_true rfl, Nat.le_of_ble_eq_true rfl⟩ ⟨show ce ≤ mc by omega, show sl ≤ ms by omega⟩ rfl (Nat.le_of_ble_eq_true rfl) dJ0_init_db425_10 rfl ?_ (Or.inl rfl)
  refine w_istore hB (L' := [(4, vi r1), (3, vr o1), (0, vr n0), (1, vr n1), (2, vr n2)]) dJ0_init_db425_13 (by decide) rfl rfl ?_
  refine w_aload_n hB 3 dJ0_init_db425_15 rfl rfl ?_
  obtain ⟨r2, M3m, hc_M3m, hF⟩ := clS hF
  have q_M3m : EQ M2m M3m := k_J5_isLatin1_aae02 hc_M3m
  have x_M3m := q_M3m.gx
  have n_M3m := q_M3m.1
  have z_M3m := q_M3m.sz
  refine w_callP (M1 := M3m) hB (As := []) (st := []) cw_J0_1047 q_656 (hB.2.2.2.2.1 _ q_658) (ci := 10) rfl (dqM (GX.dyo x_M2m (GX.dyo x_M1m g2))) (c_J5_isLatin1_aae02 hp hc_M3m) ⟨rfl, rfl⟩ ⟨Nat.le_of_ble_eq_true rfl, Nat.le_of_ble_eq_true rfl⟩ ⟨show ce ≤ mc by omega, show sl ≤ ms by omega⟩ rfl (Nat.le_of_ble_eq_true rfl) dJ0_init_db425_16 rfl ?_ (Or.inl rfl)
  refine w_if_eq hB 41 dJ0_init_db425_19 (by decide) (fun hc => ?_) (fun hc => ?_)
  · replace hF := ifT hc hF
    refine w_getcomp hB hp q_694 dJ0_init_db425_41 ?_
    refine w_if_eq hB 79 dJ0_init_db425_44 (by decide) (fun hc => ?_) (fun hc => ?_)
    · replace hF := ifT hc hF
      exact Wt.sub (L' := [(0, vr n0), (3, vr o1), (4, vi r1)]) [2, 1, 0] rfl (b_J0_init_db425_b79 hp hk hB hi hF (by omega) (by omega))
    · replace hF := ifF hc hF
      refine w_aload_n hB 3 dJ0_init_db425_47 rfl rfl ?_
      refine w_getI hB ff_J4_2 (dqM (GX.dyo x_M3m (GX.dyo x_M2m (GX.dyo x_M1m g2)))) q_599 dJ0_init_db425_48 ?_
      refine w_if_eq hB 79 dJ0_init_db425_51 (by decide) (fun hc => ?_) (fun hc => ?_)
      · replace hF := ifT hc hF
        exact Wt.sub (L' := [(0, vr n0), (3, vr o1), (4, vi r1)]) [2, 1, 0] rfl (b_J0_init_db425_b79 hp hk hB hi hF (by omega) (by omega))
      · replace hF := ifF hc hF
        refine w_aload_n hB 2 dJ0_init_db425_54 rfl rfl ?_
        refine w_aload_n hB 1 dJ0_init_db425_55 rfl rfl ?_
        refine w_iconst hB 0 (by decide) dJ0_init_db425_56 ?_
        refine w_iload hB 0 dJ0_init_db425_57 rfl ?_
        cases hF
  · replace hF := ifF hc hF
    refine w_aload_n hB 2 dJ0_init_db425_22 rfl rfl ?_
    refine w_iconst hB 0 (by decide) dJ0_init_db425_23 ?_
    obtain ⟨M4m, e_M4m, hF⟩ := bndS hF
    have q_M4m : EQ M3m M4m := by rw [e_M4m]; exact EQ_I _ _ _ _
    have x_M4m := q_M4m.gx
    have n_M4m := q_M4m.1
    have z_M4m := q_M4m.sz
    refine w_putIFd hB ff_J0_1 hi (dqM (GX.dyo x_M3m (GX.dyo x_M2m (GX.dyo x_M1m g1)))) q_859 (ty := .byte) rfl rfl rfl e_M4m dJ0_init_db425_24 ?_
    refine w_aload_n hB 2 dJ0_init_db425_27 rfl rfl ?_
    refine w_aload_n hB 1 dJ0_init_db425_28 rfl rfl ?_
    refine w_iconst hB 0 (by decide) dJ0_init_db425_29 ?_
    refine w_iload hB 0 dJ0_init_db425_30 rfl ?_
    obtain ⟨o2, M5m, hc_M5m, hF⟩ := clS hF
    have x_M5m := m_J7_copyOfRange_39247 hc_M5m
    have xa_M5m := x_M5m.1
    have xb_M5m := x_M5m.2.1
    have hg3 := m_J0_init_db425_b35 hF
    have hg4 := hg3.1
    have hg5 := hg3.2.1
    refine w_callS (M1 := M5m) hB (As := [vr o1, vi 0, vi r1]) (st := [vr n0]) cw_J0_54 q_837 (c_J7_copyOfRange_39247 hp hk hc_M5m) ⟨rfl, rfl⟩ ⟨Nat.le_of_ble_eq_true rfl, Nat.le_of_ble_eq_true rfl⟩ ⟨show ce + (M5m.2.2.2 - M4m.2.2.2) ≤ mc by omega, show sl + (szM M5m - szM M4m) ≤ ms by omega⟩ rfl (Nat.le_of_ble_eq_true rfl) dJ0_init_db425_32 rfl ?_ (Or.inr (by omega))
    exact Wt.sub (L' := []) [] rfl (b_J0_init_db425_b35 hp hk hB hi hF (by omega) (by omega))
theorem c_J0_init_db425 {K : Kt} {l : Launch} (hp : St K) (hk : KC K) {M1 : Mem} {n0 : Nat} {n1 : Nat} {n2 : Nat} {M : Mem} (hF : f_J0_init_db425 n0 n1 n2 M = some M1) : MT K l yJ0_init_db425 cJ0_init_db425 5 none { frames := 3, cells := M1.2.2.2 - M.2.2.2, slots := szM M1 - szM M, locals := 72 } [vr n0, vr n1, vr n2] M none M1 (M1.2.2.2 - M.2.2.2) (szM M1 - szM M) := by
  have hg := m_J0_init_db425 hF
  have hg1 := hg.1
  have hg2 := hg.2.1
  exact MT_of (by decide) rfl (Nat.le_of_ble_eq_true rfl) (fun X _ hB hi0 => b_J0_init_db425 hp hk hB (hi0 rfl) hF (by omega) (by omega))
def f_J0_init_81219_b6 (M : Mem) : Option Mem :=
  some M
set_option maxRecDepth 100000 in
set_option maxHeartbeats 4000000 in
theorem m_J0_init_81219_b6 {M Z : Mem} (h : f_J0_init_81219_b6 M = some Z) : GX M Z := by
  unfold f_J0_init_81219_b6 at h
  rw [← Option.some.inj h]
  exact (GX.refl M)
set_option maxRecDepth 100000 in
set_option maxHeartbeats 4000000 in
theorem b_J0_init_81219_b6 {K : Kt} {X : Xt} (hp : St K) (hk : KC K) {mc ms : Nat} (hB : Bx K X { frames := 4, cells := mc, slots := ms, locals := 96 } cJ0_init_81219 2 RJ0 none) (hi : X.2.2.2.2.2.2.2.2.1.name = "<init>") {M1 : Mem} {ce sl : Nat} {M : Mem} (hF : f_J0_init_81219_b6 M = some M1) (hn : mc + M.2.2.2 = ce + M1.2.2.2) (hz : ms + szM M = sl + szM M1) : Wt K X (QM K X none M1 mc ms) ce sl M 6 [] [] := by
  have hg := m_J0_init_81219_b6 hF
  have hg1 := hg.1
  have hg2 := hg.2.1
  unfold f_J0_init_81219_b6 at hF
  cases hF
  have hmc : mc = ce := by omega
  have hms : ms = sl := by omega
  subst hmc
  subst hms
  exact w_vret hB dJ0_init_81219_6
def f_J0_init_81219 (n0 : Nat) (n1 : Nat) (M : Mem) : Option Mem :=
  gd (1000 ≤ n0 ∧ dsc M n0 = 10 ∧ n0 - 753 < M.2.2.2) <|
  clv (f_J0_init_db425 n0 n1 0 M) fun M1m =>
  f_J0_init_81219_b6 M1m
set_option maxRecDepth 100000 in
set_option maxHeartbeats 4000000 in
theorem m_J0_init_81219 {n0 : Nat} {n1 : Nat} {M Z : Mem} (h : f_J0_init_81219 n0 n1 M = some Z) : GX M Z := by
  unfold f_J0_init_81219 at h
  obtain ⟨gq0, h⟩ := gdS h
  obtain ⟨M1m, c_M1m, h⟩ := clvS h
  have q_M1m : GX M M1m := GX.tr (GX.refl M) (m_J0_init_db425 c_M1m)
  exact GX.tr q_M1m (m_J0_init_81219_b6 h)
set_option maxRecDepth 100000 in
set_option maxHeartbeats 4000000 in
theorem b_J0_init_81219 {K : Kt} {X : Xt} (hp : St K) (hk : KC K) {mc ms : Nat} (hB : Bx K X { frames := 4, cells := mc, slots := ms, locals := 96 } cJ0_init_81219 2 RJ0 none) (hi : X.2.2.2.2.2.2.2.2.1.name = "<init>") {M1 : Mem} {n0 : Nat} {n1 : Nat} {ce sl : Nat} {M : Mem} (hF : f_J0_init_81219 n0 n1 M = some M1) (hn : mc + M.2.2.2 = ce + M1.2.2.2) (hz : ms + szM M = sl + szM M1) : Wt K X (QM K X none M1 mc ms) ce sl M 0 [(0, vr n0), (1, vr n1)] [] := by
  have hg := m_J0_init_81219 hF
  have hg1 := hg.1
  have hg2 := hg.2.1
  unfold f_J0_init_81219 at hF
  refine w_aload_n hB 0 dJ0_init_81219_0 rfl rfl ?_
  refine w_aload_n hB 1 dJ0_init_81219_1 rfl rfl ?_
  refine w_null hB dJ0_init_81219_2 ?_
  obtain ⟨g1, hF⟩ := gdS hF
  obtain ⟨M1m, hc_M1m, hF⟩ := clvS hF
  have x_M1m := m_J0_init_db425 hc_M1m
  have xa_M1m := x_M1m.1
  have xb_M1m := x_M1m.2.1
  have hg3 := m_J0_init_81219_b6 hF
  have hg4 := hg3.1
  have hg5 := hg3.2.1
  refine w_callI (M1 := M1m) hB (As := [vr n1, vr 0]) (st := []) cw_J0_489 rfl q_819 (dqM g1).1 (c_J0_init_db425 hp hk hc_M1m) ⟨rfl, rfl⟩ ⟨Nat.le_of_ble_eq_true rfl, Nat.le_of_ble_eq_true rfl⟩ ⟨show ce + (M1m.2.2.2 - M.2.2.2) ≤ mc by omega, show sl + (szM M1m - szM M) ≤ ms by omega⟩ rfl (Nat.le_of_ble_eq_true rfl) dJ0_init_81219_3 rfl ?_ (Or.inr (by omega))
  exact Wt.sub (L' := []) [] rfl (b_J0_init_81219_b6 hp hk hB hi hF (by omega) (by omega))
theorem c_J0_init_81219 {K : Kt} {l : Launch} (hp : St K) (hk : KC K) {M1 : Mem} {n0 : Nat} {n1 : Nat} {M : Mem} (hF : f_J0_init_81219 n0 n1 M = some M1) : MT K l yJ0_init_81219 cJ0_init_81219 2 none { frames := 4, cells := M1.2.2.2 - M.2.2.2, slots := szM M1 - szM M, locals := 96 } [vr n0, vr n1] M none M1 (M1.2.2.2 - M.2.2.2) (szM M1 - szM M) := by
  have hg := m_J0_init_81219 hF
  have hg1 := hg.1
  have hg2 := hg.2.1
  exact MT_of (by decide) rfl (Nat.le_of_ble_eq_true rfl) (fun X _ hB hi0 => b_J0_init_81219 hp hk hB (hi0 rfl) hF (by omega) (by omega))
def f_J4_toString_0e30d_b8 (ns0 : Nat) (M : Mem) : Option (Nat × Mem) :=
  some (ns0, M)
set_option maxRecDepth 100000 in
set_option maxHeartbeats 4000000 in
theorem m_J4_toString_0e30d_b8 {ns0 : Nat} {M Z : Mem} {r : Nat} (h : f_J4_toString_0e30d_b8 ns0 M = some (r, Z)) : GX M Z := by
  unfold f_J4_toString_0e30d_b8 at h
  obtain ⟨-, e⟩ := retS h
  rw [← e]
  exact (GX.refl M)
set_option maxRecDepth 100000 in
set_option maxHeartbeats 4000000 in
theorem b_J4_toString_0e30d_b8 {K : Kt} {X : Xt} (hp : St K) (hk : KC K) {mc ms : Nat} (hB : Bx K X { frames := 5, cells := mc, slots := ms, locals := 117 } cJ4_toString_0e30d 1 RJ4 (some (.object "java/lang/String"))) {r : Nat} {M1 : Mem} {ns0 : Nat} {ce sl : Nat} {M : Mem} (hF : f_J4_toString_0e30d_b8 ns0 M = some (r, M1)) (hn : mc + M.2.2.2 = ce + M1.2.2.2) (hz : ms + szM M = sl + szM M1) : Wt K X (QM K X (some (vr r)) M1 mc ms) ce sl M 8 [] [vr ns0] := by
  have hg := m_J4_toString_0e30d_b8 hF
  have hg1 := hg.1
  have hg2 := hg.2.1
  unfold f_J4_toString_0e30d_b8 at hF
  obtain ⟨e1, e2⟩ := retS hF
  subst e2
  have hmc : mc = ce := by omega
  have hms : ms = sl := by omega
  subst hmc
  subst hms
  exact w_aret hB dJ4_toString_0e30d_8 e1
def f_J4_toString_0e30d_b3 (n0 : Nat) (ns0 : Nat) (M : Mem) : Option (Nat × Mem) :=
  gd (1000 ≤ ns0 ∧ dsc M ns0 = 10 ∧ ns0 - 753 < M.2.2.2) <|
  clv (f_J0_init_81219 ns0 n0 M) fun M1m =>
  f_J4_toString_0e30d_b8 ns0 M1m
set_option maxRecDepth 100000 in
set_option maxHeartbeats 4000000 in
theorem m_J4_toString_0e30d_b3 {n0 : Nat} {ns0 : Nat} {M Z : Mem} {r : Nat} (h : f_J4_toString_0e30d_b3 n0 ns0 M = some (r, Z)) : GX M Z := by
  unfold f_J4_toString_0e30d_b3 at h
  obtain ⟨gq0, h⟩ := gdS h
  obtain ⟨M1m, c_M1m, h⟩ := clvS h
  have q_M1m : GX M M1m := GX.tr (GX.refl M) (m_J0_init_81219 c_M1m)
  exact GX.tr q_M1m (m_J4_toString_0e30d_b8 h)
set_option maxRecDepth 100000 in
set_option maxHeartbeats 4000000 in
theorem b_J4_toString_0e30d_b3 {K : Kt} {X : Xt} (hp : St K) (hk : KC K) {mc ms : Nat} (hB : Bx K X { frames := 5, cells := mc, slots := ms, locals := 117 } cJ4_toString_0e30d 1 RJ4 (some (.object "java/lang/String"))) {r : Nat} {M1 : Mem} {n0 : Nat} {ns0 : Nat} {ce sl : Nat} {M : Mem} (hF : f_J4_toString_0e30d_b3 n0 ns0 M = some (r, M1)) (hn : mc + M.2.2.2 = ce + M1.2.2.2) (hz : ms + szM M = sl + szM M1) : Wt K X (QM K X (some (vr r)) M1 mc ms) ce sl M 3 [(0, vr n0)] [vr ns0] := by
  have hg := m_J4_toString_0e30d_b3 hF
  have hg1 := hg.1
  have hg2 := hg.2.1
  unfold f_J4_toString_0e30d_b3 at hF
  refine w_dup hB rfl dJ4_toString_0e30d_3 ?_
  refine w_aload_n hB 0 dJ4_toString_0e30d_4 rfl rfl ?_
  obtain ⟨g1, hF⟩ := gdS hF
  obtain ⟨M1m, hc_M1m, hF⟩ := clvS hF
  have x_M1m := m_J0_init_81219 hc_M1m
  have xa_M1m := x_M1m.1
  have xb_M1m := x_M1m.2.1
  have hg3 := m_J4_toString_0e30d_b8 hF
  have hg4 := hg3.1
  have hg5 := hg3.2.1
  refine w_callI (M1 := M1m) hB (As := [vr n0]) (st := [vr ns0]) cw_J4_137 rfl q_816 (dqM g1).1 (c_J0_init_81219 hp hk hc_M1m) ⟨rfl, rfl⟩ ⟨Nat.le_of_ble_eq_true rfl, Nat.le_of_ble_eq_true rfl⟩ ⟨show ce + (M1m.2.2.2 - M.2.2.2) ≤ mc by omega, show sl + (szM M1m - szM M) ≤ ms by omega⟩ rfl (Nat.le_of_ble_eq_true rfl) dJ4_toString_0e30d_5 rfl ?_ (Or.inr (by omega))
  exact Wt.sub (L' := []) [] rfl (b_J4_toString_0e30d_b8 hp hk hB hF (by omega) (by omega))
def f_J4_toString_0e30d (n0 : Nat) (M : Mem) : Option (Nat × Mem) :=
  bnd (nwA 10 0 4 M) fun M1m =>
  f_J4_toString_0e30d_b3 n0 (nn M) M1m
set_option maxRecDepth 100000 in
set_option maxHeartbeats 4000000 in
theorem m_J4_toString_0e30d {n0 : Nat} {M Z : Mem} {r : Nat} (h : f_J4_toString_0e30d n0 M = some (r, Z)) : GX M Z := by
  unfold f_J4_toString_0e30d at h
  obtain ⟨M1m, e_M1m, h⟩ := bndS h
  have q_M1m : GX M M1m := GX.tr (GX.refl M) (by rw [e_M1m]; exact GX_nw _ _ _ _)
  exact GX.tr q_M1m (m_J4_toString_0e30d_b3 h)
set_option maxRecDepth 100000 in
set_option maxHeartbeats 4000000 in
theorem b_J4_toString_0e30d {K : Kt} {X : Xt} (hp : St K) (hk : KC K) {mc ms : Nat} (hB : Bx K X { frames := 5, cells := mc, slots := ms, locals := 117 } cJ4_toString_0e30d 1 RJ4 (some (.object "java/lang/String"))) {r : Nat} {M1 : Mem} {n0 : Nat} {ce sl : Nat} {M : Mem} (hF : f_J4_toString_0e30d n0 M = some (r, M1)) (hn : mc + M.2.2.2 = ce + M1.2.2.2) (hz : ms + szM M = sl + szM M1) : Wt K X (QM K X (some (vr r)) M1 mc ms) ce sl M 0 [(0, vr n0)] [] := by
  have hg := m_J4_toString_0e30d hF
  have hg1 := hg.1
  have hg2 := hg.2.1
  unfold f_J4_toString_0e30d at hF
  obtain ⟨M1m, e_M1m, hF⟩ := bndS hF
  have x_M1m : GX M M1m := by rw [e_M1m]; exact GX_nw _ _ _ _
  have n_M1m : M1m.2.2.2 = M.2.2.2 + 1 := by rw [e_M1m]; exact nwA_cn
  have z_M1m : szM M1m = szM M + 4 := by rw [e_M1m]; exact nwA_sz
  have hg3 := m_J4_toString_0e30d_b3 hF
  have hg4 := hg3.1
  have hg5 := hg3.2.1
  refine w_nwo hB hp.1 (ci := 9) (N := 4) tyJ0 e_M1m rfl inG_J0 tyJ0_ok dz_J0 q_813 q_814 q_24 (by decide) ⟨show ce + 1 ≤ mc by omega, show sl + 4 ≤ ms by omega⟩ dJ4_toString_0e30d_0 ?_
  exact Wt.sub (L' := [(0, vr n0)]) [0] rfl (b_J4_toString_0e30d_b3 hp hk hB hF (by omega) (by omega))
theorem c_J4_toString_0e30d {K : Kt} {l : Launch} (hp : St K) (hk : KC K) {r : Nat} {M1 : Mem} {n0 : Nat} {M : Mem} (hF : f_J4_toString_0e30d n0 M = some (r, M1)) : MT K l yJ4_toString_0e30d cJ4_toString_0e30d 1 (some (.object "java/lang/String")) { frames := 5, cells := M1.2.2.2 - M.2.2.2, slots := szM M1 - szM M, locals := 117 } [vr n0] M (some (vr r)) M1 (M1.2.2.2 - M.2.2.2) (szM M1 - szM M) := by
  have hg := m_J4_toString_0e30d hF
  have hg1 := hg.1
  have hg2 := hg.2.1
  exact MT_of (by decide) rfl (Nat.le_of_ble_eq_true rfl) (fun X _ hB _ => b_J4_toString_0e30d hp hk hB hF (by omega) (by omega))
