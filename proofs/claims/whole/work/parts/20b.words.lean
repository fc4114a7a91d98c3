theorem zw_62 : Cond.initialized RL ∈ zW := zW_in 62 (by decide +kernel) rfl
theorem zw_91 : Cond.classLink RL 8 RX10 ∈ zW := zW_in 91 (by decide +kernel) rfl
theorem zw_92 : Cond.instantiable RX10 14 ∈ zW := zW_in 92 (by decide +kernel) rfl
theorem zw_93 : Cond.methodLink RL 138 yX10_init ∈ zW := zW_in 93 (by decide +kernel) rfl
theorem zw_94 : Cond.instanceMethod yX10_init ∈ zW := zW_in 94 (by decide +kernel) rfl
theorem zw_95 : Cond.code yX10_init cX10_init 1 none ∈ zW := zW_in 95 (by decide +kernel) rfl
theorem zw_341 : Cond.methodLink RL 151 yX10_dropChanges ∈ zW := zW_in 341 (by decide +kernel) rfl
theorem zw_342 : Cond.instanceMethod yX10_dropChanges ∈ zW := zW_in 342 (by decide +kernel) rfl
theorem zw_343 : Cond.selects RX10 yX10_dropChanges yX10_dropChanges ∈ zW := zW_in 343 (by decide +kernel) rfl
theorem zw_344 : Cond.code yX10_dropChanges cX10_dropChanges 2 (some .int) ∈ zW := zW_in 344 (by decide +kernel) rfl
theorem zw_345 : Cond.methodLink RL 184 yX10_dropLeads ∈ zW := zW_in 345 (by decide +kernel) rfl
theorem zw_346 : Cond.instanceMethod yX10_dropLeads ∈ zW := zW_in 346 (by decide +kernel) rfl
theorem zw_347 : Cond.selects RX10 yX10_dropLeads yX10_dropLeads ∈ zW := zW_in 347 (by decide +kernel) rfl
theorem zw_348 : Cond.code yX10_dropLeads cX10_dropLeads 2 (some .int) ∈ zW := zW_in 348 (by decide +kernel) rfl
theorem zw_365 : Cond.methodLink RL 195 yX10_touches ∈ zW := zW_in 365 (by decide +kernel) rfl
theorem zw_366 : Cond.instanceMethod yX10_touches ∈ zW := zW_in 366 (by decide +kernel) rfl
theorem zw_367 : Cond.selects RX10 yX10_touches yX10_touches ∈ zW := zW_in 367 (by decide +kernel) rfl
theorem zw_368 : Cond.code yX10_touches cX10_touches 1 (some .int) ∈ zW := zW_in 368 (by decide +kernel) rfl
theorem zw_370 : Cond.methodLink RL 256 yX10_today ∈ zW := zW_in 370 (by decide +kernel) rfl
theorem zw_371 : Cond.instanceMethod yX10_today ∈ zW := zW_in 371 (by decide +kernel) rfl
theorem zw_372 : Cond.selects RX10 yX10_today yX10_today ∈ zW := zW_in 372 (by decide +kernel) rfl
theorem zw_373 : Cond.code yX10_today cX10_today 1 (some .int) ∈ zW := zW_in 373 (by decide +kernel) rfl
theorem zw_374 : Cond.methodLink RL 260 yX10_dropped ∈ zW := zW_in 374 (by decide +kernel) rfl
theorem zw_375 : Cond.instanceMethod yX10_dropped ∈ zW := zW_in 375 (by decide +kernel) rfl
theorem zw_376 : Cond.selects RX10 yX10_dropped yX10_dropped ∈ zW := zW_in 376 (by decide +kernel) rfl
theorem zw_377 : Cond.code yX10_dropped cX10_dropped 1 (some .int) ∈ zW := zW_in 377 (by decide +kernel) rfl
theorem zw_378 : Cond.methodLink RL 270 yX10_isRinging ∈ zW := zW_in 378 (by decide +kernel) rfl
theorem zw_379 : Cond.instanceMethod yX10_isRinging ∈ zW := zW_in 379 (by decide +kernel) rfl
theorem zw_380 : Cond.selects RX10 yX10_isRinging yX10_isRinging ∈ zW := zW_in 380 (by decide +kernel) rfl
theorem zw_381 : Cond.code yX10_isRinging cX10_isRinging 1 (some .boolean) ∈ zW := zW_in 381 (by decide +kernel) rfl
theorem zw_382 : Cond.methodLink RL 284 yX10_done ∈ zW := zW_in 382 (by decide +kernel) rfl
theorem zw_383 : Cond.instanceMethod yX10_done ∈ zW := zW_in 383 (by decide +kernel) rfl
theorem zw_384 : Cond.selects RX10 yX10_done yX10_done ∈ zW := zW_in 384 (by decide +kernel) rfl
theorem zw_385 : Cond.code yX10_done cX10_done 1 (some .int) ∈ zW := zW_in 385 (by decide +kernel) rfl
theorem zw_386 : Cond.methodLink RL 288 yX10_delay ∈ zW := zW_in 386 (by decide +kernel) rfl
theorem zw_387 : Cond.instanceMethod yX10_delay ∈ zW := zW_in 387 (by decide +kernel) rfl
theorem zw_388 : Cond.selects RX10 yX10_delay yX10_delay ∈ zW := zW_in 388 (by decide +kernel) rfl
theorem zw_389 : Cond.code yX10_delay cX10_delay 1 (some .int) ∈ zW := zW_in 389 (by decide +kernel) rfl
theorem zw_390 : Cond.methodLink RL 301 yX10_wrong ∈ zW := zW_in 390 (by decide +kernel) rfl
theorem zw_391 : Cond.instanceMethod yX10_wrong ∈ zW := zW_in 391 (by decide +kernel) rfl
theorem zw_392 : Cond.selects RX10 yX10_wrong yX10_wrong ∈ zW := zW_in 392 (by decide +kernel) rfl
theorem zw_393 : Cond.code yX10_wrong cX10_wrong 1 (some .int) ∈ zW := zW_in 393 (by decide +kernel) rfl
theorem zw_394 : Cond.methodLink RL 305 yX10_rung ∈ zW := zW_in 394 (by decide +kernel) rfl
theorem zw_395 : Cond.instanceMethod yX10_rung ∈ zW := zW_in 395 (by decide +kernel) rfl
theorem zw_396 : Cond.selects RX10 yX10_rung yX10_rung ∈ zW := zW_in 396 (by decide +kernel) rfl
theorem zw_397 : Cond.code yX10_rung cX10_rung 1 (some .int) ∈ zW := zW_in 397 (by decide +kernel) rfl
theorem zw_398 : Cond.methodLink RL 309 yX10_latest ∈ zW := zW_in 398 (by decide +kernel) rfl
theorem zw_399 : Cond.instanceMethod yX10_latest ∈ zW := zW_in 399 (by decide +kernel) rfl
theorem zw_400 : Cond.selects RX10 yX10_latest yX10_latest ∈ zW := zW_in 400 (by decide +kernel) rfl
theorem zw_401 : Cond.code yX10_latest cX10_latest 1 (some .int) ∈ zW := zW_in 401 (by decide +kernel) rfl
theorem zw_402 : Cond.methodLink RL 142 yL_change ∈ zW := zW_in 402 (by decide +kernel) rfl
theorem zw_403 : Cond.static yL_change ∈ zW := zW_in 403 (by decide +kernel) rfl
theorem zw_404 : Cond.codeWith yL_change cL_change 4 (some .int) [(0, 9, 12, 13), (0, 9, 15, 15)] ∈ zW := zW_in 404 (by decide +kernel) rfl
theorem zw_405 : Cond.classLink RL 13 "java/lang/IllegalArgumentException" ∈ zW := zW_in 405 (by decide +kernel) rfl
theorem zw_406 : Cond.classLink RL 15 "java/lang/IllegalStateException" ∈ zW := zW_in 406 (by decide +kernel) rfl
theorem zw_407 : Cond.methodLink RL 7 yX10_change ∈ zW := zW_in 407 (by decide +kernel) rfl
theorem zw_408 : Cond.instanceMethod yX10_change ∈ zW := zW_in 408 (by decide +kernel) rfl
theorem zw_409 : Cond.selects RX10 yX10_change yX10_change ∈ zW := zW_in 409 (by decide +kernel) rfl
theorem zw_410 : Cond.code yX10_change cX10_change 2 (some .int) ∈ zW := zW_in 410 (by decide +kernel) rfl
theorem zw_498 : Cond.methodLink RL 155 yL_method ∈ zW := zW_in 498 (by decide +kernel) rfl
theorem zw_499 : Cond.static yL_method ∈ zW := zW_in 499 (by decide +kernel) rfl
theorem zw_500 : Cond.codeWith yL_method cL_method 4 (some .int) [(0, 9, 12, 13), (0, 9, 15, 15)] ∈ zW := zW_in 500 (by decide +kernel) rfl
theorem zw_501 : Cond.methodLink RL 17 yX10_method ∈ zW := zW_in 501 (by decide +kernel) rfl
theorem zw_502 : Cond.instanceMethod yX10_method ∈ zW := zW_in 502 (by decide +kernel) rfl
theorem zw_503 : Cond.selects RX10 yX10_method yX10_method ∈ zW := zW_in 503 (by decide +kernel) rfl
theorem zw_504 : Cond.code yX10_method cX10_method 3 (some .int) ∈ zW := zW_in 504 (by decide +kernel) rfl
theorem zw_648 : Cond.methodLink RL 158 yL_setCall ∈ zW := zW_in 648 (by decide +kernel) rfl
theorem zw_649 : Cond.static yL_setCall ∈ zW := zW_in 649 (by decide +kernel) rfl
theorem zw_650 : Cond.codeWith yL_setCall cL_setCall 6 (some .int) [(0, 12, 15, 24), (0, 12, 19, 13), (0, 12, 23, 15)] ∈ zW := zW_in 650 (by decide +kernel) rfl
theorem zw_651 : Cond.classLink RL 24 "java/lang/IndexOutOfBoundsException" ∈ zW := zW_in 651 (by decide +kernel) rfl
theorem zw_652 : Cond.methodLink RL 20 yX10_setCall ∈ zW := zW_in 652 (by decide +kernel) rfl
theorem zw_653 : Cond.instanceMethod yX10_setCall ∈ zW := zW_in 653 (by decide +kernel) rfl
theorem zw_654 : Cond.selects RX10 yX10_setCall yX10_setCall ∈ zW := zW_in 654 (by decide +kernel) rfl
theorem zw_655 : Cond.code yX10_setCall cX10_setCall 6 (some .int) ∈ zW := zW_in 655 (by decide +kernel) rfl
theorem zw_769 : Cond.methodLink RL 162 yL_stage ∈ zW := zW_in 769 (by decide +kernel) rfl
theorem zw_770 : Cond.static yL_stage ∈ zW := zW_in 770 (by decide +kernel) rfl
theorem zw_771 : Cond.codeWith yL_stage cL_stage 4 (some .int) [(0, 9, 12, 24)] ∈ zW := zW_in 771 (by decide +kernel) rfl
theorem zw_772 : Cond.methodLink RL 26 yX10_stage ∈ zW := zW_in 772 (by decide +kernel) rfl
theorem zw_773 : Cond.instanceMethod yX10_stage ∈ zW := zW_in 773 (by decide +kernel) rfl
theorem zw_774 : Cond.selects RX10 yX10_stage yX10_stage ∈ zW := zW_in 774 (by decide +kernel) rfl
theorem zw_775 : Cond.code yX10_stage cX10_stage 2 (some .int) ∈ zW := zW_in 775 (by decide +kernel) rfl
theorem zw_776 : Cond.methodLink RL 165 yL_changeAt ∈ zW := zW_in 776 (by decide +kernel) rfl
theorem zw_777 : Cond.static yL_changeAt ∈ zW := zW_in 777 (by decide +kernel) rfl
theorem zw_778 : Cond.codeWith yL_changeAt cL_changeAt 6 (some .int) [(0, 12, 15, 24), (0, 12, 19, 13)] ∈ zW := zW_in 778 (by decide +kernel) rfl
theorem zw_779 : Cond.methodLink RL 29 yX10_changeAt ∈ zW := zW_in 779 (by decide +kernel) rfl
theorem zw_780 : Cond.instanceMethod yX10_changeAt ∈ zW := zW_in 780 (by decide +kernel) rfl
theorem zw_781 : Cond.selects RX10 yX10_changeAt yX10_changeAt ∈ zW := zW_in 781 (by decide +kernel) rfl
theorem zw_782 : Cond.code yX10_changeAt cX10_changeAt 5 (some .int) ∈ zW := zW_in 782 (by decide +kernel) rfl
theorem zw_784 : Cond.methodLink RL 168 yL_head ∈ zW := zW_in 784 (by decide +kernel) rfl
theorem zw_785 : Cond.static yL_head ∈ zW := zW_in 785 (by decide +kernel) rfl
theorem zw_786 : Cond.codeWith yL_head cL_head 5 (some .int) [(0, 10, 13, 24), (0, 10, 17, 13)] ∈ zW := zW_in 786 (by decide +kernel) rfl
theorem zw_787 : Cond.methodLink RL 32 yX10_head ∈ zW := zW_in 787 (by decide +kernel) rfl
theorem zw_788 : Cond.instanceMethod yX10_head ∈ zW := zW_in 788 (by decide +kernel) rfl
theorem zw_789 : Cond.selects RX10 yX10_head yX10_head ∈ zW := zW_in 789 (by decide +kernel) rfl
theorem zw_790 : Cond.code yX10_head cX10_head 4 (some .int) ∈ zW := zW_in 790 (by decide +kernel) rfl
theorem zw_798 : Cond.methodLink RL 172 yL_course ∈ zW := zW_in 798 (by decide +kernel) rfl
theorem zw_799 : Cond.static yL_course ∈ zW := zW_in 799 (by decide +kernel) rfl
theorem zw_800 : Cond.codeWith yL_course cL_course 4 (some .int) [(0, 9, 12, 24)] ∈ zW := zW_in 800 (by decide +kernel) rfl
theorem zw_801 : Cond.methodLink RL 36 yX10_course ∈ zW := zW_in 801 (by decide +kernel) rfl
theorem zw_802 : Cond.instanceMethod yX10_course ∈ zW := zW_in 802 (by decide +kernel) rfl
theorem zw_803 : Cond.selects RX10 yX10_course yX10_course ∈ zW := zW_in 803 (by decide +kernel) rfl
theorem zw_804 : Cond.code yX10_course cX10_course 2 (some .int) ∈ zW := zW_in 804 (by decide +kernel) rfl
theorem zw_810 : Cond.methodLink RL 175 yL_isFalse ∈ zW := zW_in 810 (by decide +kernel) rfl
theorem zw_811 : Cond.static yL_isFalse ∈ zW := zW_in 811 (by decide +kernel) rfl
theorem zw_812 : Cond.codeWith yL_isFalse cL_isFalse 5 (some .int) [(0, 17, 20, 24)] ∈ zW := zW_in 812 (by decide +kernel) rfl
theorem zw_813 : Cond.methodLink RL 39 yX10_isFalse ∈ zW := zW_in 813 (by decide +kernel) rfl
theorem zw_814 : Cond.instanceMethod yX10_isFalse ∈ zW := zW_in 814 (by decide +kernel) rfl
theorem zw_815 : Cond.selects RX10 yX10_isFalse yX10_isFalse ∈ zW := zW_in 815 (by decide +kernel) rfl
theorem zw_816 : Cond.code yX10_isFalse cX10_isFalse 4 (some .boolean) ∈ zW := zW_in 816 (by decide +kernel) rfl
theorem zw_821 : Cond.methodLink RL 178 yL_falseRows ∈ zW := zW_in 821 (by decide +kernel) rfl
theorem zw_822 : Cond.static yL_falseRows ∈ zW := zW_in 822 (by decide +kernel) rfl
theorem zw_823 : Cond.codeWith yL_falseRows cL_falseRows 4 (some .int) [(0, 9, 12, 24)] ∈ zW := zW_in 823 (by decide +kernel) rfl
theorem zw_824 : Cond.methodLink RL 43 yX10_falseRows ∈ zW := zW_in 824 (by decide +kernel) rfl
theorem zw_825 : Cond.instanceMethod yX10_falseRows ∈ zW := zW_in 825 (by decide +kernel) rfl
theorem zw_826 : Cond.selects RX10 yX10_falseRows yX10_falseRows ∈ zW := zW_in 826 (by decide +kernel) rfl
theorem zw_827 : Cond.code yX10_falseRows cX10_falseRows 2 (some .int) ∈ zW := zW_in 827 (by decide +kernel) rfl
theorem zw_828 : Cond.methodLink RL 181 yL_lead ∈ zW := zW_in 828 (by decide +kernel) rfl
theorem zw_829 : Cond.static yL_lead ∈ zW := zW_in 829 (by decide +kernel) rfl
theorem zw_830 : Cond.codeWith yL_lead cL_lead 5 (some .int) [(0, 10, 13, 24), (0, 10, 17, 13), (0, 10, 21, 15)] ∈ zW := zW_in 830 (by decide +kernel) rfl
theorem zw_831 : Cond.methodLink RL 46 yX10_lead ∈ zW := zW_in 831 (by decide +kernel) rfl
theorem zw_832 : Cond.instanceMethod yX10_lead ∈ zW := zW_in 832 (by decide +kernel) rfl
theorem zw_833 : Cond.selects RX10 yX10_lead yX10_lead ∈ zW := zW_in 833 (by decide +kernel) rfl
theorem zw_834 : Cond.code yX10_lead cX10_lead 4 (some .int) ∈ zW := zW_in 834 (by decide +kernel) rfl
theorem zw_849 : Cond.methodLink RL 188 yL_touch ∈ zW := zW_in 849 (by decide +kernel) rfl
theorem zw_850 : Cond.static yL_touch ∈ zW := zW_in 850 (by decide +kernel) rfl
theorem zw_851 : Cond.codeWith yL_touch cL_touch 3 (some .int) [(0, 8, 11, 15)] ∈ zW := zW_in 851 (by decide +kernel) rfl
theorem zw_852 : Cond.methodLink RL 49 yX10_touch ∈ zW := zW_in 852 (by decide +kernel) rfl
theorem zw_853 : Cond.instanceMethod yX10_touch ∈ zW := zW_in 853 (by decide +kernel) rfl
theorem zw_854 : Cond.selects RX10 yX10_touch yX10_touch ∈ zW := zW_in 854 (by decide +kernel) rfl
theorem zw_855 : Cond.code yX10_touch cX10_touch 2 (some .int) ∈ zW := zW_in 855 (by decide +kernel) rfl
theorem zw_866 : Cond.methodLink RL 192 yL_compose ∈ zW := zW_in 866 (by decide +kernel) rfl
theorem zw_867 : Cond.static yL_compose ∈ zW := zW_in 867 (by decide +kernel) rfl
theorem zw_868 : Cond.codeWith yL_compose cL_compose 5 (some .int) [(0, 10, 13, 24), (0, 10, 17, 13), (0, 10, 21, 15)] ∈ zW := zW_in 868 (by decide +kernel) rfl
theorem zw_869 : Cond.methodLink RL 53 yX10_compose ∈ zW := zW_in 869 (by decide +kernel) rfl
theorem zw_870 : Cond.instanceMethod yX10_compose ∈ zW := zW_in 870 (by decide +kernel) rfl
theorem zw_871 : Cond.selects RX10 yX10_compose yX10_compose ∈ zW := zW_in 871 (by decide +kernel) rfl
theorem zw_872 : Cond.code yX10_compose cX10_compose 5 (some .int) ∈ zW := zW_in 872 (by decide +kernel) rfl
theorem zw_897 : Cond.methodLink RL 199 yL_leads ∈ zW := zW_in 897 (by decide +kernel) rfl
theorem zw_898 : Cond.static yL_leads ∈ zW := zW_in 898 (by decide +kernel) rfl
theorem zw_899 : Cond.codeWith yL_leads cL_leads 4 (some .int) [(0, 9, 12, 24)] ∈ zW := zW_in 899 (by decide +kernel) rfl
theorem zw_900 : Cond.methodLink RL 56 yX10_leads ∈ zW := zW_in 900 (by decide +kernel) rfl
theorem zw_901 : Cond.instanceMethod yX10_leads ∈ zW := zW_in 901 (by decide +kernel) rfl
theorem zw_902 : Cond.selects RX10 yX10_leads yX10_leads ∈ zW := zW_in 902 (by decide +kernel) rfl
theorem zw_903 : Cond.code yX10_leads cX10_leads 2 (some .int) ∈ zW := zW_in 903 (by decide +kernel) rfl
theorem zw_908 : Cond.methodLink RL 202 yL_leadAt ∈ zW := zW_in 908 (by decide +kernel) rfl
theorem zw_909 : Cond.static yL_leadAt ∈ zW := zW_in 909 (by decide +kernel) rfl
theorem zw_910 : Cond.codeWith yL_leadAt cL_leadAt 5 (some .int) [(0, 10, 13, 24)] ∈ zW := zW_in 910 (by decide +kernel) rfl
theorem zw_911 : Cond.methodLink RL 59 yX10_leadAt ∈ zW := zW_in 911 (by decide +kernel) rfl
theorem zw_912 : Cond.instanceMethod yX10_leadAt ∈ zW := zW_in 912 (by decide +kernel) rfl
theorem zw_913 : Cond.selects RX10 yX10_leadAt yX10_leadAt ∈ zW := zW_in 913 (by decide +kernel) rfl
theorem zw_914 : Cond.code yX10_leadAt cX10_leadAt 4 (some .int) ∈ zW := zW_in 914 (by decide +kernel) rfl
theorem zw_915 : Cond.methodLink RL 205 yL_rows ∈ zW := zW_in 915 (by decide +kernel) rfl
theorem zw_916 : Cond.static yL_rows ∈ zW := zW_in 916 (by decide +kernel) rfl
theorem zw_917 : Cond.codeWith yL_rows cL_rows 4 (some .int) [(0, 9, 12, 24)] ∈ zW := zW_in 917 (by decide +kernel) rfl
theorem zw_918 : Cond.methodLink RL 62 yX10_rows ∈ zW := zW_in 918 (by decide +kernel) rfl
theorem zw_919 : Cond.instanceMethod yX10_rows ∈ zW := zW_in 919 (by decide +kernel) rfl
theorem zw_920 : Cond.selects RX10 yX10_rows yX10_rows ∈ zW := zW_in 920 (by decide +kernel) rfl
theorem zw_921 : Cond.code yX10_rows cX10_rows 2 (some .int) ∈ zW := zW_in 921 (by decide +kernel) rfl
theorem zw_922 : Cond.methodLink RL 208 yL_rowAt ∈ zW := zW_in 922 (by decide +kernel) rfl
theorem zw_923 : Cond.static yL_rowAt ∈ zW := zW_in 923 (by decide +kernel) rfl
theorem zw_924 : Cond.codeWith yL_rowAt cL_rowAt 5 (some .int) [(0, 10, 13, 24)] ∈ zW := zW_in 924 (by decide +kernel) rfl
theorem zw_925 : Cond.methodLink RL 65 yX10_rowAt ∈ zW := zW_in 925 (by decide +kernel) rfl
theorem zw_926 : Cond.instanceMethod yX10_rowAt ∈ zW := zW_in 926 (by decide +kernel) rfl
theorem zw_927 : Cond.selects RX10 yX10_rowAt yX10_rowAt ∈ zW := zW_in 927 (by decide +kernel) rfl
theorem zw_928 : Cond.code yX10_rowAt cX10_rowAt 4 (some .int) ∈ zW := zW_in 928 (by decide +kernel) rfl
theorem zw_929 : Cond.methodLink RL 211 yL_bellAt ∈ zW := zW_in 929 (by decide +kernel) rfl
theorem zw_930 : Cond.static yL_bellAt ∈ zW := zW_in 930 (by decide +kernel) rfl
theorem zw_931 : Cond.codeWith yL_bellAt cL_bellAt 6 (some .int) [(0, 12, 15, 24)] ∈ zW := zW_in 931 (by decide +kernel) rfl
theorem zw_932 : Cond.methodLink RL 68 yX10_bellAt ∈ zW := zW_in 932 (by decide +kernel) rfl
theorem zw_933 : Cond.instanceMethod yX10_bellAt ∈ zW := zW_in 933 (by decide +kernel) rfl
theorem zw_934 : Cond.selects RX10 yX10_bellAt yX10_bellAt ∈ zW := zW_in 934 (by decide +kernel) rfl
theorem zw_935 : Cond.code yX10_bellAt cX10_bellAt 5 (some .int) ∈ zW := zW_in 935 (by decide +kernel) rfl
theorem zw_941 : Cond.methodLink RL 214 yL_isTrue ∈ zW := zW_in 941 (by decide +kernel) rfl
theorem zw_942 : Cond.static yL_isTrue ∈ zW := zW_in 942 (by decide +kernel) rfl
theorem zw_943 : Cond.codeWith yL_isTrue cL_isTrue 4 (some .int) [(0, 16, 19, 24)] ∈ zW := zW_in 943 (by decide +kernel) rfl
theorem zw_944 : Cond.methodLink RL 71 yX10_isTrue ∈ zW := zW_in 944 (by decide +kernel) rfl
theorem zw_945 : Cond.instanceMethod yX10_isTrue ∈ zW := zW_in 945 (by decide +kernel) rfl
theorem zw_946 : Cond.selects RX10 yX10_isTrue yX10_isTrue ∈ zW := zW_in 946 (by decide +kernel) rfl
theorem zw_947 : Cond.code yX10_isTrue cX10_isTrue 2 (some .boolean) ∈ zW := zW_in 947 (by decide +kernel) rfl
theorem zw_948 : Cond.methodLink RL 217 yL_comesRound ∈ zW := zW_in 948 (by decide +kernel) rfl
theorem zw_949 : Cond.static yL_comesRound ∈ zW := zW_in 949 (by decide +kernel) rfl
theorem zw_950 : Cond.codeWith yL_comesRound cL_comesRound 4 (some .int) [(0, 16, 19, 24)] ∈ zW := zW_in 950 (by decide +kernel) rfl
theorem zw_951 : Cond.methodLink RL 75 yX10_comesRound ∈ zW := zW_in 951 (by decide +kernel) rfl
theorem zw_952 : Cond.instanceMethod yX10_comesRound ∈ zW := zW_in 952 (by decide +kernel) rfl
theorem zw_953 : Cond.selects RX10 yX10_comesRound yX10_comesRound ∈ zW := zW_in 953 (by decide +kernel) rfl
theorem zw_954 : Cond.code yX10_comesRound cX10_comesRound 2 (some .boolean) ∈ zW := zW_in 954 (by decide +kernel) rfl
theorem zw_955 : Cond.methodLink RL 220 yL_firstRepeat ∈ zW := zW_in 955 (by decide +kernel) rfl
theorem zw_956 : Cond.static yL_firstRepeat ∈ zW := zW_in 956 (by decide +kernel) rfl
theorem zw_957 : Cond.codeWith yL_firstRepeat cL_firstRepeat 4 (some .int) [(0, 9, 12, 24)] ∈ zW := zW_in 957 (by decide +kernel) rfl
theorem zw_958 : Cond.methodLink RL 78 yX10_firstRepeat ∈ zW := zW_in 958 (by decide +kernel) rfl
theorem zw_959 : Cond.instanceMethod yX10_firstRepeat ∈ zW := zW_in 959 (by decide +kernel) rfl
theorem zw_960 : Cond.selects RX10 yX10_firstRepeat yX10_firstRepeat ∈ zW := zW_in 960 (by decide +kernel) rfl
theorem zw_961 : Cond.code yX10_firstRepeat cX10_firstRepeat 2 (some .int) ∈ zW := zW_in 961 (by decide +kernel) rfl
theorem zw_962 : Cond.methodLink RL 223 yL_takeOut ∈ zW := zW_in 962 (by decide +kernel) rfl
theorem zw_963 : Cond.static yL_takeOut ∈ zW := zW_in 963 (by decide +kernel) rfl
theorem zw_964 : Cond.codeWith yL_takeOut cL_takeOut 4 (some .int) [(0, 9, 12, 24), (0, 9, 15, 15)] ∈ zW := zW_in 964 (by decide +kernel) rfl
theorem zw_965 : Cond.methodLink RL 81 yX10_takeOut ∈ zW := zW_in 965 (by decide +kernel) rfl
theorem zw_966 : Cond.instanceMethod yX10_takeOut ∈ zW := zW_in 966 (by decide +kernel) rfl
theorem zw_967 : Cond.selects RX10 yX10_takeOut yX10_takeOut ∈ zW := zW_in 967 (by decide +kernel) rfl
theorem zw_968 : Cond.code yX10_takeOut cX10_takeOut 3 (some .int) ∈ zW := zW_in 968 (by decide +kernel) rfl
theorem zw_974 : Cond.methodLink RL 226 yL_bringIn ∈ zW := zW_in 974 (by decide +kernel) rfl
theorem zw_975 : Cond.static yL_bringIn ∈ zW := zW_in 975 (by decide +kernel) rfl
theorem zw_976 : Cond.codeWith yL_bringIn cL_bringIn 4 (some .int) [(0, 16, 19, 24), (0, 16, 22, 15)] ∈ zW := zW_in 976 (by decide +kernel) rfl
theorem zw_977 : Cond.methodLink RL 84 yX10_bringIn ∈ zW := zW_in 977 (by decide +kernel) rfl
theorem zw_978 : Cond.instanceMethod yX10_bringIn ∈ zW := zW_in 978 (by decide +kernel) rfl
theorem zw_979 : Cond.selects RX10 yX10_bringIn yX10_bringIn ∈ zW := zW_in 979 (by decide +kernel) rfl
theorem zw_980 : Cond.code yX10_bringIn cX10_bringIn 3 (some .boolean) ∈ zW := zW_in 980 (by decide +kernel) rfl
theorem zw_983 : Cond.methodLink RL 229 yL_mend ∈ zW := zW_in 983 (by decide +kernel) rfl
theorem zw_984 : Cond.static yL_mend ∈ zW := zW_in 984 (by decide +kernel) rfl
theorem zw_985 : Cond.codeWith yL_mend cL_mend 5 (some .int) [(0, 10, 13, 24), (0, 10, 17, 13), (0, 10, 21, 15)] ∈ zW := zW_in 985 (by decide +kernel) rfl
theorem zw_986 : Cond.methodLink RL 87 yX10_mend ∈ zW := zW_in 986 (by decide +kernel) rfl
theorem zw_987 : Cond.instanceMethod yX10_mend ∈ zW := zW_in 987 (by decide +kernel) rfl
theorem zw_988 : Cond.selects RX10 yX10_mend yX10_mend ∈ zW := zW_in 988 (by decide +kernel) rfl
theorem zw_989 : Cond.code yX10_mend cX10_mend 4 (some .int) ∈ zW := zW_in 989 (by decide +kernel) rfl
theorem zw_994 : Cond.methodLink RL 232 yL_wear ∈ zW := zW_in 994 (by decide +kernel) rfl
theorem zw_995 : Cond.static yL_wear ∈ zW := zW_in 995 (by decide +kernel) rfl
theorem zw_996 : Cond.codeWith yL_wear cL_wear 5 (some .int) [(0, 10, 13, 24), (0, 10, 17, 13)] ∈ zW := zW_in 996 (by decide +kernel) rfl
theorem zw_997 : Cond.methodLink RL 90 yX10_wear ∈ zW := zW_in 997 (by decide +kernel) rfl
theorem zw_998 : Cond.instanceMethod yX10_wear ∈ zW := zW_in 998 (by decide +kernel) rfl
theorem zw_999 : Cond.selects RX10 yX10_wear yX10_wear ∈ zW := zW_in 999 (by decide +kernel) rfl
theorem zw_1000 : Cond.code yX10_wear cX10_wear 4 (some .int) ∈ zW := zW_in 1000 (by decide +kernel) rfl
theorem zw_1001 : Cond.methodLink RL 235 yL_isIn ∈ zW := zW_in 1001 (by decide +kernel) rfl
theorem zw_1002 : Cond.static yL_isIn ∈ zW := zW_in 1002 (by decide +kernel) rfl
theorem zw_1003 : Cond.codeWith yL_isIn cL_isIn 4 (some .int) [(0, 16, 19, 24)] ∈ zW := zW_in 1003 (by decide +kernel) rfl
theorem zw_1004 : Cond.methodLink RL 93 yX10_isIn ∈ zW := zW_in 1004 (by decide +kernel) rfl
theorem zw_1005 : Cond.instanceMethod yX10_isIn ∈ zW := zW_in 1005 (by decide +kernel) rfl
theorem zw_1006 : Cond.selects RX10 yX10_isIn yX10_isIn ∈ zW := zW_in 1006 (by decide +kernel) rfl
theorem zw_1007 : Cond.code yX10_isIn cX10_isIn 2 (some .boolean) ∈ zW := zW_in 1007 (by decide +kernel) rfl
theorem zw_1008 : Cond.methodLink RL 238 yL_setBand ∈ zW := zW_in 1008 (by decide +kernel) rfl
theorem zw_1009 : Cond.static yL_setBand ∈ zW := zW_in 1009 (by decide +kernel) rfl
theorem zw_1010 : Cond.codeWith yL_setBand cL_setBand 5 (some .int) [(0, 10, 13, 24), (0, 10, 17, 13)] ∈ zW := zW_in 1010 (by decide +kernel) rfl
theorem zw_1011 : Cond.methodLink RL 96 yX10_setBand ∈ zW := zW_in 1011 (by decide +kernel) rfl
theorem zw_1012 : Cond.instanceMethod yX10_setBand ∈ zW := zW_in 1012 (by decide +kernel) rfl
theorem zw_1013 : Cond.selects RX10 yX10_setBand yX10_setBand ∈ zW := zW_in 1013 (by decide +kernel) rfl
theorem zw_1014 : Cond.code yX10_setBand cX10_setBand 4 (some .int) ∈ zW := zW_in 1014 (by decide +kernel) rfl
theorem zw_1015 : Cond.methodLink RL 241 yL_plan ∈ zW := zW_in 1015 (by decide +kernel) rfl
theorem zw_1016 : Cond.static yL_plan ∈ zW := zW_in 1016 (by decide +kernel) rfl
theorem zw_1017 : Cond.codeWith yL_plan cL_plan 5 (some .int) [(0, 10, 13, 24), (0, 10, 17, 13), (0, 10, 21, 15)] ∈ zW := zW_in 1017 (by decide +kernel) rfl
theorem zw_1018 : Cond.methodLink RL 99 yX10_plan ∈ zW := zW_in 1018 (by decide +kernel) rfl
theorem zw_1019 : Cond.instanceMethod yX10_plan ∈ zW := zW_in 1019 (by decide +kernel) rfl
theorem zw_1020 : Cond.selects RX10 yX10_plan yX10_plan ∈ zW := zW_in 1020 (by decide +kernel) rfl
theorem zw_1021 : Cond.code yX10_plan cX10_plan 5 (some .int) ∈ zW := zW_in 1021 (by decide +kernel) rfl
theorem zw_1036 : Cond.methodLink RL 244 yL_planned ∈ zW := zW_in 1036 (by decide +kernel) rfl
theorem zw_1037 : Cond.static yL_planned ∈ zW := zW_in 1037 (by decide +kernel) rfl
theorem zw_1038 : Cond.codeWith yL_planned cL_planned 4 (some .int) [(0, 9, 12, 13)] ∈ zW := zW_in 1038 (by decide +kernel) rfl
theorem zw_1039 : Cond.methodLink RL 102 yX10_planned ∈ zW := zW_in 1039 (by decide +kernel) rfl
theorem zw_1040 : Cond.instanceMethod yX10_planned ∈ zW := zW_in 1040 (by decide +kernel) rfl
theorem zw_1041 : Cond.selects RX10 yX10_planned yX10_planned ∈ zW := zW_in 1041 (by decide +kernel) rfl
theorem zw_1042 : Cond.code yX10_planned cX10_planned 2 (some .int) ∈ zW := zW_in 1042 (by decide +kernel) rfl
theorem zw_1043 : Cond.methodLink RL 247 yL_plannedAt ∈ zW := zW_in 1043 (by decide +kernel) rfl
theorem zw_1044 : Cond.static yL_plannedAt ∈ zW := zW_in 1044 (by decide +kernel) rfl
theorem zw_1045 : Cond.codeWith yL_plannedAt cL_plannedAt 5 (some .int) [(0, 10, 13, 13), (0, 10, 17, 24)] ∈ zW := zW_in 1045 (by decide +kernel) rfl
theorem zw_1046 : Cond.methodLink RL 105 yX10_plannedAt ∈ zW := zW_in 1046 (by decide +kernel) rfl
theorem zw_1047 : Cond.instanceMethod yX10_plannedAt ∈ zW := zW_in 1047 (by decide +kernel) rfl
theorem zw_1048 : Cond.selects RX10 yX10_plannedAt yX10_plannedAt ∈ zW := zW_in 1048 (by decide +kernel) rfl
theorem zw_1049 : Cond.code yX10_plannedAt cX10_plannedAt 4 (some .int) ∈ zW := zW_in 1049 (by decide +kernel) rfl
theorem zw_1050 : Cond.methodLink RL 250 yL_rota ∈ zW := zW_in 1050 (by decide +kernel) rfl
theorem zw_1051 : Cond.static yL_rota ∈ zW := zW_in 1051 (by decide +kernel) rfl
theorem zw_1052 : Cond.codeWith yL_rota cL_rota 4 (some .int) [(0, 9, 12, 13)] ∈ zW := zW_in 1052 (by decide +kernel) rfl
theorem zw_1053 : Cond.methodLink RL 108 yX10_rota ∈ zW := zW_in 1053 (by decide +kernel) rfl
theorem zw_1054 : Cond.instanceMethod yX10_rota ∈ zW := zW_in 1054 (by decide +kernel) rfl
theorem zw_1055 : Cond.selects RX10 yX10_rota yX10_rota ∈ zW := zW_in 1055 (by decide +kernel) rfl
theorem zw_1056 : Cond.code yX10_rota cX10_rota 2 (some .int) ∈ zW := zW_in 1056 (by decide +kernel) rfl
theorem zw_1073 : Cond.methodLink RL 253 yL_pass ∈ zW := zW_in 1073 (by decide +kernel) rfl
theorem zw_1074 : Cond.static yL_pass ∈ zW := zW_in 1074 (by decide +kernel) rfl
theorem zw_1075 : Cond.codeWith yL_pass cL_pass 3 (some .int) [(0, 8, 11, 15)] ∈ zW := zW_in 1075 (by decide +kernel) rfl
theorem zw_1076 : Cond.methodLink RL 111 yX10_pass ∈ zW := zW_in 1076 (by decide +kernel) rfl
theorem zw_1077 : Cond.instanceMethod yX10_pass ∈ zW := zW_in 1077 (by decide +kernel) rfl
theorem zw_1078 : Cond.selects RX10 yX10_pass yX10_pass ∈ zW := zW_in 1078 (by decide +kernel) rfl
theorem zw_1079 : Cond.code yX10_pass cX10_pass 1 (some .int) ∈ zW := zW_in 1079 (by decide +kernel) rfl
theorem zw_1087 : Cond.methodLink RL 264 yL_ring ∈ zW := zW_in 1087 (by decide +kernel) rfl
theorem zw_1088 : Cond.static yL_ring ∈ zW := zW_in 1088 (by decide +kernel) rfl
theorem zw_1089 : Cond.codeWith yL_ring cL_ring 6 (some .int) [(0, 12, 15, 24), (0, 12, 19, 13), (0, 12, 23, 15)] ∈ zW := zW_in 1089 (by decide +kernel) rfl
theorem zw_1090 : Cond.methodLink RL 114 yX10_ring ∈ zW := zW_in 1090 (by decide +kernel) rfl
theorem zw_1091 : Cond.instanceMethod yX10_ring ∈ zW := zW_in 1091 (by decide +kernel) rfl
theorem zw_1092 : Cond.selects RX10 yX10_ring yX10_ring ∈ zW := zW_in 1092 (by decide +kernel) rfl
theorem zw_1093 : Cond.code yX10_ring cX10_ring 6 (some .int) ∈ zW := zW_in 1093 (by decide +kernel) rfl
theorem zw_1198 : Cond.methodLink RL 267 yL_stand ∈ zW := zW_in 1198 (by decide +kernel) rfl
theorem zw_1199 : Cond.static yL_stand ∈ zW := zW_in 1199 (by decide +kernel) rfl
theorem zw_1200 : Cond.codeWith yL_stand cL_stand 3 (some .int) [(0, 8, 11, 15)] ∈ zW := zW_in 1200 (by decide +kernel) rfl
theorem zw_1201 : Cond.methodLink RL 117 yX10_stand ∈ zW := zW_in 1201 (by decide +kernel) rfl
theorem zw_1202 : Cond.instanceMethod yX10_stand ∈ zW := zW_in 1202 (by decide +kernel) rfl
theorem zw_1203 : Cond.selects RX10 yX10_stand yX10_stand ∈ zW := zW_in 1203 (by decide +kernel) rfl
theorem zw_1204 : Cond.code yX10_stand cX10_stand 2 (some .int) ∈ zW := zW_in 1204 (by decide +kernel) rfl
theorem zw_1206 : Cond.methodLink RL 275 yL_pull ∈ zW := zW_in 1206 (by decide +kernel) rfl
theorem zw_1207 : Cond.static yL_pull ∈ zW := zW_in 1207 (by decide +kernel) rfl
theorem zw_1208 : Cond.codeWith yL_pull cL_pull 5 (some .int) [(0, 10, 13, 24), (0, 10, 17, 13), (0, 10, 21, 15)] ∈ zW := zW_in 1208 (by decide +kernel) rfl
theorem zw_1209 : Cond.methodLink RL 120 yX10_pull ∈ zW := zW_in 1209 (by decide +kernel) rfl
theorem zw_1210 : Cond.instanceMethod yX10_pull ∈ zW := zW_in 1210 (by decide +kernel) rfl
theorem zw_1211 : Cond.selects RX10 yX10_pull yX10_pull ∈ zW := zW_in 1211 (by decide +kernel) rfl
theorem zw_1212 : Cond.code yX10_pull cX10_pull 6 (some .int) ∈ zW := zW_in 1212 (by decide +kernel) rfl
theorem zw_1257 : Cond.methodLink RL 278 yL_due ∈ zW := zW_in 1257 (by decide +kernel) rfl
theorem zw_1258 : Cond.static yL_due ∈ zW := zW_in 1258 (by decide +kernel) rfl
theorem zw_1259 : Cond.codeWith yL_due cL_due 4 (some .int) [(0, 9, 12, 24), (0, 9, 15, 15)] ∈ zW := zW_in 1259 (by decide +kernel) rfl
theorem zw_1260 : Cond.methodLink RL 123 yX10_due ∈ zW := zW_in 1260 (by decide +kernel) rfl
theorem zw_1261 : Cond.instanceMethod yX10_due ∈ zW := zW_in 1261 (by decide +kernel) rfl
theorem zw_1262 : Cond.selects RX10 yX10_due yX10_due ∈ zW := zW_in 1262 (by decide +kernel) rfl
theorem zw_1263 : Cond.code yX10_due cX10_due 2 (some .int) ∈ zW := zW_in 1263 (by decide +kernel) rfl
theorem zw_1264 : Cond.methodLink RL 281 yL_setPatience ∈ zW := zW_in 1264 (by decide +kernel) rfl
theorem zw_1265 : Cond.static yL_setPatience ∈ zW := zW_in 1265 (by decide +kernel) rfl
theorem zw_1266 : Cond.codeWith yL_setPatience cL_setPatience 4 (some .int) [(0, 9, 12, 13)] ∈ zW := zW_in 1266 (by decide +kernel) rfl
theorem zw_1267 : Cond.methodLink RL 126 yX10_setPatience ∈ zW := zW_in 1267 (by decide +kernel) rfl
theorem zw_1268 : Cond.instanceMethod yX10_setPatience ∈ zW := zW_in 1268 (by decide +kernel) rfl
theorem zw_1269 : Cond.selects RX10 yX10_setPatience yX10_setPatience ∈ zW := zW_in 1269 (by decide +kernel) rfl
theorem zw_1270 : Cond.code yX10_setPatience cX10_setPatience 3 (some .int) ∈ zW := zW_in 1270 (by decide +kernel) rfl
theorem zw_1271 : Cond.methodLink RL 292 yL_late ∈ zW := zW_in 1271 (by decide +kernel) rfl
theorem zw_1272 : Cond.static yL_late ∈ zW := zW_in 1272 (by decide +kernel) rfl
theorem zw_1273 : Cond.codeWith yL_late cL_late 4 (some .int) [(0, 9, 12, 24)] ∈ zW := zW_in 1273 (by decide +kernel) rfl
theorem zw_1274 : Cond.methodLink RL 129 yX10_late ∈ zW := zW_in 1274 (by decide +kernel) rfl
theorem zw_1275 : Cond.instanceMethod yX10_late ∈ zW := zW_in 1275 (by decide +kernel) rfl
theorem zw_1276 : Cond.selects RX10 yX10_late yX10_late ∈ zW := zW_in 1276 (by decide +kernel) rfl
theorem zw_1277 : Cond.code yX10_late cX10_late 2 (some .int) ∈ zW := zW_in 1277 (by decide +kernel) rfl
theorem zw_1278 : Cond.methodLink RL 295 yL_early ∈ zW := zW_in 1278 (by decide +kernel) rfl
theorem zw_1279 : Cond.static yL_early ∈ zW := zW_in 1279 (by decide +kernel) rfl
theorem zw_1280 : Cond.codeWith yL_early cL_early 4 (some .int) [(0, 9, 12, 24)] ∈ zW := zW_in 1280 (by decide +kernel) rfl
theorem zw_1281 : Cond.methodLink RL 132 yX10_early ∈ zW := zW_in 1281 (by decide +kernel) rfl
theorem zw_1282 : Cond.instanceMethod yX10_early ∈ zW := zW_in 1282 (by decide +kernel) rfl
theorem zw_1283 : Cond.selects RX10 yX10_early yX10_early ∈ zW := zW_in 1283 (by decide +kernel) rfl
theorem zw_1284 : Cond.code yX10_early cX10_early 2 (some .int) ∈ zW := zW_in 1284 (by decide +kernel) rfl
theorem zw_1285 : Cond.methodLink RL 298 yL_errors ∈ zW := zW_in 1285 (by decide +kernel) rfl
theorem zw_1286 : Cond.static yL_errors ∈ zW := zW_in 1286 (by decide +kernel) rfl
theorem zw_1287 : Cond.codeWith yL_errors cL_errors 4 (some .int) [(0, 9, 12, 24)] ∈ zW := zW_in 1287 (by decide +kernel) rfl
theorem zw_1288 : Cond.methodLink RL 135 yX10_errors ∈ zW := zW_in 1288 (by decide +kernel) rfl
theorem zw_1289 : Cond.instanceMethod yX10_errors ∈ zW := zW_in 1289 (by decide +kernel) rfl
theorem zw_1290 : Cond.selects RX10 yX10_errors yX10_errors ∈ zW := zW_in 1290 (by decide +kernel) rfl
theorem zw_1291 : Cond.code yX10_errors cX10_errors 2 (some .int) ∈ zW := zW_in 1291 (by decide +kernel) rfl
theorem zw_1292 : Cond.classLink RL 139 RX11 ∈ zW := zW_in 1292 (by decide +kernel) rfl
theorem zw_1293 : Cond.instantiable RX11 42 ∈ zW := zW_in 1293 (by decide +kernel) rfl
theorem zw_1294 : Cond.methodLink RL 141 yX11_init ∈ zW := zW_in 1294 (by decide +kernel) rfl
theorem zw_1295 : Cond.instanceMethod yX11_init ∈ zW := zW_in 1295 (by decide +kernel) rfl
theorem zw_1296 : Cond.code yX11_init cX11_init 1 none ∈ zW := zW_in 1296 (by decide +kernel) rfl
theorem zw_1425 : Cond.methodLink RL 148 yX11_thrown ∈ zW := zW_in 1425 (by decide +kernel) rfl
theorem zw_1426 : Cond.instanceMethod yX11_thrown ∈ zW := zW_in 1426 (by decide +kernel) rfl
theorem zw_1427 : Cond.selects RX11 yX11_thrown yX11_thrown ∈ zW := zW_in 1427 (by decide +kernel) rfl
theorem zw_1428 : Cond.code yX11_thrown cX11_thrown 1 (some .int) ∈ zW := zW_in 1428 (by decide +kernel) rfl
theorem zw_1429 : Cond.methodLink RL 147 yX11_change ∈ zW := zW_in 1429 (by decide +kernel) rfl
theorem zw_1430 : Cond.instanceMethod yX11_change ∈ zW := zW_in 1430 (by decide +kernel) rfl
theorem zw_1431 : Cond.selects RX11 yX11_change yX11_change ∈ zW := zW_in 1431 (by decide +kernel) rfl
theorem zw_1432 : Cond.code yX11_change cX11_change 2 (some .int) ∈ zW := zW_in 1432 (by decide +kernel) rfl
theorem zw_1436 : Cond.methodLink RL 154 yX11_dropChanges ∈ zW := zW_in 1436 (by decide +kernel) rfl
theorem zw_1437 : Cond.instanceMethod yX11_dropChanges ∈ zW := zW_in 1437 (by decide +kernel) rfl
theorem zw_1438 : Cond.selects RX11 yX11_dropChanges yX11_dropChanges ∈ zW := zW_in 1438 (by decide +kernel) rfl
theorem zw_1439 : Cond.code yX11_dropChanges cX11_dropChanges 2 (some .int) ∈ zW := zW_in 1439 (by decide +kernel) rfl
theorem zw_1440 : Cond.methodLink RL 157 yX11_method ∈ zW := zW_in 1440 (by decide +kernel) rfl
theorem zw_1441 : Cond.instanceMethod yX11_method ∈ zW := zW_in 1441 (by decide +kernel) rfl
theorem zw_1442 : Cond.selects RX11 yX11_method yX11_method ∈ zW := zW_in 1442 (by decide +kernel) rfl
theorem zw_1443 : Cond.code yX11_method cX11_method 4 (some .int) ∈ zW := zW_in 1443 (by decide +kernel) rfl
theorem zw_1447 : Cond.methodLink RL 161 yX11_setCall ∈ zW := zW_in 1447 (by decide +kernel) rfl
theorem zw_1448 : Cond.instanceMethod yX11_setCall ∈ zW := zW_in 1448 (by decide +kernel) rfl
theorem zw_1449 : Cond.selects RX11 yX11_setCall yX11_setCall ∈ zW := zW_in 1449 (by decide +kernel) rfl
theorem zw_1450 : Cond.code yX11_setCall cX11_setCall 5 (some .int) ∈ zW := zW_in 1450 (by decide +kernel) rfl
theorem zw_1500 : Cond.methodLink RL 164 yX11_stage ∈ zW := zW_in 1500 (by decide +kernel) rfl
theorem zw_1501 : Cond.instanceMethod yX11_stage ∈ zW := zW_in 1501 (by decide +kernel) rfl
theorem zw_1502 : Cond.selects RX11 yX11_stage yX11_stage ∈ zW := zW_in 1502 (by decide +kernel) rfl
theorem zw_1503 : Cond.code yX11_stage cX11_stage 2 (some .int) ∈ zW := zW_in 1503 (by decide +kernel) rfl
theorem zw_1508 : Cond.methodLink RL 167 yX11_changeAt ∈ zW := zW_in 1508 (by decide +kernel) rfl
theorem zw_1509 : Cond.instanceMethod yX11_changeAt ∈ zW := zW_in 1509 (by decide +kernel) rfl
theorem zw_1510 : Cond.selects RX11 yX11_changeAt yX11_changeAt ∈ zW := zW_in 1510 (by decide +kernel) rfl
theorem zw_1511 : Cond.code yX11_changeAt cX11_changeAt 4 (some .int) ∈ zW := zW_in 1511 (by decide +kernel) rfl
theorem zw_1515 : Cond.methodLink RL 171 yX11_head ∈ zW := zW_in 1515 (by decide +kernel) rfl
theorem zw_1516 : Cond.instanceMethod yX11_head ∈ zW := zW_in 1516 (by decide +kernel) rfl
theorem zw_1517 : Cond.selects RX11 yX11_head yX11_head ∈ zW := zW_in 1517 (by decide +kernel) rfl
theorem zw_1518 : Cond.code yX11_head cX11_head 3 (some .int) ∈ zW := zW_in 1518 (by decide +kernel) rfl
theorem zw_1526 : Cond.methodLink RL 174 yX11_course ∈ zW := zW_in 1526 (by decide +kernel) rfl
theorem zw_1527 : Cond.instanceMethod yX11_course ∈ zW := zW_in 1527 (by decide +kernel) rfl
theorem zw_1528 : Cond.selects RX11 yX11_course yX11_course ∈ zW := zW_in 1528 (by decide +kernel) rfl
theorem zw_1529 : Cond.code yX11_course cX11_course 5 (some .int) ∈ zW := zW_in 1529 (by decide +kernel) rfl
theorem zw_1530 : Cond.methodLink RL 177 yX11_isFalse ∈ zW := zW_in 1530 (by decide +kernel) rfl
theorem zw_1531 : Cond.instanceMethod yX11_isFalse ∈ zW := zW_in 1531 (by decide +kernel) rfl
theorem zw_1532 : Cond.selects RX11 yX11_isFalse yX11_isFalse ∈ zW := zW_in 1532 (by decide +kernel) rfl
theorem zw_1533 : Cond.code yX11_isFalse cX11_isFalse 3 (some .boolean) ∈ zW := zW_in 1533 (by decide +kernel) rfl
theorem zw_1549 : Cond.methodLink RL 180 yX11_falseRows ∈ zW := zW_in 1549 (by decide +kernel) rfl
theorem zw_1550 : Cond.instanceMethod yX11_falseRows ∈ zW := zW_in 1550 (by decide +kernel) rfl
theorem zw_1551 : Cond.selects RX11 yX11_falseRows yX11_falseRows ∈ zW := zW_in 1551 (by decide +kernel) rfl
theorem zw_1552 : Cond.code yX11_falseRows cX11_falseRows 4 (some .int) ∈ zW := zW_in 1552 (by decide +kernel) rfl
theorem zw_1553 : Cond.methodLink RL 183 yX11_lead ∈ zW := zW_in 1553 (by decide +kernel) rfl
theorem zw_1554 : Cond.instanceMethod yX11_lead ∈ zW := zW_in 1554 (by decide +kernel) rfl
theorem zw_1555 : Cond.selects RX11 yX11_lead yX11_lead ∈ zW := zW_in 1555 (by decide +kernel) rfl
theorem zw_1556 : Cond.code yX11_lead cX11_lead 3 (some .int) ∈ zW := zW_in 1556 (by decide +kernel) rfl
theorem zw_1557 : Cond.methodLink RL 187 yX11_dropLeads ∈ zW := zW_in 1557 (by decide +kernel) rfl
theorem zw_1558 : Cond.instanceMethod yX11_dropLeads ∈ zW := zW_in 1558 (by decide +kernel) rfl
theorem zw_1559 : Cond.selects RX11 yX11_dropLeads yX11_dropLeads ∈ zW := zW_in 1559 (by decide +kernel) rfl
theorem zw_1560 : Cond.code yX11_dropLeads cX11_dropLeads 2 (some .int) ∈ zW := zW_in 1560 (by decide +kernel) rfl
theorem zw_1561 : Cond.methodLink RL 191 yX11_touch ∈ zW := zW_in 1561 (by decide +kernel) rfl
theorem zw_1562 : Cond.instanceMethod yX11_touch ∈ zW := zW_in 1562 (by decide +kernel) rfl
theorem zw_1563 : Cond.selects RX11 yX11_touch yX11_touch ∈ zW := zW_in 1563 (by decide +kernel) rfl
theorem zw_1564 : Cond.code yX11_touch cX11_touch 2 (some .int) ∈ zW := zW_in 1564 (by decide +kernel) rfl
theorem zw_1565 : Cond.methodLink RL 194 yX11_compose ∈ zW := zW_in 1565 (by decide +kernel) rfl
theorem zw_1566 : Cond.instanceMethod yX11_compose ∈ zW := zW_in 1566 (by decide +kernel) rfl
theorem zw_1567 : Cond.selects RX11 yX11_compose yX11_compose ∈ zW := zW_in 1567 (by decide +kernel) rfl
theorem zw_1568 : Cond.code yX11_compose cX11_compose 8 (some .int) ∈ zW := zW_in 1568 (by decide +kernel) rfl
theorem zw_1569 : Cond.methodLink RL 198 yX11_touches ∈ zW := zW_in 1569 (by decide +kernel) rfl
theorem zw_1570 : Cond.instanceMethod yX11_touches ∈ zW := zW_in 1570 (by decide +kernel) rfl
theorem zw_1571 : Cond.selects RX11 yX11_touches yX11_touches ∈ zW := zW_in 1571 (by decide +kernel) rfl
theorem zw_1572 : Cond.code yX11_touches cX11_touches 1 (some .int) ∈ zW := zW_in 1572 (by decide +kernel) rfl
theorem zw_1573 : Cond.methodLink RL 201 yX11_leads ∈ zW := zW_in 1573 (by decide +kernel) rfl
theorem zw_1574 : Cond.instanceMethod yX11_leads ∈ zW := zW_in 1574 (by decide +kernel) rfl
theorem zw_1575 : Cond.selects RX11 yX11_leads yX11_leads ∈ zW := zW_in 1575 (by decide +kernel) rfl
theorem zw_1576 : Cond.code yX11_leads cX11_leads 2 (some .int) ∈ zW := zW_in 1576 (by decide +kernel) rfl
theorem zw_1585 : Cond.methodLink RL 204 yX11_leadAt ∈ zW := zW_in 1585 (by decide +kernel) rfl
theorem zw_1586 : Cond.instanceMethod yX11_leadAt ∈ zW := zW_in 1586 (by decide +kernel) rfl
theorem zw_1587 : Cond.selects RX11 yX11_leadAt yX11_leadAt ∈ zW := zW_in 1587 (by decide +kernel) rfl
theorem zw_1588 : Cond.code yX11_leadAt cX11_leadAt 4 (some .int) ∈ zW := zW_in 1588 (by decide +kernel) rfl
theorem zw_1589 : Cond.methodLink RL 207 yX11_rows ∈ zW := zW_in 1589 (by decide +kernel) rfl
theorem zw_1590 : Cond.instanceMethod yX11_rows ∈ zW := zW_in 1590 (by decide +kernel) rfl
theorem zw_1591 : Cond.selects RX11 yX11_rows yX11_rows ∈ zW := zW_in 1591 (by decide +kernel) rfl
theorem zw_1592 : Cond.code yX11_rows cX11_rows 2 (some .int) ∈ zW := zW_in 1592 (by decide +kernel) rfl
theorem zw_1593 : Cond.methodLink RL 210 yX11_rowAt ∈ zW := zW_in 1593 (by decide +kernel) rfl
theorem zw_1594 : Cond.instanceMethod yX11_rowAt ∈ zW := zW_in 1594 (by decide +kernel) rfl
theorem zw_1595 : Cond.selects RX11 yX11_rowAt yX11_rowAt ∈ zW := zW_in 1595 (by decide +kernel) rfl
theorem zw_1596 : Cond.code yX11_rowAt cX11_rowAt 3 (some .int) ∈ zW := zW_in 1596 (by decide +kernel) rfl
theorem zw_1601 : Cond.methodLink RL 213 yX11_bellAt ∈ zW := zW_in 1601 (by decide +kernel) rfl
theorem zw_1602 : Cond.instanceMethod yX11_bellAt ∈ zW := zW_in 1602 (by decide +kernel) rfl
theorem zw_1603 : Cond.selects RX11 yX11_bellAt yX11_bellAt ∈ zW := zW_in 1603 (by decide +kernel) rfl
theorem zw_1604 : Cond.code yX11_bellAt cX11_bellAt 5 (some .int) ∈ zW := zW_in 1604 (by decide +kernel) rfl
theorem zw_1605 : Cond.methodLink RL 216 yX11_isTrue ∈ zW := zW_in 1605 (by decide +kernel) rfl
theorem zw_1606 : Cond.instanceMethod yX11_isTrue ∈ zW := zW_in 1606 (by decide +kernel) rfl
theorem zw_1607 : Cond.selects RX11 yX11_isTrue yX11_isTrue ∈ zW := zW_in 1607 (by decide +kernel) rfl
theorem zw_1608 : Cond.code yX11_isTrue cX11_isTrue 2 (some .boolean) ∈ zW := zW_in 1608 (by decide +kernel) rfl
theorem zw_1609 : Cond.methodLink RL 219 yX11_comesRound ∈ zW := zW_in 1609 (by decide +kernel) rfl
theorem zw_1610 : Cond.instanceMethod yX11_comesRound ∈ zW := zW_in 1610 (by decide +kernel) rfl
theorem zw_1611 : Cond.selects RX11 yX11_comesRound yX11_comesRound ∈ zW := zW_in 1611 (by decide +kernel) rfl
theorem zw_1612 : Cond.code yX11_comesRound cX11_comesRound 2 (some .boolean) ∈ zW := zW_in 1612 (by decide +kernel) rfl
theorem zw_1613 : Cond.methodLink RL 222 yX11_firstRepeat ∈ zW := zW_in 1613 (by decide +kernel) rfl
theorem zw_1614 : Cond.instanceMethod yX11_firstRepeat ∈ zW := zW_in 1614 (by decide +kernel) rfl
theorem zw_1615 : Cond.selects RX11 yX11_firstRepeat yX11_firstRepeat ∈ zW := zW_in 1615 (by decide +kernel) rfl
theorem zw_1616 : Cond.code yX11_firstRepeat cX11_firstRepeat 2 (some .int) ∈ zW := zW_in 1616 (by decide +kernel) rfl
theorem zw_1617 : Cond.methodLink RL 225 yX11_takeOut ∈ zW := zW_in 1617 (by decide +kernel) rfl
theorem zw_1618 : Cond.instanceMethod yX11_takeOut ∈ zW := zW_in 1618 (by decide +kernel) rfl
theorem zw_1619 : Cond.selects RX11 yX11_takeOut yX11_takeOut ∈ zW := zW_in 1619 (by decide +kernel) rfl
theorem zw_1620 : Cond.code yX11_takeOut cX11_takeOut 2 (some .int) ∈ zW := zW_in 1620 (by decide +kernel) rfl
theorem zw_1624 : Cond.methodLink RL 228 yX11_bringIn ∈ zW := zW_in 1624 (by decide +kernel) rfl
theorem zw_1625 : Cond.instanceMethod yX11_bringIn ∈ zW := zW_in 1625 (by decide +kernel) rfl
theorem zw_1626 : Cond.selects RX11 yX11_bringIn yX11_bringIn ∈ zW := zW_in 1626 (by decide +kernel) rfl
theorem zw_1627 : Cond.code yX11_bringIn cX11_bringIn 2 (some .boolean) ∈ zW := zW_in 1627 (by decide +kernel) rfl
theorem zw_1628 : Cond.methodLink RL 231 yX11_mend ∈ zW := zW_in 1628 (by decide +kernel) rfl
theorem zw_1629 : Cond.instanceMethod yX11_mend ∈ zW := zW_in 1629 (by decide +kernel) rfl
theorem zw_1630 : Cond.selects RX11 yX11_mend yX11_mend ∈ zW := zW_in 1630 (by decide +kernel) rfl
theorem zw_1631 : Cond.code yX11_mend cX11_mend 4 (some .int) ∈ zW := zW_in 1631 (by decide +kernel) rfl
theorem zw_1632 : Cond.methodLink RL 234 yX11_wear ∈ zW := zW_in 1632 (by decide +kernel) rfl
theorem zw_1633 : Cond.instanceMethod yX11_wear ∈ zW := zW_in 1633 (by decide +kernel) rfl
theorem zw_1634 : Cond.selects RX11 yX11_wear yX11_wear ∈ zW := zW_in 1634 (by decide +kernel) rfl
theorem zw_1635 : Cond.code yX11_wear cX11_wear 3 (some .int) ∈ zW := zW_in 1635 (by decide +kernel) rfl
theorem zw_1636 : Cond.methodLink RL 237 yX11_isIn ∈ zW := zW_in 1636 (by decide +kernel) rfl
theorem zw_1637 : Cond.instanceMethod yX11_isIn ∈ zW := zW_in 1637 (by decide +kernel) rfl
theorem zw_1638 : Cond.selects RX11 yX11_isIn yX11_isIn ∈ zW := zW_in 1638 (by decide +kernel) rfl
theorem zw_1639 : Cond.code yX11_isIn cX11_isIn 2 (some .boolean) ∈ zW := zW_in 1639 (by decide +kernel) rfl
theorem zw_1640 : Cond.methodLink RL 240 yX11_setBand ∈ zW := zW_in 1640 (by decide +kernel) rfl
theorem zw_1641 : Cond.instanceMethod yX11_setBand ∈ zW := zW_in 1641 (by decide +kernel) rfl
theorem zw_1642 : Cond.selects RX11 yX11_setBand yX11_setBand ∈ zW := zW_in 1642 (by decide +kernel) rfl
theorem zw_1643 : Cond.code yX11_setBand cX11_setBand 4 (some .int) ∈ zW := zW_in 1643 (by decide +kernel) rfl
theorem zw_1644 : Cond.methodLink RL 243 yX11_plan ∈ zW := zW_in 1644 (by decide +kernel) rfl
theorem zw_1645 : Cond.instanceMethod yX11_plan ∈ zW := zW_in 1645 (by decide +kernel) rfl
theorem zw_1646 : Cond.selects RX11 yX11_plan yX11_plan ∈ zW := zW_in 1646 (by decide +kernel) rfl
theorem zw_1647 : Cond.code yX11_plan cX11_plan 4 (some .int) ∈ zW := zW_in 1647 (by decide +kernel) rfl
theorem zw_1656 : Cond.methodLink RL 246 yX11_planned ∈ zW := zW_in 1656 (by decide +kernel) rfl
theorem zw_1657 : Cond.instanceMethod yX11_planned ∈ zW := zW_in 1657 (by decide +kernel) rfl
theorem zw_1658 : Cond.selects RX11 yX11_planned yX11_planned ∈ zW := zW_in 1658 (by decide +kernel) rfl
theorem zw_1659 : Cond.code yX11_planned cX11_planned 2 (some .int) ∈ zW := zW_in 1659 (by decide +kernel) rfl
theorem zw_1660 : Cond.methodLink RL 249 yX11_plannedAt ∈ zW := zW_in 1660 (by decide +kernel) rfl
theorem zw_1661 : Cond.instanceMethod yX11_plannedAt ∈ zW := zW_in 1661 (by decide +kernel) rfl
theorem zw_1662 : Cond.selects RX11 yX11_plannedAt yX11_plannedAt ∈ zW := zW_in 1662 (by decide +kernel) rfl
theorem zw_1663 : Cond.code yX11_plannedAt cX11_plannedAt 3 (some .int) ∈ zW := zW_in 1663 (by decide +kernel) rfl
theorem zw_1664 : Cond.methodLink RL 252 yX11_rota ∈ zW := zW_in 1664 (by decide +kernel) rfl
theorem zw_1665 : Cond.instanceMethod yX11_rota ∈ zW := zW_in 1665 (by decide +kernel) rfl
theorem zw_1666 : Cond.selects RX11 yX11_rota yX11_rota ∈ zW := zW_in 1666 (by decide +kernel) rfl
theorem zw_1667 : Cond.code yX11_rota cX11_rota 2 (some .int) ∈ zW := zW_in 1667 (by decide +kernel) rfl
theorem zw_1676 : Cond.methodLink RL 255 yX11_pass ∈ zW := zW_in 1676 (by decide +kernel) rfl
theorem zw_1677 : Cond.instanceMethod yX11_pass ∈ zW := zW_in 1677 (by decide +kernel) rfl
theorem zw_1678 : Cond.selects RX11 yX11_pass yX11_pass ∈ zW := zW_in 1678 (by decide +kernel) rfl
theorem zw_1679 : Cond.code yX11_pass cX11_pass 2 (some .int) ∈ zW := zW_in 1679 (by decide +kernel) rfl
theorem zw_1680 : Cond.methodLink RL 259 yX11_today ∈ zW := zW_in 1680 (by decide +kernel) rfl
theorem zw_1681 : Cond.instanceMethod yX11_today ∈ zW := zW_in 1681 (by decide +kernel) rfl
theorem zw_1682 : Cond.selects RX11 yX11_today yX11_today ∈ zW := zW_in 1682 (by decide +kernel) rfl
theorem zw_1683 : Cond.code yX11_today cX11_today 1 (some .int) ∈ zW := zW_in 1683 (by decide +kernel) rfl
theorem zw_1684 : Cond.methodLink RL 263 yX11_dropped ∈ zW := zW_in 1684 (by decide +kernel) rfl
theorem zw_1685 : Cond.instanceMethod yX11_dropped ∈ zW := zW_in 1685 (by decide +kernel) rfl
theorem zw_1686 : Cond.selects RX11 yX11_dropped yX11_dropped ∈ zW := zW_in 1686 (by decide +kernel) rfl
theorem zw_1687 : Cond.code yX11_dropped cX11_dropped 1 (some .int) ∈ zW := zW_in 1687 (by decide +kernel) rfl
theorem zw_1688 : Cond.methodLink RL 266 yX11_ring ∈ zW := zW_in 1688 (by decide +kernel) rfl
theorem zw_1689 : Cond.instanceMethod yX11_ring ∈ zW := zW_in 1689 (by decide +kernel) rfl
theorem zw_1690 : Cond.selects RX11 yX11_ring yX11_ring ∈ zW := zW_in 1690 (by decide +kernel) rfl
theorem zw_1691 : Cond.code yX11_ring cX11_ring 6 (some .int) ∈ zW := zW_in 1691 (by decide +kernel) rfl
theorem zw_1720 : Cond.methodLink RL 269 yX11_stand ∈ zW := zW_in 1720 (by decide +kernel) rfl
theorem zw_1721 : Cond.instanceMethod yX11_stand ∈ zW := zW_in 1721 (by decide +kernel) rfl
theorem zw_1722 : Cond.selects RX11 yX11_stand yX11_stand ∈ zW := zW_in 1722 (by decide +kernel) rfl
theorem zw_1723 : Cond.code yX11_stand cX11_stand 1 (some .int) ∈ zW := zW_in 1723 (by decide +kernel) rfl
theorem zw_1724 : Cond.methodLink RL 274 yX11_isRinging ∈ zW := zW_in 1724 (by decide +kernel) rfl
theorem zw_1725 : Cond.instanceMethod yX11_isRinging ∈ zW := zW_in 1725 (by decide +kernel) rfl
theorem zw_1726 : Cond.selects RX11 yX11_isRinging yX11_isRinging ∈ zW := zW_in 1726 (by decide +kernel) rfl
theorem zw_1727 : Cond.code yX11_isRinging cX11_isRinging 1 (some .boolean) ∈ zW := zW_in 1727 (by decide +kernel) rfl
theorem zw_1728 : Cond.methodLink RL 277 yX11_pull ∈ zW := zW_in 1728 (by decide +kernel) rfl
theorem zw_1729 : Cond.instanceMethod yX11_pull ∈ zW := zW_in 1729 (by decide +kernel) rfl
theorem zw_1730 : Cond.selects RX11 yX11_pull yX11_pull ∈ zW := zW_in 1730 (by decide +kernel) rfl
theorem zw_1731 : Cond.code yX11_pull cX11_pull 9 (some .int) ∈ zW := zW_in 1731 (by decide +kernel) rfl
theorem zw_1748 : Cond.methodLink RL 280 yX11_due ∈ zW := zW_in 1748 (by decide +kernel) rfl
theorem zw_1749 : Cond.instanceMethod yX11_due ∈ zW := zW_in 1749 (by decide +kernel) rfl
theorem zw_1750 : Cond.selects RX11 yX11_due yX11_due ∈ zW := zW_in 1750 (by decide +kernel) rfl
theorem zw_1751 : Cond.code yX11_due cX11_due 2 (some .int) ∈ zW := zW_in 1751 (by decide +kernel) rfl
theorem zw_1752 : Cond.methodLink RL 283 yX11_setPatience ∈ zW := zW_in 1752 (by decide +kernel) rfl
theorem zw_1753 : Cond.instanceMethod yX11_setPatience ∈ zW := zW_in 1753 (by decide +kernel) rfl
theorem zw_1754 : Cond.selects RX11 yX11_setPatience yX11_setPatience ∈ zW := zW_in 1754 (by decide +kernel) rfl
theorem zw_1755 : Cond.code yX11_setPatience cX11_setPatience 3 (some .int) ∈ zW := zW_in 1755 (by decide +kernel) rfl
theorem zw_1756 : Cond.methodLink RL 287 yX11_done ∈ zW := zW_in 1756 (by decide +kernel) rfl
theorem zw_1757 : Cond.instanceMethod yX11_done ∈ zW := zW_in 1757 (by decide +kernel) rfl
theorem zw_1758 : Cond.selects RX11 yX11_done yX11_done ∈ zW := zW_in 1758 (by decide +kernel) rfl
theorem zw_1759 : Cond.code yX11_done cX11_done 1 (some .int) ∈ zW := zW_in 1759 (by decide +kernel) rfl
theorem zw_1760 : Cond.methodLink RL 291 yX11_delay ∈ zW := zW_in 1760 (by decide +kernel) rfl
theorem zw_1761 : Cond.instanceMethod yX11_delay ∈ zW := zW_in 1761 (by decide +kernel) rfl
theorem zw_1762 : Cond.selects RX11 yX11_delay yX11_delay ∈ zW := zW_in 1762 (by decide +kernel) rfl
theorem zw_1763 : Cond.code yX11_delay cX11_delay 1 (some .int) ∈ zW := zW_in 1763 (by decide +kernel) rfl
theorem zw_1764 : Cond.methodLink RL 294 yX11_late ∈ zW := zW_in 1764 (by decide +kernel) rfl
theorem zw_1765 : Cond.instanceMethod yX11_late ∈ zW := zW_in 1765 (by decide +kernel) rfl
theorem zw_1766 : Cond.selects RX11 yX11_late yX11_late ∈ zW := zW_in 1766 (by decide +kernel) rfl
theorem zw_1767 : Cond.code yX11_late cX11_late 2 (some .int) ∈ zW := zW_in 1767 (by decide +kernel) rfl
theorem zw_1772 : Cond.methodLink RL 297 yX11_early ∈ zW := zW_in 1772 (by decide +kernel) rfl
theorem zw_1773 : Cond.instanceMethod yX11_early ∈ zW := zW_in 1773 (by decide +kernel) rfl
theorem zw_1774 : Cond.selects RX11 yX11_early yX11_early ∈ zW := zW_in 1774 (by decide +kernel) rfl
theorem zw_1775 : Cond.code yX11_early cX11_early 2 (some .int) ∈ zW := zW_in 1775 (by decide +kernel) rfl
theorem zw_1776 : Cond.methodLink RL 300 yX11_errors ∈ zW := zW_in 1776 (by decide +kernel) rfl
theorem zw_1777 : Cond.instanceMethod yX11_errors ∈ zW := zW_in 1777 (by decide +kernel) rfl
theorem zw_1778 : Cond.selects RX11 yX11_errors yX11_errors ∈ zW := zW_in 1778 (by decide +kernel) rfl
theorem zw_1779 : Cond.code yX11_errors cX11_errors 2 (some .int) ∈ zW := zW_in 1779 (by decide +kernel) rfl
theorem zw_1780 : Cond.methodLink RL 304 yX11_wrong ∈ zW := zW_in 1780 (by decide +kernel) rfl
theorem zw_1781 : Cond.instanceMethod yX11_wrong ∈ zW := zW_in 1781 (by decide +kernel) rfl
theorem zw_1782 : Cond.selects RX11 yX11_wrong yX11_wrong ∈ zW := zW_in 1782 (by decide +kernel) rfl
theorem zw_1783 : Cond.code yX11_wrong cX11_wrong 1 (some .int) ∈ zW := zW_in 1783 (by decide +kernel) rfl
theorem zw_1784 : Cond.methodLink RL 308 yX11_rung ∈ zW := zW_in 1784 (by decide +kernel) rfl
theorem zw_1785 : Cond.instanceMethod yX11_rung ∈ zW := zW_in 1785 (by decide +kernel) rfl
theorem zw_1786 : Cond.selects RX11 yX11_rung yX11_rung ∈ zW := zW_in 1786 (by decide +kernel) rfl
theorem zw_1787 : Cond.code yX11_rung cX11_rung 1 (some .int) ∈ zW := zW_in 1787 (by decide +kernel) rfl
theorem zw_1788 : Cond.methodLink RL 312 yX11_latest ∈ zW := zW_in 1788 (by decide +kernel) rfl
theorem zw_1789 : Cond.instanceMethod yX11_latest ∈ zW := zW_in 1789 (by decide +kernel) rfl
theorem zw_1790 : Cond.selects RX11 yX11_latest yX11_latest ∈ zW := zW_in 1790 (by decide +kernel) rfl
theorem zw_1791 : Cond.code yX11_latest cX11_latest 1 (some .int) ∈ zW := zW_in 1791 (by decide +kernel) rfl
theorem zw_1792 : Cond.arrayClass Jvm.ClassFile.FieldType.long ∈ zW := zW_in 1792 (by decide +kernel) rfl
theorem zy_L_bellAt : yL_bellAt.cls ≠ "java/lang/invoke/MethodHandle" ∧ yL_bellAt.cls ≠ "java/lang/invoke/VarHandle" ∧ (parseMethodDescriptor yL_bellAt.desc).map (fun d => d.parameters.length) = some 5 := by decide +kernel
theorem zy_L_bringIn : yL_bringIn.cls ≠ "java/lang/invoke/MethodHandle" ∧ yL_bringIn.cls ≠ "java/lang/invoke/VarHandle" ∧ (parseMethodDescriptor yL_bringIn.desc).map (fun d => d.parameters.length) = some 3 := by decide +kernel
theorem zy_L_change : yL_change.cls ≠ "java/lang/invoke/MethodHandle" ∧ yL_change.cls ≠ "java/lang/invoke/VarHandle" ∧ (parseMethodDescriptor yL_change.desc).map (fun d => d.parameters.length) = some 3 := by decide +kernel
theorem zy_L_changeAt : yL_changeAt.cls ≠ "java/lang/invoke/MethodHandle" ∧ yL_changeAt.cls ≠ "java/lang/invoke/VarHandle" ∧ (parseMethodDescriptor yL_changeAt.desc).map (fun d => d.parameters.length) = some 5 := by decide +kernel
theorem zy_L_comesRound : yL_comesRound.cls ≠ "java/lang/invoke/MethodHandle" ∧ yL_comesRound.cls ≠ "java/lang/invoke/VarHandle" ∧ (parseMethodDescriptor yL_comesRound.desc).map (fun d => d.parameters.length) = some 3 := by decide +kernel
theorem zy_L_compose : yL_compose.cls ≠ "java/lang/invoke/MethodHandle" ∧ yL_compose.cls ≠ "java/lang/invoke/VarHandle" ∧ (parseMethodDescriptor yL_compose.desc).map (fun d => d.parameters.length) = some 4 := by decide +kernel
theorem zy_L_course : yL_course.cls ≠ "java/lang/invoke/MethodHandle" ∧ yL_course.cls ≠ "java/lang/invoke/VarHandle" ∧ (parseMethodDescriptor yL_course.desc).map (fun d => d.parameters.length) = some 3 := by decide +kernel
theorem zy_L_due : yL_due.cls ≠ "java/lang/invoke/MethodHandle" ∧ yL_due.cls ≠ "java/lang/invoke/VarHandle" ∧ (parseMethodDescriptor yL_due.desc).map (fun d => d.parameters.length) = some 3 := by decide +kernel
theorem zy_L_early : yL_early.cls ≠ "java/lang/invoke/MethodHandle" ∧ yL_early.cls ≠ "java/lang/invoke/VarHandle" ∧ (parseMethodDescriptor yL_early.desc).map (fun d => d.parameters.length) = some 3 := by decide +kernel
theorem zy_L_errors : yL_errors.cls ≠ "java/lang/invoke/MethodHandle" ∧ yL_errors.cls ≠ "java/lang/invoke/VarHandle" ∧ (parseMethodDescriptor yL_errors.desc).map (fun d => d.parameters.length) = some 3 := by decide +kernel
theorem zy_L_falseRows : yL_falseRows.cls ≠ "java/lang/invoke/MethodHandle" ∧ yL_falseRows.cls ≠ "java/lang/invoke/VarHandle" ∧ (parseMethodDescriptor yL_falseRows.desc).map (fun d => d.parameters.length) = some 3 := by decide +kernel
theorem zy_L_firstRepeat : yL_firstRepeat.cls ≠ "java/lang/invoke/MethodHandle" ∧ yL_firstRepeat.cls ≠ "java/lang/invoke/VarHandle" ∧ (parseMethodDescriptor yL_firstRepeat.desc).map (fun d => d.parameters.length) = some 3 := by decide +kernel
theorem zy_L_head : yL_head.cls ≠ "java/lang/invoke/MethodHandle" ∧ yL_head.cls ≠ "java/lang/invoke/VarHandle" ∧ (parseMethodDescriptor yL_head.desc).map (fun d => d.parameters.length) = some 4 := by decide +kernel
theorem zy_L_isFalse : yL_isFalse.cls ≠ "java/lang/invoke/MethodHandle" ∧ yL_isFalse.cls ≠ "java/lang/invoke/VarHandle" ∧ (parseMethodDescriptor yL_isFalse.desc).map (fun d => d.parameters.length) = some 4 := by decide +kernel
theorem zy_L_isIn : yL_isIn.cls ≠ "java/lang/invoke/MethodHandle" ∧ yL_isIn.cls ≠ "java/lang/invoke/VarHandle" ∧ (parseMethodDescriptor yL_isIn.desc).map (fun d => d.parameters.length) = some 3 := by decide +kernel
theorem zy_L_isTrue : yL_isTrue.cls ≠ "java/lang/invoke/MethodHandle" ∧ yL_isTrue.cls ≠ "java/lang/invoke/VarHandle" ∧ (parseMethodDescriptor yL_isTrue.desc).map (fun d => d.parameters.length) = some 3 := by decide +kernel
theorem zy_L_late : yL_late.cls ≠ "java/lang/invoke/MethodHandle" ∧ yL_late.cls ≠ "java/lang/invoke/VarHandle" ∧ (parseMethodDescriptor yL_late.desc).map (fun d => d.parameters.length) = some 3 := by decide +kernel
theorem zy_L_lead : yL_lead.cls ≠ "java/lang/invoke/MethodHandle" ∧ yL_lead.cls ≠ "java/lang/invoke/VarHandle" ∧ (parseMethodDescriptor yL_lead.desc).map (fun d => d.parameters.length) = some 4 := by decide +kernel
theorem zy_L_leadAt : yL_leadAt.cls ≠ "java/lang/invoke/MethodHandle" ∧ yL_leadAt.cls ≠ "java/lang/invoke/VarHandle" ∧ (parseMethodDescriptor yL_leadAt.desc).map (fun d => d.parameters.length) = some 4 := by decide +kernel
theorem zy_L_leads : yL_leads.cls ≠ "java/lang/invoke/MethodHandle" ∧ yL_leads.cls ≠ "java/lang/invoke/VarHandle" ∧ (parseMethodDescriptor yL_leads.desc).map (fun d => d.parameters.length) = some 3 := by decide +kernel
theorem zy_L_mend : yL_mend.cls ≠ "java/lang/invoke/MethodHandle" ∧ yL_mend.cls ≠ "java/lang/invoke/VarHandle" ∧ (parseMethodDescriptor yL_mend.desc).map (fun d => d.parameters.length) = some 4 := by decide +kernel
theorem zy_L_method : yL_method.cls ≠ "java/lang/invoke/MethodHandle" ∧ yL_method.cls ≠ "java/lang/invoke/VarHandle" ∧ (parseMethodDescriptor yL_method.desc).map (fun d => d.parameters.length) = some 3 := by decide +kernel
theorem zy_L_pass : yL_pass.cls ≠ "java/lang/invoke/MethodHandle" ∧ yL_pass.cls ≠ "java/lang/invoke/VarHandle" ∧ (parseMethodDescriptor yL_pass.desc).map (fun d => d.parameters.length) = some 2 := by decide +kernel
theorem zy_L_plan : yL_plan.cls ≠ "java/lang/invoke/MethodHandle" ∧ yL_plan.cls ≠ "java/lang/invoke/VarHandle" ∧ (parseMethodDescriptor yL_plan.desc).map (fun d => d.parameters.length) = some 4 := by decide +kernel
theorem zy_L_planned : yL_planned.cls ≠ "java/lang/invoke/MethodHandle" ∧ yL_planned.cls ≠ "java/lang/invoke/VarHandle" ∧ (parseMethodDescriptor yL_planned.desc).map (fun d => d.parameters.length) = some 3 := by decide +kernel
theorem zy_L_plannedAt : yL_plannedAt.cls ≠ "java/lang/invoke/MethodHandle" ∧ yL_plannedAt.cls ≠ "java/lang/invoke/VarHandle" ∧ (parseMethodDescriptor yL_plannedAt.desc).map (fun d => d.parameters.length) = some 4 := by decide +kernel
theorem zy_L_pull : yL_pull.cls ≠ "java/lang/invoke/MethodHandle" ∧ yL_pull.cls ≠ "java/lang/invoke/VarHandle" ∧ (parseMethodDescriptor yL_pull.desc).map (fun d => d.parameters.length) = some 4 := by decide +kernel
theorem zy_L_ring : yL_ring.cls ≠ "java/lang/invoke/MethodHandle" ∧ yL_ring.cls ≠ "java/lang/invoke/VarHandle" ∧ (parseMethodDescriptor yL_ring.desc).map (fun d => d.parameters.length) = some 5 := by decide +kernel
theorem zy_L_rota : yL_rota.cls ≠ "java/lang/invoke/MethodHandle" ∧ yL_rota.cls ≠ "java/lang/invoke/VarHandle" ∧ (parseMethodDescriptor yL_rota.desc).map (fun d => d.parameters.length) = some 3 := by decide +kernel
theorem zy_L_rowAt : yL_rowAt.cls ≠ "java/lang/invoke/MethodHandle" ∧ yL_rowAt.cls ≠ "java/lang/invoke/VarHandle" ∧ (parseMethodDescriptor yL_rowAt.desc).map (fun d => d.parameters.length) = some 4 := by decide +kernel
theorem zy_L_rows : yL_rows.cls ≠ "java/lang/invoke/MethodHandle" ∧ yL_rows.cls ≠ "java/lang/invoke/VarHandle" ∧ (parseMethodDescriptor yL_rows.desc).map (fun d => d.parameters.length) = some 3 := by decide +kernel
theorem zy_L_setBand : yL_setBand.cls ≠ "java/lang/invoke/MethodHandle" ∧ yL_setBand.cls ≠ "java/lang/invoke/VarHandle" ∧ (parseMethodDescriptor yL_setBand.desc).map (fun d => d.parameters.length) = some 4 := by decide +kernel
theorem zy_L_setCall : yL_setCall.cls ≠ "java/lang/invoke/MethodHandle" ∧ yL_setCall.cls ≠ "java/lang/invoke/VarHandle" ∧ (parseMethodDescriptor yL_setCall.desc).map (fun d => d.parameters.length) = some 5 := by decide +kernel
theorem zy_L_setPatience : yL_setPatience.cls ≠ "java/lang/invoke/MethodHandle" ∧ yL_setPatience.cls ≠ "java/lang/invoke/VarHandle" ∧ (parseMethodDescriptor yL_setPatience.desc).map (fun d => d.parameters.length) = some 3 := by decide +kernel
theorem zy_L_stage : yL_stage.cls ≠ "java/lang/invoke/MethodHandle" ∧ yL_stage.cls ≠ "java/lang/invoke/VarHandle" ∧ (parseMethodDescriptor yL_stage.desc).map (fun d => d.parameters.length) = some 3 := by decide +kernel
theorem zy_L_stand : yL_stand.cls ≠ "java/lang/invoke/MethodHandle" ∧ yL_stand.cls ≠ "java/lang/invoke/VarHandle" ∧ (parseMethodDescriptor yL_stand.desc).map (fun d => d.parameters.length) = some 2 := by decide +kernel
theorem zy_L_takeOut : yL_takeOut.cls ≠ "java/lang/invoke/MethodHandle" ∧ yL_takeOut.cls ≠ "java/lang/invoke/VarHandle" ∧ (parseMethodDescriptor yL_takeOut.desc).map (fun d => d.parameters.length) = some 3 := by decide +kernel
theorem zy_L_touch : yL_touch.cls ≠ "java/lang/invoke/MethodHandle" ∧ yL_touch.cls ≠ "java/lang/invoke/VarHandle" ∧ (parseMethodDescriptor yL_touch.desc).map (fun d => d.parameters.length) = some 2 := by decide +kernel
theorem zy_L_wear : yL_wear.cls ≠ "java/lang/invoke/MethodHandle" ∧ yL_wear.cls ≠ "java/lang/invoke/VarHandle" ∧ (parseMethodDescriptor yL_wear.desc).map (fun d => d.parameters.length) = some 4 := by decide +kernel
theorem zy_X10_bellAt : yX10_bellAt.cls ≠ "java/lang/invoke/MethodHandle" ∧ yX10_bellAt.cls ≠ "java/lang/invoke/VarHandle" ∧ (parseMethodDescriptor yX10_bellAt.desc).map (fun d => d.parameters.length) = some 3 := by decide +kernel
theorem zy_X10_bringIn : yX10_bringIn.cls ≠ "java/lang/invoke/MethodHandle" ∧ yX10_bringIn.cls ≠ "java/lang/invoke/VarHandle" ∧ (parseMethodDescriptor yX10_bringIn.desc).map (fun d => d.parameters.length) = some 1 := by decide +kernel
theorem zy_X10_change : yX10_change.cls ≠ "java/lang/invoke/MethodHandle" ∧ yX10_change.cls ≠ "java/lang/invoke/VarHandle" ∧ (parseMethodDescriptor yX10_change.desc).map (fun d => d.parameters.length) = some 1 := by decide +kernel
theorem zy_X10_changeAt : yX10_changeAt.cls ≠ "java/lang/invoke/MethodHandle" ∧ yX10_changeAt.cls ≠ "java/lang/invoke/VarHandle" ∧ (parseMethodDescriptor yX10_changeAt.desc).map (fun d => d.parameters.length) = some 3 := by decide +kernel
theorem zy_X10_comesRound : yX10_comesRound.cls ≠ "java/lang/invoke/MethodHandle" ∧ yX10_comesRound.cls ≠ "java/lang/invoke/VarHandle" ∧ (parseMethodDescriptor yX10_comesRound.desc).map (fun d => d.parameters.length) = some 1 := by decide +kernel
theorem zy_X10_compose : yX10_compose.cls ≠ "java/lang/invoke/MethodHandle" ∧ yX10_compose.cls ≠ "java/lang/invoke/VarHandle" ∧ (parseMethodDescriptor yX10_compose.desc).map (fun d => d.parameters.length) = some 2 := by decide +kernel
theorem zy_X10_course : yX10_course.cls ≠ "java/lang/invoke/MethodHandle" ∧ yX10_course.cls ≠ "java/lang/invoke/VarHandle" ∧ (parseMethodDescriptor yX10_course.desc).map (fun d => d.parameters.length) = some 1 := by decide +kernel
theorem zy_X10_delay : yX10_delay.cls ≠ "java/lang/invoke/MethodHandle" ∧ yX10_delay.cls ≠ "java/lang/invoke/VarHandle" ∧ (parseMethodDescriptor yX10_delay.desc).map (fun d => d.parameters.length) = some 0 := by decide +kernel
theorem zy_X10_done : yX10_done.cls ≠ "java/lang/invoke/MethodHandle" ∧ yX10_done.cls ≠ "java/lang/invoke/VarHandle" ∧ (parseMethodDescriptor yX10_done.desc).map (fun d => d.parameters.length) = some 0 := by decide +kernel
theorem zy_X10_dropChanges : yX10_dropChanges.cls ≠ "java/lang/invoke/MethodHandle" ∧ yX10_dropChanges.cls ≠ "java/lang/invoke/VarHandle" ∧ (parseMethodDescriptor yX10_dropChanges.desc).map (fun d => d.parameters.length) = some 0 := by decide +kernel
theorem zy_X10_dropLeads : yX10_dropLeads.cls ≠ "java/lang/invoke/MethodHandle" ∧ yX10_dropLeads.cls ≠ "java/lang/invoke/VarHandle" ∧ (parseMethodDescriptor yX10_dropLeads.desc).map (fun d => d.parameters.length) = some 0 := by decide +kernel
theorem zy_X10_dropped : yX10_dropped.cls ≠ "java/lang/invoke/MethodHandle" ∧ yX10_dropped.cls ≠ "java/lang/invoke/VarHandle" ∧ (parseMethodDescriptor yX10_dropped.desc).map (fun d => d.parameters.length) = some 0 := by decide +kernel
theorem zy_X10_due : yX10_due.cls ≠ "java/lang/invoke/MethodHandle" ∧ yX10_due.cls ≠ "java/lang/invoke/VarHandle" ∧ (parseMethodDescriptor yX10_due.desc).map (fun d => d.parameters.length) = some 1 := by decide +kernel
theorem zy_X10_early : yX10_early.cls ≠ "java/lang/invoke/MethodHandle" ∧ yX10_early.cls ≠ "java/lang/invoke/VarHandle" ∧ (parseMethodDescriptor yX10_early.desc).map (fun d => d.parameters.length) = some 1 := by decide +kernel
theorem zy_X10_errors : yX10_errors.cls ≠ "java/lang/invoke/MethodHandle" ∧ yX10_errors.cls ≠ "java/lang/invoke/VarHandle" ∧ (parseMethodDescriptor yX10_errors.desc).map (fun d => d.parameters.length) = some 1 := by decide +kernel
theorem zy_X10_falseRows : yX10_falseRows.cls ≠ "java/lang/invoke/MethodHandle" ∧ yX10_falseRows.cls ≠ "java/lang/invoke/VarHandle" ∧ (parseMethodDescriptor yX10_falseRows.desc).map (fun d => d.parameters.length) = some 1 := by decide +kernel
theorem zy_X10_firstRepeat : yX10_firstRepeat.cls ≠ "java/lang/invoke/MethodHandle" ∧ yX10_firstRepeat.cls ≠ "java/lang/invoke/VarHandle" ∧ (parseMethodDescriptor yX10_firstRepeat.desc).map (fun d => d.parameters.length) = some 1 := by decide +kernel
theorem zy_X10_head : yX10_head.cls ≠ "java/lang/invoke/MethodHandle" ∧ yX10_head.cls ≠ "java/lang/invoke/VarHandle" ∧ (parseMethodDescriptor yX10_head.desc).map (fun d => d.parameters.length) = some 2 := by decide +kernel
theorem zy_X10_init : yX10_init.cls ≠ "java/lang/invoke/MethodHandle" ∧ yX10_init.cls ≠ "java/lang/invoke/VarHandle" ∧ (parseMethodDescriptor yX10_init.desc).map (fun d => d.parameters.length) = some 0 := by decide +kernel
theorem zy_X10_isFalse : yX10_isFalse.cls ≠ "java/lang/invoke/MethodHandle" ∧ yX10_isFalse.cls ≠ "java/lang/invoke/VarHandle" ∧ (parseMethodDescriptor yX10_isFalse.desc).map (fun d => d.parameters.length) = some 2 := by decide +kernel
theorem zy_X10_isIn : yX10_isIn.cls ≠ "java/lang/invoke/MethodHandle" ∧ yX10_isIn.cls ≠ "java/lang/invoke/VarHandle" ∧ (parseMethodDescriptor yX10_isIn.desc).map (fun d => d.parameters.length) = some 1 := by decide +kernel
theorem zy_X10_isRinging : yX10_isRinging.cls ≠ "java/lang/invoke/MethodHandle" ∧ yX10_isRinging.cls ≠ "java/lang/invoke/VarHandle" ∧ (parseMethodDescriptor yX10_isRinging.desc).map (fun d => d.parameters.length) = some 0 := by decide +kernel
theorem zy_X10_isTrue : yX10_isTrue.cls ≠ "java/lang/invoke/MethodHandle" ∧ yX10_isTrue.cls ≠ "java/lang/invoke/VarHandle" ∧ (parseMethodDescriptor yX10_isTrue.desc).map (fun d => d.parameters.length) = some 1 := by decide +kernel
theorem zy_X10_late : yX10_late.cls ≠ "java/lang/invoke/MethodHandle" ∧ yX10_late.cls ≠ "java/lang/invoke/VarHandle" ∧ (parseMethodDescriptor yX10_late.desc).map (fun d => d.parameters.length) = some 1 := by decide +kernel
theorem zy_X10_latest : yX10_latest.cls ≠ "java/lang/invoke/MethodHandle" ∧ yX10_latest.cls ≠ "java/lang/invoke/VarHandle" ∧ (parseMethodDescriptor yX10_latest.desc).map (fun d => d.parameters.length) = some 0 := by decide +kernel
theorem zy_X10_lead : yX10_lead.cls ≠ "java/lang/invoke/MethodHandle" ∧ yX10_lead.cls ≠ "java/lang/invoke/VarHandle" ∧ (parseMethodDescriptor yX10_lead.desc).map (fun d => d.parameters.length) = some 2 := by decide +kernel
theorem zy_X10_leadAt : yX10_leadAt.cls ≠ "java/lang/invoke/MethodHandle" ∧ yX10_leadAt.cls ≠ "java/lang/invoke/VarHandle" ∧ (parseMethodDescriptor yX10_leadAt.desc).map (fun d => d.parameters.length) = some 2 := by decide +kernel
theorem zy_X10_leads : yX10_leads.cls ≠ "java/lang/invoke/MethodHandle" ∧ yX10_leads.cls ≠ "java/lang/invoke/VarHandle" ∧ (parseMethodDescriptor yX10_leads.desc).map (fun d => d.parameters.length) = some 1 := by decide +kernel
theorem zy_X10_mend : yX10_mend.cls ≠ "java/lang/invoke/MethodHandle" ∧ yX10_mend.cls ≠ "java/lang/invoke/VarHandle" ∧ (parseMethodDescriptor yX10_mend.desc).map (fun d => d.parameters.length) = some 2 := by decide +kernel
theorem zy_X10_method : yX10_method.cls ≠ "java/lang/invoke/MethodHandle" ∧ yX10_method.cls ≠ "java/lang/invoke/VarHandle" ∧ (parseMethodDescriptor yX10_method.desc).map (fun d => d.parameters.length) = some 1 := by decide +kernel
theorem zy_X10_pass : yX10_pass.cls ≠ "java/lang/invoke/MethodHandle" ∧ yX10_pass.cls ≠ "java/lang/invoke/VarHandle" ∧ (parseMethodDescriptor yX10_pass.desc).map (fun d => d.parameters.length) = some 0 := by decide +kernel
theorem zy_X10_plan : yX10_plan.cls ≠ "java/lang/invoke/MethodHandle" ∧ yX10_plan.cls ≠ "java/lang/invoke/VarHandle" ∧ (parseMethodDescriptor yX10_plan.desc).map (fun d => d.parameters.length) = some 2 := by decide +kernel
theorem zy_X10_planned : yX10_planned.cls ≠ "java/lang/invoke/MethodHandle" ∧ yX10_planned.cls ≠ "java/lang/invoke/VarHandle" ∧ (parseMethodDescriptor yX10_planned.desc).map (fun d => d.parameters.length) = some 1 := by decide +kernel
theorem zy_X10_plannedAt : yX10_plannedAt.cls ≠ "java/lang/invoke/MethodHandle" ∧ yX10_plannedAt.cls ≠ "java/lang/invoke/VarHandle" ∧ (parseMethodDescriptor yX10_plannedAt.desc).map (fun d => d.parameters.length) = some 2 := by decide +kernel
theorem zy_X10_pull : yX10_pull.cls ≠ "java/lang/invoke/MethodHandle" ∧ yX10_pull.cls ≠ "java/lang/invoke/VarHandle" ∧ (parseMethodDescriptor yX10_pull.desc).map (fun d => d.parameters.length) = some 2 := by decide +kernel
theorem zy_X10_ring : yX10_ring.cls ≠ "java/lang/invoke/MethodHandle" ∧ yX10_ring.cls ≠ "java/lang/invoke/VarHandle" ∧ (parseMethodDescriptor yX10_ring.desc).map (fun d => d.parameters.length) = some 3 := by decide +kernel
theorem zy_X10_rota : yX10_rota.cls ≠ "java/lang/invoke/MethodHandle" ∧ yX10_rota.cls ≠ "java/lang/invoke/VarHandle" ∧ (parseMethodDescriptor yX10_rota.desc).map (fun d => d.parameters.length) = some 1 := by decide +kernel
theorem zy_X10_rowAt : yX10_rowAt.cls ≠ "java/lang/invoke/MethodHandle" ∧ yX10_rowAt.cls ≠ "java/lang/invoke/VarHandle" ∧ (parseMethodDescriptor yX10_rowAt.desc).map (fun d => d.parameters.length) = some 2 := by decide +kernel
theorem zy_X10_rows : yX10_rows.cls ≠ "java/lang/invoke/MethodHandle" ∧ yX10_rows.cls ≠ "java/lang/invoke/VarHandle" ∧ (parseMethodDescriptor yX10_rows.desc).map (fun d => d.parameters.length) = some 1 := by decide +kernel
theorem zy_X10_rung : yX10_rung.cls ≠ "java/lang/invoke/MethodHandle" ∧ yX10_rung.cls ≠ "java/lang/invoke/VarHandle" ∧ (parseMethodDescriptor yX10_rung.desc).map (fun d => d.parameters.length) = some 0 := by decide +kernel
theorem zy_X10_setBand : yX10_setBand.cls ≠ "java/lang/invoke/MethodHandle" ∧ yX10_setBand.cls ≠ "java/lang/invoke/VarHandle" ∧ (parseMethodDescriptor yX10_setBand.desc).map (fun d => d.parameters.length) = some 2 := by decide +kernel
theorem zy_X10_setCall : yX10_setCall.cls ≠ "java/lang/invoke/MethodHandle" ∧ yX10_setCall.cls ≠ "java/lang/invoke/VarHandle" ∧ (parseMethodDescriptor yX10_setCall.desc).map (fun d => d.parameters.length) = some 3 := by decide +kernel
theorem zy_X10_setPatience : yX10_setPatience.cls ≠ "java/lang/invoke/MethodHandle" ∧ yX10_setPatience.cls ≠ "java/lang/invoke/VarHandle" ∧ (parseMethodDescriptor yX10_setPatience.desc).map (fun d => d.parameters.length) = some 1 := by decide +kernel
theorem zy_X10_stage : yX10_stage.cls ≠ "java/lang/invoke/MethodHandle" ∧ yX10_stage.cls ≠ "java/lang/invoke/VarHandle" ∧ (parseMethodDescriptor yX10_stage.desc).map (fun d => d.parameters.length) = some 1 := by decide +kernel
theorem zy_X10_stand : yX10_stand.cls ≠ "java/lang/invoke/MethodHandle" ∧ yX10_stand.cls ≠ "java/lang/invoke/VarHandle" ∧ (parseMethodDescriptor yX10_stand.desc).map (fun d => d.parameters.length) = some 0 := by decide +kernel
theorem zy_X10_takeOut : yX10_takeOut.cls ≠ "java/lang/invoke/MethodHandle" ∧ yX10_takeOut.cls ≠ "java/lang/invoke/VarHandle" ∧ (parseMethodDescriptor yX10_takeOut.desc).map (fun d => d.parameters.length) = some 1 := by decide +kernel
theorem zy_X10_today : yX10_today.cls ≠ "java/lang/invoke/MethodHandle" ∧ yX10_today.cls ≠ "java/lang/invoke/VarHandle" ∧ (parseMethodDescriptor yX10_today.desc).map (fun d => d.parameters.length) = some 0 := by decide +kernel
theorem zy_X10_touch : yX10_touch.cls ≠ "java/lang/invoke/MethodHandle" ∧ yX10_touch.cls ≠ "java/lang/invoke/VarHandle" ∧ (parseMethodDescriptor yX10_touch.desc).map (fun d => d.parameters.length) = some 0 := by decide +kernel
theorem zy_X10_touches : yX10_touches.cls ≠ "java/lang/invoke/MethodHandle" ∧ yX10_touches.cls ≠ "java/lang/invoke/VarHandle" ∧ (parseMethodDescriptor yX10_touches.desc).map (fun d => d.parameters.length) = some 0 := by decide +kernel
theorem zy_X10_wear : yX10_wear.cls ≠ "java/lang/invoke/MethodHandle" ∧ yX10_wear.cls ≠ "java/lang/invoke/VarHandle" ∧ (parseMethodDescriptor yX10_wear.desc).map (fun d => d.parameters.length) = some 2 := by decide +kernel
theorem zy_X10_wrong : yX10_wrong.cls ≠ "java/lang/invoke/MethodHandle" ∧ yX10_wrong.cls ≠ "java/lang/invoke/VarHandle" ∧ (parseMethodDescriptor yX10_wrong.desc).map (fun d => d.parameters.length) = some 0 := by decide +kernel
theorem zy_X11_bellAt : yX11_bellAt.cls ≠ "java/lang/invoke/MethodHandle" ∧ yX11_bellAt.cls ≠ "java/lang/invoke/VarHandle" ∧ (parseMethodDescriptor yX11_bellAt.desc).map (fun d => d.parameters.length) = some 3 := by decide +kernel
theorem zy_X11_bringIn : yX11_bringIn.cls ≠ "java/lang/invoke/MethodHandle" ∧ yX11_bringIn.cls ≠ "java/lang/invoke/VarHandle" ∧ (parseMethodDescriptor yX11_bringIn.desc).map (fun d => d.parameters.length) = some 1 := by decide +kernel
theorem zy_X11_change : yX11_change.cls ≠ "java/lang/invoke/MethodHandle" ∧ yX11_change.cls ≠ "java/lang/invoke/VarHandle" ∧ (parseMethodDescriptor yX11_change.desc).map (fun d => d.parameters.length) = some 1 := by decide +kernel
theorem zy_X11_changeAt : yX11_changeAt.cls ≠ "java/lang/invoke/MethodHandle" ∧ yX11_changeAt.cls ≠ "java/lang/invoke/VarHandle" ∧ (parseMethodDescriptor yX11_changeAt.desc).map (fun d => d.parameters.length) = some 3 := by decide +kernel
theorem zy_X11_comesRound : yX11_comesRound.cls ≠ "java/lang/invoke/MethodHandle" ∧ yX11_comesRound.cls ≠ "java/lang/invoke/VarHandle" ∧ (parseMethodDescriptor yX11_comesRound.desc).map (fun d => d.parameters.length) = some 1 := by decide +kernel
theorem zy_X11_compose : yX11_compose.cls ≠ "java/lang/invoke/MethodHandle" ∧ yX11_compose.cls ≠ "java/lang/invoke/VarHandle" ∧ (parseMethodDescriptor yX11_compose.desc).map (fun d => d.parameters.length) = some 2 := by decide +kernel
theorem zy_X11_course : yX11_course.cls ≠ "java/lang/invoke/MethodHandle" ∧ yX11_course.cls ≠ "java/lang/invoke/VarHandle" ∧ (parseMethodDescriptor yX11_course.desc).map (fun d => d.parameters.length) = some 1 := by decide +kernel
theorem zy_X11_delay : yX11_delay.cls ≠ "java/lang/invoke/MethodHandle" ∧ yX11_delay.cls ≠ "java/lang/invoke/VarHandle" ∧ (parseMethodDescriptor yX11_delay.desc).map (fun d => d.parameters.length) = some 0 := by decide +kernel
theorem zy_X11_done : yX11_done.cls ≠ "java/lang/invoke/MethodHandle" ∧ yX11_done.cls ≠ "java/lang/invoke/VarHandle" ∧ (parseMethodDescriptor yX11_done.desc).map (fun d => d.parameters.length) = some 0 := by decide +kernel
theorem zy_X11_dropChanges : yX11_dropChanges.cls ≠ "java/lang/invoke/MethodHandle" ∧ yX11_dropChanges.cls ≠ "java/lang/invoke/VarHandle" ∧ (parseMethodDescriptor yX11_dropChanges.desc).map (fun d => d.parameters.length) = some 0 := by decide +kernel
theorem zy_X11_dropLeads : yX11_dropLeads.cls ≠ "java/lang/invoke/MethodHandle" ∧ yX11_dropLeads.cls ≠ "java/lang/invoke/VarHandle" ∧ (parseMethodDescriptor yX11_dropLeads.desc).map (fun d => d.parameters.length) = some 0 := by decide +kernel
theorem zy_X11_dropped : yX11_dropped.cls ≠ "java/lang/invoke/MethodHandle" ∧ yX11_dropped.cls ≠ "java/lang/invoke/VarHandle" ∧ (parseMethodDescriptor yX11_dropped.desc).map (fun d => d.parameters.length) = some 0 := by decide +kernel
theorem zy_X11_due : yX11_due.cls ≠ "java/lang/invoke/MethodHandle" ∧ yX11_due.cls ≠ "java/lang/invoke/VarHandle" ∧ (parseMethodDescriptor yX11_due.desc).map (fun d => d.parameters.length) = some 1 := by decide +kernel
theorem zy_X11_early : yX11_early.cls ≠ "java/lang/invoke/MethodHandle" ∧ yX11_early.cls ≠ "java/lang/invoke/VarHandle" ∧ (parseMethodDescriptor yX11_early.desc).map (fun d => d.parameters.length) = some 1 := by decide +kernel
theorem zy_X11_errors : yX11_errors.cls ≠ "java/lang/invoke/MethodHandle" ∧ yX11_errors.cls ≠ "java/lang/invoke/VarHandle" ∧ (parseMethodDescriptor yX11_errors.desc).map (fun d => d.parameters.length) = some 1 := by decide +kernel
theorem zy_X11_falseRows : yX11_falseRows.cls ≠ "java/lang/invoke/MethodHandle" ∧ yX11_falseRows.cls ≠ "java/lang/invoke/VarHandle" ∧ (parseMethodDescriptor yX11_falseRows.desc).map (fun d => d.parameters.length) = some 1 := by decide +kernel
theorem zy_X11_firstRepeat : yX11_firstRepeat.cls ≠ "java/lang/invoke/MethodHandle" ∧ yX11_firstRepeat.cls ≠ "java/lang/invoke/VarHandle" ∧ (parseMethodDescriptor yX11_firstRepeat.desc).map (fun d => d.parameters.length) = some 1 := by decide +kernel
theorem zy_X11_head : yX11_head.cls ≠ "java/lang/invoke/MethodHandle" ∧ yX11_head.cls ≠ "java/lang/invoke/VarHandle" ∧ (parseMethodDescriptor yX11_head.desc).map (fun d => d.parameters.length) = some 2 := by decide +kernel
theorem zy_X11_init : yX11_init.cls ≠ "java/lang/invoke/MethodHandle" ∧ yX11_init.cls ≠ "java/lang/invoke/VarHandle" ∧ (parseMethodDescriptor yX11_init.desc).map (fun d => d.parameters.length) = some 0 := by decide +kernel
theorem zy_X11_isFalse : yX11_isFalse.cls ≠ "java/lang/invoke/MethodHandle" ∧ yX11_isFalse.cls ≠ "java/lang/invoke/VarHandle" ∧ (parseMethodDescriptor yX11_isFalse.desc).map (fun d => d.parameters.length) = some 2 := by decide +kernel
theorem zy_X11_isIn : yX11_isIn.cls ≠ "java/lang/invoke/MethodHandle" ∧ yX11_isIn.cls ≠ "java/lang/invoke/VarHandle" ∧ (parseMethodDescriptor yX11_isIn.desc).map (fun d => d.parameters.length) = some 1 := by decide +kernel
theorem zy_X11_isRinging : yX11_isRinging.cls ≠ "java/lang/invoke/MethodHandle" ∧ yX11_isRinging.cls ≠ "java/lang/invoke/VarHandle" ∧ (parseMethodDescriptor yX11_isRinging.desc).map (fun d => d.parameters.length) = some 0 := by decide +kernel
theorem zy_X11_isTrue : yX11_isTrue.cls ≠ "java/lang/invoke/MethodHandle" ∧ yX11_isTrue.cls ≠ "java/lang/invoke/VarHandle" ∧ (parseMethodDescriptor yX11_isTrue.desc).map (fun d => d.parameters.length) = some 1 := by decide +kernel
theorem zy_X11_late : yX11_late.cls ≠ "java/lang/invoke/MethodHandle" ∧ yX11_late.cls ≠ "java/lang/invoke/VarHandle" ∧ (parseMethodDescriptor yX11_late.desc).map (fun d => d.parameters.length) = some 1 := by decide +kernel
theorem zy_X11_latest : yX11_latest.cls ≠ "java/lang/invoke/MethodHandle" ∧ yX11_latest.cls ≠ "java/lang/invoke/VarHandle" ∧ (parseMethodDescriptor yX11_latest.desc).map (fun d => d.parameters.length) = some 0 := by decide +kernel
theorem zy_X11_lead : yX11_lead.cls ≠ "java/lang/invoke/MethodHandle" ∧ yX11_lead.cls ≠ "java/lang/invoke/VarHandle" ∧ (parseMethodDescriptor yX11_lead.desc).map (fun d => d.parameters.length) = some 2 := by decide +kernel
theorem zy_X11_leadAt : yX11_leadAt.cls ≠ "java/lang/invoke/MethodHandle" ∧ yX11_leadAt.cls ≠ "java/lang/invoke/VarHandle" ∧ (parseMethodDescriptor yX11_leadAt.desc).map (fun d => d.parameters.length) = some 2 := by decide +kernel
theorem zy_X11_leads : yX11_leads.cls ≠ "java/lang/invoke/MethodHandle" ∧ yX11_leads.cls ≠ "java/lang/invoke/VarHandle" ∧ (parseMethodDescriptor yX11_leads.desc).map (fun d => d.parameters.length) = some 1 := by decide +kernel
theorem zy_X11_mend : yX11_mend.cls ≠ "java/lang/invoke/MethodHandle" ∧ yX11_mend.cls ≠ "java/lang/invoke/VarHandle" ∧ (parseMethodDescriptor yX11_mend.desc).map (fun d => d.parameters.length) = some 2 := by decide +kernel
theorem zy_X11_method : yX11_method.cls ≠ "java/lang/invoke/MethodHandle" ∧ yX11_method.cls ≠ "java/lang/invoke/VarHandle" ∧ (parseMethodDescriptor yX11_method.desc).map (fun d => d.parameters.length) = some 1 := by decide +kernel
theorem zy_X11_pass : yX11_pass.cls ≠ "java/lang/invoke/MethodHandle" ∧ yX11_pass.cls ≠ "java/lang/invoke/VarHandle" ∧ (parseMethodDescriptor yX11_pass.desc).map (fun d => d.parameters.length) = some 0 := by decide +kernel
theorem zy_X11_plan : yX11_plan.cls ≠ "java/lang/invoke/MethodHandle" ∧ yX11_plan.cls ≠ "java/lang/invoke/VarHandle" ∧ (parseMethodDescriptor yX11_plan.desc).map (fun d => d.parameters.length) = some 2 := by decide +kernel
theorem zy_X11_planned : yX11_planned.cls ≠ "java/lang/invoke/MethodHandle" ∧ yX11_planned.cls ≠ "java/lang/invoke/VarHandle" ∧ (parseMethodDescriptor yX11_planned.desc).map (fun d => d.parameters.length) = some 1 := by decide +kernel
theorem zy_X11_plannedAt : yX11_plannedAt.cls ≠ "java/lang/invoke/MethodHandle" ∧ yX11_plannedAt.cls ≠ "java/lang/invoke/VarHandle" ∧ (parseMethodDescriptor yX11_plannedAt.desc).map (fun d => d.parameters.length) = some 2 := by decide +kernel
theorem zy_X11_pull : yX11_pull.cls ≠ "java/lang/invoke/MethodHandle" ∧ yX11_pull.cls ≠ "java/lang/invoke/VarHandle" ∧ (parseMethodDescriptor yX11_pull.desc).map (fun d => d.parameters.length) = some 2 := by decide +kernel
theorem zy_X11_ring : yX11_ring.cls ≠ "java/lang/invoke/MethodHandle" ∧ yX11_ring.cls ≠ "java/lang/invoke/VarHandle" ∧ (parseMethodDescriptor yX11_ring.desc).map (fun d => d.parameters.length) = some 3 := by decide +kernel
theorem zy_X11_rota : yX11_rota.cls ≠ "java/lang/invoke/MethodHandle" ∧ yX11_rota.cls ≠ "java/lang/invoke/VarHandle" ∧ (parseMethodDescriptor yX11_rota.desc).map (fun d => d.parameters.length) = some 1 := by decide +kernel
theorem zy_X11_rowAt : yX11_rowAt.cls ≠ "java/lang/invoke/MethodHandle" ∧ yX11_rowAt.cls ≠ "java/lang/invoke/VarHandle" ∧ (parseMethodDescriptor yX11_rowAt.desc).map (fun d => d.parameters.length) = some 2 := by decide +kernel
theorem zy_X11_rows : yX11_rows.cls ≠ "java/lang/invoke/MethodHandle" ∧ yX11_rows.cls ≠ "java/lang/invoke/VarHandle" ∧ (parseMethodDescriptor yX11_rows.desc).map (fun d => d.parameters.length) = some 1 := by decide +kernel
theorem zy_X11_rung : yX11_rung.cls ≠ "java/lang/invoke/MethodHandle" ∧ yX11_rung.cls ≠ "java/lang/invoke/VarHandle" ∧ (parseMethodDescriptor yX11_rung.desc).map (fun d => d.parameters.length) = some 0 := by decide +kernel
theorem zy_X11_setBand : yX11_setBand.cls ≠ "java/lang/invoke/MethodHandle" ∧ yX11_setBand.cls ≠ "java/lang/invoke/VarHandle" ∧ (parseMethodDescriptor yX11_setBand.desc).map (fun d => d.parameters.length) = some 2 := by decide +kernel
theorem zy_X11_setCall : yX11_setCall.cls ≠ "java/lang/invoke/MethodHandle" ∧ yX11_setCall.cls ≠ "java/lang/invoke/VarHandle" ∧ (parseMethodDescriptor yX11_setCall.desc).map (fun d => d.parameters.length) = some 3 := by decide +kernel
theorem zy_X11_setPatience : yX11_setPatience.cls ≠ "java/lang/invoke/MethodHandle" ∧ yX11_setPatience.cls ≠ "java/lang/invoke/VarHandle" ∧ (parseMethodDescriptor yX11_setPatience.desc).map (fun d => d.parameters.length) = some 1 := by decide +kernel
theorem zy_X11_stage : yX11_stage.cls ≠ "java/lang/invoke/MethodHandle" ∧ yX11_stage.cls ≠ "java/lang/invoke/VarHandle" ∧ (parseMethodDescriptor yX11_stage.desc).map (fun d => d.parameters.length) = some 1 := by decide +kernel
theorem zy_X11_stand : yX11_stand.cls ≠ "java/lang/invoke/MethodHandle" ∧ yX11_stand.cls ≠ "java/lang/invoke/VarHandle" ∧ (parseMethodDescriptor yX11_stand.desc).map (fun d => d.parameters.length) = some 0 := by decide +kernel
theorem zy_X11_takeOut : yX11_takeOut.cls ≠ "java/lang/invoke/MethodHandle" ∧ yX11_takeOut.cls ≠ "java/lang/invoke/VarHandle" ∧ (parseMethodDescriptor yX11_takeOut.desc).map (fun d => d.parameters.length) = some 1 := by decide +kernel
theorem zy_X11_thrown : yX11_thrown.cls ≠ "java/lang/invoke/MethodHandle" ∧ yX11_thrown.cls ≠ "java/lang/invoke/VarHandle" ∧ (parseMethodDescriptor yX11_thrown.desc).map (fun d => d.parameters.length) = some 0 := by decide +kernel
theorem zy_X11_today : yX11_today.cls ≠ "java/lang/invoke/MethodHandle" ∧ yX11_today.cls ≠ "java/lang/invoke/VarHandle" ∧ (parseMethodDescriptor yX11_today.desc).map (fun d => d.parameters.length) = some 0 := by decide +kernel
theorem zy_X11_touch : yX11_touch.cls ≠ "java/lang/invoke/MethodHandle" ∧ yX11_touch.cls ≠ "java/lang/invoke/VarHandle" ∧ (parseMethodDescriptor yX11_touch.desc).map (fun d => d.parameters.length) = some 0 := by decide +kernel
theorem zy_X11_touches : yX11_touches.cls ≠ "java/lang/invoke/MethodHandle" ∧ yX11_touches.cls ≠ "java/lang/invoke/VarHandle" ∧ (parseMethodDescriptor yX11_touches.desc).map (fun d => d.parameters.length) = some 0 := by decide +kernel
theorem zy_X11_wear : yX11_wear.cls ≠ "java/lang/invoke/MethodHandle" ∧ yX11_wear.cls ≠ "java/lang/invoke/VarHandle" ∧ (parseMethodDescriptor yX11_wear.desc).map (fun d => d.parameters.length) = some 2 := by decide +kernel
theorem zy_X11_wrong : yX11_wrong.cls ≠ "java/lang/invoke/MethodHandle" ∧ yX11_wrong.cls ≠ "java/lang/invoke/VarHandle" ∧ (parseMethodDescriptor yX11_wrong.desc).map (fun d => d.parameters.length) = some 0 := by decide +kernel
