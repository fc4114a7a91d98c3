theorem zw_29 : Cond.initialized RL ∈ zW := zW_in 29 (by decide +kernel) rfl
theorem zw_311 : Cond.methodLink RL 213 yL_low ∈ zW := zW_in 311 (by decide +kernel) rfl
theorem zw_312 : Cond.static yL_low ∈ zW := zW_in 312 (by decide +kernel) rfl
theorem zw_313 : Cond.code yL_low cL_low 2 (some .int) ∈ zW := zW_in 313 (by decide +kernel) rfl
theorem zw_317 : Cond.methodLink RL 216 yL_change ∈ zW := zW_in 317 (by decide +kernel) rfl
theorem zw_318 : Cond.static yL_change ∈ zW := zW_in 318 (by decide +kernel) rfl
theorem zw_319 : Cond.codeWith yL_change cL_change 4 (some .int) [(0, 6, 9, 14), (0, 6, 14, 16)] ∈ zW := zW_in 319 (by decide +kernel) rfl
theorem zw_320 : Cond.classLink RL 14 "java/lang/IllegalArgumentException" ∈ zW := zW_in 320 (by decide +kernel) rfl
theorem zw_321 : Cond.classLink RL 16 "java/lang/IllegalStateException" ∈ zW := zW_in 321 (by decide +kernel) rfl
theorem zw_322 : Cond.methodLink RL 8 yX10_change ∈ zW := zW_in 322 (by decide +kernel) rfl
theorem zw_323 : Cond.instanceMethod yX10_change ∈ zW := zW_in 323 (by decide +kernel) rfl
theorem zw_324 : Cond.selects RX10 yX10_change yX10_change ∈ zW := zW_in 324 (by decide +kernel) rfl
theorem zw_325 : Cond.code yX10_change cX10_change 2 (some .int) ∈ zW := zW_in 325 (by decide +kernel) rfl
theorem zw_413 : Cond.methodLink RL 219 yL_method ∈ zW := zW_in 413 (by decide +kernel) rfl
theorem zw_414 : Cond.static yL_method ∈ zW := zW_in 414 (by decide +kernel) rfl
theorem zw_415 : Cond.codeWith yL_method cL_method 4 (some .int) [(0, 6, 9, 14), (0, 6, 14, 16)] ∈ zW := zW_in 415 (by decide +kernel) rfl
theorem zw_416 : Cond.methodLink RL 18 yX10_method ∈ zW := zW_in 416 (by decide +kernel) rfl
theorem zw_417 : Cond.instanceMethod yX10_method ∈ zW := zW_in 417 (by decide +kernel) rfl
theorem zw_418 : Cond.selects RX10 yX10_method yX10_method ∈ zW := zW_in 418 (by decide +kernel) rfl
theorem zw_419 : Cond.code yX10_method cX10_method 3 (some .int) ∈ zW := zW_in 419 (by decide +kernel) rfl
theorem zw_566 : Cond.methodLink RL 221 yL_isChange ∈ zW := zW_in 566 (by decide +kernel) rfl
theorem zw_567 : Cond.static yL_isChange ∈ zW := zW_in 567 (by decide +kernel) rfl
theorem zw_568 : Cond.code yL_isChange cL_isChange 3 (some .boolean) ∈ zW := zW_in 568 (by decide +kernel) rfl
theorem zw_569 : Cond.methodLink RL 224 yX10_dropChanges ∈ zW := zW_in 569 (by decide +kernel) rfl
theorem zw_570 : Cond.instanceMethod yX10_dropChanges ∈ zW := zW_in 570 (by decide +kernel) rfl
theorem zw_571 : Cond.selects RX10 yX10_dropChanges yX10_dropChanges ∈ zW := zW_in 571 (by decide +kernel) rfl
theorem zw_572 : Cond.code yX10_dropChanges cX10_dropChanges 2 (some .int) ∈ zW := zW_in 572 (by decide +kernel) rfl
theorem zw_573 : Cond.methodLink RL 227 yL_stage ∈ zW := zW_in 573 (by decide +kernel) rfl
theorem zw_574 : Cond.static yL_stage ∈ zW := zW_in 574 (by decide +kernel) rfl
theorem zw_575 : Cond.codeWith yL_stage cL_stage 4 (some .int) [(0, 6, 9, 25)] ∈ zW := zW_in 575 (by decide +kernel) rfl
theorem zw_576 : Cond.classLink RL 25 "java/lang/IndexOutOfBoundsException" ∈ zW := zW_in 576 (by decide +kernel) rfl
theorem zw_577 : Cond.methodLink RL 27 yX10_stage ∈ zW := zW_in 577 (by decide +kernel) rfl
theorem zw_578 : Cond.instanceMethod yX10_stage ∈ zW := zW_in 578 (by decide +kernel) rfl
theorem zw_579 : Cond.selects RX10 yX10_stage yX10_stage ∈ zW := zW_in 579 (by decide +kernel) rfl
theorem zw_580 : Cond.code yX10_stage cX10_stage 2 (some .int) ∈ zW := zW_in 580 (by decide +kernel) rfl
theorem zw_618 : Cond.constantLong RL 229 8 ∈ zW := zW_in 618 (by decide +kernel) rfl
theorem zw_619 : Cond.methodLink RL 231 yL_setCall ∈ zW := zW_in 619 (by decide +kernel) rfl
theorem zw_620 : Cond.static yL_setCall ∈ zW := zW_in 620 (by decide +kernel) rfl
theorem zw_621 : Cond.codeWith yL_setCall cL_setCall 6 (some .int) [(0, 9, 12, 25), (0, 9, 18, 14), (0, 9, 24, 16)] ∈ zW := zW_in 621 (by decide +kernel) rfl
theorem zw_622 : Cond.methodLink RL 21 yX10_setCall ∈ zW := zW_in 622 (by decide +kernel) rfl
theorem zw_623 : Cond.instanceMethod yX10_setCall ∈ zW := zW_in 623 (by decide +kernel) rfl
theorem zw_624 : Cond.selects RX10 yX10_setCall yX10_setCall ∈ zW := zW_in 624 (by decide +kernel) rfl
theorem zw_625 : Cond.code yX10_setCall cX10_setCall 6 (some .int) ∈ zW := zW_in 625 (by decide +kernel) rfl
theorem zw_703 : Cond.methodLink RL 234 yL_lead ∈ zW := zW_in 703 (by decide +kernel) rfl
theorem zw_704 : Cond.static yL_lead ∈ zW := zW_in 704 (by decide +kernel) rfl
theorem zw_705 : Cond.codeWith yL_lead cL_lead 5 (some .int) [(0, 7, 10, 25), (0, 7, 16, 14), (0, 7, 22, 16)] ∈ zW := zW_in 705 (by decide +kernel) rfl
theorem zw_706 : Cond.methodLink RL 47 yX10_lead ∈ zW := zW_in 706 (by decide +kernel) rfl
theorem zw_707 : Cond.instanceMethod yX10_lead ∈ zW := zW_in 707 (by decide +kernel) rfl
theorem zw_708 : Cond.selects RX10 yX10_lead yX10_lead ∈ zW := zW_in 708 (by decide +kernel) rfl
theorem zw_709 : Cond.code yX10_lead cX10_lead 4 (some .int) ∈ zW := zW_in 709 (by decide +kernel) rfl
theorem zw_728 : Cond.methodLink RL 237 yL_compose ∈ zW := zW_in 728 (by decide +kernel) rfl
theorem zw_729 : Cond.static yL_compose ∈ zW := zW_in 729 (by decide +kernel) rfl
theorem zw_730 : Cond.codeWith yL_compose cL_compose 5 (some .int) [(0, 7, 10, 25), (0, 7, 16, 14), (0, 7, 22, 16)] ∈ zW := zW_in 730 (by decide +kernel) rfl
theorem zw_731 : Cond.methodLink RL 54 yX10_compose ∈ zW := zW_in 731 (by decide +kernel) rfl
theorem zw_732 : Cond.instanceMethod yX10_compose ∈ zW := zW_in 732 (by decide +kernel) rfl
theorem zw_733 : Cond.selects RX10 yX10_compose yX10_compose ∈ zW := zW_in 733 (by decide +kernel) rfl
theorem zw_734 : Cond.code yX10_compose cX10_compose 5 (some .int) ∈ zW := zW_in 734 (by decide +kernel) rfl
theorem zw_775 : Cond.methodLink RL 239 yL_changeAt ∈ zW := zW_in 775 (by decide +kernel) rfl
theorem zw_776 : Cond.static yL_changeAt ∈ zW := zW_in 776 (by decide +kernel) rfl
theorem zw_777 : Cond.codeWith yL_changeAt cL_changeAt 6 (some .int) [(0, 9, 12, 25), (0, 9, 18, 14)] ∈ zW := zW_in 777 (by decide +kernel) rfl
theorem zw_778 : Cond.methodLink RL 30 yX10_changeAt ∈ zW := zW_in 778 (by decide +kernel) rfl
theorem zw_779 : Cond.instanceMethod yX10_changeAt ∈ zW := zW_in 779 (by decide +kernel) rfl
theorem zw_780 : Cond.selects RX10 yX10_changeAt yX10_changeAt ∈ zW := zW_in 780 (by decide +kernel) rfl
theorem zw_781 : Cond.code yX10_changeAt cX10_changeAt 5 (some .int) ∈ zW := zW_in 781 (by decide +kernel) rfl
theorem zw_783 : Cond.methodLink RL 155 yL_stageOf ∈ zW := zW_in 783 (by decide +kernel) rfl
theorem zw_784 : Cond.static yL_stageOf ∈ zW := zW_in 784 (by decide +kernel) rfl
theorem zw_785 : Cond.code yL_stageOf cL_stageOf 2 (some .int) ∈ zW := zW_in 785 (by decide +kernel) rfl
theorem zw_786 : Cond.constantLong RL 147 7 ∈ zW := zW_in 786 (by decide +kernel) rfl
theorem zw_787 : Cond.methodLink RL 149 yL_size ∈ zW := zW_in 787 (by decide +kernel) rfl
theorem zw_788 : Cond.static yL_size ∈ zW := zW_in 788 (by decide +kernel) rfl
theorem zw_789 : Cond.code yL_size cL_size 2 (some .int) ∈ zW := zW_in 789 (by decide +kernel) rfl
theorem zw_790 : Cond.methodLink RL 158 yL_its ∈ zW := zW_in 790 (by decide +kernel) rfl
theorem zw_791 : Cond.static yL_its ∈ zW := zW_in 791 (by decide +kernel) rfl
theorem zw_792 : Cond.code yL_its cL_its 5 (some .int) ∈ zW := zW_in 792 (by decide +kernel) rfl
theorem zw_793 : Cond.constantLong RL 153 63 ∈ zW := zW_in 793 (by decide +kernel) rfl
theorem zw_794 : Cond.constantLong RL 241 (-1) ∈ zW := zW_in 794 (by decide +kernel) rfl
theorem zw_795 : Cond.methodLink RL 192 yL_drop ∈ zW := zW_in 795 (by decide +kernel) rfl
theorem zw_796 : Cond.static yL_drop ∈ zW := zW_in 796 (by decide +kernel) rfl
theorem zw_797 : Cond.code yL_drop cL_drop 10 (some .int) ∈ zW := zW_in 797 (by decide +kernel) rfl
theorem zw_798 : Cond.methodLink RL 176 yL_stageIn ∈ zW := zW_in 798 (by decide +kernel) rfl
theorem zw_799 : Cond.static yL_stageIn ∈ zW := zW_in 799 (by decide +kernel) rfl
theorem zw_800 : Cond.code yL_stageIn cL_stageIn 3 (some .int) ∈ zW := zW_in 800 (by decide +kernel) rfl
theorem zw_801 : Cond.methodLink RL 180 yL_areIn ∈ zW := zW_in 801 (by decide +kernel) rfl
theorem zw_802 : Cond.static yL_areIn ∈ zW := zW_in 802 (by decide +kernel) rfl
theorem zw_803 : Cond.code yL_areIn cL_areIn 3 (some .boolean) ∈ zW := zW_in 803 (by decide +kernel) rfl
theorem zw_804 : Cond.methodLink RL 184 yL_isSound ∈ zW := zW_in 804 (by decide +kernel) rfl
theorem zw_805 : Cond.static yL_isSound ∈ zW := zW_in 805 (by decide +kernel) rfl
theorem zw_806 : Cond.code yL_isSound cL_isSound 4 (some .boolean) ∈ zW := zW_in 806 (by decide +kernel) rfl
theorem zw_807 : Cond.methodLink RL 168 yL_lay ∈ zW := zW_in 807 (by decide +kernel) rfl
theorem zw_808 : Cond.static yL_lay ∈ zW := zW_in 808 (by decide +kernel) rfl
theorem zw_809 : Cond.code yL_lay cL_lay 9 (some .int) ∈ zW := zW_in 809 (by decide +kernel) rfl
theorem zw_810 : Cond.methodLink RL 165 yL_rounds ∈ zW := zW_in 810 (by decide +kernel) rfl
theorem zw_811 : Cond.static yL_rounds ∈ zW := zW_in 811 (by decide +kernel) rfl
theorem zw_812 : Cond.code yL_rounds cL_rounds 3 (some .int) ∈ zW := zW_in 812 (by decide +kernel) rfl
theorem zw_813 : Cond.methodLink RL 162 yL_changed ∈ zW := zW_in 813 (by decide +kernel) rfl
theorem zw_814 : Cond.static yL_changed ∈ zW := zW_in 814 (by decide +kernel) rfl
theorem zw_815 : Cond.code yL_changed cL_changed 5 (some .int) ∈ zW := zW_in 815 (by decide +kernel) rfl
theorem zw_816 : Cond.methodLink RL 139 yL_moved ∈ zW := zW_in 816 (by decide +kernel) rfl
theorem zw_817 : Cond.static yL_moved ∈ zW := zW_in 817 (by decide +kernel) rfl
theorem zw_818 : Cond.code yL_moved cL_moved 4 (some .int) ∈ zW := zW_in 818 (by decide +kernel) rfl
theorem zw_819 : Cond.methodLink RL 172 yL_repeat ∈ zW := zW_in 819 (by decide +kernel) rfl
theorem zw_820 : Cond.static yL_repeat ∈ zW := zW_in 820 (by decide +kernel) rfl
theorem zw_821 : Cond.code yL_repeat cL_repeat 4 (some .int) ∈ zW := zW_in 821 (by decide +kernel) rfl
theorem zw_822 : Cond.methodLink RL 188 yL_takePlan ∈ zW := zW_in 822 (by decide +kernel) rfl
theorem zw_823 : Cond.static yL_takePlan ∈ zW := zW_in 823 (by decide +kernel) rfl
theorem zw_824 : Cond.code yL_takePlan cL_takePlan 5 none ∈ zW := zW_in 824 (by decide +kernel) rfl
theorem zw_825 : Cond.methodLink RL 243 yL_touch ∈ zW := zW_in 825 (by decide +kernel) rfl
theorem zw_826 : Cond.static yL_touch ∈ zW := zW_in 826 (by decide +kernel) rfl
theorem zw_827 : Cond.codeWith yL_touch cL_touch 3 (some .int) [(0, 5, 8, 16)] ∈ zW := zW_in 827 (by decide +kernel) rfl
theorem zw_828 : Cond.methodLink RL 50 yX10_touch ∈ zW := zW_in 828 (by decide +kernel) rfl
theorem zw_829 : Cond.instanceMethod yX10_touch ∈ zW := zW_in 829 (by decide +kernel) rfl
theorem zw_830 : Cond.selects RX10 yX10_touch yX10_touch ∈ zW := zW_in 830 (by decide +kernel) rfl
theorem zw_831 : Cond.code yX10_touch cX10_touch 2 (some .int) ∈ zW := zW_in 831 (by decide +kernel) rfl
theorem zw_833 : Cond.methodLink RL 246 yX10_dropLeads ∈ zW := zW_in 833 (by decide +kernel) rfl
theorem zw_834 : Cond.instanceMethod yX10_dropLeads ∈ zW := zW_in 834 (by decide +kernel) rfl
theorem zw_835 : Cond.selects RX10 yX10_dropLeads yX10_dropLeads ∈ zW := zW_in 835 (by decide +kernel) rfl
theorem zw_836 : Cond.code yX10_dropLeads cX10_dropLeads 2 (some .int) ∈ zW := zW_in 836 (by decide +kernel) rfl
theorem zw_838 : Cond.methodLink RL 249 yX10_touches ∈ zW := zW_in 838 (by decide +kernel) rfl
theorem zw_839 : Cond.instanceMethod yX10_touches ∈ zW := zW_in 839 (by decide +kernel) rfl
theorem zw_840 : Cond.selects RX10 yX10_touches yX10_touches ∈ zW := zW_in 840 (by decide +kernel) rfl
theorem zw_841 : Cond.code yX10_touches cX10_touches 1 (some .int) ∈ zW := zW_in 841 (by decide +kernel) rfl
theorem zw_845 : Cond.methodLink RL 252 yL_takeOut ∈ zW := zW_in 845 (by decide +kernel) rfl
theorem zw_846 : Cond.static yL_takeOut ∈ zW := zW_in 846 (by decide +kernel) rfl
theorem zw_847 : Cond.codeWith yL_takeOut cL_takeOut 4 (some .int) [(0, 6, 9, 25), (0, 6, 14, 16)] ∈ zW := zW_in 847 (by decide +kernel) rfl
theorem zw_848 : Cond.methodLink RL 82 yX10_takeOut ∈ zW := zW_in 848 (by decide +kernel) rfl
theorem zw_849 : Cond.instanceMethod yX10_takeOut ∈ zW := zW_in 849 (by decide +kernel) rfl
theorem zw_850 : Cond.selects RX10 yX10_takeOut yX10_takeOut ∈ zW := zW_in 850 (by decide +kernel) rfl
theorem zw_851 : Cond.code yX10_takeOut cX10_takeOut 3 (some .int) ∈ zW := zW_in 851 (by decide +kernel) rfl
theorem zw_857 : Cond.methodLink RL 254 yL_bringIn ∈ zW := zW_in 857 (by decide +kernel) rfl
theorem zw_858 : Cond.static yL_bringIn ∈ zW := zW_in 858 (by decide +kernel) rfl
theorem zw_859 : Cond.codeWith yL_bringIn cL_bringIn 4 (some .int) [(0, 6, 9, 25), (0, 6, 14, 16)] ∈ zW := zW_in 859 (by decide +kernel) rfl
theorem zw_860 : Cond.methodLink RL 85 yX10_bringIn ∈ zW := zW_in 860 (by decide +kernel) rfl
theorem zw_861 : Cond.instanceMethod yX10_bringIn ∈ zW := zW_in 861 (by decide +kernel) rfl
theorem zw_862 : Cond.selects RX10 yX10_bringIn yX10_bringIn ∈ zW := zW_in 862 (by decide +kernel) rfl
theorem zw_863 : Cond.code yX10_bringIn cX10_bringIn 3 (some .boolean) ∈ zW := zW_in 863 (by decide +kernel) rfl
theorem zw_866 : Cond.methodLink RL 256 yL_mend ∈ zW := zW_in 866 (by decide +kernel) rfl
theorem zw_867 : Cond.static yL_mend ∈ zW := zW_in 867 (by decide +kernel) rfl
theorem zw_868 : Cond.codeWith yL_mend cL_mend 5 (some .int) [(0, 7, 10, 25), (0, 7, 16, 14), (0, 7, 22, 16)] ∈ zW := zW_in 868 (by decide +kernel) rfl
theorem zw_869 : Cond.methodLink RL 88 yX10_mend ∈ zW := zW_in 869 (by decide +kernel) rfl
theorem zw_870 : Cond.instanceMethod yX10_mend ∈ zW := zW_in 870 (by decide +kernel) rfl
theorem zw_871 : Cond.selects RX10 yX10_mend yX10_mend ∈ zW := zW_in 871 (by decide +kernel) rfl
theorem zw_872 : Cond.code yX10_mend cX10_mend 4 (some .int) ∈ zW := zW_in 872 (by decide +kernel) rfl
theorem zw_877 : Cond.methodLink RL 258 yL_setBand ∈ zW := zW_in 877 (by decide +kernel) rfl
theorem zw_878 : Cond.static yL_setBand ∈ zW := zW_in 878 (by decide +kernel) rfl
theorem zw_879 : Cond.codeWith yL_setBand cL_setBand 5 (some .int) [(0, 7, 10, 25), (0, 7, 16, 14)] ∈ zW := zW_in 879 (by decide +kernel) rfl
theorem zw_880 : Cond.methodLink RL 97 yX10_setBand ∈ zW := zW_in 880 (by decide +kernel) rfl
theorem zw_881 : Cond.instanceMethod yX10_setBand ∈ zW := zW_in 881 (by decide +kernel) rfl
theorem zw_882 : Cond.selects RX10 yX10_setBand yX10_setBand ∈ zW := zW_in 882 (by decide +kernel) rfl
theorem zw_883 : Cond.code yX10_setBand cX10_setBand 4 (some .int) ∈ zW := zW_in 883 (by decide +kernel) rfl
theorem zw_884 : Cond.methodLink RL 260 yL_plan ∈ zW := zW_in 884 (by decide +kernel) rfl
theorem zw_885 : Cond.static yL_plan ∈ zW := zW_in 885 (by decide +kernel) rfl
theorem zw_886 : Cond.codeWith yL_plan cL_plan 5 (some .int) [(0, 7, 10, 25), (0, 7, 16, 14), (0, 7, 22, 16)] ∈ zW := zW_in 886 (by decide +kernel) rfl
theorem zw_887 : Cond.methodLink RL 100 yX10_plan ∈ zW := zW_in 887 (by decide +kernel) rfl
theorem zw_888 : Cond.instanceMethod yX10_plan ∈ zW := zW_in 888 (by decide +kernel) rfl
theorem zw_889 : Cond.selects RX10 yX10_plan yX10_plan ∈ zW := zW_in 889 (by decide +kernel) rfl
theorem zw_890 : Cond.code yX10_plan cX10_plan 5 (some .int) ∈ zW := zW_in 890 (by decide +kernel) rfl
theorem zw_909 : Cond.methodLink RL 209 yL_planAt ∈ zW := zW_in 909 (by decide +kernel) rfl
theorem zw_910 : Cond.static yL_planAt ∈ zW := zW_in 910 (by decide +kernel) rfl
theorem zw_911 : Cond.code yL_planAt cL_planAt 4 (some .int) ∈ zW := zW_in 911 (by decide +kernel) rfl
theorem zw_912 : Cond.methodLink RL 262 yL_pass ∈ zW := zW_in 912 (by decide +kernel) rfl
theorem zw_913 : Cond.static yL_pass ∈ zW := zW_in 913 (by decide +kernel) rfl
theorem zw_914 : Cond.codeWith yL_pass cL_pass 3 (some .int) [(0, 5, 8, 16)] ∈ zW := zW_in 914 (by decide +kernel) rfl
theorem zw_915 : Cond.methodLink RL 112 yX10_pass ∈ zW := zW_in 915 (by decide +kernel) rfl
theorem zw_916 : Cond.instanceMethod yX10_pass ∈ zW := zW_in 916 (by decide +kernel) rfl
theorem zw_917 : Cond.selects RX10 yX10_pass yX10_pass ∈ zW := zW_in 917 (by decide +kernel) rfl
theorem zw_918 : Cond.code yX10_pass cX10_pass 1 (some .int) ∈ zW := zW_in 918 (by decide +kernel) rfl
theorem zw_941 : Cond.methodLink RL 264 yL_band ∈ zW := zW_in 941 (by decide +kernel) rfl
theorem zw_942 : Cond.static yL_band ∈ zW := zW_in 942 (by decide +kernel) rfl
theorem zw_943 : Cond.code yL_band cL_band 12 (some .int) ∈ zW := zW_in 943 (by decide +kernel) rfl
theorem zw_947 : Cond.methodLink RL 268 yL_ring ∈ zW := zW_in 947 (by decide +kernel) rfl
theorem zw_948 : Cond.static yL_ring ∈ zW := zW_in 948 (by decide +kernel) rfl
theorem zw_949 : Cond.codeWith yL_ring cL_ring 6 (some .int) [(0, 9, 12, 25), (0, 9, 18, 14), (0, 9, 24, 16)] ∈ zW := zW_in 949 (by decide +kernel) rfl
theorem zw_950 : Cond.methodLink RL 115 yX10_ring ∈ zW := zW_in 950 (by decide +kernel) rfl
theorem zw_951 : Cond.instanceMethod yX10_ring ∈ zW := zW_in 951 (by decide +kernel) rfl
theorem zw_952 : Cond.selects RX10 yX10_ring yX10_ring ∈ zW := zW_in 952 (by decide +kernel) rfl
theorem zw_953 : Cond.code yX10_ring cX10_ring 6 (some .int) ∈ zW := zW_in 953 (by decide +kernel) rfl
theorem zw_1058 : Cond.methodLink RL 270 yL_stand ∈ zW := zW_in 1058 (by decide +kernel) rfl
theorem zw_1059 : Cond.static yL_stand ∈ zW := zW_in 1059 (by decide +kernel) rfl
theorem zw_1060 : Cond.codeWith yL_stand cL_stand 3 (some .int) [(0, 5, 8, 16)] ∈ zW := zW_in 1060 (by decide +kernel) rfl
theorem zw_1061 : Cond.methodLink RL 118 yX10_stand ∈ zW := zW_in 1061 (by decide +kernel) rfl
theorem zw_1062 : Cond.instanceMethod yX10_stand ∈ zW := zW_in 1062 (by decide +kernel) rfl
theorem zw_1063 : Cond.selects RX10 yX10_stand yX10_stand ∈ zW := zW_in 1063 (by decide +kernel) rfl
theorem zw_1064 : Cond.code yX10_stand cX10_stand 2 (some .int) ∈ zW := zW_in 1064 (by decide +kernel) rfl
theorem zw_1066 : Cond.methodLink RL 272 yL_goOn ∈ zW := zW_in 1066 (by decide +kernel) rfl
theorem zw_1067 : Cond.static yL_goOn ∈ zW := zW_in 1067 (by decide +kernel) rfl
theorem zw_1068 : Cond.code yL_goOn cL_goOn 17 (some .int) ∈ zW := zW_in 1068 (by decide +kernel) rfl
theorem zw_1069 : Cond.methodLink RL 198 yL_isPulled ∈ zW := zW_in 1069 (by decide +kernel) rfl
theorem zw_1070 : Cond.static yL_isPulled ∈ zW := zW_in 1070 (by decide +kernel) rfl
theorem zw_1071 : Cond.code yL_isPulled cL_isPulled 3 (some .boolean) ∈ zW := zW_in 1071 (by decide +kernel) rfl
theorem zw_1072 : Cond.methodLink RL 144 yL_bell ∈ zW := zW_in 1072 (by decide +kernel) rfl
theorem zw_1073 : Cond.static yL_bell ∈ zW := zW_in 1073 (by decide +kernel) rfl
theorem zw_1074 : Cond.code yL_bell cL_bell 4 (some .int) ∈ zW := zW_in 1074 (by decide +kernel) rfl
theorem zw_1075 : Cond.methodLink RL 201 yL_when ∈ zW := zW_in 1075 (by decide +kernel) rfl
theorem zw_1076 : Cond.static yL_when ∈ zW := zW_in 1076 (by decide +kernel) rfl
theorem zw_1077 : Cond.code yL_when cL_when 3 (some .int) ∈ zW := zW_in 1077 (by decide +kernel) rfl
theorem zw_1078 : Cond.constantLong RL 196 4294967295 ∈ zW := zW_in 1078 (by decide +kernel) rfl
theorem zw_1079 : Cond.methodLink RL 205 yL_look ∈ zW := zW_in 1079 (by decide +kernel) rfl
theorem zw_1080 : Cond.static yL_look ∈ zW := zW_in 1080 (by decide +kernel) rfl
theorem zw_1081 : Cond.code yL_look cL_look 8 none ∈ zW := zW_in 1081 (by decide +kernel) rfl
theorem zw_1082 : Cond.methodLink RL 276 yL_setPatience ∈ zW := zW_in 1082 (by decide +kernel) rfl
theorem zw_1083 : Cond.static yL_setPatience ∈ zW := zW_in 1083 (by decide +kernel) rfl
theorem zw_1084 : Cond.codeWith yL_setPatience cL_setPatience 4 (some .int) [(0, 6, 9, 14)] ∈ zW := zW_in 1084 (by decide +kernel) rfl
theorem zw_1085 : Cond.methodLink RL 127 yX10_setPatience ∈ zW := zW_in 1085 (by decide +kernel) rfl
theorem zw_1086 : Cond.instanceMethod yX10_setPatience ∈ zW := zW_in 1086 (by decide +kernel) rfl
theorem zw_1087 : Cond.selects RX10 yX10_setPatience yX10_setPatience ∈ zW := zW_in 1087 (by decide +kernel) rfl
theorem zw_1088 : Cond.code yX10_setPatience cX10_setPatience 3 (some .int) ∈ zW := zW_in 1088 (by decide +kernel) rfl
theorem zw_1089 : Cond.methodLink RL 278 yL_pull ∈ zW := zW_in 1089 (by decide +kernel) rfl
theorem zw_1090 : Cond.static yL_pull ∈ zW := zW_in 1090 (by decide +kernel) rfl
theorem zw_1091 : Cond.codeWith yL_pull cL_pull 5 (some .int) [(0, 7, 10, 25), (0, 7, 16, 14), (0, 7, 22, 16)] ∈ zW := zW_in 1091 (by decide +kernel) rfl
theorem zw_1092 : Cond.methodLink RL 121 yX10_pull ∈ zW := zW_in 1092 (by decide +kernel) rfl
theorem zw_1093 : Cond.instanceMethod yX10_pull ∈ zW := zW_in 1093 (by decide +kernel) rfl
theorem zw_1094 : Cond.selects RX10 yX10_pull yX10_pull ∈ zW := zW_in 1094 (by decide +kernel) rfl
theorem zw_1095 : Cond.code yX10_pull cX10_pull 6 (some .int) ∈ zW := zW_in 1095 (by decide +kernel) rfl
theorem zw_1140 : Cond.constant RL 280 2000000001 ∈ zW := zW_in 1140 (by decide +kernel) rfl
theorem zw_1141 : Cond.methodLink RL 281 yL_due ∈ zW := zW_in 1141 (by decide +kernel) rfl
theorem zw_1142 : Cond.static yL_due ∈ zW := zW_in 1142 (by decide +kernel) rfl
theorem zw_1143 : Cond.codeWith yL_due cL_due 4 (some .int) [(0, 6, 9, 25), (0, 6, 14, 16)] ∈ zW := zW_in 1143 (by decide +kernel) rfl
theorem zw_1144 : Cond.methodLink RL 124 yX10_due ∈ zW := zW_in 1144 (by decide +kernel) rfl
theorem zw_1145 : Cond.instanceMethod yX10_due ∈ zW := zW_in 1145 (by decide +kernel) rfl
theorem zw_1146 : Cond.selects RX10 yX10_due yX10_due ∈ zW := zW_in 1146 (by decide +kernel) rfl
theorem zw_1147 : Cond.code yX10_due cX10_due 2 (some .int) ∈ zW := zW_in 1147 (by decide +kernel) rfl
theorem zw_1148 : Cond.methodLink RL 283 yL_place ∈ zW := zW_in 1148 (by decide +kernel) rfl
theorem zw_1149 : Cond.static yL_place ∈ zW := zW_in 1149 (by decide +kernel) rfl
theorem zw_1150 : Cond.code yL_place cL_place 2 (some .int) ∈ zW := zW_in 1150 (by decide +kernel) rfl
theorem zw_1151 : Cond.constantLong RL 286 2000000000 ∈ zW := zW_in 1151 (by decide +kernel) rfl
theorem zw_1152 : Cond.constantLong RL 288 2147483647 ∈ zW := zW_in 1152 (by decide +kernel) rfl
theorem zw_1153 : Cond.constantLong RL 290 (-2147483648) ∈ zW := zW_in 1153 (by decide +kernel) rfl
theorem zw_1157 : Cond.methodLink RL 292 yL_behind ∈ zW := zW_in 1157 (by decide +kernel) rfl
theorem zw_1158 : Cond.static yL_behind ∈ zW := zW_in 1158 (by decide +kernel) rfl
theorem zw_1159 : Cond.code yL_behind cL_behind 6 (some .int) ∈ zW := zW_in 1159 (by decide +kernel) rfl
theorem zw_1160 : Cond.methodLink RL 296 yL_head ∈ zW := zW_in 1160 (by decide +kernel) rfl
theorem zw_1161 : Cond.static yL_head ∈ zW := zW_in 1161 (by decide +kernel) rfl
theorem zw_1162 : Cond.codeWith yL_head cL_head 5 (some .int) [(0, 7, 10, 25), (0, 7, 16, 14)] ∈ zW := zW_in 1162 (by decide +kernel) rfl
theorem zw_1163 : Cond.methodLink RL 33 yX10_head ∈ zW := zW_in 1163 (by decide +kernel) rfl
theorem zw_1164 : Cond.instanceMethod yX10_head ∈ zW := zW_in 1164 (by decide +kernel) rfl
theorem zw_1165 : Cond.selects RX10 yX10_head yX10_head ∈ zW := zW_in 1165 (by decide +kernel) rfl
theorem zw_1166 : Cond.code yX10_head cX10_head 4 (some .int) ∈ zW := zW_in 1166 (by decide +kernel) rfl
theorem zw_1174 : Cond.methodLink RL 298 yL_number ∈ zW := zW_in 1174 (by decide +kernel) rfl
theorem zw_1175 : Cond.static yL_number ∈ zW := zW_in 1175 (by decide +kernel) rfl
theorem zw_1176 : Cond.code yL_number cL_number 7 (some .int) ∈ zW := zW_in 1176 (by decide +kernel) rfl
theorem zw_1177 : Cond.methodLink RL 301 yL_course ∈ zW := zW_in 1177 (by decide +kernel) rfl
theorem zw_1178 : Cond.static yL_course ∈ zW := zW_in 1178 (by decide +kernel) rfl
theorem zw_1179 : Cond.codeWith yL_course cL_course 4 (some .int) [(0, 6, 9, 25)] ∈ zW := zW_in 1179 (by decide +kernel) rfl
theorem zw_1180 : Cond.methodLink RL 37 yX10_course ∈ zW := zW_in 1180 (by decide +kernel) rfl
theorem zw_1181 : Cond.instanceMethod yX10_course ∈ zW := zW_in 1181 (by decide +kernel) rfl
theorem zw_1182 : Cond.selects RX10 yX10_course yX10_course ∈ zW := zW_in 1182 (by decide +kernel) rfl
theorem zw_1183 : Cond.code yX10_course cX10_course 2 (some .int) ∈ zW := zW_in 1183 (by decide +kernel) rfl
theorem zw_1189 : Cond.methodLink RL 303 yL_isFalse ∈ zW := zW_in 1189 (by decide +kernel) rfl
theorem zw_1190 : Cond.static yL_isFalse ∈ zW := zW_in 1190 (by decide +kernel) rfl
theorem zw_1191 : Cond.codeWith yL_isFalse cL_isFalse 5 (some .int) [(0, 7, 10, 25)] ∈ zW := zW_in 1191 (by decide +kernel) rfl
theorem zw_1192 : Cond.methodLink RL 40 yX10_isFalse ∈ zW := zW_in 1192 (by decide +kernel) rfl
theorem zw_1193 : Cond.instanceMethod yX10_isFalse ∈ zW := zW_in 1193 (by decide +kernel) rfl
theorem zw_1194 : Cond.selects RX10 yX10_isFalse yX10_isFalse ∈ zW := zW_in 1194 (by decide +kernel) rfl
theorem zw_1195 : Cond.code yX10_isFalse cX10_isFalse 4 (some .boolean) ∈ zW := zW_in 1195 (by decide +kernel) rfl
theorem zw_1200 : Cond.methodLink RL 305 yL_falseRows ∈ zW := zW_in 1200 (by decide +kernel) rfl
theorem zw_1201 : Cond.static yL_falseRows ∈ zW := zW_in 1201 (by decide +kernel) rfl
theorem zw_1202 : Cond.codeWith yL_falseRows cL_falseRows 4 (some .int) [(0, 6, 9, 25)] ∈ zW := zW_in 1202 (by decide +kernel) rfl
theorem zw_1203 : Cond.methodLink RL 44 yX10_falseRows ∈ zW := zW_in 1203 (by decide +kernel) rfl
theorem zw_1204 : Cond.instanceMethod yX10_falseRows ∈ zW := zW_in 1204 (by decide +kernel) rfl
theorem zw_1205 : Cond.selects RX10 yX10_falseRows yX10_falseRows ∈ zW := zW_in 1205 (by decide +kernel) rfl
theorem zw_1206 : Cond.code yX10_falseRows cX10_falseRows 2 (some .int) ∈ zW := zW_in 1206 (by decide +kernel) rfl
theorem zw_1207 : Cond.methodLink RL 307 yL_falseMany ∈ zW := zW_in 1207 (by decide +kernel) rfl
theorem zw_1208 : Cond.static yL_falseMany ∈ zW := zW_in 1208 (by decide +kernel) rfl
theorem zw_1209 : Cond.code yL_falseMany cL_falseMany 12 (some .int) ∈ zW := zW_in 1209 (by decide +kernel) rfl
theorem zw_1210 : Cond.methodLink RL 311 yL_leads ∈ zW := zW_in 1210 (by decide +kernel) rfl
theorem zw_1211 : Cond.static yL_leads ∈ zW := zW_in 1211 (by decide +kernel) rfl
theorem zw_1212 : Cond.codeWith yL_leads cL_leads 4 (some .int) [(0, 6, 9, 25)] ∈ zW := zW_in 1212 (by decide +kernel) rfl
theorem zw_1213 : Cond.methodLink RL 57 yX10_leads ∈ zW := zW_in 1213 (by decide +kernel) rfl
theorem zw_1214 : Cond.instanceMethod yX10_leads ∈ zW := zW_in 1214 (by decide +kernel) rfl
theorem zw_1215 : Cond.selects RX10 yX10_leads yX10_leads ∈ zW := zW_in 1215 (by decide +kernel) rfl
theorem zw_1216 : Cond.code yX10_leads cX10_leads 2 (some .int) ∈ zW := zW_in 1216 (by decide +kernel) rfl
theorem zw_1217 : Cond.methodLink RL 313 yL_rows ∈ zW := zW_in 1217 (by decide +kernel) rfl
theorem zw_1218 : Cond.static yL_rows ∈ zW := zW_in 1218 (by decide +kernel) rfl
theorem zw_1219 : Cond.codeWith yL_rows cL_rows 4 (some .int) [(0, 6, 9, 25)] ∈ zW := zW_in 1219 (by decide +kernel) rfl
theorem zw_1220 : Cond.methodLink RL 63 yX10_rows ∈ zW := zW_in 1220 (by decide +kernel) rfl
theorem zw_1221 : Cond.instanceMethod yX10_rows ∈ zW := zW_in 1221 (by decide +kernel) rfl
theorem zw_1222 : Cond.selects RX10 yX10_rows yX10_rows ∈ zW := zW_in 1222 (by decide +kernel) rfl
theorem zw_1223 : Cond.code yX10_rows cX10_rows 2 (some .int) ∈ zW := zW_in 1223 (by decide +kernel) rfl
theorem zw_1224 : Cond.methodLink RL 315 yL_leadAt ∈ zW := zW_in 1224 (by decide +kernel) rfl
theorem zw_1225 : Cond.static yL_leadAt ∈ zW := zW_in 1225 (by decide +kernel) rfl
theorem zw_1226 : Cond.codeWith yL_leadAt cL_leadAt 5 (some .int) [(0, 7, 10, 25)] ∈ zW := zW_in 1226 (by decide +kernel) rfl
theorem zw_1227 : Cond.methodLink RL 60 yX10_leadAt ∈ zW := zW_in 1227 (by decide +kernel) rfl
theorem zw_1228 : Cond.instanceMethod yX10_leadAt ∈ zW := zW_in 1228 (by decide +kernel) rfl
theorem zw_1229 : Cond.selects RX10 yX10_leadAt yX10_leadAt ∈ zW := zW_in 1229 (by decide +kernel) rfl
theorem zw_1230 : Cond.code yX10_leadAt cX10_leadAt 4 (some .int) ∈ zW := zW_in 1230 (by decide +kernel) rfl
theorem zw_1231 : Cond.methodLink RL 317 yL_rowAt ∈ zW := zW_in 1231 (by decide +kernel) rfl
theorem zw_1232 : Cond.static yL_rowAt ∈ zW := zW_in 1232 (by decide +kernel) rfl
theorem zw_1233 : Cond.codeWith yL_rowAt cL_rowAt 5 (some .int) [(0, 7, 10, 25)] ∈ zW := zW_in 1233 (by decide +kernel) rfl
theorem zw_1234 : Cond.methodLink RL 66 yX10_rowAt ∈ zW := zW_in 1234 (by decide +kernel) rfl
theorem zw_1235 : Cond.instanceMethod yX10_rowAt ∈ zW := zW_in 1235 (by decide +kernel) rfl
theorem zw_1236 : Cond.selects RX10 yX10_rowAt yX10_rowAt ∈ zW := zW_in 1236 (by decide +kernel) rfl
theorem zw_1237 : Cond.code yX10_rowAt cX10_rowAt 4 (some .int) ∈ zW := zW_in 1237 (by decide +kernel) rfl
theorem zw_1238 : Cond.methodLink RL 319 yL_bellAt ∈ zW := zW_in 1238 (by decide +kernel) rfl
theorem zw_1239 : Cond.static yL_bellAt ∈ zW := zW_in 1239 (by decide +kernel) rfl
theorem zw_1240 : Cond.codeWith yL_bellAt cL_bellAt 6 (some .int) [(0, 9, 12, 25)] ∈ zW := zW_in 1240 (by decide +kernel) rfl
theorem zw_1241 : Cond.methodLink RL 69 yX10_bellAt ∈ zW := zW_in 1241 (by decide +kernel) rfl
theorem zw_1242 : Cond.instanceMethod yX10_bellAt ∈ zW := zW_in 1242 (by decide +kernel) rfl
theorem zw_1243 : Cond.selects RX10 yX10_bellAt yX10_bellAt ∈ zW := zW_in 1243 (by decide +kernel) rfl
theorem zw_1244 : Cond.code yX10_bellAt cX10_bellAt 5 (some .int) ∈ zW := zW_in 1244 (by decide +kernel) rfl
theorem zw_1250 : Cond.methodLink RL 321 yL_isTrue ∈ zW := zW_in 1250 (by decide +kernel) rfl
theorem zw_1251 : Cond.static yL_isTrue ∈ zW := zW_in 1251 (by decide +kernel) rfl
theorem zw_1252 : Cond.codeWith yL_isTrue cL_isTrue 4 (some .int) [(0, 6, 9, 25)] ∈ zW := zW_in 1252 (by decide +kernel) rfl
theorem zw_1253 : Cond.methodLink RL 72 yX10_isTrue ∈ zW := zW_in 1253 (by decide +kernel) rfl
theorem zw_1254 : Cond.instanceMethod yX10_isTrue ∈ zW := zW_in 1254 (by decide +kernel) rfl
theorem zw_1255 : Cond.selects RX10 yX10_isTrue yX10_isTrue ∈ zW := zW_in 1255 (by decide +kernel) rfl
theorem zw_1256 : Cond.code yX10_isTrue cX10_isTrue 2 (some .boolean) ∈ zW := zW_in 1256 (by decide +kernel) rfl
theorem zw_1257 : Cond.methodLink RL 323 yL_firstRepeat ∈ zW := zW_in 1257 (by decide +kernel) rfl
theorem zw_1258 : Cond.static yL_firstRepeat ∈ zW := zW_in 1258 (by decide +kernel) rfl
theorem zw_1259 : Cond.codeWith yL_firstRepeat cL_firstRepeat 4 (some .int) [(0, 6, 9, 25)] ∈ zW := zW_in 1259 (by decide +kernel) rfl
theorem zw_1260 : Cond.methodLink RL 79 yX10_firstRepeat ∈ zW := zW_in 1260 (by decide +kernel) rfl
theorem zw_1261 : Cond.instanceMethod yX10_firstRepeat ∈ zW := zW_in 1261 (by decide +kernel) rfl
theorem zw_1262 : Cond.selects RX10 yX10_firstRepeat yX10_firstRepeat ∈ zW := zW_in 1262 (by decide +kernel) rfl
theorem zw_1263 : Cond.code yX10_firstRepeat cX10_firstRepeat 2 (some .int) ∈ zW := zW_in 1263 (by decide +kernel) rfl
theorem zw_1264 : Cond.methodLink RL 325 yL_comesRound ∈ zW := zW_in 1264 (by decide +kernel) rfl
theorem zw_1265 : Cond.static yL_comesRound ∈ zW := zW_in 1265 (by decide +kernel) rfl
theorem zw_1266 : Cond.codeWith yL_comesRound cL_comesRound 4 (some .int) [(0, 6, 9, 25)] ∈ zW := zW_in 1266 (by decide +kernel) rfl
theorem zw_1267 : Cond.methodLink RL 76 yX10_comesRound ∈ zW := zW_in 1267 (by decide +kernel) rfl
theorem zw_1268 : Cond.instanceMethod yX10_comesRound ∈ zW := zW_in 1268 (by decide +kernel) rfl
theorem zw_1269 : Cond.selects RX10 yX10_comesRound yX10_comesRound ∈ zW := zW_in 1269 (by decide +kernel) rfl
theorem zw_1270 : Cond.code yX10_comesRound cX10_comesRound 2 (some .boolean) ∈ zW := zW_in 1270 (by decide +kernel) rfl
theorem zw_1271 : Cond.methodLink RL 327 yL_wear ∈ zW := zW_in 1271 (by decide +kernel) rfl
theorem zw_1272 : Cond.static yL_wear ∈ zW := zW_in 1272 (by decide +kernel) rfl
theorem zw_1273 : Cond.codeWith yL_wear cL_wear 5 (some .int) [(0, 7, 10, 25), (0, 7, 16, 14)] ∈ zW := zW_in 1273 (by decide +kernel) rfl
theorem zw_1274 : Cond.methodLink RL 91 yX10_wear ∈ zW := zW_in 1274 (by decide +kernel) rfl
theorem zw_1275 : Cond.instanceMethod yX10_wear ∈ zW := zW_in 1275 (by decide +kernel) rfl
theorem zw_1276 : Cond.selects RX10 yX10_wear yX10_wear ∈ zW := zW_in 1276 (by decide +kernel) rfl
theorem zw_1277 : Cond.code yX10_wear cX10_wear 4 (some .int) ∈ zW := zW_in 1277 (by decide +kernel) rfl
theorem zw_1278 : Cond.methodLink RL 329 yL_isIn ∈ zW := zW_in 1278 (by decide +kernel) rfl
theorem zw_1279 : Cond.static yL_isIn ∈ zW := zW_in 1279 (by decide +kernel) rfl
theorem zw_1280 : Cond.codeWith yL_isIn cL_isIn 4 (some .int) [(0, 6, 9, 25)] ∈ zW := zW_in 1280 (by decide +kernel) rfl
theorem zw_1281 : Cond.methodLink RL 94 yX10_isIn ∈ zW := zW_in 1281 (by decide +kernel) rfl
theorem zw_1282 : Cond.instanceMethod yX10_isIn ∈ zW := zW_in 1282 (by decide +kernel) rfl
theorem zw_1283 : Cond.selects RX10 yX10_isIn yX10_isIn ∈ zW := zW_in 1283 (by decide +kernel) rfl
theorem zw_1284 : Cond.code yX10_isIn cX10_isIn 2 (some .boolean) ∈ zW := zW_in 1284 (by decide +kernel) rfl
theorem zw_1285 : Cond.methodLink RL 331 yL_late ∈ zW := zW_in 1285 (by decide +kernel) rfl
theorem zw_1286 : Cond.static yL_late ∈ zW := zW_in 1286 (by decide +kernel) rfl
theorem zw_1287 : Cond.codeWith yL_late cL_late 4 (some .int) [(0, 6, 9, 25)] ∈ zW := zW_in 1287 (by decide +kernel) rfl
theorem zw_1288 : Cond.methodLink RL 130 yX10_late ∈ zW := zW_in 1288 (by decide +kernel) rfl
theorem zw_1289 : Cond.instanceMethod yX10_late ∈ zW := zW_in 1289 (by decide +kernel) rfl
theorem zw_1290 : Cond.selects RX10 yX10_late yX10_late ∈ zW := zW_in 1290 (by decide +kernel) rfl
theorem zw_1291 : Cond.code yX10_late cX10_late 2 (some .int) ∈ zW := zW_in 1291 (by decide +kernel) rfl
theorem zw_1292 : Cond.methodLink RL 333 yL_early ∈ zW := zW_in 1292 (by decide +kernel) rfl
theorem zw_1293 : Cond.static yL_early ∈ zW := zW_in 1293 (by decide +kernel) rfl
theorem zw_1294 : Cond.codeWith yL_early cL_early 4 (some .int) [(0, 6, 9, 25)] ∈ zW := zW_in 1294 (by decide +kernel) rfl
theorem zw_1295 : Cond.methodLink RL 133 yX10_early ∈ zW := zW_in 1295 (by decide +kernel) rfl
theorem zw_1296 : Cond.instanceMethod yX10_early ∈ zW := zW_in 1296 (by decide +kernel) rfl
theorem zw_1297 : Cond.selects RX10 yX10_early yX10_early ∈ zW := zW_in 1297 (by decide +kernel) rfl
theorem zw_1298 : Cond.code yX10_early cX10_early 2 (some .int) ∈ zW := zW_in 1298 (by decide +kernel) rfl
theorem zw_1299 : Cond.methodLink RL 335 yL_errors ∈ zW := zW_in 1299 (by decide +kernel) rfl
theorem zw_1300 : Cond.static yL_errors ∈ zW := zW_in 1300 (by decide +kernel) rfl
theorem zw_1301 : Cond.codeWith yL_errors cL_errors 4 (some .int) [(0, 6, 9, 25)] ∈ zW := zW_in 1301 (by decide +kernel) rfl
theorem zw_1302 : Cond.methodLink RL 136 yX10_errors ∈ zW := zW_in 1302 (by decide +kernel) rfl
theorem zw_1303 : Cond.instanceMethod yX10_errors ∈ zW := zW_in 1303 (by decide +kernel) rfl
theorem zw_1304 : Cond.selects RX10 yX10_errors yX10_errors ∈ zW := zW_in 1304 (by decide +kernel) rfl
theorem zw_1305 : Cond.code yX10_errors cX10_errors 2 (some .int) ∈ zW := zW_in 1305 (by decide +kernel) rfl
theorem zw_1306 : Cond.methodLink RL 337 yL_planned ∈ zW := zW_in 1306 (by decide +kernel) rfl
theorem zw_1307 : Cond.static yL_planned ∈ zW := zW_in 1307 (by decide +kernel) rfl
theorem zw_1308 : Cond.codeWith yL_planned cL_planned 4 (some .int) [(0, 6, 9, 14)] ∈ zW := zW_in 1308 (by decide +kernel) rfl
theorem zw_1309 : Cond.methodLink RL 103 yX10_planned ∈ zW := zW_in 1309 (by decide +kernel) rfl
theorem zw_1310 : Cond.instanceMethod yX10_planned ∈ zW := zW_in 1310 (by decide +kernel) rfl
theorem zw_1311 : Cond.selects RX10 yX10_planned yX10_planned ∈ zW := zW_in 1311 (by decide +kernel) rfl
theorem zw_1312 : Cond.code yX10_planned cX10_planned 2 (some .int) ∈ zW := zW_in 1312 (by decide +kernel) rfl
theorem zw_1313 : Cond.methodLink RL 339 yL_rota ∈ zW := zW_in 1313 (by decide +kernel) rfl
theorem zw_1314 : Cond.static yL_rota ∈ zW := zW_in 1314 (by decide +kernel) rfl
theorem zw_1315 : Cond.codeWith yL_rota cL_rota 4 (some .int) [(0, 6, 9, 14)] ∈ zW := zW_in 1315 (by decide +kernel) rfl
theorem zw_1316 : Cond.methodLink RL 109 yX10_rota ∈ zW := zW_in 1316 (by decide +kernel) rfl
theorem zw_1317 : Cond.instanceMethod yX10_rota ∈ zW := zW_in 1317 (by decide +kernel) rfl
theorem zw_1318 : Cond.selects RX10 yX10_rota yX10_rota ∈ zW := zW_in 1318 (by decide +kernel) rfl
theorem zw_1319 : Cond.code yX10_rota cX10_rota 2 (some .int) ∈ zW := zW_in 1319 (by decide +kernel) rfl
theorem zw_1321 : Cond.methodLink RL 341 yL_plannedAt ∈ zW := zW_in 1321 (by decide +kernel) rfl
theorem zw_1322 : Cond.static yL_plannedAt ∈ zW := zW_in 1322 (by decide +kernel) rfl
theorem zw_1323 : Cond.codeWith yL_plannedAt cL_plannedAt 5 (some .int) [(0, 7, 10, 14), (0, 7, 16, 25)] ∈ zW := zW_in 1323 (by decide +kernel) rfl
theorem zw_1324 : Cond.methodLink RL 106 yX10_plannedAt ∈ zW := zW_in 1324 (by decide +kernel) rfl
theorem zw_1325 : Cond.instanceMethod yX10_plannedAt ∈ zW := zW_in 1325 (by decide +kernel) rfl
theorem zw_1326 : Cond.selects RX10 yX10_plannedAt yX10_plannedAt ∈ zW := zW_in 1326 (by decide +kernel) rfl
theorem zw_1327 : Cond.code yX10_plannedAt cX10_plannedAt 4 (some .int) ∈ zW := zW_in 1327 (by decide +kernel) rfl
theorem zw_1328 : Cond.methodLink RL 343 yX10_today ∈ zW := zW_in 1328 (by decide +kernel) rfl
theorem zw_1329 : Cond.instanceMethod yX10_today ∈ zW := zW_in 1329 (by decide +kernel) rfl
theorem zw_1330 : Cond.selects RX10 yX10_today yX10_today ∈ zW := zW_in 1330 (by decide +kernel) rfl
theorem zw_1331 : Cond.code yX10_today cX10_today 1 (some .int) ∈ zW := zW_in 1331 (by decide +kernel) rfl
theorem zw_1332 : Cond.methodLink RL 346 yX10_dropped ∈ zW := zW_in 1332 (by decide +kernel) rfl
theorem zw_1333 : Cond.instanceMethod yX10_dropped ∈ zW := zW_in 1333 (by decide +kernel) rfl
theorem zw_1334 : Cond.selects RX10 yX10_dropped yX10_dropped ∈ zW := zW_in 1334 (by decide +kernel) rfl
theorem zw_1335 : Cond.code yX10_dropped cX10_dropped 1 (some .int) ∈ zW := zW_in 1335 (by decide +kernel) rfl
theorem zw_1336 : Cond.methodLink RL 349 yX10_isRinging ∈ zW := zW_in 1336 (by decide +kernel) rfl
theorem zw_1337 : Cond.instanceMethod yX10_isRinging ∈ zW := zW_in 1337 (by decide +kernel) rfl
theorem zw_1338 : Cond.selects RX10 yX10_isRinging yX10_isRinging ∈ zW := zW_in 1338 (by decide +kernel) rfl
theorem zw_1339 : Cond.code yX10_isRinging cX10_isRinging 1 (some .boolean) ∈ zW := zW_in 1339 (by decide +kernel) rfl
theorem zw_1340 : Cond.methodLink RL 353 yX10_done ∈ zW := zW_in 1340 (by decide +kernel) rfl
theorem zw_1341 : Cond.instanceMethod yX10_done ∈ zW := zW_in 1341 (by decide +kernel) rfl
theorem zw_1342 : Cond.selects RX10 yX10_done yX10_done ∈ zW := zW_in 1342 (by decide +kernel) rfl
theorem zw_1343 : Cond.code yX10_done cX10_done 1 (some .int) ∈ zW := zW_in 1343 (by decide +kernel) rfl
theorem zw_1344 : Cond.methodLink RL 356 yX10_delay ∈ zW := zW_in 1344 (by decide +kernel) rfl
theorem zw_1345 : Cond.instanceMethod yX10_delay ∈ zW := zW_in 1345 (by decide +kernel) rfl
theorem zw_1346 : Cond.selects RX10 yX10_delay yX10_delay ∈ zW := zW_in 1346 (by decide +kernel) rfl
theorem zw_1347 : Cond.code yX10_delay cX10_delay 1 (some .int) ∈ zW := zW_in 1347 (by decide +kernel) rfl
theorem zw_1348 : Cond.methodLink RL 359 yX10_wrong ∈ zW := zW_in 1348 (by decide +kernel) rfl
theorem zw_1349 : Cond.instanceMethod yX10_wrong ∈ zW := zW_in 1349 (by decide +kernel) rfl
theorem zw_1350 : Cond.selects RX10 yX10_wrong yX10_wrong ∈ zW := zW_in 1350 (by decide +kernel) rfl
theorem zw_1351 : Cond.code yX10_wrong cX10_wrong 1 (some .int) ∈ zW := zW_in 1351 (by decide +kernel) rfl
theorem zw_1352 : Cond.methodLink RL 362 yX10_rung ∈ zW := zW_in 1352 (by decide +kernel) rfl
theorem zw_1353 : Cond.instanceMethod yX10_rung ∈ zW := zW_in 1353 (by decide +kernel) rfl
theorem zw_1354 : Cond.selects RX10 yX10_rung yX10_rung ∈ zW := zW_in 1354 (by decide +kernel) rfl
theorem zw_1355 : Cond.code yX10_rung cX10_rung 1 (some .int) ∈ zW := zW_in 1355 (by decide +kernel) rfl
theorem zw_1356 : Cond.methodLink RL 365 yX10_latest ∈ zW := zW_in 1356 (by decide +kernel) rfl
theorem zw_1357 : Cond.instanceMethod yX10_latest ∈ zW := zW_in 1357 (by decide +kernel) rfl
theorem zw_1358 : Cond.selects RX10 yX10_latest yX10_latest ∈ zW := zW_in 1358 (by decide +kernel) rfl
theorem zw_1359 : Cond.code yX10_latest cX10_latest 1 (some .int) ∈ zW := zW_in 1359 (by decide +kernel) rfl
theorem zw_1360 : Cond.constant RL 368 (-2147483648) ∈ zW := zW_in 1360 (by decide +kernel) rfl
theorem zw_1361 : Cond.constant RL 369 2147483647 ∈ zW := zW_in 1361 (by decide +kernel) rfl
theorem zy_L_areIn : yL_areIn.cls ≠ "java/lang/invoke/MethodHandle" ∧ yL_areIn.cls ≠ "java/lang/invoke/VarHandle" ∧ (parseMethodDescriptor yL_areIn.desc).map (fun d => d.parameters.length) = some 2 := by decide +kernel
theorem zy_L_band : yL_band.cls ≠ "java/lang/invoke/MethodHandle" ∧ yL_band.cls ≠ "java/lang/invoke/VarHandle" ∧ (parseMethodDescriptor yL_band.desc).map (fun d => d.parameters.length) = some 6 := by decide +kernel
theorem zy_L_behind : yL_behind.cls ≠ "java/lang/invoke/MethodHandle" ∧ yL_behind.cls ≠ "java/lang/invoke/VarHandle" ∧ (parseMethodDescriptor yL_behind.desc).map (fun d => d.parameters.length) = some 3 := by decide +kernel
theorem zy_L_bell : yL_bell.cls ≠ "java/lang/invoke/MethodHandle" ∧ yL_bell.cls ≠ "java/lang/invoke/VarHandle" ∧ (parseMethodDescriptor yL_bell.desc).map (fun d => d.parameters.length) = some 3 := by decide +kernel
theorem zy_L_bellAt : yL_bellAt.cls ≠ "java/lang/invoke/MethodHandle" ∧ yL_bellAt.cls ≠ "java/lang/invoke/VarHandle" ∧ (parseMethodDescriptor yL_bellAt.desc).map (fun d => d.parameters.length) = some 4 := by decide +kernel
theorem zy_L_bringIn : yL_bringIn.cls ≠ "java/lang/invoke/MethodHandle" ∧ yL_bringIn.cls ≠ "java/lang/invoke/VarHandle" ∧ (parseMethodDescriptor yL_bringIn.desc).map (fun d => d.parameters.length) = some 2 := by decide +kernel
theorem zy_L_change : yL_change.cls ≠ "java/lang/invoke/MethodHandle" ∧ yL_change.cls ≠ "java/lang/invoke/VarHandle" ∧ (parseMethodDescriptor yL_change.desc).map (fun d => d.parameters.length) = some 2 := by decide +kernel
theorem zy_L_changeAt : yL_changeAt.cls ≠ "java/lang/invoke/MethodHandle" ∧ yL_changeAt.cls ≠ "java/lang/invoke/VarHandle" ∧ (parseMethodDescriptor yL_changeAt.desc).map (fun d => d.parameters.length) = some 4 := by decide +kernel
theorem zy_L_changed : yL_changed.cls ≠ "java/lang/invoke/MethodHandle" ∧ yL_changed.cls ≠ "java/lang/invoke/VarHandle" ∧ (parseMethodDescriptor yL_changed.desc).map (fun d => d.parameters.length) = some 3 := by decide +kernel
theorem zy_L_comesRound : yL_comesRound.cls ≠ "java/lang/invoke/MethodHandle" ∧ yL_comesRound.cls ≠ "java/lang/invoke/VarHandle" ∧ (parseMethodDescriptor yL_comesRound.desc).map (fun d => d.parameters.length) = some 2 := by decide +kernel
theorem zy_L_compose : yL_compose.cls ≠ "java/lang/invoke/MethodHandle" ∧ yL_compose.cls ≠ "java/lang/invoke/VarHandle" ∧ (parseMethodDescriptor yL_compose.desc).map (fun d => d.parameters.length) = some 3 := by decide +kernel
theorem zy_L_course : yL_course.cls ≠ "java/lang/invoke/MethodHandle" ∧ yL_course.cls ≠ "java/lang/invoke/VarHandle" ∧ (parseMethodDescriptor yL_course.desc).map (fun d => d.parameters.length) = some 2 := by decide +kernel
theorem zy_L_drop : yL_drop.cls ≠ "java/lang/invoke/MethodHandle" ∧ yL_drop.cls ≠ "java/lang/invoke/VarHandle" ∧ (parseMethodDescriptor yL_drop.desc).map (fun d => d.parameters.length) = some 6 := by decide +kernel
theorem zy_L_due : yL_due.cls ≠ "java/lang/invoke/MethodHandle" ∧ yL_due.cls ≠ "java/lang/invoke/VarHandle" ∧ (parseMethodDescriptor yL_due.desc).map (fun d => d.parameters.length) = some 2 := by decide +kernel
theorem zy_L_early : yL_early.cls ≠ "java/lang/invoke/MethodHandle" ∧ yL_early.cls ≠ "java/lang/invoke/VarHandle" ∧ (parseMethodDescriptor yL_early.desc).map (fun d => d.parameters.length) = some 2 := by decide +kernel
theorem zy_L_errors : yL_errors.cls ≠ "java/lang/invoke/MethodHandle" ∧ yL_errors.cls ≠ "java/lang/invoke/VarHandle" ∧ (parseMethodDescriptor yL_errors.desc).map (fun d => d.parameters.length) = some 2 := by decide +kernel
theorem zy_L_falseMany : yL_falseMany.cls ≠ "java/lang/invoke/MethodHandle" ∧ yL_falseMany.cls ≠ "java/lang/invoke/VarHandle" ∧ (parseMethodDescriptor yL_falseMany.desc).map (fun d => d.parameters.length) = some 2 := by decide +kernel
theorem zy_L_falseRows : yL_falseRows.cls ≠ "java/lang/invoke/MethodHandle" ∧ yL_falseRows.cls ≠ "java/lang/invoke/VarHandle" ∧ (parseMethodDescriptor yL_falseRows.desc).map (fun d => d.parameters.length) = some 2 := by decide +kernel
theorem zy_L_firstRepeat : yL_firstRepeat.cls ≠ "java/lang/invoke/MethodHandle" ∧ yL_firstRepeat.cls ≠ "java/lang/invoke/VarHandle" ∧ (parseMethodDescriptor yL_firstRepeat.desc).map (fun d => d.parameters.length) = some 2 := by decide +kernel
theorem zy_L_goOn : yL_goOn.cls ≠ "java/lang/invoke/MethodHandle" ∧ yL_goOn.cls ≠ "java/lang/invoke/VarHandle" ∧ (parseMethodDescriptor yL_goOn.desc).map (fun d => d.parameters.length) = some 8 := by decide +kernel
theorem zy_L_head : yL_head.cls ≠ "java/lang/invoke/MethodHandle" ∧ yL_head.cls ≠ "java/lang/invoke/VarHandle" ∧ (parseMethodDescriptor yL_head.desc).map (fun d => d.parameters.length) = some 3 := by decide +kernel
theorem zy_L_isChange : yL_isChange.cls ≠ "java/lang/invoke/MethodHandle" ∧ yL_isChange.cls ≠ "java/lang/invoke/VarHandle" ∧ (parseMethodDescriptor yL_isChange.desc).map (fun d => d.parameters.length) = some 2 := by decide +kernel
theorem zy_L_isFalse : yL_isFalse.cls ≠ "java/lang/invoke/MethodHandle" ∧ yL_isFalse.cls ≠ "java/lang/invoke/VarHandle" ∧ (parseMethodDescriptor yL_isFalse.desc).map (fun d => d.parameters.length) = some 3 := by decide +kernel
theorem zy_L_isIn : yL_isIn.cls ≠ "java/lang/invoke/MethodHandle" ∧ yL_isIn.cls ≠ "java/lang/invoke/VarHandle" ∧ (parseMethodDescriptor yL_isIn.desc).map (fun d => d.parameters.length) = some 2 := by decide +kernel
theorem zy_L_isPulled : yL_isPulled.cls ≠ "java/lang/invoke/MethodHandle" ∧ yL_isPulled.cls ≠ "java/lang/invoke/VarHandle" ∧ (parseMethodDescriptor yL_isPulled.desc).map (fun d => d.parameters.length) = some 2 := by decide +kernel
theorem zy_L_isSound : yL_isSound.cls ≠ "java/lang/invoke/MethodHandle" ∧ yL_isSound.cls ≠ "java/lang/invoke/VarHandle" ∧ (parseMethodDescriptor yL_isSound.desc).map (fun d => d.parameters.length) = some 3 := by decide +kernel
theorem zy_L_isTrue : yL_isTrue.cls ≠ "java/lang/invoke/MethodHandle" ∧ yL_isTrue.cls ≠ "java/lang/invoke/VarHandle" ∧ (parseMethodDescriptor yL_isTrue.desc).map (fun d => d.parameters.length) = some 2 := by decide +kernel
theorem zy_L_its : yL_its.cls ≠ "java/lang/invoke/MethodHandle" ∧ yL_its.cls ≠ "java/lang/invoke/VarHandle" ∧ (parseMethodDescriptor yL_its.desc).map (fun d => d.parameters.length) = some 3 := by decide +kernel
theorem zy_L_late : yL_late.cls ≠ "java/lang/invoke/MethodHandle" ∧ yL_late.cls ≠ "java/lang/invoke/VarHandle" ∧ (parseMethodDescriptor yL_late.desc).map (fun d => d.parameters.length) = some 2 := by decide +kernel
theorem zy_L_lay : yL_lay.cls ≠ "java/lang/invoke/MethodHandle" ∧ yL_lay.cls ≠ "java/lang/invoke/VarHandle" ∧ (parseMethodDescriptor yL_lay.desc).map (fun d => d.parameters.length) = some 3 := by decide +kernel
theorem zy_L_lead : yL_lead.cls ≠ "java/lang/invoke/MethodHandle" ∧ yL_lead.cls ≠ "java/lang/invoke/VarHandle" ∧ (parseMethodDescriptor yL_lead.desc).map (fun d => d.parameters.length) = some 3 := by decide +kernel
theorem zy_L_leadAt : yL_leadAt.cls ≠ "java/lang/invoke/MethodHandle" ∧ yL_leadAt.cls ≠ "java/lang/invoke/VarHandle" ∧ (parseMethodDescriptor yL_leadAt.desc).map (fun d => d.parameters.length) = some 3 := by decide +kernel
theorem zy_L_leads : yL_leads.cls ≠ "java/lang/invoke/MethodHandle" ∧ yL_leads.cls ≠ "java/lang/invoke/VarHandle" ∧ (parseMethodDescriptor yL_leads.desc).map (fun d => d.parameters.length) = some 2 := by decide +kernel
theorem zy_L_look : yL_look.cls ≠ "java/lang/invoke/MethodHandle" ∧ yL_look.cls ≠ "java/lang/invoke/VarHandle" ∧ (parseMethodDescriptor yL_look.desc).map (fun d => d.parameters.length) = some 7 := by decide +kernel
theorem zy_L_low : yL_low.cls ≠ "java/lang/invoke/MethodHandle" ∧ yL_low.cls ≠ "java/lang/invoke/VarHandle" ∧ (parseMethodDescriptor yL_low.desc).map (fun d => d.parameters.length) = some 2 := by decide +kernel
theorem zy_L_mend : yL_mend.cls ≠ "java/lang/invoke/MethodHandle" ∧ yL_mend.cls ≠ "java/lang/invoke/VarHandle" ∧ (parseMethodDescriptor yL_mend.desc).map (fun d => d.parameters.length) = some 3 := by decide +kernel
theorem zy_L_method : yL_method.cls ≠ "java/lang/invoke/MethodHandle" ∧ yL_method.cls ≠ "java/lang/invoke/VarHandle" ∧ (parseMethodDescriptor yL_method.desc).map (fun d => d.parameters.length) = some 2 := by decide +kernel
theorem zy_L_moved : yL_moved.cls ≠ "java/lang/invoke/MethodHandle" ∧ yL_moved.cls ≠ "java/lang/invoke/VarHandle" ∧ (parseMethodDescriptor yL_moved.desc).map (fun d => d.parameters.length) = some 3 := by decide +kernel
theorem zy_L_number : yL_number.cls ≠ "java/lang/invoke/MethodHandle" ∧ yL_number.cls ≠ "java/lang/invoke/VarHandle" ∧ (parseMethodDescriptor yL_number.desc).map (fun d => d.parameters.length) = some 2 := by decide +kernel
theorem zy_L_pass : yL_pass.cls ≠ "java/lang/invoke/MethodHandle" ∧ yL_pass.cls ≠ "java/lang/invoke/VarHandle" ∧ (parseMethodDescriptor yL_pass.desc).map (fun d => d.parameters.length) = some 1 := by decide +kernel
theorem zy_L_place : yL_place.cls ≠ "java/lang/invoke/MethodHandle" ∧ yL_place.cls ≠ "java/lang/invoke/VarHandle" ∧ (parseMethodDescriptor yL_place.desc).map (fun d => d.parameters.length) = some 2 := by decide +kernel
theorem zy_L_plan : yL_plan.cls ≠ "java/lang/invoke/MethodHandle" ∧ yL_plan.cls ≠ "java/lang/invoke/VarHandle" ∧ (parseMethodDescriptor yL_plan.desc).map (fun d => d.parameters.length) = some 3 := by decide +kernel
theorem zy_L_planAt : yL_planAt.cls ≠ "java/lang/invoke/MethodHandle" ∧ yL_planAt.cls ≠ "java/lang/invoke/VarHandle" ∧ (parseMethodDescriptor yL_planAt.desc).map (fun d => d.parameters.length) = some 3 := by decide +kernel
theorem zy_L_planned : yL_planned.cls ≠ "java/lang/invoke/MethodHandle" ∧ yL_planned.cls ≠ "java/lang/invoke/VarHandle" ∧ (parseMethodDescriptor yL_planned.desc).map (fun d => d.parameters.length) = some 2 := by decide +kernel
theorem zy_L_plannedAt : yL_plannedAt.cls ≠ "java/lang/invoke/MethodHandle" ∧ yL_plannedAt.cls ≠ "java/lang/invoke/VarHandle" ∧ (parseMethodDescriptor yL_plannedAt.desc).map (fun d => d.parameters.length) = some 3 := by decide +kernel
theorem zy_L_pull : yL_pull.cls ≠ "java/lang/invoke/MethodHandle" ∧ yL_pull.cls ≠ "java/lang/invoke/VarHandle" ∧ (parseMethodDescriptor yL_pull.desc).map (fun d => d.parameters.length) = some 3 := by decide +kernel
theorem zy_L_repeat : yL_repeat.cls ≠ "java/lang/invoke/MethodHandle" ∧ yL_repeat.cls ≠ "java/lang/invoke/VarHandle" ∧ (parseMethodDescriptor yL_repeat.desc).map (fun d => d.parameters.length) = some 2 := by decide +kernel
theorem zy_L_ring : yL_ring.cls ≠ "java/lang/invoke/MethodHandle" ∧ yL_ring.cls ≠ "java/lang/invoke/VarHandle" ∧ (parseMethodDescriptor yL_ring.desc).map (fun d => d.parameters.length) = some 4 := by decide +kernel
theorem zy_L_rota : yL_rota.cls ≠ "java/lang/invoke/MethodHandle" ∧ yL_rota.cls ≠ "java/lang/invoke/VarHandle" ∧ (parseMethodDescriptor yL_rota.desc).map (fun d => d.parameters.length) = some 2 := by decide +kernel
theorem zy_L_rounds : yL_rounds.cls ≠ "java/lang/invoke/MethodHandle" ∧ yL_rounds.cls ≠ "java/lang/invoke/VarHandle" ∧ (parseMethodDescriptor yL_rounds.desc).map (fun d => d.parameters.length) = some 1 := by decide +kernel
theorem zy_L_rowAt : yL_rowAt.cls ≠ "java/lang/invoke/MethodHandle" ∧ yL_rowAt.cls ≠ "java/lang/invoke/VarHandle" ∧ (parseMethodDescriptor yL_rowAt.desc).map (fun d => d.parameters.length) = some 3 := by decide +kernel
theorem zy_L_rows : yL_rows.cls ≠ "java/lang/invoke/MethodHandle" ∧ yL_rows.cls ≠ "java/lang/invoke/VarHandle" ∧ (parseMethodDescriptor yL_rows.desc).map (fun d => d.parameters.length) = some 2 := by decide +kernel
theorem zy_L_setBand : yL_setBand.cls ≠ "java/lang/invoke/MethodHandle" ∧ yL_setBand.cls ≠ "java/lang/invoke/VarHandle" ∧ (parseMethodDescriptor yL_setBand.desc).map (fun d => d.parameters.length) = some 3 := by decide +kernel
theorem zy_L_setCall : yL_setCall.cls ≠ "java/lang/invoke/MethodHandle" ∧ yL_setCall.cls ≠ "java/lang/invoke/VarHandle" ∧ (parseMethodDescriptor yL_setCall.desc).map (fun d => d.parameters.length) = some 4 := by decide +kernel
theorem zy_L_setPatience : yL_setPatience.cls ≠ "java/lang/invoke/MethodHandle" ∧ yL_setPatience.cls ≠ "java/lang/invoke/VarHandle" ∧ (parseMethodDescriptor yL_setPatience.desc).map (fun d => d.parameters.length) = some 2 := by decide +kernel
theorem zy_L_size : yL_size.cls ≠ "java/lang/invoke/MethodHandle" ∧ yL_size.cls ≠ "java/lang/invoke/VarHandle" ∧ (parseMethodDescriptor yL_size.desc).map (fun d => d.parameters.length) = some 1 := by decide +kernel
theorem zy_L_stage : yL_stage.cls ≠ "java/lang/invoke/MethodHandle" ∧ yL_stage.cls ≠ "java/lang/invoke/VarHandle" ∧ (parseMethodDescriptor yL_stage.desc).map (fun d => d.parameters.length) = some 2 := by decide +kernel
theorem zy_L_stageIn : yL_stageIn.cls ≠ "java/lang/invoke/MethodHandle" ∧ yL_stageIn.cls ≠ "java/lang/invoke/VarHandle" ∧ (parseMethodDescriptor yL_stageIn.desc).map (fun d => d.parameters.length) = some 3 := by decide +kernel
theorem zy_L_stageOf : yL_stageOf.cls ≠ "java/lang/invoke/MethodHandle" ∧ yL_stageOf.cls ≠ "java/lang/invoke/VarHandle" ∧ (parseMethodDescriptor yL_stageOf.desc).map (fun d => d.parameters.length) = some 1 := by decide +kernel
theorem zy_L_stand : yL_stand.cls ≠ "java/lang/invoke/MethodHandle" ∧ yL_stand.cls ≠ "java/lang/invoke/VarHandle" ∧ (parseMethodDescriptor yL_stand.desc).map (fun d => d.parameters.length) = some 1 := by decide +kernel
theorem zy_L_takeOut : yL_takeOut.cls ≠ "java/lang/invoke/MethodHandle" ∧ yL_takeOut.cls ≠ "java/lang/invoke/VarHandle" ∧ (parseMethodDescriptor yL_takeOut.desc).map (fun d => d.parameters.length) = some 2 := by decide +kernel
theorem zy_L_takePlan : yL_takePlan.cls ≠ "java/lang/invoke/MethodHandle" ∧ yL_takePlan.cls ≠ "java/lang/invoke/VarHandle" ∧ (parseMethodDescriptor yL_takePlan.desc).map (fun d => d.parameters.length) = some 3 := by decide +kernel
theorem zy_L_touch : yL_touch.cls ≠ "java/lang/invoke/MethodHandle" ∧ yL_touch.cls ≠ "java/lang/invoke/VarHandle" ∧ (parseMethodDescriptor yL_touch.desc).map (fun d => d.parameters.length) = some 1 := by decide +kernel
theorem zy_L_wear : yL_wear.cls ≠ "java/lang/invoke/MethodHandle" ∧ yL_wear.cls ≠ "java/lang/invoke/VarHandle" ∧ (parseMethodDescriptor yL_wear.desc).map (fun d => d.parameters.length) = some 3 := by decide +kernel
theorem zy_L_when : yL_when.cls ≠ "java/lang/invoke/MethodHandle" ∧ yL_when.cls ≠ "java/lang/invoke/VarHandle" ∧ (parseMethodDescriptor yL_when.desc).map (fun d => d.parameters.length) = some 3 := by decide +kernel
theorem zy_X10_bellAt : yX10_bellAt.cls ≠ "java/lang/invoke/MethodHandle" ∧ yX10_bellAt.cls ≠ "java/lang/invoke/VarHandle" ∧ (parseMethodDescriptor yX10_bellAt.desc).map (fun d => d.parameters.length) = some 3 := by decide +kernel
theorem zy_X10_bringIn : yX10_bringIn.cls ≠ "java/lang/invoke/MethodHandle" ∧ yX10_bringIn.cls ≠ "java/lang/invoke/VarHandle" ∧ (parseMethodDescriptor yX10_bringIn.desc).map (fun d => d.parameters.length) = some 1 := by decide +kernel
theorem zy_X10_change : yX10_change.cls ≠ "java/lang/invoke/MethodHandle" ∧ yX10_change.cls ≠ "java/lang/invoke/VarHandle" ∧ (parseMethodDescriptor yX10_change.desc).map (fun d => d.parameters.length) = some 1 := by decide +kernel
theorem zy_X10_changeAt : yX10_changeAt.cls ≠ "java/lang/invoke/MethodHandle" ∧ yX10_changeAt.cls ≠ "java/lang/invoke/VarHandle" ∧ (parseMethodDescriptor yX10_changeAt.desc).map (fun d => d.parameters.length) = some 3 := by decide +kernel
theorem zy_X10_comesRound : yX10_comesRound.cls ≠ "java/lang/invoke/MethodHandle" ∧ yX10_comesRound.cls ≠ "java/lang/invoke/VarHandle" ∧ (parseMethodDescriptor yX10_comesRound.desc).map (fun d => d.parameters.length) = some 1 := by decide +kernel
theorem zy_X10_compose : yX10_compose.cls ≠ "java/lang/invoke/MethodHandle" ∧ yX10_compose.cls ≠ "java/lang/invoke/VarHandle" ∧ (parseMethodDescriptor yX10_compose.desc).map (fun d => d.parameters.length) = some 2 := by decide +kernel
theorem zy_X10_course : yX10_course.cls ≠ "java/lang/invoke/MethodHandle" ∧ yX10_course.cls ≠ "java/lang/invoke/VarHandle" ∧ (parseMethodDescriptor yX10_course.desc).map (fun d => d.parameters.length) = some 1 := by decide +kernel
theorem zy_X10_delay : yX10_delay.cls ≠ "java/lang/invoke/MethodHandle" ∧ yX10_delay.cls ≠ "java/lang/invoke/VarHandle" ∧ (parseMethodDescriptor yX10_delay.desc).map (fun d => d.parameters.length) = some 0 := by decide +kernel
theorem zy_X10_done : yX10_done.cls ≠ "java/lang/invoke/MethodHandle" ∧ yX10_done.cls ≠ "java/lang/invoke/VarHandle" ∧ (parseMethodDescriptor yX10_done.desc).map (fun d => d.parameters.length) = some 0 := by decide +kernel
theorem zy_X10_dropChanges : yX10_dropChanges.cls ≠ "java/lang/invoke/MethodHandle" ∧ yX10_dropChanges.cls ≠ "java/lang/invoke/VarHandle" ∧ (parseMethodDescriptor yX10_dropChanges.desc).map (fun d => d.parameters.length) = some 0 := by decide +kernel
theorem zy_X10_dropLeads : yX10_dropLeads.cls ≠ "java/lang/invoke/MethodHandle" ∧ yX10_dropLeads.cls ≠ "java/lang/invoke/VarHandle" ∧ (parseMethodDescriptor yX10_dropLeads.desc).map (fun d => d.parameters.length) = some 0 := by decide +kernel
theorem zy_X10_dropped : yX10_dropped.cls ≠ "java/lang/invoke/MethodHandle" ∧ yX10_dropped.cls ≠ "java/lang/invoke/VarHandle" ∧ (parseMethodDescriptor yX10_dropped.desc).map (fun d => d.parameters.length) = some 0 := by decide +kernel
theorem zy_X10_due : yX10_due.cls ≠ "java/lang/invoke/MethodHandle" ∧ yX10_due.cls ≠ "java/lang/invoke/VarHandle" ∧ (parseMethodDescriptor yX10_due.desc).map (fun d => d.parameters.length) = some 1 := by decide +kernel
theorem zy_X10_early : yX10_early.cls ≠ "java/lang/invoke/MethodHandle" ∧ yX10_early.cls ≠ "java/lang/invoke/VarHandle" ∧ (parseMethodDescriptor yX10_early.desc).map (fun d => d.parameters.length) = some 1 := by decide +kernel
theorem zy_X10_errors : yX10_errors.cls ≠ "java/lang/invoke/MethodHandle" ∧ yX10_errors.cls ≠ "java/lang/invoke/VarHandle" ∧ (parseMethodDescriptor yX10_errors.desc).map (fun d => d.parameters.length) = some 1 := by decide +kernel
theorem zy_X10_falseRows : yX10_falseRows.cls ≠ "java/lang/invoke/MethodHandle" ∧ yX10_falseRows.cls ≠ "java/lang/invoke/VarHandle" ∧ (parseMethodDescriptor yX10_falseRows.desc).map (fun d => d.parameters.length) = some 1 := by decide +kernel
theorem zy_X10_firstRepeat : yX10_firstRepeat.cls ≠ "java/lang/invoke/MethodHandle" ∧ yX10_firstRepeat.cls ≠ "java/lang/invoke/VarHandle" ∧ (parseMethodDescriptor yX10_firstRepeat.desc).map (fun d => d.parameters.length) = some 1 := by decide +kernel
theorem zy_X10_head : yX10_head.cls ≠ "java/lang/invoke/MethodHandle" ∧ yX10_head.cls ≠ "java/lang/invoke/VarHandle" ∧ (parseMethodDescriptor yX10_head.desc).map (fun d => d.parameters.length) = some 2 := by decide +kernel
theorem zy_X10_isFalse : yX10_isFalse.cls ≠ "java/lang/invoke/MethodHandle" ∧ yX10_isFalse.cls ≠ "java/lang/invoke/VarHandle" ∧ (parseMethodDescriptor yX10_isFalse.desc).map (fun d => d.parameters.length) = some 2 := by decide +kernel
theorem zy_X10_isIn : yX10_isIn.cls ≠ "java/lang/invoke/MethodHandle" ∧ yX10_isIn.cls ≠ "java/lang/invoke/VarHandle" ∧ (parseMethodDescriptor yX10_isIn.desc).map (fun d => d.parameters.length) = some 1 := by decide +kernel
theorem zy_X10_isRinging : yX10_isRinging.cls ≠ "java/lang/invoke/MethodHandle" ∧ yX10_isRinging.cls ≠ "java/lang/invoke/VarHandle" ∧ (parseMethodDescriptor yX10_isRinging.desc).map (fun d => d.parameters.length) = some 0 := by decide +kernel
theorem zy_X10_isTrue : yX10_isTrue.cls ≠ "java/lang/invoke/MethodHandle" ∧ yX10_isTrue.cls ≠ "java/lang/invoke/VarHandle" ∧ (parseMethodDescriptor yX10_isTrue.desc).map (fun d => d.parameters.length) = some 1 := by decide +kernel
theorem zy_X10_late : yX10_late.cls ≠ "java/lang/invoke/MethodHandle" ∧ yX10_late.cls ≠ "java/lang/invoke/VarHandle" ∧ (parseMethodDescriptor yX10_late.desc).map (fun d => d.parameters.length) = some 1 := by decide +kernel
theorem zy_X10_latest : yX10_latest.cls ≠ "java/lang/invoke/MethodHandle" ∧ yX10_latest.cls ≠ "java/lang/invoke/VarHandle" ∧ (parseMethodDescriptor yX10_latest.desc).map (fun d => d.parameters.length) = some 0 := by decide +kernel
theorem zy_X10_lead : yX10_lead.cls ≠ "java/lang/invoke/MethodHandle" ∧ yX10_lead.cls ≠ "java/lang/invoke/VarHandle" ∧ (parseMethodDescriptor yX10_lead.desc).map (fun d => d.parameters.length) = some 2 := by decide +kernel
theorem zy_X10_leadAt : yX10_leadAt.cls ≠ "java/lang/invoke/MethodHandle" ∧ yX10_leadAt.cls ≠ "java/lang/invoke/VarHandle" ∧ (parseMethodDescriptor yX10_leadAt.desc).map (fun d => d.parameters.length) = some 2 := by decide +kernel
theorem zy_X10_leads : yX10_leads.cls ≠ "java/lang/invoke/MethodHandle" ∧ yX10_leads.cls ≠ "java/lang/invoke/VarHandle" ∧ (parseMethodDescriptor yX10_leads.desc).map (fun d => d.parameters.length) = some 1 := by decide +kernel
theorem zy_X10_mend : yX10_mend.cls ≠ "java/lang/invoke/MethodHandle" ∧ yX10_mend.cls ≠ "java/lang/invoke/VarHandle" ∧ (parseMethodDescriptor yX10_mend.desc).map (fun d => d.parameters.length) = some 2 := by decide +kernel
theorem zy_X10_method : yX10_method.cls ≠ "java/lang/invoke/MethodHandle" ∧ yX10_method.cls ≠ "java/lang/invoke/VarHandle" ∧ (parseMethodDescriptor yX10_method.desc).map (fun d => d.parameters.length) = some 1 := by decide +kernel
theorem zy_X10_pass : yX10_pass.cls ≠ "java/lang/invoke/MethodHandle" ∧ yX10_pass.cls ≠ "java/lang/invoke/VarHandle" ∧ (parseMethodDescriptor yX10_pass.desc).map (fun d => d.parameters.length) = some 0 := by decide +kernel
theorem zy_X10_plan : yX10_plan.cls ≠ "java/lang/invoke/MethodHandle" ∧ yX10_plan.cls ≠ "java/lang/invoke/VarHandle" ∧ (parseMethodDescriptor yX10_plan.desc).map (fun d => d.parameters.length) = some 2 := by decide +kernel
theorem zy_X10_planned : yX10_planned.cls ≠ "java/lang/invoke/MethodHandle" ∧ yX10_planned.cls ≠ "java/lang/invoke/VarHandle" ∧ (parseMethodDescriptor yX10_planned.desc).map (fun d => d.parameters.length) = some 1 := by decide +kernel
theorem zy_X10_plannedAt : yX10_plannedAt.cls ≠ "java/lang/invoke/MethodHandle" ∧ yX10_plannedAt.cls ≠ "java/lang/invoke/VarHandle" ∧ (parseMethodDescriptor yX10_plannedAt.desc).map (fun d => d.parameters.length) = some 2 := by decide +kernel
theorem zy_X10_pull : yX10_pull.cls ≠ "java/lang/invoke/MethodHandle" ∧ yX10_pull.cls ≠ "java/lang/invoke/VarHandle" ∧ (parseMethodDescriptor yX10_pull.desc).map (fun d => d.parameters.length) = some 2 := by decide +kernel
theorem zy_X10_ring : yX10_ring.cls ≠ "java/lang/invoke/MethodHandle" ∧ yX10_ring.cls ≠ "java/lang/invoke/VarHandle" ∧ (parseMethodDescriptor yX10_ring.desc).map (fun d => d.parameters.length) = some 3 := by decide +kernel
theorem zy_X10_rota : yX10_rota.cls ≠ "java/lang/invoke/MethodHandle" ∧ yX10_rota.cls ≠ "java/lang/invoke/VarHandle" ∧ (parseMethodDescriptor yX10_rota.desc).map (fun d => d.parameters.length) = some 1 := by decide +kernel
theorem zy_X10_rowAt : yX10_rowAt.cls ≠ "java/lang/invoke/MethodHandle" ∧ yX10_rowAt.cls ≠ "java/lang/invoke/VarHandle" ∧ (parseMethodDescriptor yX10_rowAt.desc).map (fun d => d.parameters.length) = some 2 := by decide +kernel
theorem zy_X10_rows : yX10_rows.cls ≠ "java/lang/invoke/MethodHandle" ∧ yX10_rows.cls ≠ "java/lang/invoke/VarHandle" ∧ (parseMethodDescriptor yX10_rows.desc).map (fun d => d.parameters.length) = some 1 := by decide +kernel
theorem zy_X10_rung : yX10_rung.cls ≠ "java/lang/invoke/MethodHandle" ∧ yX10_rung.cls ≠ "java/lang/invoke/VarHandle" ∧ (parseMethodDescriptor yX10_rung.desc).map (fun d => d.parameters.length) = some 0 := by decide +kernel
theorem zy_X10_setBand : yX10_setBand.cls ≠ "java/lang/invoke/MethodHandle" ∧ yX10_setBand.cls ≠ "java/lang/invoke/VarHandle" ∧ (parseMethodDescriptor yX10_setBand.desc).map (fun d => d.parameters.length) = some 2 := by decide +kernel
theorem zy_X10_setCall : yX10_setCall.cls ≠ "java/lang/invoke/MethodHandle" ∧ yX10_setCall.cls ≠ "java/lang/invoke/VarHandle" ∧ (parseMethodDescriptor yX10_setCall.desc).map (fun d => d.parameters.length) = some 3 := by decide +kernel
theorem zy_X10_setPatience : yX10_setPatience.cls ≠ "java/lang/invoke/MethodHandle" ∧ yX10_setPatience.cls ≠ "java/lang/invoke/VarHandle" ∧ (parseMethodDescriptor yX10_setPatience.desc).map (fun d => d.parameters.length) = some 1 := by decide +kernel
theorem zy_X10_stage : yX10_stage.cls ≠ "java/lang/invoke/MethodHandle" ∧ yX10_stage.cls ≠ "java/lang/invoke/VarHandle" ∧ (parseMethodDescriptor yX10_stage.desc).map (fun d => d.parameters.length) = some 1 := by decide +kernel
theorem zy_X10_stand : yX10_stand.cls ≠ "java/lang/invoke/MethodHandle" ∧ yX10_stand.cls ≠ "java/lang/invoke/VarHandle" ∧ (parseMethodDescriptor yX10_stand.desc).map (fun d => d.parameters.length) = some 0 := by decide +kernel
theorem zy_X10_takeOut : yX10_takeOut.cls ≠ "java/lang/invoke/MethodHandle" ∧ yX10_takeOut.cls ≠ "java/lang/invoke/VarHandle" ∧ (parseMethodDescriptor yX10_takeOut.desc).map (fun d => d.parameters.length) = some 1 := by decide +kernel
theorem zy_X10_today : yX10_today.cls ≠ "java/lang/invoke/MethodHandle" ∧ yX10_today.cls ≠ "java/lang/invoke/VarHandle" ∧ (parseMethodDescriptor yX10_today.desc).map (fun d => d.parameters.length) = some 0 := by decide +kernel
theorem zy_X10_touch : yX10_touch.cls ≠ "java/lang/invoke/MethodHandle" ∧ yX10_touch.cls ≠ "java/lang/invoke/VarHandle" ∧ (parseMethodDescriptor yX10_touch.desc).map (fun d => d.parameters.length) = some 0 := by decide +kernel
theorem zy_X10_touches : yX10_touches.cls ≠ "java/lang/invoke/MethodHandle" ∧ yX10_touches.cls ≠ "java/lang/invoke/VarHandle" ∧ (parseMethodDescriptor yX10_touches.desc).map (fun d => d.parameters.length) = some 0 := by decide +kernel
theorem zy_X10_wear : yX10_wear.cls ≠ "java/lang/invoke/MethodHandle" ∧ yX10_wear.cls ≠ "java/lang/invoke/VarHandle" ∧ (parseMethodDescriptor yX10_wear.desc).map (fun d => d.parameters.length) = some 2 := by decide +kernel
theorem zy_X10_wrong : yX10_wrong.cls ≠ "java/lang/invoke/MethodHandle" ∧ yX10_wrong.cls ≠ "java/lang/invoke/VarHandle" ∧ (parseMethodDescriptor yX10_wrong.desc).map (fun d => d.parameters.length) = some 0 := by decide +kernel
