theorem dL_methods_636 : decode cL_methods 636 = .ok (.if_icmp .ne 17, 3) := by decide +kernel
theorem dL_methods_639 : decode cL_methods 639 = .ok (.aload_n 0, 1) := by decide +kernel
theorem dL_methods_640 : decode cL_methods 640 = .ok (.iload 11, 2) := by decide +kernel
theorem dL_methods_642 : decode cL_methods 642 = .ok (.iconst 3, 1) := by decide +kernel
theorem dL_methods_643 : decode cL_methods 643 = .ok (.iconst 0, 1) := by decide +kernel
theorem dL_methods_644 : decode cL_methods 644 = .ok (.invokestatic 231, 3) := by decide +kernel
theorem dL_methods_647 : decode cL_methods 647 = .ok (.sipush (-7200), 3) := by decide +kernel
theorem dL_methods_650 : decode cL_methods 650 = .ok (.if_icmp .eq 5, 3) := by decide +kernel
theorem dL_methods_653 : decode cL_methods 653 = .ok (.iconst 0, 1) := by decide +kernel
theorem dL_methods_654 : decode cL_methods 654 = .ok (.ireturn, 1) := by decide +kernel
theorem dL_methods_655 : decode cL_methods 655 = .ok (.iload 12, 2) := by decide +kernel
theorem dL_methods_657 : decode cL_methods 657 = .ok (.iload 14, 2) := by decide +kernel
theorem dL_methods_659 : decode cL_methods 659 = .ok (.invokestatic 221, 3) := by decide +kernel
theorem dL_methods_662 : decode cL_methods 662 = .ok (.ifCond .ne 25, 3) := by decide +kernel
theorem dL_methods_665 : decode cL_methods 665 = .ok (.aload_n 0, 1) := by decide +kernel
theorem dL_methods_666 : decode cL_methods 666 = .ok (.iload 11, 2) := by decide +kernel
theorem dL_methods_668 : decode cL_methods 668 = .ok (.iload 13, 2) := by decide +kernel
theorem dL_methods_670 : decode cL_methods 670 = .ok (.iload 14, 2) := by decide +kernel
theorem dL_methods_672 : decode cL_methods 672 = .ok (.invokestatic 231, 3) := by decide +kernel
theorem dL_methods_675 : decode cL_methods 675 = .ok (.sipush (-7200), 3) := by decide +kernel
theorem dL_methods_678 : decode cL_methods 678 = .ok (.if_icmp .ne 7, 3) := by decide +kernel
theorem dL_methods_681 : decode cL_methods 681 = .ok (.iconst 1, 1) := by decide +kernel
theorem dL_methods_682 : decode cL_methods 682 = .ok (.goto 4, 3) := by decide +kernel
theorem dL_methods_685 : decode cL_methods 685 = .ok (.iconst 0, 1) := by decide +kernel
theorem dL_methods_686 : decode cL_methods 686 = .ok (.ireturn, 1) := by decide +kernel
theorem dL_methods_687 : decode cL_methods 687 = .ok (.aload 9, 2) := by decide +kernel
theorem dL_methods_689 : decode cL_methods 689 = .ok (.bipush 6, 2) := by decide +kernel
theorem dL_methods_691 : decode cL_methods 691 = .ok (.iaload, 1) := by decide +kernel
theorem dL_methods_692 : decode cL_methods 692 = .ok (.iconst 1, 1) := by decide +kernel
theorem dL_methods_693 : decode cL_methods 693 = .ok (.if_icmp .ne 25, 3) := by decide +kernel
theorem dL_methods_696 : decode cL_methods 696 = .ok (.aload_n 0, 1) := by decide +kernel
theorem dL_methods_697 : decode cL_methods 697 = .ok (.iload 11, 2) := by decide +kernel
theorem dL_methods_699 : decode cL_methods 699 = .ok (.iload 13, 2) := by decide +kernel
theorem dL_methods_701 : decode cL_methods 701 = .ok (.iload 14, 2) := by decide +kernel
theorem dL_methods_703 : decode cL_methods 703 = .ok (.invokestatic 231, 3) := by decide +kernel
theorem dL_methods_706 : decode cL_methods 706 = .ok (.sipush (-7300), 3) := by decide +kernel
theorem dL_methods_709 : decode cL_methods 709 = .ok (.if_icmp .ne 7, 3) := by decide +kernel
theorem dL_methods_712 : decode cL_methods 712 = .ok (.iconst 1, 1) := by decide +kernel
theorem dL_methods_713 : decode cL_methods 713 = .ok (.goto 4, 3) := by decide +kernel
theorem dL_methods_716 : decode cL_methods 716 = .ok (.iconst 0, 1) := by decide +kernel
theorem dL_methods_717 : decode cL_methods 717 = .ok (.ireturn, 1) := by decide +kernel
theorem dL_methods_718 : decode cL_methods 718 = .ok (.aload 4, 2) := by decide +kernel
theorem dL_methods_720 : decode cL_methods 720 = .ok (.iload 11, 2) := by decide +kernel
theorem dL_methods_722 : decode cL_methods 722 = .ok (.laload, 1) := by decide +kernel
theorem dL_methods_723 : decode cL_methods 723 = .ok (.iload 13, 2) := by decide +kernel
theorem dL_methods_725 : decode cL_methods 725 = .ok (.aload 4, 2) := by decide +kernel
theorem dL_methods_727 : decode cL_methods 727 = .ok (.iload 11, 2) := by decide +kernel
theorem dL_methods_729 : decode cL_methods 729 = .ok (.laload, 1) := by decide +kernel
theorem dL_methods_730 : decode cL_methods 730 = .ok (.invokestatic 149, 3) := by decide +kernel
theorem dL_methods_733 : decode cL_methods 733 = .ok (.iconst 1, 1) := by decide +kernel
theorem dL_methods_734 : decode cL_methods 734 = .ok (.isub, 1) := by decide +kernel
theorem dL_methods_735 : decode cL_methods 735 = .ok (.invokestatic 158, 3) := by decide +kernel
theorem dL_methods_738 : decode cL_methods 738 = .ok (.istore 15, 2) := by decide +kernel
theorem dL_methods_740 : decode cL_methods 740 = .ok (.aload 4, 2) := by decide +kernel
theorem dL_methods_742 : decode cL_methods 742 = .ok (.iload 11, 2) := by decide +kernel
theorem dL_methods_744 : decode cL_methods 744 = .ok (.aload 4, 2) := by decide +kernel
theorem dL_methods_746 : decode cL_methods 746 = .ok (.iload 11, 2) := by decide +kernel
theorem dL_methods_748 : decode cL_methods 748 = .ok (.laload, 1) := by decide +kernel
theorem dL_methods_749 : decode cL_methods 749 = .ok (.ldc2_w 153, 3) := by decide +kernel
theorem dL_methods_752 : decode cL_methods 752 = .ok (.bipush 24, 2) := by decide +kernel
theorem dL_methods_754 : decode cL_methods 754 = .ok (.bipush 6, 2) := by decide +kernel
theorem dL_methods_756 : decode cL_methods 756 = .ok (.iload 13, 2) := by decide +kernel
theorem dL_methods_758 : decode cL_methods 758 = .ok (.imul, 1) := by decide +kernel
theorem dL_methods_759 : decode cL_methods 759 = .ok (.iadd, 1) := by decide +kernel
theorem dL_methods_760 : decode cL_methods 760 = .ok (.lshl, 1) := by decide +kernel
theorem dL_methods_761 : decode cL_methods 761 = .ok (.ldc2_w 241, 3) := by decide +kernel
theorem dL_methods_764 : decode cL_methods 764 = .ok (.lxor, 1) := by decide +kernel
theorem dL_methods_765 : decode cL_methods 765 = .ok (.land, 1) := by decide +kernel
theorem dL_methods_766 : decode cL_methods 766 = .ok (.iload 14, 2) := by decide +kernel
theorem dL_methods_768 : decode cL_methods 768 = .ok (.i2l, 1) := by decide +kernel
theorem dL_methods_769 : decode cL_methods 769 = .ok (.bipush 24, 2) := by decide +kernel
theorem dL_methods_771 : decode cL_methods 771 = .ok (.bipush 6, 2) := by decide +kernel
theorem dL_methods_773 : decode cL_methods 773 = .ok (.iload 13, 2) := by decide +kernel
theorem dL_methods_775 : decode cL_methods 775 = .ok (.imul, 1) := by decide +kernel
theorem dL_methods_776 : decode cL_methods 776 = .ok (.iadd, 1) := by decide +kernel
theorem dL_methods_777 : decode cL_methods 777 = .ok (.lshl, 1) := by decide +kernel
theorem dL_methods_778 : decode cL_methods 778 = .ok (.lor, 1) := by decide +kernel
theorem dL_methods_779 : decode cL_methods 779 = .ok (.lastore, 1) := by decide +kernel
theorem dL_methods_780 : decode cL_methods 780 = .ok (.aload 4, 2) := by decide +kernel
theorem dL_methods_782 : decode cL_methods 782 = .ok (.aload 5, 2) := by decide +kernel
theorem dL_methods_784 : decode cL_methods 784 = .ok (.aload 6, 2) := by decide +kernel
theorem dL_methods_786 : decode cL_methods 786 = .ok (.aload 7, 2) := by decide +kernel
theorem dL_methods_788 : decode cL_methods 788 = .ok (.aload 8, 2) := by decide +kernel
theorem dL_methods_790 : decode cL_methods 790 = .ok (.aload 9, 2) := by decide +kernel
theorem dL_methods_792 : decode cL_methods 792 = .ok (.invokestatic 192, 3) := by decide +kernel
theorem dL_methods_795 : decode cL_methods 795 = .ok (.pop, 1) := by decide +kernel
theorem dL_methods_796 : decode cL_methods 796 = .ok (.aload_n 0, 1) := by decide +kernel
theorem dL_methods_797 : decode cL_methods 797 = .ok (.iload 11, 2) := by decide +kernel
theorem dL_methods_799 : decode cL_methods 799 = .ok (.iload 13, 2) := by decide +kernel
theorem dL_methods_801 : decode cL_methods 801 = .ok (.iload 14, 2) := by decide +kernel
theorem dL_methods_803 : decode cL_methods 803 = .ok (.invokestatic 231, 3) := by decide +kernel
theorem dL_methods_806 : decode cL_methods 806 = .ok (.iload 15, 2) := by decide +kernel
theorem dL_methods_808 : decode cL_methods 808 = .ok (.if_icmp .ne 7, 3) := by decide +kernel
theorem dL_methods_811 : decode cL_methods 811 = .ok (.iconst 1, 1) := by decide +kernel
theorem dL_methods_812 : decode cL_methods 812 = .ok (.goto 4, 3) := by decide +kernel
theorem dL_methods_815 : decode cL_methods 815 = .ok (.iconst 0, 1) := by decide +kernel
theorem dL_methods_816 : decode cL_methods 816 = .ok (.ireturn, 1) := by decide +kernel
theorem dL_methods_817 : decode cL_methods 817 = .ok (.iload_n 1, 1) := by decide +kernel
theorem dL_methods_818 : decode cL_methods 818 = .ok (.bipush 12, 2) := by decide +kernel
theorem dL_methods_820 : decode cL_methods 820 = .ok (.if_icmp .ge 165, 3) := by decide +kernel
theorem dL_methods_823 : decode cL_methods 823 = .ok (.iload_n 3, 1) := by decide +kernel
theorem dL_methods_824 : decode cL_methods 824 = .ok (.iconst 3, 1) := by decide +kernel
theorem dL_methods_825 : decode cL_methods 825 = .ok (.invokestatic 213, 3) := by decide +kernel
theorem dL_methods_828 : decode cL_methods 828 = .ok (.istore 13, 2) := by decide +kernel
theorem dL_methods_830 : decode cL_methods 830 = .ok (.aload_n 0, 1) := by decide +kernel
theorem dL_methods_831 : decode cL_methods 831 = .ok (.iload 11, 2) := by decide +kernel
theorem dL_methods_833 : decode cL_methods 833 = .ok (.iconst 3, 1) := by decide +kernel
theorem dL_methods_834 : decode cL_methods 834 = .ok (.invokestatic 234, 3) := by decide +kernel
theorem dL_methods_837 : decode cL_methods 837 = .ok (.sipush (-7200), 3) := by decide +kernel
theorem dL_methods_840 : decode cL_methods 840 = .ok (.if_icmp .ne 16, 3) := by decide +kernel
theorem dL_methods_843 : decode cL_methods 843 = .ok (.aload_n 0, 1) := by decide +kernel
theorem dL_methods_844 : decode cL_methods 844 = .ok (.iload 11, 2) := by decide +kernel
theorem dL_methods_846 : decode cL_methods 846 = .ok (.iconst (-1), 1) := by decide +kernel
theorem dL_methods_847 : decode cL_methods 847 = .ok (.invokestatic 234, 3) := by decide +kernel
theorem dL_methods_850 : decode cL_methods 850 = .ok (.sipush (-7200), 3) := by decide +kernel
theorem dL_methods_853 : decode cL_methods 853 = .ok (.if_icmp .eq 5, 3) := by decide +kernel
theorem dL_methods_856 : decode cL_methods 856 = .ok (.iconst 0, 1) := by decide +kernel
theorem dL_methods_857 : decode cL_methods 857 = .ok (.ireturn, 1) := by decide +kernel
theorem dL_methods_858 : decode cL_methods 858 = .ok (.aload 9, 2) := by decide +kernel
theorem dL_methods_860 : decode cL_methods 860 = .ok (.bipush 24, 2) := by decide +kernel
theorem dL_methods_862 : decode cL_methods 862 = .ok (.iaload, 1) := by decide +kernel
theorem dL_methods_863 : decode cL_methods 863 = .ok (.iconst 4, 1) := by decide +kernel
theorem dL_methods_864 : decode cL_methods 864 = .ok (.if_icmp .ne 21, 3) := by decide +kernel
theorem dL_methods_867 : decode cL_methods 867 = .ok (.aload_n 0, 1) := by decide +kernel
theorem dL_methods_868 : decode cL_methods 868 = .ok (.iconst (-1), 1) := by decide +kernel
theorem dL_methods_869 : decode cL_methods 869 = .ok (.iconst 0, 1) := by decide +kernel
theorem dL_methods_870 : decode cL_methods 870 = .ok (.invokestatic 234, 3) := by decide +kernel
theorem dL_methods_873 : decode cL_methods 873 = .ok (.sipush (-7100), 3) := by decide +kernel
theorem dL_methods_876 : decode cL_methods 876 = .ok (.if_icmp .ne 7, 3) := by decide +kernel
theorem dL_methods_879 : decode cL_methods 879 = .ok (.iconst 1, 1) := by decide +kernel
theorem dL_methods_880 : decode cL_methods 880 = .ok (.goto 4, 3) := by decide +kernel
theorem dL_methods_883 : decode cL_methods 883 = .ok (.iconst 0, 1) := by decide +kernel
theorem dL_methods_884 : decode cL_methods 884 = .ok (.ireturn, 1) := by decide +kernel
theorem dL_methods_885 : decode cL_methods 885 = .ok (.aload 9, 2) := by decide +kernel
theorem dL_methods_887 : decode cL_methods 887 = .ok (.bipush 24, 2) := by decide +kernel
theorem dL_methods_889 : decode cL_methods 889 = .ok (.iaload, 1) := by decide +kernel
theorem dL_methods_890 : decode cL_methods 890 = .ok (.ifCond .le 41, 3) := by decide +kernel
theorem dL_methods_893 : decode cL_methods 893 = .ok (.aload 4, 2) := by decide +kernel
theorem dL_methods_895 : decode cL_methods 895 = .ok (.aload 9, 2) := by decide +kernel
theorem dL_methods_897 : decode cL_methods 897 = .ok (.bipush 25, 2) := by decide +kernel
theorem dL_methods_899 : decode cL_methods 899 = .ok (.iaload, 1) := by decide +kernel
theorem dL_methods_900 : decode cL_methods 900 = .ok (.iconst 3, 1) := by decide +kernel
theorem dL_methods_901 : decode cL_methods 901 = .ok (.iand, 1) := by decide +kernel
theorem dL_methods_902 : decode cL_methods 902 = .ok (.laload, 1) := by decide +kernel
theorem dL_methods_903 : decode cL_methods 903 = .ok (.invokestatic 155, 3) := by decide +kernel
theorem dL_methods_906 : decode cL_methods 906 = .ok (.iload 12, 2) := by decide +kernel
theorem dL_methods_908 : decode cL_methods 908 = .ok (.if_icmp .eq 23, 3) := by decide +kernel
theorem dL_methods_911 : decode cL_methods 911 = .ok (.aload_n 0, 1) := by decide +kernel
theorem dL_methods_912 : decode cL_methods 912 = .ok (.iload 11, 2) := by decide +kernel
theorem dL_methods_914 : decode cL_methods 914 = .ok (.iload 13, 2) := by decide +kernel
theorem dL_methods_916 : decode cL_methods 916 = .ok (.invokestatic 234, 3) := by decide +kernel
theorem dL_methods_919 : decode cL_methods 919 = .ok (.sipush (-7300), 3) := by decide +kernel
theorem dL_methods_922 : decode cL_methods 922 = .ok (.if_icmp .ne 7, 3) := by decide +kernel
theorem dL_methods_925 : decode cL_methods 925 = .ok (.iconst 1, 1) := by decide +kernel
theorem dL_methods_926 : decode cL_methods 926 = .ok (.goto 4, 3) := by decide +kernel
theorem dL_methods_929 : decode cL_methods 929 = .ok (.iconst 0, 1) := by decide +kernel
theorem dL_methods_930 : decode cL_methods 930 = .ok (.ireturn, 1) := by decide +kernel
theorem dL_methods_931 : decode cL_methods 931 = .ok (.aload 9, 2) := by decide +kernel
theorem dL_methods_933 : decode cL_methods 933 = .ok (.bipush 25, 2) := by decide +kernel
theorem dL_methods_935 : decode cL_methods 935 = .ok (.dup2, 1) := by decide +kernel
theorem dL_methods_936 : decode cL_methods 936 = .ok (.iaload, 1) := by decide +kernel
theorem dL_methods_937 : decode cL_methods 937 = .ok (.iload 11, 2) := by decide +kernel
theorem dL_methods_939 : decode cL_methods 939 = .ok (.iconst 4, 1) := by decide +kernel
theorem dL_methods_940 : decode cL_methods 940 = .ok (.iload 13, 2) := by decide +kernel
theorem dL_methods_942 : decode cL_methods 942 = .ok (.imul, 1) := by decide +kernel
theorem dL_methods_943 : decode cL_methods 943 = .ok (.iadd, 1) := by decide +kernel
theorem dL_methods_944 : decode cL_methods 944 = .ok (.iconst 4, 1) := by decide +kernel
theorem dL_methods_945 : decode cL_methods 945 = .ok (.aload 9, 2) := by decide +kernel
theorem dL_methods_947 : decode cL_methods 947 = .ok (.bipush 24, 2) := by decide +kernel
theorem dL_methods_949 : decode cL_methods 949 = .ok (.iaload, 1) := by decide +kernel
theorem dL_methods_950 : decode cL_methods 950 = .ok (.imul, 1) := by decide +kernel
theorem dL_methods_951 : decode cL_methods 951 = .ok (.ishl, 1) := by decide +kernel
theorem dL_methods_952 : decode cL_methods 952 = .ok (.ior, 1) := by decide +kernel
theorem dL_methods_953 : decode cL_methods 953 = .ok (.iastore, 1) := by decide +kernel
theorem dL_methods_954 : decode cL_methods 954 = .ok (.aload 9, 2) := by decide +kernel
theorem dL_methods_956 : decode cL_methods 956 = .ok (.bipush 24, 2) := by decide +kernel
theorem dL_methods_958 : decode cL_methods 958 = .ok (.dup2, 1) := by decide +kernel
theorem dL_methods_959 : decode cL_methods 959 = .ok (.iaload, 1) := by decide +kernel
theorem dL_methods_960 : decode cL_methods 960 = .ok (.iconst 1, 1) := by decide +kernel
theorem dL_methods_961 : decode cL_methods 961 = .ok (.iadd, 1) := by decide +kernel
theorem dL_methods_962 : decode cL_methods 962 = .ok (.iastore, 1) := by decide +kernel
theorem dL_methods_963 : decode cL_methods 963 = .ok (.aload_n 0, 1) := by decide +kernel
theorem dL_methods_964 : decode cL_methods 964 = .ok (.iload 11, 2) := by decide +kernel
theorem dL_methods_966 : decode cL_methods 966 = .ok (.iload 13, 2) := by decide +kernel
theorem dL_methods_968 : decode cL_methods 968 = .ok (.invokestatic 234, 3) := by decide +kernel
theorem dL_methods_971 : decode cL_methods 971 = .ok (.aload 9, 2) := by decide +kernel
theorem dL_methods_973 : decode cL_methods 973 = .ok (.bipush 24, 2) := by decide +kernel
theorem dL_methods_975 : decode cL_methods 975 = .ok (.iaload, 1) := by decide +kernel
theorem dL_methods_976 : decode cL_methods 976 = .ok (.if_icmp .ne 7, 3) := by decide +kernel
theorem dL_methods_979 : decode cL_methods 979 = .ok (.iconst 1, 1) := by decide +kernel
theorem dL_methods_980 : decode cL_methods 980 = .ok (.goto 4, 3) := by decide +kernel
theorem dL_methods_983 : decode cL_methods 983 = .ok (.iconst 0, 1) := by decide +kernel
theorem dL_methods_984 : decode cL_methods 984 = .ok (.ireturn, 1) := by decide +kernel
theorem dL_methods_985 : decode cL_methods 985 = .ok (.iload_n 1, 1) := by decide +kernel
theorem dL_methods_986 : decode cL_methods 986 = .ok (.bipush 14, 2) := by decide +kernel
theorem dL_methods_988 : decode cL_methods 988 = .ok (.if_icmp .ge 128, 3) := by decide +kernel
theorem dL_methods_991 : decode cL_methods 991 = .ok (.aload 9, 2) := by decide +kernel
theorem dL_methods_993 : decode cL_methods 993 = .ok (.bipush 24, 2) := by decide +kernel
theorem dL_methods_995 : decode cL_methods 995 = .ok (.iaload, 1) := by decide +kernel
theorem dL_methods_996 : decode cL_methods 996 = .ok (.ifCond .ne 26, 3) := by decide +kernel
theorem dL_methods_999 : decode cL_methods 999 = .ok (.aload_n 0, 1) := by decide +kernel
theorem dL_methods_1000 : decode cL_methods 1000 = .ok (.invokestatic 243, 3) := by decide +kernel
theorem dL_methods_1003 : decode cL_methods 1003 = .ok (.sipush (-7300), 3) := by decide +kernel
theorem dL_methods_1006 : decode cL_methods 1006 = .ok (.if_icmp .ne 14, 3) := by decide +kernel
theorem dL_methods_1009 : decode cL_methods 1009 = .ok (.aload_n 0, 1) := by decide +kernel
theorem dL_methods_1010 : decode cL_methods 1010 = .ok (.invokevirtual 246, 3) := by decide +kernel
theorem dL_methods_1013 : decode cL_methods 1013 = .ok (.ifCond .ne 7, 3) := by decide +kernel
theorem dL_methods_1016 : decode cL_methods 1016 = .ok (.iconst 1, 1) := by decide +kernel
theorem dL_methods_1017 : decode cL_methods 1017 = .ok (.goto 4, 3) := by decide +kernel
theorem dL_methods_1020 : decode cL_methods 1020 = .ok (.iconst 0, 1) := by decide +kernel
theorem dL_methods_1021 : decode cL_methods 1021 = .ok (.ireturn, 1) := by decide +kernel
theorem dL_methods_1022 : decode cL_methods 1022 = .ok (.aload 9, 2) := by decide +kernel
theorem dL_methods_1024 : decode cL_methods 1024 = .ok (.bipush 24, 2) := by decide +kernel
theorem dL_methods_1026 : decode cL_methods 1026 = .ok (.iaload, 1) := by decide +kernel
theorem dL_methods_1027 : decode cL_methods 1027 = .ok (.istore 13, 2) := by decide +kernel
theorem dL_methods_1029 : decode cL_methods 1029 = .ok (.aload 9, 2) := by decide +kernel
theorem dL_methods_1031 : decode cL_methods 1031 = .ok (.bipush 24, 2) := by decide +kernel
theorem dL_methods_1033 : decode cL_methods 1033 = .ok (.iaload, 1) := by decide +kernel
theorem dL_methods_1034 : decode cL_methods 1034 = .ok (.bipush 8, 2) := by decide +kernel
theorem dL_methods_1036 : decode cL_methods 1036 = .ok (.aload 9, 2) := by decide +kernel
theorem dL_methods_1038 : decode cL_methods 1038 = .ok (.bipush 25, 2) := by decide +kernel
theorem dL_methods_1040 : decode cL_methods 1040 = .ok (.iaload, 1) := by decide +kernel
theorem dL_methods_1041 : decode cL_methods 1041 = .ok (.imul, 1) := by decide +kernel
theorem dL_methods_1042 : decode cL_methods 1042 = .ok (.iadd, 1) := by decide +kernel
theorem dL_methods_1043 : decode cL_methods 1043 = .ok (.istore 14, 2) := by decide +kernel
theorem dL_methods_1045 : decode cL_methods 1045 = .ok (.aload 9, 2) := by decide +kernel
theorem dL_methods_1047 : decode cL_methods 1047 = .ok (.bipush 24, 2) := by decide +kernel
theorem dL_methods_1049 : decode cL_methods 1049 = .ok (.iconst 0, 1) := by decide +kernel
theorem dL_methods_1050 : decode cL_methods 1050 = .ok (.iastore, 1) := by decide +kernel
theorem dL_methods_1051 : decode cL_methods 1051 = .ok (.aload 9, 2) := by decide +kernel
theorem dL_methods_1053 : decode cL_methods 1053 = .ok (.bipush 25, 2) := by decide +kernel
theorem dL_methods_1055 : decode cL_methods 1055 = .ok (.iconst 0, 1) := by decide +kernel
theorem dL_methods_1056 : decode cL_methods 1056 = .ok (.iastore, 1) := by decide +kernel
theorem dL_methods_1057 : decode cL_methods 1057 = .ok (.aload 9, 2) := by decide +kernel
theorem dL_methods_1059 : decode cL_methods 1059 = .ok (.iconst 1, 1) := by decide +kernel
theorem dL_methods_1060 : decode cL_methods 1060 = .ok (.iaload, 1) := by decide +kernel
theorem dL_methods_1061 : decode cL_methods 1061 = .ok (.iconst 4, 1) := by decide +kernel
theorem dL_methods_1062 : decode cL_methods 1062 = .ok (.if_icmp .ne 18, 3) := by decide +kernel
theorem dL_methods_1065 : decode cL_methods 1065 = .ok (.aload_n 0, 1) := by decide +kernel
theorem dL_methods_1066 : decode cL_methods 1066 = .ok (.invokevirtual 246, 3) := by decide +kernel
theorem dL_methods_1069 : decode cL_methods 1069 = .ok (.iload 13, 2) := by decide +kernel
theorem dL_methods_1071 : decode cL_methods 1071 = .ok (.if_icmp .ne 7, 3) := by decide +kernel
theorem dL_methods_1074 : decode cL_methods 1074 = .ok (.iconst 1, 1) := by decide +kernel
theorem dL_methods_1075 : decode cL_methods 1075 = .ok (.goto 4, 3) := by decide +kernel
theorem dL_methods_1078 : decode cL_methods 1078 = .ok (.iconst 0, 1) := by decide +kernel
theorem dL_methods_1079 : decode cL_methods 1079 = .ok (.ireturn, 1) := by decide +kernel
theorem dL_methods_1080 : decode cL_methods 1080 = .ok (.aload 5, 2) := by decide +kernel
theorem dL_methods_1082 : decode cL_methods 1082 = .ok (.aload 9, 2) := by decide +kernel
theorem dL_methods_1084 : decode cL_methods 1084 = .ok (.iconst 1, 1) := by decide +kernel
theorem dL_methods_1085 : decode cL_methods 1085 = .ok (.iaload, 1) := by decide +kernel
theorem dL_methods_1086 : decode cL_methods 1086 = .ok (.iload 14, 2) := by decide +kernel
theorem dL_methods_1088 : decode cL_methods 1088 = .ok (.iastore, 1) := by decide +kernel
theorem dL_methods_1089 : decode cL_methods 1089 = .ok (.aload 9, 2) := by decide +kernel
theorem dL_methods_1091 : decode cL_methods 1091 = .ok (.iconst 1, 1) := by decide +kernel
theorem dL_methods_1092 : decode cL_methods 1092 = .ok (.dup2, 1) := by decide +kernel
theorem dL_methods_1093 : decode cL_methods 1093 = .ok (.iaload, 1) := by decide +kernel
theorem dL_methods_1094 : decode cL_methods 1094 = .ok (.iconst 1, 1) := by decide +kernel
theorem dL_methods_1095 : decode cL_methods 1095 = .ok (.iadd, 1) := by decide +kernel
theorem dL_methods_1096 : decode cL_methods 1096 = .ok (.iastore, 1) := by decide +kernel
theorem dL_methods_1097 : decode cL_methods 1097 = .ok (.aload_n 0, 1) := by decide +kernel
theorem dL_methods_1098 : decode cL_methods 1098 = .ok (.invokestatic 243, 3) := by decide +kernel
theorem dL_methods_1101 : decode cL_methods 1101 = .ok (.aload 9, 2) := by decide +kernel
theorem dL_methods_1103 : decode cL_methods 1103 = .ok (.iconst 1, 1) := by decide +kernel
theorem dL_methods_1104 : decode cL_methods 1104 = .ok (.iaload, 1) := by decide +kernel
theorem dL_methods_1105 : decode cL_methods 1105 = .ok (.iconst 1, 1) := by decide +kernel
theorem dL_methods_1106 : decode cL_methods 1106 = .ok (.isub, 1) := by decide +kernel
theorem dL_methods_1107 : decode cL_methods 1107 = .ok (.if_icmp .ne 7, 3) := by decide +kernel
theorem dL_methods_1110 : decode cL_methods 1110 = .ok (.iconst 1, 1) := by decide +kernel
theorem dL_methods_1111 : decode cL_methods 1111 = .ok (.goto 4, 3) := by decide +kernel
theorem dL_methods_1114 : decode cL_methods 1114 = .ok (.iconst 0, 1) := by decide +kernel
theorem dL_methods_1115 : decode cL_methods 1115 = .ok (.ireturn, 1) := by decide +kernel
theorem dL_methods_1116 : decode cL_methods 1116 = .ok (.iconst 1, 1) := by decide +kernel
theorem dL_methods_1117 : decode cL_methods 1117 = .ok (.iload_n 3, 1) := by decide +kernel
theorem dL_methods_1118 : decode cL_methods 1118 = .ok (.iconst 4, 1) := by decide +kernel
theorem dL_methods_1119 : decode cL_methods 1119 = .ok (.invokestatic 213, 3) := by decide +kernel
theorem dL_methods_1122 : decode cL_methods 1122 = .ok (.iadd, 1) := by decide +kernel
theorem dL_methods_1123 : decode cL_methods 1123 = .ok (.istore 13, 2) := by decide +kernel
theorem dL_methods_1125 : decode cL_methods 1125 = .ok (.aload_n 0, 1) := by decide +kernel
theorem dL_methods_1126 : decode cL_methods 1126 = .ok (.iload 11, 2) := by decide +kernel
theorem dL_methods_1128 : decode cL_methods 1128 = .ok (.iconst 0, 1) := by decide +kernel
theorem dL_methods_1129 : decode cL_methods 1129 = .ok (.invokestatic 237, 3) := by decide +kernel
theorem dL_methods_1132 : decode cL_methods 1132 = .ok (.sipush (-7200), 3) := by decide +kernel
theorem dL_methods_1135 : decode cL_methods 1135 = .ok (.if_icmp .ne 17, 3) := by decide +kernel
theorem dL_methods_1138 : decode cL_methods 1138 = .ok (.aload_n 0, 1) := by decide +kernel
theorem dL_methods_1139 : decode cL_methods 1139 = .ok (.iload 11, 2) := by decide +kernel
theorem dL_methods_1141 : decode cL_methods 1141 = .ok (.bipush 7, 2) := by decide +kernel
theorem dL_methods_1143 : decode cL_methods 1143 = .ok (.invokestatic 237, 3) := by decide +kernel
theorem dL_methods_1146 : decode cL_methods 1146 = .ok (.sipush (-7200), 3) := by decide +kernel
theorem dL_methods_1149 : decode cL_methods 1149 = .ok (.if_icmp .eq 5, 3) := by decide +kernel
theorem dL_methods_1152 : decode cL_methods 1152 = .ok (.iconst 0, 1) := by decide +kernel
theorem dL_methods_1153 : decode cL_methods 1153 = .ok (.ireturn, 1) := by decide +kernel
theorem dL_methods_1154 : decode cL_methods 1154 = .ok (.aload 9, 2) := by decide +kernel
theorem dL_methods_1156 : decode cL_methods 1156 = .ok (.iconst 1, 1) := by decide +kernel
theorem dL_methods_1157 : decode cL_methods 1157 = .ok (.iaload, 1) := by decide +kernel
theorem dL_methods_1158 : decode cL_methods 1158 = .ok (.iconst 4, 1) := by decide +kernel
theorem dL_methods_1159 : decode cL_methods 1159 = .ok (.if_icmp .ne 17, 3) := by decide +kernel
theorem dL_methods_1162 : decode cL_methods 1162 = .ok (.aload_n 0, 1) := by decide +kernel
theorem dL_methods_1163 : decode cL_methods 1163 = .ok (.invokevirtual 249, 3) := by decide +kernel
theorem dL_methods_1166 : decode cL_methods 1166 = .ok (.iconst 4, 1) := by decide +kernel
theorem dL_methods_1167 : decode cL_methods 1167 = .ok (.if_icmp .ne 7, 3) := by decide +kernel
theorem dL_methods_1170 : decode cL_methods 1170 = .ok (.iconst 1, 1) := by decide +kernel
theorem dL_methods_1171 : decode cL_methods 1171 = .ok (.goto 4, 3) := by decide +kernel
theorem dL_methods_1174 : decode cL_methods 1174 = .ok (.iconst 0, 1) := by decide +kernel
theorem dL_methods_1175 : decode cL_methods 1175 = .ok (.ireturn, 1) := by decide +kernel
theorem dL_methods_1176 : decode cL_methods 1176 = .ok (.iload 13, 2) := by decide +kernel
theorem dL_methods_1178 : decode cL_methods 1178 = .ok (.iconst 1, 1) := by decide +kernel
theorem dL_methods_1179 : decode cL_methods 1179 = .ok (.if_icmp .ne 7, 3) := by decide +kernel
theorem dL_methods_1182 : decode cL_methods 1182 = .ok (.iconst 3, 1) := by decide +kernel
theorem dL_methods_1183 : decode cL_methods 1183 = .ok (.goto 27, 3) := by decide +kernel
theorem dL_methods_1186 : decode cL_methods 1186 = .ok (.iload 13, 2) := by decide +kernel
theorem dL_methods_1188 : decode cL_methods 1188 = .ok (.iconst 2, 1) := by decide +kernel
theorem dL_methods_1189 : decode cL_methods 1189 = .ok (.if_icmp .ne 8, 3) := by decide +kernel
theorem dL_methods_1192 : decode cL_methods 1192 = .ok (.bipush 9, 2) := by decide +kernel
theorem dL_methods_1194 : decode cL_methods 1194 = .ok (.goto 16, 3) := by decide +kernel
theorem dL_methods_1197 : decode cL_methods 1197 = .ok (.iload 13, 2) := by decide +kernel
theorem dL_methods_1199 : decode cL_methods 1199 = .ok (.iconst 3, 1) := by decide +kernel
theorem dL_methods_1200 : decode cL_methods 1200 = .ok (.if_icmp .ne 8, 3) := by decide +kernel
theorem dL_methods_1203 : decode cL_methods 1203 = .ok (.bipush 27, 2) := by decide +kernel
theorem dL_methods_1205 : decode cL_methods 1205 = .ok (.goto 5, 3) := by decide +kernel
theorem dL_methods_1208 : decode cL_methods 1208 = .ok (.bipush 81, 2) := by decide +kernel
theorem dL_methods_1210 : decode cL_methods 1210 = .ok (.istore 14, 2) := by decide +kernel
theorem dL_methods_1212 : decode cL_methods 1212 = .ok (.iconst 0, 1) := by decide +kernel
theorem dL_methods_1213 : decode cL_methods 1213 = .ok (.istore 15, 2) := by decide +kernel
theorem dL_methods_1215 : decode cL_methods 1215 = .ok (.iload 15, 2) := by decide +kernel
theorem dL_methods_1217 : decode cL_methods 1217 = .ok (.iload 14, 2) := by decide +kernel
theorem dL_methods_1219 : decode cL_methods 1219 = .ok (.if_icmp .ge 116, 3) := by decide +kernel
theorem dL_methods_1222 : decode cL_methods 1222 = .ok (.iload 13, 2) := by decide +kernel
theorem dL_methods_1224 : decode cL_methods 1224 = .ok (.istore 16, 2) := by decide +kernel
theorem dL_methods_1226 : decode cL_methods 1226 = .ok (.iload 15, 2) := by decide +kernel
theorem dL_methods_1228 : decode cL_methods 1228 = .ok (.istore 17, 2) := by decide +kernel
theorem dL_methods_1230 : decode cL_methods 1230 = .ok (.iload 13, 2) := by decide +kernel
theorem dL_methods_1232 : decode cL_methods 1232 = .ok (.iconst 1, 1) := by decide +kernel
theorem dL_methods_1233 : decode cL_methods 1233 = .ok (.isub, 1) := by decide +kernel
theorem dL_methods_1234 : decode cL_methods 1234 = .ok (.istore 18, 2) := by decide +kernel
theorem dL_methods_1236 : decode cL_methods 1236 = .ok (.iload 18, 2) := by decide +kernel
theorem dL_methods_1238 : decode cL_methods 1238 = .ok (.ifCond .lt 36, 3) := by decide +kernel
theorem dL_methods_1241 : decode cL_methods 1241 = .ok (.iload 16, 2) := by decide +kernel
theorem dL_methods_1243 : decode cL_methods 1243 = .ok (.iload 11, 2) := by decide +kernel
theorem dL_methods_1245 : decode cL_methods 1245 = .ok (.iconst 4, 1) := by decide +kernel
theorem dL_methods_1246 : decode cL_methods 1246 = .ok (.iload 17, 2) := by decide +kernel
theorem dL_methods_1248 : decode cL_methods 1248 = .ok (.iconst 3, 1) := by decide +kernel
theorem dL_methods_1249 : decode cL_methods 1249 = .ok (.irem, 1) := by decide +kernel
theorem dL_methods_1250 : decode cL_methods 1250 = .ok (.imul, 1) := by decide +kernel
theorem dL_methods_1251 : decode cL_methods 1251 = .ok (.iadd, 1) := by decide +kernel
theorem dL_methods_1252 : decode cL_methods 1252 = .ok (.iconst 3, 1) := by decide +kernel
theorem dL_methods_1253 : decode cL_methods 1253 = .ok (.iconst 4, 1) := by decide +kernel
theorem dL_methods_1254 : decode cL_methods 1254 = .ok (.iload 18, 2) := by decide +kernel
theorem dL_methods_1256 : decode cL_methods 1256 = .ok (.imul, 1) := by decide +kernel
theorem dL_methods_1257 : decode cL_methods 1257 = .ok (.iadd, 1) := by decide +kernel
theorem dL_methods_1258 : decode cL_methods 1258 = .ok (.ishl, 1) := by decide +kernel
theorem dL_methods_1259 : decode cL_methods 1259 = .ok (.ior, 1) := by decide +kernel
theorem dL_methods_1260 : decode cL_methods 1260 = .ok (.istore 16, 2) := by decide +kernel
theorem dL_methods_1262 : decode cL_methods 1262 = .ok (.iload 17, 2) := by decide +kernel
theorem dL_methods_1264 : decode cL_methods 1264 = .ok (.iconst 3, 1) := by decide +kernel
theorem dL_methods_1265 : decode cL_methods 1265 = .ok (.idiv, 1) := by decide +kernel
theorem dL_methods_1266 : decode cL_methods 1266 = .ok (.istore 17, 2) := by decide +kernel
theorem dL_methods_1268 : decode cL_methods 1268 = .ok (.iinc 18 (-1), 3) := by decide +kernel
theorem dL_methods_1271 : decode cL_methods 1271 = .ok (.goto (-35), 3) := by decide +kernel
theorem dL_methods_1274 : decode cL_methods 1274 = .ok (.aload 4, 2) := by decide +kernel
theorem dL_methods_1276 : decode cL_methods 1276 = .ok (.iload 16, 2) := by decide +kernel
theorem dL_methods_1278 : decode cL_methods 1278 = .ok (.aload 8, 2) := by decide +kernel
theorem dL_methods_1280 : decode cL_methods 1280 = .ok (.invokestatic 184, 3) := by decide +kernel
theorem dL_methods_1283 : decode cL_methods 1283 = .ok (.ifCond .ne 6, 3) := by decide +kernel
theorem dL_methods_1286 : decode cL_methods 1286 = .ok (.goto 43, 3) := by decide +kernel
theorem dL_methods_1289 : decode cL_methods 1289 = .ok (.aload 5, 2) := by decide +kernel
theorem dL_methods_1291 : decode cL_methods 1291 = .ok (.aload 9, 2) := by decide +kernel
theorem dL_methods_1293 : decode cL_methods 1293 = .ok (.iconst 1, 1) := by decide +kernel
theorem dL_methods_1294 : decode cL_methods 1294 = .ok (.iaload, 1) := by decide +kernel
theorem dL_methods_1295 : decode cL_methods 1295 = .ok (.iload 16, 2) := by decide +kernel
theorem dL_methods_1297 : decode cL_methods 1297 = .ok (.iastore, 1) := by decide +kernel
theorem dL_methods_1298 : decode cL_methods 1298 = .ok (.aload 9, 2) := by decide +kernel
theorem dL_methods_1300 : decode cL_methods 1300 = .ok (.iconst 1, 1) := by decide +kernel
theorem dL_methods_1301 : decode cL_methods 1301 = .ok (.dup2, 1) := by decide +kernel
theorem dL_methods_1302 : decode cL_methods 1302 = .ok (.iaload, 1) := by decide +kernel
theorem dL_methods_1303 : decode cL_methods 1303 = .ok (.iconst 1, 1) := by decide +kernel
theorem dL_methods_1304 : decode cL_methods 1304 = .ok (.iadd, 1) := by decide +kernel
theorem dL_methods_1305 : decode cL_methods 1305 = .ok (.iastore, 1) := by decide +kernel
theorem dL_methods_1306 : decode cL_methods 1306 = .ok (.aload_n 0, 1) := by decide +kernel
theorem dL_methods_1307 : decode cL_methods 1307 = .ok (.iload 11, 2) := by decide +kernel
theorem dL_methods_1309 : decode cL_methods 1309 = .ok (.iload 13, 2) := by decide +kernel
theorem dL_methods_1311 : decode cL_methods 1311 = .ok (.invokestatic 237, 3) := by decide +kernel
theorem dL_methods_1314 : decode cL_methods 1314 = .ok (.aload 9, 2) := by decide +kernel
theorem dL_methods_1316 : decode cL_methods 1316 = .ok (.iconst 1, 1) := by decide +kernel
theorem dL_methods_1317 : decode cL_methods 1317 = .ok (.iaload, 1) := by decide +kernel
theorem dL_methods_1318 : decode cL_methods 1318 = .ok (.iconst 1, 1) := by decide +kernel
theorem dL_methods_1319 : decode cL_methods 1319 = .ok (.isub, 1) := by decide +kernel
theorem dL_methods_1320 : decode cL_methods 1320 = .ok (.if_icmp .ne 7, 3) := by decide +kernel
theorem dL_methods_1323 : decode cL_methods 1323 = .ok (.iconst 1, 1) := by decide +kernel
theorem dL_methods_1324 : decode cL_methods 1324 = .ok (.goto 4, 3) := by decide +kernel
theorem dL_methods_1327 : decode cL_methods 1327 = .ok (.iconst 0, 1) := by decide +kernel
theorem dL_methods_1328 : decode cL_methods 1328 = .ok (.ireturn, 1) := by decide +kernel
theorem dL_methods_1329 : decode cL_methods 1329 = .ok (.iinc 15 1, 3) := by decide +kernel
theorem dL_methods_1332 : decode cL_methods 1332 = .ok (.goto (-117), 3) := by decide +kernel
theorem dL_methods_1335 : decode cL_methods 1335 = .ok (.aload_n 0, 1) := by decide +kernel
theorem dL_methods_1336 : decode cL_methods 1336 = .ok (.iload 11, 2) := by decide +kernel
theorem dL_methods_1338 : decode cL_methods 1338 = .ok (.iload 13, 2) := by decide +kernel
theorem dL_methods_1340 : decode cL_methods 1340 = .ok (.invokestatic 237, 3) := by decide +kernel
theorem dL_methods_1343 : decode cL_methods 1343 = .ok (.iconst (-1), 1) := by decide +kernel
theorem dL_methods_1344 : decode cL_methods 1344 = .ok (.if_icmp .ne 7, 3) := by decide +kernel
theorem dL_methods_1347 : decode cL_methods 1347 = .ok (.iconst 1, 1) := by decide +kernel
theorem dL_methods_1348 : decode cL_methods 1348 = .ok (.goto 4, 3) := by decide +kernel
theorem dL_methods_1351 : decode cL_methods 1351 = .ok (.iconst 0, 1) := by decide +kernel
theorem dL_methods_1352 : decode cL_methods 1352 = .ok (.ireturn, 1) := by decide +kernel
theorem dL_bells_0 : decode cL_bells 0 = .ok (.iload_n 2, 1) := by decide +kernel
theorem dL_bells_1 : decode cL_bells 1 = .ok (.bipush 6, 2) := by decide +kernel
theorem dL_bells_3 : decode cL_bells 3 = .ok (.invokestatic 213, 3) := by decide +kernel
theorem dL_bells_6 : decode cL_bells 6 = .ok (.istore 12, 2) := by decide +kernel
theorem dL_bells_8 : decode cL_bells 8 = .ok (.iload_n 1, 1) := by decide +kernel
theorem dL_bells_9 : decode cL_bells 9 = .ok (.ifCond .ne 105, 3) := by decide +kernel
theorem dL_bells_12 : decode cL_bells 12 = .ok (.aload_n 0, 1) := by decide +kernel
theorem dL_bells_13 : decode cL_bells 13 = .ok (.bipush 6, 2) := by decide +kernel
theorem dL_bells_15 : decode cL_bells 15 = .ok (.invokestatic 252, 3) := by decide +kernel
theorem dL_bells_18 : decode cL_bells 18 = .ok (.sipush (-7100), 3) := by decide +kernel
theorem dL_bells_21 : decode cL_bells 21 = .ok (.if_icmp .ne 14, 3) := by decide +kernel
theorem dL_bells_24 : decode cL_bells 24 = .ok (.aload_n 0, 1) := by decide +kernel
theorem dL_bells_25 : decode cL_bells 25 = .ok (.iconst (-1), 1) := by decide +kernel
theorem dL_bells_26 : decode cL_bells 26 = .ok (.invokestatic 252, 3) := by decide +kernel
theorem dL_bells_29 : decode cL_bells 29 = .ok (.sipush (-7100), 3) := by decide +kernel
theorem dL_bells_32 : decode cL_bells 32 = .ok (.if_icmp .eq 5, 3) := by decide +kernel
theorem dL_bells_35 : decode cL_bells 35 = .ok (.iconst 0, 1) := by decide +kernel
theorem dL_bells_36 : decode cL_bells 36 = .ok (.ireturn, 1) := by decide +kernel
theorem dL_bells_37 : decode cL_bells 37 = .ok (.aload 8, 2) := by decide +kernel
theorem dL_bells_39 : decode cL_bells 39 = .ok (.iload 12, 2) := by decide +kernel
theorem dL_bells_41 : decode cL_bells 41 = .ok (.iaload, 1) := by decide +kernel
theorem dL_bells_42 : decode cL_bells 42 = .ok (.iconst 1, 1) := by decide +kernel
theorem dL_bells_43 : decode cL_bells 43 = .ok (.iand, 1) := by decide +kernel
theorem dL_bells_44 : decode cL_bells 44 = .ok (.iconst 1, 1) := by decide +kernel
theorem dL_bells_45 : decode cL_bells 45 = .ok (.if_icmp .eq 12, 3) := by decide +kernel
theorem dL_bells_48 : decode cL_bells 48 = .ok (.aload 11, 2) := by decide +kernel
theorem dL_bells_50 : decode cL_bells 50 = .ok (.bipush 6, 2) := by decide +kernel
theorem dL_bells_52 : decode cL_bells 52 = .ok (.iaload, 1) := by decide +kernel
theorem dL_bells_53 : decode cL_bells 53 = .ok (.iconst 1, 1) := by decide +kernel
theorem dL_bells_54 : decode cL_bells 54 = .ok (.if_icmp .ne 21, 3) := by decide +kernel
theorem dL_bells_57 : decode cL_bells 57 = .ok (.aload_n 0, 1) := by decide +kernel
theorem dL_bells_58 : decode cL_bells 58 = .ok (.iload 12, 2) := by decide +kernel
theorem dL_bells_60 : decode cL_bells 60 = .ok (.invokestatic 252, 3) := by decide +kernel
theorem dL_bells_63 : decode cL_bells 63 = .ok (.sipush (-7300), 3) := by decide +kernel
theorem dL_bells_66 : decode cL_bells 66 = .ok (.if_icmp .ne 7, 3) := by decide +kernel
theorem dL_bells_69 : decode cL_bells 69 = .ok (.iconst 1, 1) := by decide +kernel
theorem dL_bells_70 : decode cL_bells 70 = .ok (.goto 4, 3) := by decide +kernel
theorem dL_bells_73 : decode cL_bells 73 = .ok (.iconst 0, 1) := by decide +kernel
theorem dL_bells_74 : decode cL_bells 74 = .ok (.ireturn, 1) := by decide +kernel
theorem dL_bells_75 : decode cL_bells 75 = .ok (.aload 8, 2) := by decide +kernel
theorem dL_bells_77 : decode cL_bells 77 = .ok (.iload 12, 2) := by decide +kernel
theorem dL_bells_79 : decode cL_bells 79 = .ok (.dup2, 1) := by decide +kernel
theorem dL_bells_80 : decode cL_bells 80 = .ok (.iaload, 1) := by decide +kernel
theorem dL_bells_81 : decode cL_bells 81 = .ok (.iconst 1, 1) := by decide +kernel
theorem dL_bells_82 : decode cL_bells 82 = .ok (.ior, 1) := by decide +kernel
theorem dL_bells_83 : decode cL_bells 83 = .ok (.iastore, 1) := by decide +kernel
theorem dL_bells_84 : decode cL_bells 84 = .ok (.aload_n 0, 1) := by decide +kernel
theorem dL_bells_85 : decode cL_bells 85 = .ok (.iload 12, 2) := by decide +kernel
theorem dL_bells_87 : decode cL_bells 87 = .ok (.invokestatic 252, 3) := by decide +kernel
theorem dL_bells_90 : decode cL_bells 90 = .ok (.aload 4, 2) := by decide +kernel
theorem dL_bells_92 : decode cL_bells 92 = .ok (.aload 5, 2) := by decide +kernel
theorem dL_bells_94 : decode cL_bells 94 = .ok (.aload 6, 2) := by decide +kernel
theorem dL_bells_96 : decode cL_bells 96 = .ok (.aload 8, 2) := by decide +kernel
theorem dL_bells_98 : decode cL_bells 98 = .ok (.aload 10, 2) := by decide +kernel
theorem dL_bells_100 : decode cL_bells 100 = .ok (.aload 11, 2) := by decide +kernel
theorem dL_bells_102 : decode cL_bells 102 = .ok (.invokestatic 192, 3) := by decide +kernel
theorem dL_bells_105 : decode cL_bells 105 = .ok (.if_icmp .ne 7, 3) := by decide +kernel
theorem dL_bells_108 : decode cL_bells 108 = .ok (.iconst 1, 1) := by decide +kernel
theorem dL_bells_109 : decode cL_bells 109 = .ok (.goto 4, 3) := by decide +kernel
theorem dL_bells_112 : decode cL_bells 112 = .ok (.iconst 0, 1) := by decide +kernel
theorem dL_bells_113 : decode cL_bells 113 = .ok (.ireturn, 1) := by decide +kernel
theorem dL_bells_114 : decode cL_bells 114 = .ok (.iload_n 1, 1) := by decide +kernel
theorem dL_bells_115 : decode cL_bells 115 = .ok (.iconst 3, 1) := by decide +kernel
theorem dL_bells_116 : decode cL_bells 116 = .ok (.if_icmp .ge 118, 3) := by decide +kernel
theorem dL_bells_119 : decode cL_bells 119 = .ok (.iconst 0, 1) := by decide +kernel
theorem dL_bells_120 : decode cL_bells 120 = .ok (.istore 13, 2) := by decide +kernel
theorem dL_bells_122 : decode cL_bells 122 = .ok (.iload 13, 2) := by decide +kernel
theorem dL_bells_124 : decode cL_bells 124 = .ok (.bipush 6, 2) := by decide +kernel
theorem dL_bells_126 : decode cL_bells 126 = .ok (.if_icmp .ge 28, 3) := by decide +kernel
theorem dL_bells_129 : decode cL_bells 129 = .ok (.aload 8, 2) := by decide +kernel
theorem dL_bells_131 : decode cL_bells 131 = .ok (.iload 12, 2) := by decide +kernel
theorem dL_bells_133 : decode cL_bells 133 = .ok (.iaload, 1) := by decide +kernel
theorem dL_bells_134 : decode cL_bells 134 = .ok (.iconst 1, 1) := by decide +kernel
theorem dL_bells_135 : decode cL_bells 135 = .ok (.iand, 1) := by decide +kernel
theorem dL_bells_136 : decode cL_bells 136 = .ok (.ifCond .ne 18, 3) := by decide +kernel
theorem dL_bells_139 : decode cL_bells 139 = .ok (.iload 12, 2) := by decide +kernel
theorem dL_bells_141 : decode cL_bells 141 = .ok (.iconst 1, 1) := by decide +kernel
theorem dL_bells_142 : decode cL_bells 142 = .ok (.iadd, 1) := by decide +kernel
theorem dL_bells_143 : decode cL_bells 143 = .ok (.bipush 6, 2) := by decide +kernel
theorem dL_bells_145 : decode cL_bells 145 = .ok (.irem, 1) := by decide +kernel
theorem dL_bells_146 : decode cL_bells 146 = .ok (.istore 12, 2) := by decide +kernel
theorem dL_bells_148 : decode cL_bells 148 = .ok (.iinc 13 1, 3) := by decide +kernel
theorem dL_bells_151 : decode cL_bells 151 = .ok (.goto (-29), 3) := by decide +kernel
theorem dL_bells_154 : decode cL_bells 154 = .ok (.aload_n 0, 1) := by decide +kernel
theorem dL_bells_155 : decode cL_bells 155 = .ok (.bipush 6, 2) := by decide +kernel
theorem dL_bells_157 : decode cL_bells 157 = .ok (.invokestatic 254, 3) := by decide +kernel
theorem dL_bells_160 : decode cL_bells 160 = .ok (.sipush (-7100), 3) := by decide +kernel
theorem dL_bells_163 : decode cL_bells 163 = .ok (.if_icmp .eq 5, 3) := by decide +kernel
theorem dL_bells_166 : decode cL_bells 166 = .ok (.iconst 0, 1) := by decide +kernel
theorem dL_bells_167 : decode cL_bells 167 = .ok (.ireturn, 1) := by decide +kernel
theorem dL_bells_168 : decode cL_bells 168 = .ok (.aload 8, 2) := by decide +kernel
theorem dL_bells_170 : decode cL_bells 170 = .ok (.iload 12, 2) := by decide +kernel
theorem dL_bells_172 : decode cL_bells 172 = .ok (.iaload, 1) := by decide +kernel
theorem dL_bells_173 : decode cL_bells 173 = .ok (.iconst 1, 1) := by decide +kernel
theorem dL_bells_174 : decode cL_bells 174 = .ok (.iand, 1) := by decide +kernel
theorem dL_bells_175 : decode cL_bells 175 = .ok (.ifCond .ne 21, 3) := by decide +kernel
theorem dL_bells_178 : decode cL_bells 178 = .ok (.aload_n 0, 1) := by decide +kernel
theorem dL_bells_179 : decode cL_bells 179 = .ok (.iload 12, 2) := by decide +kernel
theorem dL_bells_181 : decode cL_bells 181 = .ok (.invokestatic 254, 3) := by decide +kernel
theorem dL_bells_184 : decode cL_bells 184 = .ok (.sipush (-7300), 3) := by decide +kernel
theorem dL_bells_187 : decode cL_bells 187 = .ok (.if_icmp .ne 7, 3) := by decide +kernel
theorem dL_bells_190 : decode cL_bells 190 = .ok (.iconst 1, 1) := by decide +kernel
theorem dL_bells_191 : decode cL_bells 191 = .ok (.goto 4, 3) := by decide +kernel
theorem dL_bells_194 : decode cL_bells 194 = .ok (.iconst 0, 1) := by decide +kernel
theorem dL_bells_195 : decode cL_bells 195 = .ok (.ireturn, 1) := by decide +kernel
theorem dL_bells_196 : decode cL_bells 196 = .ok (.aload 8, 2) := by decide +kernel
theorem dL_bells_198 : decode cL_bells 198 = .ok (.iload 12, 2) := by decide +kernel
theorem dL_bells_200 : decode cL_bells 200 = .ok (.dup2, 1) := by decide +kernel
theorem dL_bells_201 : decode cL_bells 201 = .ok (.iaload, 1) := by decide +kernel
theorem dL_bells_202 : decode cL_bells 202 = .ok (.bipush 6, 2) := by decide +kernel
theorem dL_bells_204 : decode cL_bells 204 = .ok (.iand, 1) := by decide +kernel
theorem dL_bells_205 : decode cL_bells 205 = .ok (.iastore, 1) := by decide +kernel
theorem dL_bells_206 : decode cL_bells 206 = .ok (.aload_n 0, 1) := by decide +kernel
theorem dL_bells_207 : decode cL_bells 207 = .ok (.iload 12, 2) := by decide +kernel
theorem dL_bells_209 : decode cL_bells 209 = .ok (.invokestatic 254, 3) := by decide +kernel
theorem dL_bells_212 : decode cL_bells 212 = .ok (.aload 8, 2) := by decide +kernel
theorem dL_bells_214 : decode cL_bells 214 = .ok (.iload 12, 2) := by decide +kernel
theorem dL_bells_216 : decode cL_bells 216 = .ok (.iaload, 1) := by decide +kernel
theorem dL_bells_217 : decode cL_bells 217 = .ok (.ifCond .ne 7, 3) := by decide +kernel
theorem dL_bells_220 : decode cL_bells 220 = .ok (.iconst 1, 1) := by decide +kernel
theorem dL_bells_221 : decode cL_bells 221 = .ok (.goto 4, 3) := by decide +kernel
theorem dL_bells_224 : decode cL_bells 224 = .ok (.iconst 0, 1) := by decide +kernel
theorem dL_bells_225 : decode cL_bells 225 = .ok (.if_icmp .ne 7, 3) := by decide +kernel
theorem dL_bells_228 : decode cL_bells 228 = .ok (.iconst 1, 1) := by decide +kernel
theorem dL_bells_229 : decode cL_bells 229 = .ok (.goto 4, 3) := by decide +kernel
theorem dL_bells_232 : decode cL_bells 232 = .ok (.iconst 0, 1) := by decide +kernel
theorem dL_bells_233 : decode cL_bells 233 = .ok (.ireturn, 1) := by decide +kernel
theorem dL_bells_234 : decode cL_bells 234 = .ok (.iload_n 1, 1) := by decide +kernel
theorem dL_bells_235 : decode cL_bells 235 = .ok (.iconst 3, 1) := by decide +kernel
theorem dL_bells_236 : decode cL_bells 236 = .ok (.if_icmp .ne 136, 3) := by decide +kernel
theorem dL_bells_239 : decode cL_bells 239 = .ok (.iload_n 3, 1) := by decide +kernel
theorem dL_bells_240 : decode cL_bells 240 = .ok (.iconst 1, 1) := by decide +kernel
theorem dL_bells_241 : decode cL_bells 241 = .ok (.iand, 1) := by decide +kernel
theorem dL_bells_242 : decode cL_bells 242 = .ok (.istore 13, 2) := by decide +kernel
theorem dL_bells_244 : decode cL_bells 244 = .ok (.aload_n 0, 1) := by decide +kernel
theorem dL_bells_245 : decode cL_bells 245 = .ok (.bipush 6, 2) := by decide +kernel
theorem dL_bells_247 : decode cL_bells 247 = .ok (.iconst 2, 1) := by decide +kernel
theorem dL_bells_248 : decode cL_bells 248 = .ok (.invokestatic 256, 3) := by decide +kernel
theorem dL_bells_251 : decode cL_bells 251 = .ok (.sipush (-7100), 3) := by decide +kernel
theorem dL_bells_254 : decode cL_bells 254 = .ok (.if_icmp .ne 29, 3) := by decide +kernel
theorem dL_bells_257 : decode cL_bells 257 = .ok (.aload_n 0, 1) := by decide +kernel
theorem dL_bells_258 : decode cL_bells 258 = .ok (.iload 12, 2) := by decide +kernel
theorem dL_bells_260 : decode cL_bells 260 = .ok (.iconst 2, 1) := by decide +kernel
theorem dL_bells_261 : decode cL_bells 261 = .ok (.invokestatic 256, 3) := by decide +kernel
theorem dL_bells_264 : decode cL_bells 264 = .ok (.sipush (-7200), 3) := by decide +kernel
theorem dL_bells_267 : decode cL_bells 267 = .ok (.if_icmp .ne 16, 3) := by decide +kernel
theorem dL_bells_270 : decode cL_bells 270 = .ok (.aload_n 0, 1) := by decide +kernel
theorem dL_bells_271 : decode cL_bells 271 = .ok (.iload 12, 2) := by decide +kernel
theorem dL_bells_273 : decode cL_bells 273 = .ok (.iconst (-1), 1) := by decide +kernel
theorem dL_bells_274 : decode cL_bells 274 = .ok (.invokestatic 256, 3) := by decide +kernel
theorem dL_bells_277 : decode cL_bells 277 = .ok (.sipush (-7200), 3) := by decide +kernel
theorem dL_bells_280 : decode cL_bells 280 = .ok (.if_icmp .eq 5, 3) := by decide +kernel
theorem dL_bells_283 : decode cL_bells 283 = .ok (.iconst 0, 1) := by decide +kernel
theorem dL_bells_284 : decode cL_bells 284 = .ok (.ireturn, 1) := by decide +kernel
theorem dL_bells_285 : decode cL_bells 285 = .ok (.aload 11, 2) := by decide +kernel
theorem dL_bells_287 : decode cL_bells 287 = .ok (.bipush 6, 2) := by decide +kernel
theorem dL_bells_289 : decode cL_bells 289 = .ok (.iaload, 1) := by decide +kernel
theorem dL_bells_290 : decode cL_bells 290 = .ok (.iconst 1, 1) := by decide +kernel
theorem dL_bells_291 : decode cL_bells 291 = .ok (.if_icmp .ne 23, 3) := by decide +kernel
theorem dL_bells_294 : decode cL_bells 294 = .ok (.aload_n 0, 1) := by decide +kernel
theorem dL_bells_295 : decode cL_bells 295 = .ok (.iload 12, 2) := by decide +kernel
theorem dL_bells_297 : decode cL_bells 297 = .ok (.iload 13, 2) := by decide +kernel
theorem dL_bells_299 : decode cL_bells 299 = .ok (.invokestatic 256, 3) := by decide +kernel
theorem dL_bells_302 : decode cL_bells 302 = .ok (.sipush (-7300), 3) := by decide +kernel
theorem dL_bells_305 : decode cL_bells 305 = .ok (.if_icmp .ne 7, 3) := by decide +kernel
theorem dL_bells_308 : decode cL_bells 308 = .ok (.iconst 1, 1) := by decide +kernel
theorem dL_bells_309 : decode cL_bells 309 = .ok (.goto 4, 3) := by decide +kernel
theorem dL_bells_312 : decode cL_bells 312 = .ok (.iconst 0, 1) := by decide +kernel
theorem dL_bells_313 : decode cL_bells 313 = .ok (.ireturn, 1) := by decide +kernel
theorem dL_bells_314 : decode cL_bells 314 = .ok (.aload 7, 2) := by decide +kernel
theorem dL_bells_316 : decode cL_bells 316 = .ok (.bipush 6, 2) := by decide +kernel
theorem dL_bells_318 : decode cL_bells 318 = .ok (.iload 13, 2) := by decide +kernel
theorem dL_bells_320 : decode cL_bells 320 = .ok (.imul, 1) := by decide +kernel
theorem dL_bells_321 : decode cL_bells 321 = .ok (.iload 12, 2) := by decide +kernel
theorem dL_bells_323 : decode cL_bells 323 = .ok (.iadd, 1) := by decide +kernel
theorem dL_bells_324 : decode cL_bells 324 = .ok (.iaload, 1) := by decide +kernel
theorem dL_bells_325 : decode cL_bells 325 = .ok (.istore 14, 2) := by decide +kernel
theorem dL_bells_327 : decode cL_bells 327 = .ok (.aload 7, 2) := by decide +kernel
theorem dL_bells_329 : decode cL_bells 329 = .ok (.bipush 6, 2) := by decide +kernel
theorem dL_bells_331 : decode cL_bells 331 = .ok (.iload 13, 2) := by decide +kernel
theorem dL_bells_333 : decode cL_bells 333 = .ok (.imul, 1) := by decide +kernel
theorem dL_bells_334 : decode cL_bells 334 = .ok (.iload 12, 2) := by decide +kernel
theorem dL_bells_336 : decode cL_bells 336 = .ok (.iadd, 1) := by decide +kernel
theorem dL_bells_337 : decode cL_bells 337 = .ok (.iconst 0, 1) := by decide +kernel
theorem dL_bells_338 : decode cL_bells 338 = .ok (.iastore, 1) := by decide +kernel
theorem dL_bells_339 : decode cL_bells 339 = .ok (.aload 8, 2) := by decide +kernel
theorem dL_bells_341 : decode cL_bells 341 = .ok (.iload 12, 2) := by decide +kernel
theorem dL_bells_343 : decode cL_bells 343 = .ok (.dup2, 1) := by decide +kernel
theorem dL_bells_344 : decode cL_bells 344 = .ok (.iaload, 1) := by decide +kernel
theorem dL_bells_345 : decode cL_bells 345 = .ok (.iconst 2, 1) := by decide +kernel
theorem dL_bells_346 : decode cL_bells 346 = .ok (.iload 13, 2) := by decide +kernel
theorem dL_bells_348 : decode cL_bells 348 = .ok (.ishl, 1) := by decide +kernel
theorem dL_bells_349 : decode cL_bells 349 = .ok (.iconst (-1), 1) := by decide +kernel
theorem dL_bells_350 : decode cL_bells 350 = .ok (.ixor, 1) := by decide +kernel
theorem dL_bells_351 : decode cL_bells 351 = .ok (.iand, 1) := by decide +kernel
theorem dL_bells_352 : decode cL_bells 352 = .ok (.iastore, 1) := by decide +kernel
theorem dL_bells_353 : decode cL_bells 353 = .ok (.aload_n 0, 1) := by decide +kernel
theorem dL_bells_354 : decode cL_bells 354 = .ok (.iload 12, 2) := by decide +kernel
theorem dL_bells_356 : decode cL_bells 356 = .ok (.iload 13, 2) := by decide +kernel
theorem dL_bells_358 : decode cL_bells 358 = .ok (.invokestatic 256, 3) := by decide +kernel
theorem dL_bells_361 : decode cL_bells 361 = .ok (.iload 14, 2) := by decide +kernel
theorem dL_bells_363 : decode cL_bells 363 = .ok (.if_icmp .ne 7, 3) := by decide +kernel
theorem dL_bells_366 : decode cL_bells 366 = .ok (.iconst 1, 1) := by decide +kernel
theorem dL_bells_367 : decode cL_bells 367 = .ok (.goto 4, 3) := by decide +kernel
theorem dL_bells_370 : decode cL_bells 370 = .ok (.iconst 0, 1) := by decide +kernel
theorem dL_bells_371 : decode cL_bells 371 = .ok (.ireturn, 1) := by decide +kernel
theorem dL_bells_372 : decode cL_bells 372 = .ok (.iload_n 1, 1) := by decide +kernel
theorem dL_bells_373 : decode cL_bells 373 = .ok (.iconst 4, 1) := by decide +kernel
theorem dL_bells_374 : decode cL_bells 374 = .ok (.if_icmp .ne 92, 3) := by decide +kernel
theorem dL_bells_377 : decode cL_bells 377 = .ok (.iload_n 2, 1) := by decide +kernel
theorem dL_bells_378 : decode cL_bells 378 = .ok (.iconst 4, 1) := by decide +kernel
theorem dL_bells_379 : decode cL_bells 379 = .ok (.invokestatic 213, 3) := by decide +kernel
theorem dL_bells_382 : decode cL_bells 382 = .ok (.istore 13, 2) := by decide +kernel
theorem dL_bells_384 : decode cL_bells 384 = .ok (.iconst 4, 1) := by decide +kernel
theorem dL_bells_385 : decode cL_bells 385 = .ok (.iload_n 3, 1) := by decide +kernel
theorem dL_bells_386 : decode cL_bells 386 = .ok (.iconst 3, 1) := by decide +kernel
theorem dL_bells_387 : decode cL_bells 387 = .ok (.invokestatic 213, 3) := by decide +kernel
theorem dL_bells_390 : decode cL_bells 390 = .ok (.iadd, 1) := by decide +kernel
theorem dL_bells_391 : decode cL_bells 391 = .ok (.istore 14, 2) := by decide +kernel
theorem dL_bells_393 : decode cL_bells 393 = .ok (.aload 9, 2) := by decide +kernel
theorem dL_bells_395 : decode cL_bells 395 = .ok (.iload 13, 2) := by decide +kernel
theorem dL_bells_397 : decode cL_bells 397 = .ok (.iaload, 1) := by decide +kernel
theorem dL_bells_398 : decode cL_bells 398 = .ok (.istore 15, 2) := by decide +kernel
theorem dL_bells_400 : decode cL_bells 400 = .ok (.aload 9, 2) := by decide +kernel
theorem dL_bells_402 : decode cL_bells 402 = .ok (.iload 13, 2) := by decide +kernel
theorem dL_bells_404 : decode cL_bells 404 = .ok (.iload 14, 2) := by decide +kernel
theorem dL_bells_406 : decode cL_bells 406 = .ok (.iastore, 1) := by decide +kernel
theorem dL_bells_407 : decode cL_bells 407 = .ok (.aload_n 0, 1) := by decide +kernel
theorem dL_bells_408 : decode cL_bells 408 = .ok (.iconst 4, 1) := by decide +kernel
theorem dL_bells_409 : decode cL_bells 409 = .ok (.bipush 7, 2) := by decide +kernel
theorem dL_bells_411 : decode cL_bells 411 = .ok (.invokestatic 258, 3) := by decide +kernel
theorem dL_bells_414 : decode cL_bells 414 = .ok (.sipush (-7100), 3) := by decide +kernel
theorem dL_bells_417 : decode cL_bells 417 = .ok (.if_icmp .ne 47, 3) := by decide +kernel
theorem dL_bells_420 : decode cL_bells 420 = .ok (.aload_n 0, 1) := by decide +kernel
theorem dL_bells_421 : decode cL_bells 421 = .ok (.iload 13, 2) := by decide +kernel
theorem dL_bells_423 : decode cL_bells 423 = .ok (.iconst 3, 1) := by decide +kernel
theorem dL_bells_424 : decode cL_bells 424 = .ok (.invokestatic 258, 3) := by decide +kernel
theorem dL_bells_427 : decode cL_bells 427 = .ok (.sipush (-7200), 3) := by decide +kernel
theorem dL_bells_430 : decode cL_bells 430 = .ok (.if_icmp .ne 34, 3) := by decide +kernel
theorem dL_bells_433 : decode cL_bells 433 = .ok (.aload_n 0, 1) := by decide +kernel
theorem dL_bells_434 : decode cL_bells 434 = .ok (.iload 13, 2) := by decide +kernel
theorem dL_bells_436 : decode cL_bells 436 = .ok (.bipush 7, 2) := by decide +kernel
theorem dL_bells_438 : decode cL_bells 438 = .ok (.invokestatic 258, 3) := by decide +kernel
theorem dL_bells_441 : decode cL_bells 441 = .ok (.sipush (-7200), 3) := by decide +kernel
theorem dL_bells_444 : decode cL_bells 444 = .ok (.if_icmp .ne 20, 3) := by decide +kernel
theorem dL_bells_447 : decode cL_bells 447 = .ok (.aload_n 0, 1) := by decide +kernel
theorem dL_bells_448 : decode cL_bells 448 = .ok (.iload 13, 2) := by decide +kernel
theorem dL_bells_450 : decode cL_bells 450 = .ok (.iload 14, 2) := by decide +kernel
theorem dL_bells_452 : decode cL_bells 452 = .ok (.invokestatic 258, 3) := by decide +kernel
theorem dL_bells_455 : decode cL_bells 455 = .ok (.iload 15, 2) := by decide +kernel
theorem dL_bells_457 : decode cL_bells 457 = .ok (.if_icmp .ne 7, 3) := by decide +kernel
theorem dL_bells_460 : decode cL_bells 460 = .ok (.iconst 1, 1) := by decide +kernel
theorem dL_bells_461 : decode cL_bells 461 = .ok (.goto 4, 3) := by decide +kernel
theorem dL_bells_464 : decode cL_bells 464 = .ok (.iconst 0, 1) := by decide +kernel
theorem dL_bells_465 : decode cL_bells 465 = .ok (.ireturn, 1) := by decide +kernel
theorem dL_bells_466 : decode cL_bells 466 = .ok (.iload_n 1, 1) := by decide +kernel
theorem dL_bells_467 : decode cL_bells 467 = .ok (.bipush 10, 2) := by decide +kernel
theorem dL_bells_469 : decode cL_bells 469 = .ok (.if_icmp .ge 284, 3) := by decide +kernel
theorem dL_bells_472 : decode cL_bells 472 = .ok (.aload 11, 2) := by decide +kernel
theorem dL_bells_474 : decode cL_bells 474 = .ok (.iconst 2, 1) := by decide +kernel
theorem dL_bells_475 : decode cL_bells 475 = .ok (.iaload, 1) := by decide +kernel
theorem dL_bells_476 : decode cL_bells 476 = .ok (.iload_n 3, 1) := by decide +kernel
theorem dL_bells_477 : decode cL_bells 477 = .ok (.bipush 61, 2) := by decide +kernel
theorem dL_bells_479 : decode cL_bells 479 = .ok (.aload 11, 2) := by decide +kernel
theorem dL_bells_481 : decode cL_bells 481 = .ok (.iconst 2, 1) := by decide +kernel
theorem dL_bells_482 : decode cL_bells 482 = .ok (.iaload, 1) := by decide +kernel
theorem dL_bells_483 : decode cL_bells 483 = .ok (.isub, 1) := by decide +kernel
theorem dL_bells_484 : decode cL_bells 484 = .ok (.iconst 4, 1) := by decide +kernel
theorem dL_bells_485 : decode cL_bells 485 = .ok (.if_icmp .ge 13, 3) := by decide +kernel
theorem dL_bells_488 : decode cL_bells 488 = .ok (.bipush 61, 2) := by decide +kernel
theorem dL_bells_490 : decode cL_bells 490 = .ok (.aload 11, 2) := by decide +kernel
theorem dL_bells_492 : decode cL_bells 492 = .ok (.iconst 2, 1) := by decide +kernel
theorem dL_bells_493 : decode cL_bells 493 = .ok (.iaload, 1) := by decide +kernel
theorem dL_bells_494 : decode cL_bells 494 = .ok (.isub, 1) := by decide +kernel
theorem dL_bells_495 : decode cL_bells 495 = .ok (.goto 4, 3) := by decide +kernel
theorem dL_bells_498 : decode cL_bells 498 = .ok (.iconst 4, 1) := by decide +kernel
theorem dL_bells_499 : decode cL_bells 499 = .ok (.invokestatic 213, 3) := by decide +kernel
theorem dL_bells_502 : decode cL_bells 502 = .ok (.iadd, 1) := by decide +kernel
theorem dL_bells_503 : decode cL_bells 503 = .ok (.istore 13, 2) := by decide +kernel
theorem dL_bells_505 : decode cL_bells 505 = .ok (.iload_n 3, 1) := by decide +kernel
theorem dL_bells_506 : decode cL_bells 506 = .ok (.sipush 1536, 3) := by decide +kernel
theorem dL_bells_509 : decode cL_bells 509 = .ok (.iand, 1) := by decide +kernel
theorem dL_bells_510 : decode cL_bells 510 = .ok (.ifCond .le 10, 3) := by decide +kernel
theorem dL_bells_513 : decode cL_bells 513 = .ok (.aload 11, 2) := by decide +kernel
theorem dL_bells_515 : decode cL_bells 515 = .ok (.iconst 2, 1) := by decide +kernel
theorem dL_bells_516 : decode cL_bells 516 = .ok (.iaload, 1) := by decide +kernel
theorem dL_bells_517 : decode cL_bells 517 = .ok (.goto 5, 3) := by decide +kernel
theorem dL_bells_520 : decode cL_bells 520 = .ok (.iload 13, 2) := by decide +kernel
theorem dL_bells_522 : decode cL_bells 522 = .ok (.istore 13, 2) := by decide +kernel
theorem dL_bells_524 : decode cL_bells 524 = .ok (.iload_n 2, 1) := by decide +kernel
theorem dL_bells_525 : decode cL_bells 525 = .ok (.aload 11, 2) := by decide +kernel
theorem dL_bells_527 : decode cL_bells 527 = .ok (.iconst 1, 1) := by decide +kernel
theorem dL_bells_528 : decode cL_bells 528 = .ok (.iaload, 1) := by decide +kernel
theorem dL_bells_529 : decode cL_bells 529 = .ok (.iconst 1, 1) := by decide +kernel
theorem dL_bells_530 : decode cL_bells 530 = .ok (.iadd, 1) := by decide +kernel
theorem dL_bells_531 : decode cL_bells 531 = .ok (.invokestatic 213, 3) := by decide +kernel
theorem dL_bells_534 : decode cL_bells 534 = .ok (.istore 14, 2) := by decide +kernel
theorem dL_bells_536 : decode cL_bells 536 = .ok (.iload 14, 2) := by decide +kernel
theorem dL_bells_538 : decode cL_bells 538 = .ok (.aload 11, 2) := by decide +kernel
theorem dL_bells_540 : decode cL_bells 540 = .ok (.iconst 1, 1) := by decide +kernel
theorem dL_bells_541 : decode cL_bells 541 = .ok (.iaload, 1) := by decide +kernel
theorem dL_bells_542 : decode cL_bells 542 = .ok (.if_icmp .ne 36, 3) := by decide +kernel
theorem dL_bells_545 : decode cL_bells 545 = .ok (.aload_n 0, 1) := by decide +kernel
theorem dL_bells_546 : decode cL_bells 546 = .ok (.bipush 60, 2) := by decide +kernel
theorem dL_bells_548 : decode cL_bells 548 = .ok (.iload 14, 2) := by decide +kernel
theorem dL_bells_550 : decode cL_bells 550 = .ok (.invokestatic 260, 3) := by decide +kernel
theorem dL_bells_553 : decode cL_bells 553 = .ok (.sipush (-7100), 3) := by decide +kernel
theorem dL_bells_556 : decode cL_bells 556 = .ok (.if_icmp .ne 20, 3) := by decide +kernel
theorem dL_bells_559 : decode cL_bells 559 = .ok (.aload_n 0, 1) := by decide +kernel
theorem dL_bells_560 : decode cL_bells 560 = .ok (.bipush 61, 2) := by decide +kernel
theorem dL_bells_562 : decode cL_bells 562 = .ok (.iconst (-1), 1) := by decide +kernel
theorem dL_bells_563 : decode cL_bells 563 = .ok (.invokestatic 260, 3) := by decide +kernel
theorem dL_bells_566 : decode cL_bells 566 = .ok (.sipush (-7100), 3) := by decide +kernel
theorem dL_bells_569 : decode cL_bells 569 = .ok (.if_icmp .ne 7, 3) := by decide +kernel
theorem dL_bells_572 : decode cL_bells 572 = .ok (.iconst 1, 1) := by decide +kernel
theorem dL_bells_573 : decode cL_bells 573 = .ok (.goto 4, 3) := by decide +kernel
theorem dL_bells_576 : decode cL_bells 576 = .ok (.iconst 0, 1) := by decide +kernel
theorem dL_bells_577 : decode cL_bells 577 = .ok (.ireturn, 1) := by decide +kernel
theorem dL_bells_578 : decode cL_bells 578 = .ok (.aload_n 0, 1) := by decide +kernel
theorem dL_bells_579 : decode cL_bells 579 = .ok (.bipush 61, 2) := by decide +kernel
theorem dL_bells_581 : decode cL_bells 581 = .ok (.iload 14, 2) := by decide +kernel
theorem dL_bells_583 : decode cL_bells 583 = .ok (.invokestatic 260, 3) := by decide +kernel
theorem dL_bells_586 : decode cL_bells 586 = .ok (.sipush (-7200), 3) := by decide +kernel
theorem dL_bells_589 : decode cL_bells 589 = .ok (.if_icmp .ne 21, 3) := by decide +kernel
theorem dL_bells_592 : decode cL_bells 592 = .ok (.aload_n 0, 1) := by decide +kernel
theorem dL_bells_593 : decode cL_bells 593 = .ok (.aload 11, 2) := by decide +kernel
theorem dL_bells_595 : decode cL_bells 595 = .ok (.iconst 2, 1) := by decide +kernel
theorem dL_bells_596 : decode cL_bells 596 = .ok (.iaload, 1) := by decide +kernel
theorem dL_bells_597 : decode cL_bells 597 = .ok (.iconst 1, 1) := by decide +kernel
theorem dL_bells_598 : decode cL_bells 598 = .ok (.isub, 1) := by decide +kernel
theorem dL_bells_599 : decode cL_bells 599 = .ok (.iload 14, 2) := by decide +kernel
theorem dL_bells_601 : decode cL_bells 601 = .ok (.invokestatic 260, 3) := by decide +kernel
theorem dL_bells_604 : decode cL_bells 604 = .ok (.sipush (-7200), 3) := by decide +kernel
theorem dL_bells_607 : decode cL_bells 607 = .ok (.if_icmp .eq 5, 3) := by decide +kernel
theorem dL_bells_610 : decode cL_bells 610 = .ok (.iconst 0, 1) := by decide +kernel
theorem dL_bells_611 : decode cL_bells 611 = .ok (.ireturn, 1) := by decide +kernel
theorem dL_bells_612 : decode cL_bells 612 = .ok (.aload 6, 2) := by decide +kernel
theorem dL_bells_614 : decode cL_bells 614 = .ok (.iload 13, 2) := by decide +kernel
theorem dL_bells_616 : decode cL_bells 616 = .ok (.iaload, 1) := by decide +kernel
theorem dL_bells_617 : decode cL_bells 617 = .ok (.bipush 7, 2) := by decide +kernel
theorem dL_bells_619 : decode cL_bells 619 = .ok (.iand, 1) := by decide +kernel
theorem dL_bells_620 : decode cL_bells 620 = .ok (.iconst 4, 1) := by decide +kernel
theorem dL_bells_621 : decode cL_bells 621 = .ok (.if_icmp .eq 47, 3) := by decide +kernel
theorem dL_bells_624 : decode cL_bells 624 = .ok (.aload 6, 2) := by decide +kernel
theorem dL_bells_626 : decode cL_bells 626 = .ok (.iload 13, 2) := by decide +kernel
theorem dL_bells_628 : decode cL_bells 628 = .ok (.iload 14, 2) := by decide +kernel
theorem dL_bells_630 : decode cL_bells 630 = .ok (.invokestatic 209, 3) := by decide +kernel
theorem dL_bells_633 : decode cL_bells 633 = .ok (.ifCond .ge 35, 3) := by decide +kernel
theorem dL_bells_636 : decode cL_bells 636 = .ok (.aload 4, 2) := by decide +kernel
theorem dL_bells_638 : decode cL_bells 638 = .ok (.aload 5, 2) := by decide +kernel
theorem dL_bells_640 : decode cL_bells 640 = .ok (.iload 14, 2) := by decide +kernel
theorem dL_bells_642 : decode cL_bells 642 = .ok (.iaload, 1) := by decide +kernel
theorem dL_bells_643 : decode cL_bells 643 = .ok (.aload 10, 2) := by decide +kernel
theorem dL_bells_645 : decode cL_bells 645 = .ok (.invokestatic 184, 3) := by decide +kernel
theorem dL_bells_648 : decode cL_bells 648 = .ok (.ifCond .eq 20, 3) := by decide +kernel
theorem dL_bells_651 : decode cL_bells 651 = .ok (.aload 8, 2) := by decide +kernel
theorem dL_bells_653 : decode cL_bells 653 = .ok (.aload 4, 2) := by decide +kernel
theorem dL_bells_655 : decode cL_bells 655 = .ok (.aload 5, 2) := by decide +kernel
theorem dL_bells_657 : decode cL_bells 657 = .ok (.iload 14, 2) := by decide +kernel
theorem dL_bells_659 : decode cL_bells 659 = .ok (.invokestatic 176, 3) := by decide +kernel
theorem dL_bells_662 : decode cL_bells 662 = .ok (.invokestatic 180, 3) := by decide +kernel
theorem dL_bells_665 : decode cL_bells 665 = .ok (.ifCond .ne 23, 3) := by decide +kernel
theorem dL_bells_668 : decode cL_bells 668 = .ok (.aload_n 0, 1) := by decide +kernel
theorem dL_bells_669 : decode cL_bells 669 = .ok (.iload 13, 2) := by decide +kernel
theorem dL_bells_671 : decode cL_bells 671 = .ok (.iload 14, 2) := by decide +kernel
theorem dL_bells_673 : decode cL_bells 673 = .ok (.invokestatic 260, 3) := by decide +kernel
theorem dL_bells_676 : decode cL_bells 676 = .ok (.sipush (-7300), 3) := by decide +kernel
theorem dL_bells_679 : decode cL_bells 679 = .ok (.if_icmp .ne 7, 3) := by decide +kernel
theorem dL_bells_682 : decode cL_bells 682 = .ok (.iconst 1, 1) := by decide +kernel
theorem dL_bells_683 : decode cL_bells 683 = .ok (.goto 4, 3) := by decide +kernel
theorem dL_bells_686 : decode cL_bells 686 = .ok (.iconst 0, 1) := by decide +kernel
theorem dL_bells_687 : decode cL_bells 687 = .ok (.ireturn, 1) := by decide +kernel
theorem dL_bells_688 : decode cL_bells 688 = .ok (.aload 6, 2) := by decide +kernel
theorem dL_bells_690 : decode cL_bells 690 = .ok (.iload 13, 2) := by decide +kernel
theorem dL_bells_692 : decode cL_bells 692 = .ok (.aload 6, 2) := by decide +kernel
theorem dL_bells_694 : decode cL_bells 694 = .ok (.iload 13, 2) := by decide +kernel
theorem dL_bells_696 : decode cL_bells 696 = .ok (.iaload, 1) := by decide +kernel
theorem dL_bells_697 : decode cL_bells 697 = .ok (.bipush 7, 2) := by decide +kernel
theorem dL_bells_699 : decode cL_bells 699 = .ok (.iand, 1) := by decide +kernel
theorem dL_bells_700 : decode cL_bells 700 = .ok (.iconst 1, 1) := by decide +kernel
theorem dL_bells_701 : decode cL_bells 701 = .ok (.iadd, 1) := by decide +kernel
theorem dL_bells_702 : decode cL_bells 702 = .ok (.bipush 8, 2) := by decide +kernel
theorem dL_bells_704 : decode cL_bells 704 = .ok (.aload 6, 2) := by decide +kernel
theorem dL_bells_706 : decode cL_bells 706 = .ok (.iload 13, 2) := by decide +kernel
theorem dL_bells_708 : decode cL_bells 708 = .ok (.iaload, 1) := by decide +kernel
theorem dL_bells_709 : decode cL_bells 709 = .ok (.iconst 3, 1) := by decide +kernel
theorem dL_bells_710 : decode cL_bells 710 = .ok (.ishr, 1) := by decide +kernel
theorem dL_bells_711 : decode cL_bells 711 = .ok (.iload 14, 2) := by decide +kernel
theorem dL_bells_713 : decode cL_bells 713 = .ok (.iconst 2, 1) := by decide +kernel
theorem dL_bells_714 : decode cL_bells 714 = .ok (.aload 6, 2) := by decide +kernel
theorem dL_bells_716 : decode cL_bells 716 = .ok (.iload 13, 2) := by decide +kernel
theorem dL_bells_718 : decode cL_bells 718 = .ok (.iaload, 1) := by decide +kernel
theorem dL_bells_719 : decode cL_bells 719 = .ok (.bipush 7, 2) := by decide +kernel
theorem dL_bells_721 : decode cL_bells 721 = .ok (.iand, 1) := by decide +kernel
theorem dL_bells_722 : decode cL_bells 722 = .ok (.imul, 1) := by decide +kernel
theorem dL_bells_723 : decode cL_bells 723 = .ok (.ishl, 1) := by decide +kernel
theorem dL_bells_724 : decode cL_bells 724 = .ok (.ior, 1) := by decide +kernel
theorem dL_bells_725 : decode cL_bells 725 = .ok (.imul, 1) := by decide +kernel
theorem dL_bells_726 : decode cL_bells 726 = .ok (.iadd, 1) := by decide +kernel
theorem dL_bells_727 : decode cL_bells 727 = .ok (.iastore, 1) := by decide +kernel
theorem dL_bells_728 : decode cL_bells 728 = .ok (.aload_n 0, 1) := by decide +kernel
theorem dL_bells_729 : decode cL_bells 729 = .ok (.iload 13, 2) := by decide +kernel
theorem dL_bells_731 : decode cL_bells 731 = .ok (.iload 14, 2) := by decide +kernel
theorem dL_bells_733 : decode cL_bells 733 = .ok (.invokestatic 260, 3) := by decide +kernel
theorem dL_bells_736 : decode cL_bells 736 = .ok (.aload 6, 2) := by decide +kernel
theorem dL_bells_738 : decode cL_bells 738 = .ok (.iload 13, 2) := by decide +kernel
theorem dL_bells_740 : decode cL_bells 740 = .ok (.iaload, 1) := by decide +kernel
theorem dL_bells_741 : decode cL_bells 741 = .ok (.bipush 7, 2) := by decide +kernel
theorem dL_bells_743 : decode cL_bells 743 = .ok (.iand, 1) := by decide +kernel
theorem dL_bells_744 : decode cL_bells 744 = .ok (.if_icmp .ne 7, 3) := by decide +kernel
theorem dL_bells_747 : decode cL_bells 747 = .ok (.iconst 1, 1) := by decide +kernel
theorem dL_bells_748 : decode cL_bells 748 = .ok (.goto 4, 3) := by decide +kernel
theorem dL_bells_751 : decode cL_bells 751 = .ok (.iconst 0, 1) := by decide +kernel
theorem dL_bells_752 : decode cL_bells 752 = .ok (.ireturn, 1) := by decide +kernel
theorem dL_bells_753 : decode cL_bells 753 = .ok (.aload 11, 2) := by decide +kernel
theorem dL_bells_755 : decode cL_bells 755 = .ok (.bipush 6, 2) := by decide +kernel
theorem dL_bells_757 : decode cL_bells 757 = .ok (.iaload, 1) := by decide +kernel
theorem dL_bells_758 : decode cL_bells 758 = .ok (.iconst 1, 1) := by decide +kernel
theorem dL_bells_759 : decode cL_bells 759 = .ok (.if_icmp .eq 12, 3) := by decide +kernel
theorem dL_bells_762 : decode cL_bells 762 = .ok (.aload 11, 2) := by decide +kernel
theorem dL_bells_764 : decode cL_bells 764 = .ok (.iconst 2, 1) := by decide +kernel
theorem dL_bells_765 : decode cL_bells 765 = .ok (.iaload, 1) := by decide +kernel
theorem dL_bells_766 : decode cL_bells 766 = .ok (.bipush 60, 2) := by decide +kernel
theorem dL_bells_768 : decode cL_bells 768 = .ok (.if_icmp .ne 19, 3) := by decide +kernel
theorem dL_bells_771 : decode cL_bells 771 = .ok (.aload_n 0, 1) := by decide +kernel
theorem dL_bells_772 : decode cL_bells 772 = .ok (.invokestatic 262, 3) := by decide +kernel
theorem dL_bells_775 : decode cL_bells 775 = .ok (.sipush (-7300), 3) := by decide +kernel
theorem dL_bells_778 : decode cL_bells 778 = .ok (.if_icmp .ne 7, 3) := by decide +kernel
theorem dL_bells_781 : decode cL_bells 781 = .ok (.iconst 1, 1) := by decide +kernel
theorem dL_bells_782 : decode cL_bells 782 = .ok (.goto 4, 3) := by decide +kernel
theorem dL_bells_785 : decode cL_bells 785 = .ok (.iconst 0, 1) := by decide +kernel
theorem dL_bells_786 : decode cL_bells 786 = .ok (.ireturn, 1) := by decide +kernel
theorem dL_bells_787 : decode cL_bells 787 = .ok (.aload 4, 2) := by decide +kernel
theorem dL_bells_789 : decode cL_bells 789 = .ok (.aload 5, 2) := by decide +kernel
theorem dL_bells_791 : decode cL_bells 791 = .ok (.aload 6, 2) := by decide +kernel
theorem dL_bells_793 : decode cL_bells 793 = .ok (.aload 9, 2) := by decide +kernel
theorem dL_bells_795 : decode cL_bells 795 = .ok (.aload 11, 2) := by decide +kernel
theorem dL_bells_797 : decode cL_bells 797 = .ok (.aload 11, 2) := by decide +kernel
theorem dL_bells_799 : decode cL_bells 799 = .ok (.iconst 2, 1) := by decide +kernel
theorem dL_bells_800 : decode cL_bells 800 = .ok (.iaload, 1) := by decide +kernel
theorem dL_bells_801 : decode cL_bells 801 = .ok (.invokestatic 264, 3) := by decide +kernel
theorem dL_bells_804 : decode cL_bells 804 = .ok (.istore 13, 2) := by decide +kernel
theorem dL_bells_806 : decode cL_bells 806 = .ok (.aload 11, 2) := by decide +kernel
theorem dL_bells_808 : decode cL_bells 808 = .ok (.iconst 4, 1) := by decide +kernel
theorem dL_bells_809 : decode cL_bells 809 = .ok (.iload 13, 2) := by decide +kernel
theorem dL_bells_811 : decode cL_bells 811 = .ok (.ifCond .ge 10, 3) := by decide +kernel
theorem dL_bells_814 : decode cL_bells 814 = .ok (.aload 11, 2) := by decide +kernel
theorem dL_bells_816 : decode cL_bells 816 = .ok (.iconst 4, 1) := by decide +kernel
theorem dL_bells_817 : decode cL_bells 817 = .ok (.iaload, 1) := by decide +kernel
theorem dL_bells_818 : decode cL_bells 818 = .ok (.goto 9, 3) := by decide +kernel
theorem dL_bells_821 : decode cL_bells 821 = .ok (.iload 13, 2) := by decide +kernel
theorem dL_bells_823 : decode cL_bells 823 = .ok (.iconst 1, 1) := by decide +kernel
theorem dL_bells_824 : decode cL_bells 824 = .ok (.iadd, 1) := by decide +kernel
theorem dL_bells_825 : decode cL_bells 825 = .ok (.iconst 4, 1) := by decide +kernel
theorem dL_bells_826 : decode cL_bells 826 = .ok (.irem, 1) := by decide +kernel
theorem dL_bells_827 : decode cL_bells 827 = .ok (.iastore, 1) := by decide +kernel
theorem dL_bells_828 : decode cL_bells 828 = .ok (.aload 11, 2) := by decide +kernel
theorem dL_bells_830 : decode cL_bells 830 = .ok (.iconst 5, 1) := by decide +kernel
theorem dL_bells_831 : decode cL_bells 831 = .ok (.iconst 0, 1) := by decide +kernel
theorem dL_bells_832 : decode cL_bells 832 = .ok (.iastore, 1) := by decide +kernel
theorem dL_bells_833 : decode cL_bells 833 = .ok (.aload 6, 2) := by decide +kernel
theorem dL_bells_835 : decode cL_bells 835 = .ok (.aload 11, 2) := by decide +kernel
theorem dL_bells_837 : decode cL_bells 837 = .ok (.iconst 2, 1) := by decide +kernel
theorem dL_bells_838 : decode cL_bells 838 = .ok (.iaload, 1) := by decide +kernel
theorem dL_bells_839 : decode cL_bells 839 = .ok (.iconst 0, 1) := by decide +kernel
theorem dL_bells_840 : decode cL_bells 840 = .ok (.iastore, 1) := by decide +kernel
theorem dL_bells_841 : decode cL_bells 841 = .ok (.aload 11, 2) := by decide +kernel
theorem dL_bells_843 : decode cL_bells 843 = .ok (.iconst 2, 1) := by decide +kernel
theorem dL_bells_844 : decode cL_bells 844 = .ok (.dup2, 1) := by decide +kernel
theorem dL_bells_845 : decode cL_bells 845 = .ok (.iaload, 1) := by decide +kernel
theorem dL_bells_846 : decode cL_bells 846 = .ok (.iconst 1, 1) := by decide +kernel
theorem dL_bells_847 : decode cL_bells 847 = .ok (.iadd, 1) := by decide +kernel
theorem dL_bells_848 : decode cL_bells 848 = .ok (.iastore, 1) := by decide +kernel
theorem dL_bells_849 : decode cL_bells 849 = .ok (.aload_n 0, 1) := by decide +kernel
theorem dL_bells_850 : decode cL_bells 850 = .ok (.invokestatic 262, 3) := by decide +kernel
theorem dL_bells_853 : decode cL_bells 853 = .ok (.aload 11, 2) := by decide +kernel
theorem dL_bells_855 : decode cL_bells 855 = .ok (.iconst 2, 1) := by decide +kernel
theorem dL_bells_856 : decode cL_bells 856 = .ok (.iaload, 1) := by decide +kernel
theorem dL_bells_857 : decode cL_bells 857 = .ok (.if_icmp .ne 7, 3) := by decide +kernel
theorem dL_bells_860 : decode cL_bells 860 = .ok (.iconst 1, 1) := by decide +kernel
theorem dL_bells_861 : decode cL_bells 861 = .ok (.goto 4, 3) := by decide +kernel
theorem dL_bells_864 : decode cL_bells 864 = .ok (.iconst 0, 1) := by decide +kernel
theorem dL_bells_865 : decode cL_bells 865 = .ok (.ireturn, 1) := by decide +kernel
theorem dL_place_0 : decode cL_place 0 = .ok (.iload_n 0, 1) := by decide +kernel
theorem dL_place_1 : decode cL_place 1 = .ok (.iconst 3, 1) := by decide +kernel
theorem dL_place_2 : decode cL_place 2 = .ok (.iload_n 1, 1) := by decide +kernel
theorem dL_place_3 : decode cL_place 3 = .ok (.imul, 1) := by decide +kernel
theorem dL_place_4 : decode cL_place 4 = .ok (.ishr, 1) := by decide +kernel
theorem dL_place_5 : decode cL_place 5 = .ok (.bipush 7, 2) := by decide +kernel
theorem dL_place_7 : decode cL_place 7 = .ok (.iand, 1) := by decide +kernel
theorem dL_place_8 : decode cL_place 8 = .ok (.ireturn, 1) := by decide +kernel
theorem dL_rings_0 : decode cL_rings 0 = .ok (.iload_n 1, 1) := by decide +kernel
theorem dL_rings_1 : decode cL_rings 1 = .ok (.iconst 4, 1) := by decide +kernel
theorem dL_rings_2 : decode cL_rings 2 = .ok (.if_icmp .ge 396, 3) := by decide +kernel
theorem dL_rings_5 : decode cL_rings 5 = .ok (.aload 14, 2) := by decide +kernel
theorem dL_rings_7 : decode cL_rings 7 = .ok (.bipush 6, 2) := by decide +kernel
theorem dL_rings_9 : decode cL_rings 9 = .ok (.iaload, 1) := by decide +kernel
theorem dL_rings_10 : decode cL_rings 10 = .ok (.ifCond .ne 388, 3) := by decide +kernel
theorem dL_rings_13 : decode cL_rings 13 = .ok (.iload_n 2, 1) := by decide +kernel
theorem dL_rings_14 : decode cL_rings 14 = .ok (.aload 14, 2) := by decide +kernel
theorem dL_rings_16 : decode cL_rings 16 = .ok (.iconst 1, 1) := by decide +kernel
theorem dL_rings_17 : decode cL_rings 17 = .ok (.iaload, 1) := by decide +kernel
theorem dL_rings_18 : decode cL_rings 18 = .ok (.iconst 1, 1) := by decide +kernel
theorem dL_rings_19 : decode cL_rings 19 = .ok (.iadd, 1) := by decide +kernel
theorem dL_rings_20 : decode cL_rings 20 = .ok (.invokestatic 213, 3) := by decide +kernel
theorem dL_rings_23 : decode cL_rings 23 = .ok (.istore 15, 2) := by decide +kernel
theorem dL_rings_25 : decode cL_rings 25 = .ok (.iload 15, 2) := by decide +kernel
theorem dL_rings_27 : decode cL_rings 27 = .ok (.aload 14, 2) := by decide +kernel
theorem dL_rings_29 : decode cL_rings 29 = .ok (.iconst 1, 1) := by decide +kernel
theorem dL_rings_30 : decode cL_rings 30 = .ok (.iaload, 1) := by decide +kernel
theorem dL_rings_31 : decode cL_rings 31 = .ok (.if_icmp .ne 33, 3) := by decide +kernel
theorem dL_rings_34 : decode cL_rings 34 = .ok (.aload_n 0, 1) := by decide +kernel
theorem dL_rings_35 : decode cL_rings 35 = .ok (.iload 15, 2) := by decide +kernel
theorem dL_rings_37 : decode cL_rings 37 = .ok (.iconst (-1), 1) := by decide +kernel
theorem dL_rings_38 : decode cL_rings 38 = .ok (.iconst 0, 1) := by decide +kernel
theorem dL_rings_39 : decode cL_rings 39 = .ok (.invokestatic 268, 3) := by decide +kernel
theorem dL_rings_42 : decode cL_rings 42 = .ok (.sipush (-7100), 3) := by decide +kernel
theorem dL_rings_45 : decode cL_rings 45 = .ok (.if_icmp .ne 17, 3) := by decide +kernel
theorem dL_rings_48 : decode cL_rings 48 = .ok (.aload_n 0, 1) := by decide +kernel
theorem dL_rings_49 : decode cL_rings 49 = .ok (.invokestatic 270, 3) := by decide +kernel
theorem dL_rings_52 : decode cL_rings 52 = .ok (.sipush (-7300), 3) := by decide +kernel
theorem dL_rings_55 : decode cL_rings 55 = .ok (.if_icmp .ne 7, 3) := by decide +kernel
theorem dL_rings_58 : decode cL_rings 58 = .ok (.iconst 1, 1) := by decide +kernel
theorem dL_rings_59 : decode cL_rings 59 = .ok (.goto 4, 3) := by decide +kernel
theorem dL_rings_62 : decode cL_rings 62 = .ok (.iconst 0, 1) := by decide +kernel
theorem dL_rings_63 : decode cL_rings 63 = .ok (.ireturn, 1) := by decide +kernel
theorem dL_rings_64 : decode cL_rings 64 = .ok (.aload 4, 2) := by decide +kernel
theorem dL_rings_66 : decode cL_rings 66 = .ok (.aload 5, 2) := by decide +kernel
theorem dL_rings_68 : decode cL_rings 68 = .ok (.iload 15, 2) := by decide +kernel
theorem dL_rings_70 : decode cL_rings 70 = .ok (.invokestatic 176, 3) := by decide +kernel
theorem dL_rings_73 : decode cL_rings 73 = .ok (.istore 16, 2) := by decide +kernel
theorem dL_rings_75 : decode cL_rings 75 = .ok (.iload_n 3, 1) := by decide +kernel
theorem dL_rings_76 : decode cL_rings 76 = .ok (.sipush 768, 3) := by decide +kernel
theorem dL_rings_79 : decode cL_rings 79 = .ok (.iand, 1) := by decide +kernel
theorem dL_rings_80 : decode cL_rings 80 = .ok (.ifCond .ne 7, 3) := by decide +kernel
theorem dL_rings_83 : decode cL_rings 83 = .ok (.iconst 0, 1) := by decide +kernel
theorem dL_rings_84 : decode cL_rings 84 = .ok (.goto 26, 3) := by decide +kernel
theorem dL_rings_87 : decode cL_rings 87 = .ok (.iload_n 3, 1) := by decide +kernel
theorem dL_rings_88 : decode cL_rings 88 = .ok (.sipush 1024, 3) := by decide +kernel
theorem dL_rings_91 : decode cL_rings 91 = .ok (.iand, 1) := by decide +kernel
theorem dL_rings_92 : decode cL_rings 92 = .ok (.ifCond .le 17, 3) := by decide +kernel
theorem dL_rings_95 : decode cL_rings 95 = .ok (.iconst 1, 1) := by decide +kernel
theorem dL_rings_96 : decode cL_rings 96 = .ok (.iload_n 3, 1) := by decide +kernel
theorem dL_rings_97 : decode cL_rings 97 = .ok (.bipush 11, 2) := by decide +kernel
theorem dL_rings_99 : decode cL_rings 99 = .ok (.ishr, 1) := by decide +kernel
theorem dL_rings_100 : decode cL_rings 100 = .ok (.iload 16, 2) := by decide +kernel
theorem dL_rings_102 : decode cL_rings 102 = .ok (.invokestatic 213, 3) := by decide +kernel
theorem dL_rings_105 : decode cL_rings 105 = .ok (.ishl, 1) := by decide +kernel
theorem dL_rings_106 : decode cL_rings 106 = .ok (.goto 4, 3) := by decide +kernel
theorem dL_rings_109 : decode cL_rings 109 = .ok (.iconst 3, 1) := by decide +kernel
theorem dL_rings_110 : decode cL_rings 110 = .ok (.istore 17, 2) := by decide +kernel
theorem dL_rings_112 : decode cL_rings 112 = .ok (.iload_n 2, 1) := by decide +kernel
theorem dL_rings_113 : decode cL_rings 113 = .ok (.bipush 96, 2) := by decide +kernel
theorem dL_rings_115 : decode cL_rings 115 = .ok (.iand, 1) := by decide +kernel
theorem dL_rings_116 : decode cL_rings 116 = .ok (.ifCond .ne 19, 3) := by decide +kernel
theorem dL_rings_119 : decode cL_rings 119 = .ok (.bipush 100, 2) := by decide +kernel
theorem dL_rings_121 : decode cL_rings 121 = .ok (.iload_n 2, 1) := by decide +kernel
theorem dL_rings_122 : decode cL_rings 122 = .ok (.bipush 7, 2) := by decide +kernel
theorem dL_rings_124 : decode cL_rings 124 = .ok (.ishr, 1) := by decide +kernel
theorem dL_rings_125 : decode cL_rings 125 = .ok (.sipush 901, 3) := by decide +kernel
theorem dL_rings_128 : decode cL_rings 128 = .ok (.invokestatic 213, 3) := by decide +kernel
theorem dL_rings_131 : decode cL_rings 131 = .ok (.iadd, 1) := by decide +kernel
theorem dL_rings_132 : decode cL_rings 132 = .ok (.goto 6, 3) := by decide +kernel
theorem dL_rings_135 : decode cL_rings 135 = .ok (.sipush 200, 3) := by decide +kernel
theorem dL_rings_138 : decode cL_rings 138 = .ok (.istore 18, 2) := by decide +kernel
theorem dL_rings_140 : decode cL_rings 140 = .ok (.aload_n 0, 1) := by decide +kernel
theorem dL_rings_141 : decode cL_rings 141 = .ok (.iload 15, 2) := by decide +kernel
theorem dL_rings_143 : decode cL_rings 143 = .ok (.iconst 1, 1) := by decide +kernel
theorem dL_rings_144 : decode cL_rings 144 = .ok (.iload 16, 2) := by decide +kernel
theorem dL_rings_146 : decode cL_rings 146 = .ok (.ishl, 1) := by decide +kernel
theorem dL_rings_147 : decode cL_rings 147 = .ok (.iload 18, 2) := by decide +kernel
theorem dL_rings_149 : decode cL_rings 149 = .ok (.invokestatic 268, 3) := by decide +kernel
theorem dL_rings_152 : decode cL_rings 152 = .ok (.sipush (-7200), 3) := by decide +kernel
theorem dL_rings_155 : decode cL_rings 155 = .ok (.if_icmp .ne 49, 3) := by decide +kernel
theorem dL_rings_158 : decode cL_rings 158 = .ok (.aload_n 0, 1) := by decide +kernel
theorem dL_rings_159 : decode cL_rings 159 = .ok (.iload 15, 2) := by decide +kernel
theorem dL_rings_161 : decode cL_rings 161 = .ok (.iconst (-1), 1) := by decide +kernel
theorem dL_rings_162 : decode cL_rings 162 = .ok (.iload 18, 2) := by decide +kernel
theorem dL_rings_164 : decode cL_rings 164 = .ok (.invokestatic 268, 3) := by decide +kernel
theorem dL_rings_167 : decode cL_rings 167 = .ok (.sipush (-7200), 3) := by decide +kernel
theorem dL_rings_170 : decode cL_rings 170 = .ok (.if_icmp .ne 34, 3) := by decide +kernel
theorem dL_rings_173 : decode cL_rings 173 = .ok (.aload_n 0, 1) := by decide +kernel
theorem dL_rings_174 : decode cL_rings 174 = .ok (.iload 15, 2) := by decide +kernel
theorem dL_rings_176 : decode cL_rings 176 = .ok (.iconst 0, 1) := by decide +kernel
theorem dL_rings_177 : decode cL_rings 177 = .ok (.bipush 99, 2) := by decide +kernel
theorem dL_rings_179 : decode cL_rings 179 = .ok (.invokestatic 268, 3) := by decide +kernel
theorem dL_rings_182 : decode cL_rings 182 = .ok (.sipush (-7200), 3) := by decide +kernel
theorem dL_rings_185 : decode cL_rings 185 = .ok (.if_icmp .ne 19, 3) := by decide +kernel
theorem dL_rings_188 : decode cL_rings 188 = .ok (.aload_n 0, 1) := by decide +kernel
theorem dL_rings_189 : decode cL_rings 189 = .ok (.iload 15, 2) := by decide +kernel
theorem dL_rings_191 : decode cL_rings 191 = .ok (.iconst 0, 1) := by decide +kernel
theorem dL_rings_192 : decode cL_rings 192 = .ok (.sipush 1001, 3) := by decide +kernel
theorem dL_rings_195 : decode cL_rings 195 = .ok (.invokestatic 268, 3) := by decide +kernel
theorem dL_rings_198 : decode cL_rings 198 = .ok (.sipush (-7200), 3) := by decide +kernel
theorem dL_rings_201 : decode cL_rings 201 = .ok (.if_icmp .eq 5, 3) := by decide +kernel
theorem dL_rings_204 : decode cL_rings 204 = .ok (.iconst 0, 1) := by decide +kernel
theorem dL_rings_205 : decode cL_rings 205 = .ok (.ireturn, 1) := by decide +kernel
theorem dL_rings_206 : decode cL_rings 206 = .ok (.aload 4, 2) := by decide +kernel
theorem dL_rings_208 : decode cL_rings 208 = .ok (.aload 5, 2) := by decide +kernel
theorem dL_rings_210 : decode cL_rings 210 = .ok (.aload 6, 2) := by decide +kernel
theorem dL_rings_212 : decode cL_rings 212 = .ok (.aload 9, 2) := by decide +kernel
theorem dL_rings_214 : decode cL_rings 214 = .ok (.aload 14, 2) := by decide +kernel
theorem dL_rings_216 : decode cL_rings 216 = .ok (.aload 14, 2) := by decide +kernel
theorem dL_rings_218 : decode cL_rings 218 = .ok (.iconst 2, 1) := by decide +kernel
theorem dL_rings_219 : decode cL_rings 219 = .ok (.iaload, 1) := by decide +kernel
theorem dL_rings_220 : decode cL_rings 220 = .ok (.invokestatic 264, 3) := by decide +kernel
theorem dL_rings_223 : decode cL_rings 223 = .ok (.istore 19, 2) := by decide +kernel
theorem dL_rings_225 : decode cL_rings 225 = .ok (.aload 6, 2) := by decide +kernel
theorem dL_rings_227 : decode cL_rings 227 = .ok (.aload 14, 2) := by decide +kernel
theorem dL_rings_229 : decode cL_rings 229 = .ok (.iconst 2, 1) := by decide +kernel
theorem dL_rings_230 : decode cL_rings 230 = .ok (.iaload, 1) := by decide +kernel
theorem dL_rings_231 : decode cL_rings 231 = .ok (.iload 15, 2) := by decide +kernel
theorem dL_rings_233 : decode cL_rings 233 = .ok (.invokestatic 209, 3) := by decide +kernel
theorem dL_rings_236 : decode cL_rings 236 = .ok (.ifCond .lt 30, 3) := by decide +kernel
theorem dL_rings_239 : decode cL_rings 239 = .ok (.aload 14, 2) := by decide +kernel
theorem dL_rings_241 : decode cL_rings 241 = .ok (.bipush 15, 2) := by decide +kernel
theorem dL_rings_243 : decode cL_rings 243 = .ok (.iaload, 1) := by decide +kernel
theorem dL_rings_244 : decode cL_rings 244 = .ok (.iload 15, 2) := by decide +kernel
theorem dL_rings_246 : decode cL_rings 246 = .ok (.iconst 1, 1) := by decide +kernel
theorem dL_rings_247 : decode cL_rings 247 = .ok (.iadd, 1) := by decide +kernel
theorem dL_rings_248 : decode cL_rings 248 = .ok (.if_icmp .eq 18, 3) := by decide +kernel
theorem dL_rings_251 : decode cL_rings 251 = .ok (.iload 19, 2) := by decide +kernel
theorem dL_rings_253 : decode cL_rings 253 = .ok (.ifCond .lt 13, 3) := by decide +kernel
theorem dL_rings_256 : decode cL_rings 256 = .ok (.aload 9, 2) := by decide +kernel
theorem dL_rings_258 : decode cL_rings 258 = .ok (.iload 19, 2) := by decide +kernel
theorem dL_rings_260 : decode cL_rings 260 = .ok (.iaload, 1) := by decide +kernel
theorem dL_rings_261 : decode cL_rings 261 = .ok (.iload 16, 2) := by decide +kernel
theorem dL_rings_263 : decode cL_rings 263 = .ok (.if_icmp .ge 25, 3) := by decide +kernel
theorem dL_rings_266 : decode cL_rings 266 = .ok (.aload_n 0, 1) := by decide +kernel
theorem dL_rings_267 : decode cL_rings 267 = .ok (.iload 15, 2) := by decide +kernel
theorem dL_rings_269 : decode cL_rings 269 = .ok (.iload 17, 2) := by decide +kernel
theorem dL_rings_271 : decode cL_rings 271 = .ok (.iload 18, 2) := by decide +kernel
theorem dL_rings_273 : decode cL_rings 273 = .ok (.invokestatic 268, 3) := by decide +kernel
theorem dL_rings_276 : decode cL_rings 276 = .ok (.sipush (-7300), 3) := by decide +kernel
theorem dL_rings_279 : decode cL_rings 279 = .ok (.if_icmp .ne 7, 3) := by decide +kernel
theorem dL_rings_282 : decode cL_rings 282 = .ok (.iconst 1, 1) := by decide +kernel
theorem dL_rings_283 : decode cL_rings 283 = .ok (.goto 4, 3) := by decide +kernel
theorem dL_rings_286 : decode cL_rings 286 = .ok (.iconst 0, 1) := by decide +kernel
theorem dL_rings_287 : decode cL_rings 287 = .ok (.ireturn, 1) := by decide +kernel
theorem dL_rings_288 : decode cL_rings 288 = .ok (.aload 14, 2) := by decide +kernel
theorem dL_rings_290 : decode cL_rings 290 = .ok (.iconst 5, 1) := by decide +kernel
theorem dL_rings_291 : decode cL_rings 291 = .ok (.iload 19, 2) := by decide +kernel
theorem dL_rings_293 : decode cL_rings 293 = .ok (.iconst 1, 1) := by decide +kernel
theorem dL_rings_294 : decode cL_rings 294 = .ok (.iadd, 1) := by decide +kernel
theorem dL_rings_295 : decode cL_rings 295 = .ok (.iastore, 1) := by decide +kernel
theorem dL_rings_296 : decode cL_rings 296 = .ok (.aload 14, 2) := by decide +kernel
theorem dL_rings_298 : decode cL_rings 298 = .ok (.bipush 6, 2) := by decide +kernel
theorem dL_rings_300 : decode cL_rings 300 = .ok (.iconst 1, 1) := by decide +kernel
theorem dL_rings_301 : decode cL_rings 301 = .ok (.iastore, 1) := by decide +kernel
theorem dL_rings_302 : decode cL_rings 302 = .ok (.aload 14, 2) := by decide +kernel
theorem dL_rings_304 : decode cL_rings 304 = .ok (.bipush 7, 2) := by decide +kernel
theorem dL_rings_306 : decode cL_rings 306 = .ok (.iload 15, 2) := by decide +kernel
theorem dL_rings_308 : decode cL_rings 308 = .ok (.iastore, 1) := by decide +kernel
theorem dL_rings_309 : decode cL_rings 309 = .ok (.aload 14, 2) := by decide +kernel
theorem dL_rings_311 : decode cL_rings 311 = .ok (.bipush 8, 2) := by decide +kernel
theorem dL_rings_313 : decode cL_rings 313 = .ok (.iload 17, 2) := by decide +kernel
theorem dL_rings_315 : decode cL_rings 315 = .ok (.iastore, 1) := by decide +kernel
theorem dL_rings_316 : decode cL_rings 316 = .ok (.aload 14, 2) := by decide +kernel
theorem dL_rings_318 : decode cL_rings 318 = .ok (.bipush 9, 2) := by decide +kernel
theorem dL_rings_320 : decode cL_rings 320 = .ok (.iload 18, 2) := by decide +kernel
theorem dL_rings_322 : decode cL_rings 322 = .ok (.iastore, 1) := by decide +kernel
theorem dL_rings_323 : decode cL_rings 323 = .ok (.aload 14, 2) := by decide +kernel
theorem dL_rings_325 : decode cL_rings 325 = .ok (.bipush 10, 2) := by decide +kernel
theorem dL_rings_327 : decode cL_rings 327 = .ok (.iconst 0, 1) := by decide +kernel
theorem dL_rings_328 : decode cL_rings 328 = .ok (.iastore, 1) := by decide +kernel
theorem dL_rings_329 : decode cL_rings 329 = .ok (.aload 14, 2) := by decide +kernel
theorem dL_rings_331 : decode cL_rings 331 = .ok (.bipush 11, 2) := by decide +kernel
theorem dL_rings_333 : decode cL_rings 333 = .ok (.iconst 0, 1) := by decide +kernel
theorem dL_rings_334 : decode cL_rings 334 = .ok (.iastore, 1) := by decide +kernel
theorem dL_rings_335 : decode cL_rings 335 = .ok (.iconst 0, 1) := by decide +kernel
theorem dL_rings_336 : decode cL_rings 336 = .ok (.istore 20, 2) := by decide +kernel
theorem dL_rings_338 : decode cL_rings 338 = .ok (.iload 20, 2) := by decide +kernel
theorem dL_rings_340 : decode cL_rings 340 = .ok (.bipush 6, 2) := by decide +kernel
theorem dL_rings_342 : decode cL_rings 342 = .ok (.if_icmp .ge 18, 3) := by decide +kernel
theorem dL_rings_345 : decode cL_rings 345 = .ok (.aload 14, 2) := by decide +kernel
theorem dL_rings_347 : decode cL_rings 347 = .ok (.bipush 16, 2) := by decide +kernel
theorem dL_rings_349 : decode cL_rings 349 = .ok (.iload 20, 2) := by decide +kernel
theorem dL_rings_351 : decode cL_rings 351 = .ok (.iadd, 1) := by decide +kernel
theorem dL_rings_352 : decode cL_rings 352 = .ok (.iconst 0, 1) := by decide +kernel
theorem dL_rings_353 : decode cL_rings 353 = .ok (.iastore, 1) := by decide +kernel
theorem dL_rings_354 : decode cL_rings 354 = .ok (.iinc 20 1, 3) := by decide +kernel
theorem dL_rings_357 : decode cL_rings 357 = .ok (.goto (-19), 3) := by decide +kernel
theorem dL_rings_360 : decode cL_rings 360 = .ok (.aload_n 0, 1) := by decide +kernel
theorem dL_rings_361 : decode cL_rings 361 = .ok (.iload 15, 2) := by decide +kernel
theorem dL_rings_363 : decode cL_rings 363 = .ok (.iload 17, 2) := by decide +kernel
theorem dL_rings_365 : decode cL_rings 365 = .ok (.iload 18, 2) := by decide +kernel
theorem dL_rings_367 : decode cL_rings 367 = .ok (.invokestatic 268, 3) := by decide +kernel
theorem dL_rings_370 : decode cL_rings 370 = .ok (.aload 4, 2) := by decide +kernel
theorem dL_rings_372 : decode cL_rings 372 = .ok (.aload 5, 2) := by decide +kernel
theorem dL_rings_374 : decode cL_rings 374 = .ok (.aload 6, 2) := by decide +kernel
theorem dL_rings_376 : decode cL_rings 376 = .ok (.aload 7, 2) := by decide +kernel
theorem dL_rings_378 : decode cL_rings 378 = .ok (.aload 8, 2) := by decide +kernel
theorem dL_rings_380 : decode cL_rings 380 = .ok (.aload 12, 2) := by decide +kernel
theorem dL_rings_382 : decode cL_rings 382 = .ok (.aload 13, 2) := by decide +kernel
theorem dL_rings_384 : decode cL_rings 384 = .ok (.aload 14, 2) := by decide +kernel
theorem dL_rings_386 : decode cL_rings 386 = .ok (.invokestatic 272, 3) := by decide +kernel
theorem dL_rings_389 : decode cL_rings 389 = .ok (.if_icmp .ne 7, 3) := by decide +kernel
theorem dL_rings_392 : decode cL_rings 392 = .ok (.iconst 1, 1) := by decide +kernel
theorem dL_rings_393 : decode cL_rings 393 = .ok (.goto 4, 3) := by decide +kernel
theorem dL_rings_396 : decode cL_rings 396 = .ok (.iconst 0, 1) := by decide +kernel
theorem dL_rings_397 : decode cL_rings 397 = .ok (.ireturn, 1) := by decide +kernel
theorem dL_rings_398 : decode cL_rings 398 = .ok (.iload_n 1, 1) := by decide +kernel
theorem dL_rings_399 : decode cL_rings 399 = .ok (.iconst 4, 1) := by decide +kernel
theorem dL_rings_400 : decode cL_rings 400 = .ok (.if_icmp .ne 78, 3) := by decide +kernel
theorem dL_rings_403 : decode cL_rings 403 = .ok (.aload 14, 2) := by decide +kernel
theorem dL_rings_405 : decode cL_rings 405 = .ok (.bipush 12, 2) := by decide +kernel
theorem dL_rings_407 : decode cL_rings 407 = .ok (.iaload, 1) := by decide +kernel
theorem dL_rings_408 : decode cL_rings 408 = .ok (.istore 15, 2) := by decide +kernel
theorem dL_rings_410 : decode cL_rings 410 = .ok (.aload 14, 2) := by decide +kernel
theorem dL_rings_412 : decode cL_rings 412 = .ok (.bipush 12, 2) := by decide +kernel
theorem dL_rings_414 : decode cL_rings 414 = .ok (.iload_n 3, 1) := by decide +kernel
theorem dL_rings_415 : decode cL_rings 415 = .ok (.iload_n 3, 1) := by decide +kernel
theorem dL_rings_416 : decode cL_rings 416 = .ok (.bipush 96, 2) := by decide +kernel
theorem dL_rings_418 : decode cL_rings 418 = .ok (.iand, 1) := by decide +kernel
theorem dL_rings_419 : decode cL_rings 419 = .ok (.ifCond .ne 9, 3) := by decide +kernel
theorem dL_rings_422 : decode cL_rings 422 = .ok (.sipush 1001, 3) := by decide +kernel
theorem dL_rings_425 : decode cL_rings 425 = .ok (.goto 5, 3) := by decide +kernel
theorem dL_rings_428 : decode cL_rings 428 = .ok (.bipush 100, 2) := by decide +kernel
theorem dL_rings_430 : decode cL_rings 430 = .ok (.invokestatic 213, 3) := by decide +kernel
theorem dL_rings_433 : decode cL_rings 433 = .ok (.iastore, 1) := by decide +kernel
theorem dL_rings_434 : decode cL_rings 434 = .ok (.aload_n 0, 1) := by decide +kernel
theorem dL_rings_435 : decode cL_rings 435 = .ok (.iconst (-1), 1) := by decide +kernel
theorem dL_rings_436 : decode cL_rings 436 = .ok (.invokestatic 276, 3) := by decide +kernel
theorem dL_rings_439 : decode cL_rings 439 = .ok (.sipush (-7200), 3) := by decide +kernel
theorem dL_rings_442 : decode cL_rings 442 = .ok (.if_icmp .ne 34, 3) := by decide +kernel
theorem dL_rings_445 : decode cL_rings 445 = .ok (.aload_n 0, 1) := by decide +kernel
theorem dL_rings_446 : decode cL_rings 446 = .ok (.sipush 1001, 3) := by decide +kernel
theorem dL_rings_449 : decode cL_rings 449 = .ok (.invokestatic 276, 3) := by decide +kernel
theorem dL_rings_452 : decode cL_rings 452 = .ok (.sipush (-7200), 3) := by decide +kernel
theorem dL_rings_455 : decode cL_rings 455 = .ok (.if_icmp .ne 21, 3) := by decide +kernel
theorem dL_rings_458 : decode cL_rings 458 = .ok (.aload_n 0, 1) := by decide +kernel
theorem dL_rings_459 : decode cL_rings 459 = .ok (.aload 14, 2) := by decide +kernel
theorem dL_rings_461 : decode cL_rings 461 = .ok (.bipush 12, 2) := by decide +kernel
theorem dL_rings_463 : decode cL_rings 463 = .ok (.iaload, 1) := by decide +kernel
theorem dL_rings_464 : decode cL_rings 464 = .ok (.invokestatic 276, 3) := by decide +kernel
theorem dL_rings_467 : decode cL_rings 467 = .ok (.iload 15, 2) := by decide +kernel
theorem dL_rings_469 : decode cL_rings 469 = .ok (.if_icmp .ne 7, 3) := by decide +kernel
theorem dL_rings_472 : decode cL_rings 472 = .ok (.iconst 1, 1) := by decide +kernel
theorem dL_rings_473 : decode cL_rings 473 = .ok (.goto 4, 3) := by decide +kernel
theorem dL_rings_476 : decode cL_rings 476 = .ok (.iconst 0, 1) := by decide +kernel
theorem dL_rings_477 : decode cL_rings 477 = .ok (.ireturn, 1) := by decide +kernel
theorem dL_rings_478 : decode cL_rings 478 = .ok (.iload_n 1, 1) := by decide +kernel
theorem dL_rings_479 : decode cL_rings 479 = .ok (.iconst 5, 1) := by decide +kernel
theorem dL_rings_480 : decode cL_rings 480 = .ok (.if_icmp .ne 76, 3) := by decide +kernel
theorem dL_rings_483 : decode cL_rings 483 = .ok (.iload_n 3, 1) := by decide +kernel
theorem dL_rings_484 : decode cL_rings 484 = .ok (.sipush 768, 3) := by decide +kernel
theorem dL_rings_487 : decode cL_rings 487 = .ok (.iand, 1) := by decide +kernel
theorem dL_rings_488 : decode cL_rings 488 = .ok (.ifCond .ne 68, 3) := by decide +kernel
theorem dL_rings_491 : decode cL_rings 491 = .ok (.aload 14, 2) := by decide +kernel
theorem dL_rings_493 : decode cL_rings 493 = .ok (.bipush 6, 2) := by decide +kernel
theorem dL_rings_495 : decode cL_rings 495 = .ok (.iaload, 1) := by decide +kernel
theorem dL_rings_496 : decode cL_rings 496 = .ok (.ifCond .ne 19, 3) := by decide +kernel
theorem dL_rings_499 : decode cL_rings 499 = .ok (.aload_n 0, 1) := by decide +kernel
theorem dL_rings_500 : decode cL_rings 500 = .ok (.invokestatic 270, 3) := by decide +kernel
theorem dL_rings_503 : decode cL_rings 503 = .ok (.sipush (-7300), 3) := by decide +kernel
theorem dL_rings_506 : decode cL_rings 506 = .ok (.if_icmp .ne 7, 3) := by decide +kernel
theorem dL_rings_509 : decode cL_rings 509 = .ok (.iconst 1, 1) := by decide +kernel
theorem dL_rings_510 : decode cL_rings 510 = .ok (.goto 4, 3) := by decide +kernel
theorem dL_rings_513 : decode cL_rings 513 = .ok (.iconst 0, 1) := by decide +kernel
theorem dL_rings_514 : decode cL_rings 514 = .ok (.ireturn, 1) := by decide +kernel
theorem dL_rings_515 : decode cL_rings 515 = .ok (.aload 14, 2) := by decide +kernel
theorem dL_rings_517 : decode cL_rings 517 = .ok (.bipush 6, 2) := by decide +kernel
theorem dL_rings_519 : decode cL_rings 519 = .ok (.iconst 0, 1) := by decide +kernel
theorem dL_rings_520 : decode cL_rings 520 = .ok (.iastore, 1) := by decide +kernel
theorem dL_rings_521 : decode cL_rings 521 = .ok (.aload 4, 2) := by decide +kernel
theorem dL_rings_523 : decode cL_rings 523 = .ok (.aload 5, 2) := by decide +kernel
theorem dL_rings_525 : decode cL_rings 525 = .ok (.aload 6, 2) := by decide +kernel
theorem dL_rings_527 : decode cL_rings 527 = .ok (.aload 7, 2) := by decide +kernel
theorem dL_rings_529 : decode cL_rings 529 = .ok (.aload 8, 2) := by decide +kernel
theorem dL_rings_531 : decode cL_rings 531 = .ok (.aload 13, 2) := by decide +kernel
theorem dL_rings_533 : decode cL_rings 533 = .ok (.aload 14, 2) := by decide +kernel
theorem dL_rings_535 : decode cL_rings 535 = .ok (.invokestatic 205, 3) := by decide +kernel
theorem dL_rings_538 : decode cL_rings 538 = .ok (.aload_n 0, 1) := by decide +kernel
theorem dL_rings_539 : decode cL_rings 539 = .ok (.invokestatic 270, 3) := by decide +kernel
theorem dL_rings_542 : decode cL_rings 542 = .ok (.aload 14, 2) := by decide +kernel
theorem dL_rings_544 : decode cL_rings 544 = .ok (.bipush 10, 2) := by decide +kernel
theorem dL_rings_546 : decode cL_rings 546 = .ok (.iaload, 1) := by decide +kernel
theorem dL_rings_547 : decode cL_rings 547 = .ok (.if_icmp .ne 7, 3) := by decide +kernel
theorem dL_rings_550 : decode cL_rings 550 = .ok (.iconst 1, 1) := by decide +kernel
theorem dL_rings_551 : decode cL_rings 551 = .ok (.goto 4, 3) := by decide +kernel
theorem dL_rings_554 : decode cL_rings 554 = .ok (.iconst 0, 1) := by decide +kernel
theorem dL_rings_555 : decode cL_rings 555 = .ok (.ireturn, 1) := by decide +kernel
theorem dL_rings_556 : decode cL_rings 556 = .ok (.iload_n 2, 1) := by decide +kernel
theorem dL_rings_557 : decode cL_rings 557 = .ok (.bipush 6, 2) := by decide +kernel
theorem dL_rings_559 : decode cL_rings 559 = .ok (.invokestatic 213, 3) := by decide +kernel
theorem dL_rings_562 : decode cL_rings 562 = .ok (.istore 15, 2) := by decide +kernel
theorem dL_rings_564 : decode cL_rings 564 = .ok (.iconst 0, 1) := by decide +kernel
theorem dL_rings_565 : decode cL_rings 565 = .ok (.istore 16, 2) := by decide +kernel
theorem dL_rings_567 : decode cL_rings 567 = .ok (.iload 16, 2) := by decide +kernel
theorem dL_rings_569 : decode cL_rings 569 = .ok (.bipush 6, 2) := by decide +kernel
theorem dL_rings_571 : decode cL_rings 571 = .ok (.if_icmp .ge 47, 3) := by decide +kernel
theorem dL_rings_574 : decode cL_rings 574 = .ok (.iload_n 3, 1) := by decide +kernel
theorem dL_rings_575 : decode cL_rings 575 = .ok (.bipush 96, 2) := by decide +kernel
theorem dL_rings_577 : decode cL_rings 577 = .ok (.iand, 1) := by decide +kernel
theorem dL_rings_578 : decode cL_rings 578 = .ok (.ifCond .le 40, 3) := by decide +kernel
theorem dL_rings_581 : decode cL_rings 581 = .ok (.aload 14, 2) := by decide +kernel
theorem dL_rings_583 : decode cL_rings 583 = .ok (.bipush 6, 2) := by decide +kernel
theorem dL_rings_585 : decode cL_rings 585 = .ok (.iaload, 1) := by decide +kernel
theorem dL_rings_586 : decode cL_rings 586 = .ok (.iconst 1, 1) := by decide +kernel
theorem dL_rings_587 : decode cL_rings 587 = .ok (.if_icmp .ne 31, 3) := by decide +kernel
theorem dL_rings_590 : decode cL_rings 590 = .ok (.aload 14, 2) := by decide +kernel
theorem dL_rings_592 : decode cL_rings 592 = .ok (.bipush 8, 2) := by decide +kernel
theorem dL_rings_594 : decode cL_rings 594 = .ok (.iaload, 1) := by decide +kernel
theorem dL_rings_595 : decode cL_rings 595 = .ok (.iload 15, 2) := by decide +kernel
theorem dL_rings_597 : decode cL_rings 597 = .ok (.ishr, 1) := by decide +kernel
theorem dL_rings_598 : decode cL_rings 598 = .ok (.iconst 1, 1) := by decide +kernel
theorem dL_rings_599 : decode cL_rings 599 = .ok (.iand, 1) := by decide +kernel
theorem dL_rings_600 : decode cL_rings 600 = .ok (.ifCond .ne 18, 3) := by decide +kernel
theorem dL_rings_603 : decode cL_rings 603 = .ok (.iload 15, 2) := by decide +kernel
theorem dL_rings_605 : decode cL_rings 605 = .ok (.iconst 1, 1) := by decide +kernel
theorem dL_rings_606 : decode cL_rings 606 = .ok (.iadd, 1) := by decide +kernel
theorem dL_rings_607 : decode cL_rings 607 = .ok (.bipush 6, 2) := by decide +kernel
theorem dL_rings_609 : decode cL_rings 609 = .ok (.irem, 1) := by decide +kernel
theorem dL_rings_610 : decode cL_rings 610 = .ok (.istore 15, 2) := by decide +kernel
theorem dL_rings_612 : decode cL_rings 612 = .ok (.iinc 16 1, 3) := by decide +kernel
theorem dL_rings_615 : decode cL_rings 615 = .ok (.goto (-48), 3) := by decide +kernel
theorem dL_rings_618 : decode cL_rings 618 = .ok (.aload 14, 2) := by decide +kernel
theorem dL_rings_620 : decode cL_rings 620 = .ok (.bipush 6, 2) := by decide +kernel
theorem dL_rings_622 : decode cL_rings 622 = .ok (.iaload, 1) := by decide +kernel
theorem dL_rings_623 : decode cL_rings 623 = .ok (.iconst 1, 1) := by decide +kernel
theorem dL_rings_624 : decode cL_rings 624 = .ok (.if_icmp .ne 21, 3) := by decide +kernel
theorem dL_rings_627 : decode cL_rings 627 = .ok (.aload 4, 2) := by decide +kernel
theorem dL_rings_629 : decode cL_rings 629 = .ok (.aload 5, 2) := by decide +kernel
theorem dL_rings_631 : decode cL_rings 631 = .ok (.aload 14, 2) := by decide +kernel
theorem dL_rings_633 : decode cL_rings 633 = .ok (.bipush 7, 2) := by decide +kernel
theorem dL_rings_635 : decode cL_rings 635 = .ok (.iaload, 1) := by decide +kernel
theorem dL_rings_636 : decode cL_rings 636 = .ok (.iaload, 1) := by decide +kernel
theorem dL_rings_637 : decode cL_rings 637 = .ok (.aload 13, 2) := by decide +kernel
theorem dL_rings_639 : decode cL_rings 639 = .ok (.invokestatic 168, 3) := by decide +kernel
theorem dL_rings_642 : decode cL_rings 642 = .ok (.goto 4, 3) := by decide +kernel
theorem dL_rings_645 : decode cL_rings 645 = .ok (.iconst 0, 1) := by decide +kernel
theorem dL_rings_646 : decode cL_rings 646 = .ok (.istore 16, 2) := by decide +kernel
theorem dL_rings_648 : decode cL_rings 648 = .ok (.aload_n 0, 1) := by decide +kernel
theorem dL_rings_649 : decode cL_rings 649 = .ok (.bipush 6, 2) := by decide +kernel
theorem dL_rings_651 : decode cL_rings 651 = .ok (.iconst (-1), 1) := by decide +kernel
theorem dL_rings_652 : decode cL_rings 652 = .ok (.invokestatic 278, 3) := by decide +kernel
theorem dL_rings_655 : decode cL_rings 655 = .ok (.sipush (-7100), 3) := by decide +kernel
theorem dL_rings_658 : decode cL_rings 658 = .ok (.if_icmp .ne 42, 3) := by decide +kernel
theorem dL_rings_661 : decode cL_rings 661 = .ok (.aload_n 0, 1) := by decide +kernel
theorem dL_rings_662 : decode cL_rings 662 = .ok (.iload 15, 2) := by decide +kernel
theorem dL_rings_664 : decode cL_rings 664 = .ok (.iconst (-1), 1) := by decide +kernel
theorem dL_rings_665 : decode cL_rings 665 = .ok (.invokestatic 278, 3) := by decide +kernel
theorem dL_rings_668 : decode cL_rings 668 = .ok (.sipush (-7200), 3) := by decide +kernel
theorem dL_rings_671 : decode cL_rings 671 = .ok (.if_icmp .ne 29, 3) := by decide +kernel
theorem dL_rings_674 : decode cL_rings 674 = .ok (.aload_n 0, 1) := by decide +kernel
theorem dL_rings_675 : decode cL_rings 675 = .ok (.iload 15, 2) := by decide +kernel
theorem dL_rings_677 : decode cL_rings 677 = .ok (.ldc_w 280, 3) := by decide +kernel
theorem dL_rings_680 : decode cL_rings 680 = .ok (.invokestatic 278, 3) := by decide +kernel
theorem dL_rings_683 : decode cL_rings 683 = .ok (.sipush (-7200), 3) := by decide +kernel
theorem dL_rings_686 : decode cL_rings 686 = .ok (.if_icmp .ne 14, 3) := by decide +kernel
theorem dL_rings_689 : decode cL_rings 689 = .ok (.aload_n 0, 1) := by decide +kernel
theorem dL_rings_690 : decode cL_rings 690 = .ok (.iconst (-1), 1) := by decide +kernel
theorem dL_rings_691 : decode cL_rings 691 = .ok (.invokestatic 281, 3) := by decide +kernel
theorem dL_rings_694 : decode cL_rings 694 = .ok (.sipush (-7100), 3) := by decide +kernel
theorem dL_rings_697 : decode cL_rings 697 = .ok (.if_icmp .eq 5, 3) := by decide +kernel
theorem dL_rings_700 : decode cL_rings 700 = .ok (.iconst 0, 1) := by decide +kernel
theorem dL_rings_701 : decode cL_rings 701 = .ok (.ireturn, 1) := by decide +kernel
theorem dL_rings_702 : decode cL_rings 702 = .ok (.aload 14, 2) := by decide +kernel
theorem dL_rings_704 : decode cL_rings 704 = .ok (.bipush 6, 2) := by decide +kernel
theorem dL_rings_706 : decode cL_rings 706 = .ok (.iaload, 1) := by decide +kernel
theorem dL_rings_707 : decode cL_rings 707 = .ok (.ifCond .eq 29, 3) := by decide +kernel
theorem dL_rings_710 : decode cL_rings 710 = .ok (.aload 14, 2) := by decide +kernel
theorem dL_rings_712 : decode cL_rings 712 = .ok (.bipush 8, 2) := by decide +kernel
theorem dL_rings_714 : decode cL_rings 714 = .ok (.iaload, 1) := by decide +kernel
theorem dL_rings_715 : decode cL_rings 715 = .ok (.iload 15, 2) := by decide +kernel
theorem dL_rings_717 : decode cL_rings 717 = .ok (.ishr, 1) := by decide +kernel
theorem dL_rings_718 : decode cL_rings 718 = .ok (.iconst 1, 1) := by decide +kernel
theorem dL_rings_719 : decode cL_rings 719 = .ok (.iand, 1) := by decide +kernel
theorem dL_rings_720 : decode cL_rings 720 = .ok (.ifCond .eq 16, 3) := by decide +kernel
theorem dL_rings_723 : decode cL_rings 723 = .ok (.aload 14, 2) := by decide +kernel
theorem dL_rings_725 : decode cL_rings 725 = .ok (.bipush 16, 2) := by decide +kernel
theorem dL_rings_727 : decode cL_rings 727 = .ok (.iload 15, 2) := by decide +kernel
theorem dL_rings_729 : decode cL_rings 729 = .ok (.iadd, 1) := by decide +kernel
theorem dL_rings_730 : decode cL_rings 730 = .ok (.iaload, 1) := by decide +kernel
theorem dL_rings_731 : decode cL_rings 731 = .ok (.iload 16, 2) := by decide +kernel
theorem dL_rings_733 : decode cL_rings 733 = .ok (.if_icmp .ne 40, 3) := by decide +kernel
theorem dL_rings_736 : decode cL_rings 736 = .ok (.aload_n 0, 1) := by decide +kernel
theorem dL_rings_737 : decode cL_rings 737 = .ok (.iload 15, 2) := by decide +kernel
theorem dL_rings_739 : decode cL_rings 739 = .ok (.iload_n 3, 1) := by decide +kernel
theorem dL_rings_740 : decode cL_rings 740 = .ok (.sipush 1000, 3) := by decide +kernel
theorem dL_rings_743 : decode cL_rings 743 = .ok (.invokestatic 213, 3) := by decide +kernel
theorem dL_rings_746 : decode cL_rings 746 = .ok (.invokestatic 278, 3) := by decide +kernel
theorem dL_rings_749 : decode cL_rings 749 = .ok (.sipush (-7300), 3) := by decide +kernel
theorem dL_rings_752 : decode cL_rings 752 = .ok (.if_icmp .ne 19, 3) := by decide +kernel
theorem dL_rings_755 : decode cL_rings 755 = .ok (.aload_n 0, 1) := by decide +kernel
theorem dL_rings_756 : decode cL_rings 756 = .ok (.iload 15, 2) := by decide +kernel
theorem dL_rings_758 : decode cL_rings 758 = .ok (.invokestatic 281, 3) := by decide +kernel
theorem dL_rings_761 : decode cL_rings 761 = .ok (.sipush (-7300), 3) := by decide +kernel
theorem dL_rings_764 : decode cL_rings 764 = .ok (.if_icmp .ne 7, 3) := by decide +kernel
theorem dL_rings_767 : decode cL_rings 767 = .ok (.iconst 1, 1) := by decide +kernel
theorem dL_rings_768 : decode cL_rings 768 = .ok (.goto 4, 3) := by decide +kernel
theorem dL_rings_771 : decode cL_rings 771 = .ok (.iconst 0, 1) := by decide +kernel
theorem dL_rings_772 : decode cL_rings 772 = .ok (.ireturn, 1) := by decide +kernel
theorem dL_rings_773 : decode cL_rings 773 = .ok (.aload 14, 2) := by decide +kernel
theorem dL_rings_775 : decode cL_rings 775 = .ok (.bipush 16, 2) := by decide +kernel
theorem dL_rings_777 : decode cL_rings 777 = .ok (.iload 15, 2) := by decide +kernel
theorem dL_rings_779 : decode cL_rings 779 = .ok (.iadd, 1) := by decide +kernel
theorem dL_rings_780 : decode cL_rings 780 = .ok (.iaload, 1) := by decide +kernel
theorem dL_rings_781 : decode cL_rings 781 = .ok (.istore 17, 2) := by decide +kernel
theorem dL_rings_783 : decode cL_rings 783 = .ok (.aload 14, 2) := by decide +kernel
theorem dL_rings_785 : decode cL_rings 785 = .ok (.bipush 9, 2) := by decide +kernel
theorem dL_rings_787 : decode cL_rings 787 = .ok (.iaload, 1) := by decide +kernel
theorem dL_rings_788 : decode cL_rings 788 = .ok (.aload 4, 2) := by decide +kernel
theorem dL_rings_790 : decode cL_rings 790 = .ok (.aload 5, 2) := by decide +kernel
theorem dL_rings_792 : decode cL_rings 792 = .ok (.aload 14, 2) := by decide +kernel
theorem dL_rings_794 : decode cL_rings 794 = .ok (.bipush 7, 2) := by decide +kernel
theorem dL_rings_796 : decode cL_rings 796 = .ok (.iaload, 1) := by decide +kernel
theorem dL_rings_797 : decode cL_rings 797 = .ok (.invokestatic 176, 3) := by decide +kernel
theorem dL_rings_800 : decode cL_rings 800 = .ok (.iload 17, 2) := by decide +kernel
theorem dL_rings_802 : decode cL_rings 802 = .ok (.imul, 1) := by decide +kernel
theorem dL_rings_803 : decode cL_rings 803 = .ok (.aload 13, 2) := by decide +kernel
theorem dL_rings_805 : decode cL_rings 805 = .ok (.iload 17, 2) := by decide +kernel
theorem dL_rings_807 : decode cL_rings 807 = .ok (.iaload, 1) := by decide +kernel
theorem dL_rings_808 : decode cL_rings 808 = .ok (.iload 15, 2) := by decide +kernel
theorem dL_rings_810 : decode cL_rings 810 = .ok (.invokestatic 283, 3) := by decide +kernel
theorem dL_rings_813 : decode cL_rings 813 = .ok (.iadd, 1) := by decide +kernel
theorem dL_rings_814 : decode cL_rings 814 = .ok (.iload 17, 2) := by decide +kernel
theorem dL_rings_816 : decode cL_rings 816 = .ok (.iconst 2, 1) := by decide +kernel
theorem dL_rings_817 : decode cL_rings 817 = .ok (.idiv, 1) := by decide +kernel
theorem dL_rings_818 : decode cL_rings 818 = .ok (.iadd, 1) := by decide +kernel
theorem dL_rings_819 : decode cL_rings 819 = .ok (.imul, 1) := by decide +kernel
theorem dL_rings_820 : decode cL_rings 820 = .ok (.aload 14, 2) := by decide +kernel
theorem dL_rings_822 : decode cL_rings 822 = .ok (.bipush 11, 2) := by decide +kernel
theorem dL_rings_824 : decode cL_rings 824 = .ok (.iaload, 1) := by decide +kernel
theorem dL_rings_825 : decode cL_rings 825 = .ok (.iadd, 1) := by decide +kernel
theorem dL_rings_826 : decode cL_rings 826 = .ok (.istore 18, 2) := by decide +kernel
theorem dL_rings_828 : decode cL_rings 828 = .ok (.aload_n 0, 1) := by decide +kernel
theorem dL_rings_829 : decode cL_rings 829 = .ok (.iload 15, 2) := by decide +kernel
theorem dL_rings_831 : decode cL_rings 831 = .ok (.invokestatic 281, 3) := by decide +kernel
theorem dL_rings_834 : decode cL_rings 834 = .ok (.iload 18, 2) := by decide +kernel
theorem dL_rings_836 : decode cL_rings 836 = .ok (.if_icmp .eq 5, 3) := by decide +kernel
theorem dL_rings_839 : decode cL_rings 839 = .ok (.iconst 0, 1) := by decide +kernel
theorem dL_rings_840 : decode cL_rings 840 = .ok (.ireturn, 1) := by decide +kernel
theorem dL_rings_841 : decode cL_rings 841 = .ok (.iload_n 3, 1) := by decide +kernel
theorem dL_rings_842 : decode cL_rings 842 = .ok (.sipush 14336, 3) := by decide +kernel
theorem dL_rings_845 : decode cL_rings 845 = .ok (.iand, 1) := by decide +kernel
theorem dL_rings_846 : decode cL_rings 846 = .ok (.ifCond .ne 16, 3) := by decide +kernel
theorem dL_rings_849 : decode cL_rings 849 = .ok (.iload_n 3, 1) := by decide +kernel
theorem dL_rings_850 : decode cL_rings 850 = .ok (.iconst 3, 1) := by decide +kernel
theorem dL_rings_851 : decode cL_rings 851 = .ok (.ishr, 1) := by decide +kernel
theorem dL_rings_852 : decode cL_rings 852 = .ok (.ldc_w 280, 3) := by decide +kernel
theorem dL_rings_855 : decode cL_rings 855 = .ok (.invokestatic 213, 3) := by decide +kernel
theorem dL_rings_858 : decode cL_rings 858 = .ok (.i2l, 1) := by decide +kernel
theorem dL_rings_859 : decode cL_rings 859 = .ok (.goto 20, 3) := by decide +kernel
theorem dL_rings_862 : decode cL_rings 862 = .ok (.iload 18, 2) := by decide +kernel
theorem dL_rings_864 : decode cL_rings 864 = .ok (.iload_n 3, 1) := by decide +kernel
theorem dL_rings_865 : decode cL_rings 865 = .ok (.iconst 3, 1) := by decide +kernel
theorem dL_rings_866 : decode cL_rings 866 = .ok (.ishr, 1) := by decide +kernel
theorem dL_rings_867 : decode cL_rings 867 = .ok (.sipush 400, 3) := by decide +kernel
theorem dL_rings_870 : decode cL_rings 870 = .ok (.invokestatic 213, 3) := by decide +kernel
theorem dL_rings_873 : decode cL_rings 873 = .ok (.iadd, 1) := by decide +kernel
theorem dL_rings_874 : decode cL_rings 874 = .ok (.sipush 150, 3) := by decide +kernel
theorem dL_rings_877 : decode cL_rings 877 = .ok (.isub, 1) := by decide +kernel
theorem dL_rings_878 : decode cL_rings 878 = .ok (.i2l, 1) := by decide +kernel
theorem dL_rings_879 : decode cL_rings 879 = .ok (.lstore 19, 2) := by decide +kernel
theorem dL_rings_881 : decode cL_rings 881 = .ok (.lload 19, 2) := by decide +kernel
theorem dL_rings_883 : decode cL_rings 883 = .ok (.lconst 0, 1) := by decide +kernel
theorem dL_rings_884 : decode cL_rings 884 = .ok (.lcmp, 1) := by decide +kernel
theorem dL_rings_885 : decode cL_rings 885 = .ok (.ifCond .ge 7, 3) := by decide +kernel
theorem dL_rings_888 : decode cL_rings 888 = .ok (.lconst 0, 1) := by decide +kernel
theorem dL_rings_889 : decode cL_rings 889 = .ok (.goto 20, 3) := by decide +kernel
theorem dL_rings_892 : decode cL_rings 892 = .ok (.lload 19, 2) := by decide +kernel
theorem dL_rings_894 : decode cL_rings 894 = .ok (.ldc2_w 286, 3) := by decide +kernel
theorem dL_rings_897 : decode cL_rings 897 = .ok (.lcmp, 1) := by decide +kernel
theorem dL_rings_898 : decode cL_rings 898 = .ok (.ifCond .le 9, 3) := by decide +kernel
theorem dL_rings_901 : decode cL_rings 901 = .ok (.ldc2_w 286, 3) := by decide +kernel
theorem dL_rings_904 : decode cL_rings 904 = .ok (.goto 5, 3) := by decide +kernel
theorem dL_rings_907 : decode cL_rings 907 = .ok (.lload 19, 2) := by decide +kernel
theorem dL_rings_909 : decode cL_rings 909 = .ok (.lstore 19, 2) := by decide +kernel
theorem dL_rings_911 : decode cL_rings 911 = .ok (.lload 19, 2) := by decide +kernel
theorem dL_rings_913 : decode cL_rings 913 = .ok (.iload 18, 2) := by decide +kernel
theorem dL_rings_915 : decode cL_rings 915 = .ok (.i2l, 1) := by decide +kernel
theorem dL_rings_916 : decode cL_rings 916 = .ok (.lsub, 1) := by decide +kernel
theorem dL_rings_917 : decode cL_rings 917 = .ok (.l2i, 1) := by decide +kernel
theorem dL_rings_918 : decode cL_rings 918 = .ok (.istore 21, 2) := by decide +kernel
theorem dL_rings_920 : decode cL_rings 920 = .ok (.aload 14, 2) := by decide +kernel
theorem dL_rings_922 : decode cL_rings 922 = .ok (.bipush 11, 2) := by decide +kernel
theorem dL_rings_924 : decode cL_rings 924 = .ok (.iaload, 1) := by decide +kernel
theorem dL_rings_925 : decode cL_rings 925 = .ok (.i2l, 1) := by decide +kernel
theorem dL_rings_926 : decode cL_rings 926 = .ok (.iload 21, 2) := by decide +kernel
theorem dL_rings_928 : decode cL_rings 928 = .ok (.aload 14, 2) := by decide +kernel
theorem dL_rings_930 : decode cL_rings 930 = .ok (.bipush 12, 2) := by decide +kernel
theorem dL_rings_932 : decode cL_rings 932 = .ok (.iaload, 1) := by decide +kernel
theorem dL_rings_933 : decode cL_rings 933 = .ok (.if_icmp .le 16, 3) := by decide +kernel
theorem dL_rings_936 : decode cL_rings 936 = .ok (.iload 21, 2) := by decide +kernel
theorem dL_rings_938 : decode cL_rings 938 = .ok (.i2l, 1) := by decide +kernel
theorem dL_rings_939 : decode cL_rings 939 = .ok (.aload 14, 2) := by decide +kernel
theorem dL_rings_941 : decode cL_rings 941 = .ok (.bipush 12, 2) := by decide +kernel
theorem dL_rings_943 : decode cL_rings 943 = .ok (.iaload, 1) := by decide +kernel
theorem dL_rings_944 : decode cL_rings 944 = .ok (.i2l, 1) := by decide +kernel
theorem dL_rings_945 : decode cL_rings 945 = .ok (.lsub, 1) := by decide +kernel
theorem dL_rings_946 : decode cL_rings 946 = .ok (.goto 4, 3) := by decide +kernel
theorem dL_rings_949 : decode cL_rings 949 = .ok (.lconst 0, 1) := by decide +kernel
theorem dL_rings_950 : decode cL_rings 950 = .ok (.ladd, 1) := by decide +kernel
theorem dL_rings_951 : decode cL_rings 951 = .ok (.lstore 22, 2) := by decide +kernel
theorem dL_rings_953 : decode cL_rings 953 = .ok (.aload 11, 2) := by decide +kernel
theorem dL_rings_955 : decode cL_rings 955 = .ok (.iload 15, 2) := by decide +kernel
theorem dL_rings_957 : decode cL_rings 957 = .ok (.iaload, 1) := by decide +kernel
theorem dL_rings_958 : decode cL_rings 958 = .ok (.i2l, 1) := by decide +kernel
theorem dL_rings_959 : decode cL_rings 959 = .ok (.iload 21, 2) := by decide +kernel
theorem dL_rings_961 : decode cL_rings 961 = .ok (.i2l, 1) := by decide +kernel
theorem dL_rings_962 : decode cL_rings 962 = .ok (.ladd, 1) := by decide +kernel
theorem dL_rings_963 : decode cL_rings 963 = .ok (.lstore 24, 2) := by decide +kernel
theorem dL_rings_965 : decode cL_rings 965 = .ok (.lload 22, 2) := by decide +kernel
theorem dL_rings_967 : decode cL_rings 967 = .ok (.ldc2_w 286, 3) := by decide +kernel
theorem dL_rings_970 : decode cL_rings 970 = .ok (.lcmp, 1) := by decide +kernel
theorem dL_rings_971 : decode cL_rings 971 = .ok (.ifCond .gt 21, 3) := by decide +kernel
theorem dL_rings_974 : decode cL_rings 974 = .ok (.lload 24, 2) := by decide +kernel
theorem dL_rings_976 : decode cL_rings 976 = .ok (.ldc2_w 288, 3) := by decide +kernel
theorem dL_rings_979 : decode cL_rings 979 = .ok (.lcmp, 1) := by decide +kernel
theorem dL_rings_980 : decode cL_rings 980 = .ok (.ifCond .gt 12, 3) := by decide +kernel
theorem dL_rings_983 : decode cL_rings 983 = .ok (.lload 24, 2) := by decide +kernel
theorem dL_rings_985 : decode cL_rings 985 = .ok (.ldc2_w 290, 3) := by decide +kernel
theorem dL_rings_988 : decode cL_rings 988 = .ok (.lcmp, 1) := by decide +kernel
theorem dL_rings_989 : decode cL_rings 989 = .ok (.ifCond .ge 24, 3) := by decide +kernel
theorem dL_rings_992 : decode cL_rings 992 = .ok (.aload_n 0, 1) := by decide +kernel
theorem dL_rings_993 : decode cL_rings 993 = .ok (.iload 15, 2) := by decide +kernel
theorem dL_rings_995 : decode cL_rings 995 = .ok (.lload 19, 2) := by decide +kernel
theorem dL_rings_997 : decode cL_rings 997 = .ok (.l2i, 1) := by decide +kernel
theorem dL_rings_998 : decode cL_rings 998 = .ok (.invokestatic 278, 3) := by decide +kernel
theorem dL_rings_1001 : decode cL_rings 1001 = .ok (.sipush (-7300), 3) := by decide +kernel
theorem dL_rings_1004 : decode cL_rings 1004 = .ok (.if_icmp .ne 7, 3) := by decide +kernel
theorem dL_rings_1007 : decode cL_rings 1007 = .ok (.iconst 1, 1) := by decide +kernel
theorem dL_rings_1008 : decode cL_rings 1008 = .ok (.goto 4, 3) := by decide +kernel
theorem dL_rings_1011 : decode cL_rings 1011 = .ok (.iconst 0, 1) := by decide +kernel
theorem dL_rings_1012 : decode cL_rings 1012 = .ok (.ireturn, 1) := by decide +kernel
theorem dL_rings_1013 : decode cL_rings 1013 = .ok (.aload 11, 2) := by decide +kernel
theorem dL_rings_1015 : decode cL_rings 1015 = .ok (.iload 15, 2) := by decide +kernel
theorem dL_rings_1017 : decode cL_rings 1017 = .ok (.dup2, 1) := by decide +kernel
theorem dL_rings_1018 : decode cL_rings 1018 = .ok (.iaload, 1) := by decide +kernel
theorem dL_rings_1019 : decode cL_rings 1019 = .ok (.iload 21, 2) := by decide +kernel
theorem dL_rings_1021 : decode cL_rings 1021 = .ok (.iadd, 1) := by decide +kernel
theorem dL_rings_1022 : decode cL_rings 1022 = .ok (.iastore, 1) := by decide +kernel
theorem dL_rings_1023 : decode cL_rings 1023 = .ok (.aload 10, 2) := by decide +kernel
theorem dL_rings_1025 : decode cL_rings 1025 = .ok (.iload 15, 2) := by decide +kernel
theorem dL_rings_1027 : decode cL_rings 1027 = .ok (.dup2, 1) := by decide +kernel
theorem dL_rings_1028 : decode cL_rings 1028 = .ok (.iaload, 1) := by decide +kernel
theorem dL_rings_1029 : decode cL_rings 1029 = .ok (.iload 21, 2) := by decide +kernel
theorem dL_rings_1031 : decode cL_rings 1031 = .ok (.aload 14, 2) := by decide +kernel
theorem dL_rings_1033 : decode cL_rings 1033 = .ok (.bipush 9, 2) := by decide +kernel
theorem dL_rings_1035 : decode cL_rings 1035 = .ok (.iaload, 1) := by decide +kernel
theorem dL_rings_1036 : decode cL_rings 1036 = .ok (.iconst 4, 1) := by decide +kernel
theorem dL_rings_1037 : decode cL_rings 1037 = .ok (.idiv, 1) := by decide +kernel
theorem dL_rings_1038 : decode cL_rings 1038 = .ok (.if_icmp .le 7, 3) := by decide +kernel
theorem dL_rings_1041 : decode cL_rings 1041 = .ok (.iconst 1, 1) := by decide +kernel
theorem dL_rings_1042 : decode cL_rings 1042 = .ok (.goto 4, 3) := by decide +kernel
theorem dL_rings_1045 : decode cL_rings 1045 = .ok (.iconst 0, 1) := by decide +kernel
theorem dL_rings_1046 : decode cL_rings 1046 = .ok (.iadd, 1) := by decide +kernel
theorem dL_rings_1047 : decode cL_rings 1047 = .ok (.iastore, 1) := by decide +kernel
theorem dL_rings_1048 : decode cL_rings 1048 = .ok (.aload 10, 2) := by decide +kernel
theorem dL_rings_1050 : decode cL_rings 1050 = .ok (.bipush 6, 2) := by decide +kernel
theorem dL_rings_1052 : decode cL_rings 1052 = .ok (.iload 15, 2) := by decide +kernel
theorem dL_rings_1054 : decode cL_rings 1054 = .ok (.iadd, 1) := by decide +kernel
theorem dL_rings_1055 : decode cL_rings 1055 = .ok (.dup2, 1) := by decide +kernel
theorem dL_rings_1056 : decode cL_rings 1056 = .ok (.iaload, 1) := by decide +kernel
theorem dL_rings_1057 : decode cL_rings 1057 = .ok (.iload 21, 2) := by decide +kernel
theorem dL_rings_1059 : decode cL_rings 1059 = .ok (.ineg, 1) := by decide +kernel
theorem dL_rings_1060 : decode cL_rings 1060 = .ok (.aload 14, 2) := by decide +kernel
theorem dL_rings_1062 : decode cL_rings 1062 = .ok (.bipush 9, 2) := by decide +kernel
theorem dL_rings_1064 : decode cL_rings 1064 = .ok (.iaload, 1) := by decide +kernel
theorem dL_rings_1065 : decode cL_rings 1065 = .ok (.iconst 4, 1) := by decide +kernel
theorem dL_rings_1066 : decode cL_rings 1066 = .ok (.idiv, 1) := by decide +kernel
theorem dL_rings_1067 : decode cL_rings 1067 = .ok (.if_icmp .le 7, 3) := by decide +kernel
theorem dL_rings_1070 : decode cL_rings 1070 = .ok (.iconst 1, 1) := by decide +kernel
theorem dL_rings_1071 : decode cL_rings 1071 = .ok (.goto 4, 3) := by decide +kernel
theorem dL_rings_1074 : decode cL_rings 1074 = .ok (.iconst 0, 1) := by decide +kernel
theorem dL_rings_1075 : decode cL_rings 1075 = .ok (.iadd, 1) := by decide +kernel
theorem dL_rings_1076 : decode cL_rings 1076 = .ok (.iastore, 1) := by decide +kernel
theorem dL_rings_1077 : decode cL_rings 1077 = .ok (.aload 14, 2) := by decide +kernel
theorem dL_rings_1079 : decode cL_rings 1079 = .ok (.bipush 11, 2) := by decide +kernel
theorem dL_rings_1081 : decode cL_rings 1081 = .ok (.lload 22, 2) := by decide +kernel
theorem dL_rings_1083 : decode cL_rings 1083 = .ok (.l2i, 1) := by decide +kernel
theorem dL_rings_1084 : decode cL_rings 1084 = .ok (.iastore, 1) := by decide +kernel
theorem dL_rings_1085 : decode cL_rings 1085 = .ok (.bipush 8, 2) := by decide +kernel
theorem dL_rings_1087 : decode cL_rings 1087 = .ok (.iload 15, 2) := by decide +kernel
theorem dL_rings_1089 : decode cL_rings 1089 = .ok (.imul, 1) := by decide +kernel
theorem dL_rings_1090 : decode cL_rings 1090 = .ok (.iload 17, 2) := by decide +kernel
theorem dL_rings_1092 : decode cL_rings 1092 = .ok (.iconst 2, 1) := by decide +kernel
theorem dL_rings_1093 : decode cL_rings 1093 = .ok (.idiv, 1) := by decide +kernel
theorem dL_rings_1094 : decode cL_rings 1094 = .ok (.iadd, 1) := by decide +kernel
theorem dL_rings_1095 : decode cL_rings 1095 = .ok (.istore 26, 2) := by decide +kernel
theorem dL_rings_1097 : decode cL_rings 1097 = .ok (.aload 12, 2) := by decide +kernel
theorem dL_rings_1099 : decode cL_rings 1099 = .ok (.iload 26, 2) := by decide +kernel
theorem dL_rings_1101 : decode cL_rings 1101 = .ok (.aload 12, 2) := by decide +kernel
theorem dL_rings_1103 : decode cL_rings 1103 = .ok (.iload 26, 2) := by decide +kernel
theorem dL_rings_1105 : decode cL_rings 1105 = .ok (.laload, 1) := by decide +kernel
theorem dL_rings_1106 : decode cL_rings 1106 = .ok (.ldc2_w 196, 3) := by decide +kernel
theorem dL_rings_1109 : decode cL_rings 1109 = .ok (.bipush 32, 2) := by decide +kernel
theorem dL_rings_1111 : decode cL_rings 1111 = .ok (.iload 17, 2) := by decide +kernel
theorem dL_rings_1113 : decode cL_rings 1113 = .ok (.iconst 2, 1) := by decide +kernel
theorem dL_rings_1114 : decode cL_rings 1114 = .ok (.irem, 1) := by decide +kernel
theorem dL_rings_1115 : decode cL_rings 1115 = .ok (.imul, 1) := by decide +kernel
theorem dL_rings_1116 : decode cL_rings 1116 = .ok (.lshl, 1) := by decide +kernel
theorem dL_rings_1117 : decode cL_rings 1117 = .ok (.ldc2_w 241, 3) := by decide +kernel
theorem dL_rings_1120 : decode cL_rings 1120 = .ok (.lxor, 1) := by decide +kernel
theorem dL_rings_1121 : decode cL_rings 1121 = .ok (.land, 1) := by decide +kernel
theorem dL_rings_1122 : decode cL_rings 1122 = .ok (.lload 19, 2) := by decide +kernel
theorem dL_rings_1124 : decode cL_rings 1124 = .ok (.bipush 32, 2) := by decide +kernel
theorem dL_rings_1126 : decode cL_rings 1126 = .ok (.iload 17, 2) := by decide +kernel
theorem dL_rings_1128 : decode cL_rings 1128 = .ok (.iconst 2, 1) := by decide +kernel
theorem dL_rings_1129 : decode cL_rings 1129 = .ok (.irem, 1) := by decide +kernel
theorem dL_rings_1130 : decode cL_rings 1130 = .ok (.imul, 1) := by decide +kernel
theorem dL_rings_1131 : decode cL_rings 1131 = .ok (.lshl, 1) := by decide +kernel
theorem dL_rings_1132 : decode cL_rings 1132 = .ok (.lor, 1) := by decide +kernel
theorem dL_rings_1133 : decode cL_rings 1133 = .ok (.lastore, 1) := by decide +kernel
theorem dL_rings_1134 : decode cL_rings 1134 = .ok (.aload 7, 2) := by decide +kernel
theorem dL_rings_1136 : decode cL_rings 1136 = .ok (.iload 15, 2) := by decide +kernel
theorem dL_rings_1138 : decode cL_rings 1138 = .ok (.dup2, 1) := by decide +kernel
theorem dL_rings_1139 : decode cL_rings 1139 = .ok (.iaload, 1) := by decide +kernel
theorem dL_rings_1140 : decode cL_rings 1140 = .ok (.iconst 1, 1) := by decide +kernel
theorem dL_rings_1141 : decode cL_rings 1141 = .ok (.iload 17, 2) := by decide +kernel
theorem dL_rings_1143 : decode cL_rings 1143 = .ok (.iconst 2, 1) := by decide +kernel
theorem dL_rings_1144 : decode cL_rings 1144 = .ok (.irem, 1) := by decide +kernel
theorem dL_rings_1145 : decode cL_rings 1145 = .ok (.iadd, 1) := by decide +kernel
theorem dL_rings_1146 : decode cL_rings 1146 = .ok (.iadd, 1) := by decide +kernel
theorem dL_rings_1147 : decode cL_rings 1147 = .ok (.iastore, 1) := by decide +kernel
theorem dL_rings_1148 : decode cL_rings 1148 = .ok (.aload 7, 2) := by decide +kernel
theorem dL_rings_1150 : decode cL_rings 1150 = .ok (.bipush 6, 2) := by decide +kernel
theorem dL_rings_1152 : decode cL_rings 1152 = .ok (.iload 15, 2) := by decide +kernel
theorem dL_rings_1154 : decode cL_rings 1154 = .ok (.iadd, 1) := by decide +kernel
theorem dL_rings_1155 : decode cL_rings 1155 = .ok (.dup2, 1) := by decide +kernel
theorem dL_rings_1156 : decode cL_rings 1156 = .ok (.iaload, 1) := by decide +kernel
theorem dL_rings_1157 : decode cL_rings 1157 = .ok (.iconst 1, 1) := by decide +kernel
theorem dL_rings_1158 : decode cL_rings 1158 = .ok (.iadd, 1) := by decide +kernel
theorem dL_rings_1159 : decode cL_rings 1159 = .ok (.iastore, 1) := by decide +kernel
theorem dL_rings_1160 : decode cL_rings 1160 = .ok (.aload 14, 2) := by decide +kernel
theorem dL_rings_1162 : decode cL_rings 1162 = .ok (.bipush 16, 2) := by decide +kernel
theorem dL_rings_1164 : decode cL_rings 1164 = .ok (.iload 15, 2) := by decide +kernel
theorem dL_rings_1166 : decode cL_rings 1166 = .ok (.iadd, 1) := by decide +kernel
theorem dL_rings_1167 : decode cL_rings 1167 = .ok (.dup2, 1) := by decide +kernel
theorem dL_rings_1168 : decode cL_rings 1168 = .ok (.iaload, 1) := by decide +kernel
theorem dL_rings_1169 : decode cL_rings 1169 = .ok (.iconst 1, 1) := by decide +kernel
theorem dL_rings_1170 : decode cL_rings 1170 = .ok (.iadd, 1) := by decide +kernel
theorem dL_rings_1171 : decode cL_rings 1171 = .ok (.iastore, 1) := by decide +kernel
theorem dL_rings_1172 : decode cL_rings 1172 = .ok (.aload 4, 2) := by decide +kernel
theorem dL_rings_1174 : decode cL_rings 1174 = .ok (.aload 5, 2) := by decide +kernel
theorem dL_rings_1176 : decode cL_rings 1176 = .ok (.aload 6, 2) := by decide +kernel
theorem dL_rings_1178 : decode cL_rings 1178 = .ok (.aload 7, 2) := by decide +kernel
theorem dL_rings_1180 : decode cL_rings 1180 = .ok (.aload 8, 2) := by decide +kernel
theorem dL_rings_1182 : decode cL_rings 1182 = .ok (.aload 12, 2) := by decide +kernel
theorem dL_rings_1184 : decode cL_rings 1184 = .ok (.aload 13, 2) := by decide +kernel
theorem dL_rings_1186 : decode cL_rings 1186 = .ok (.aload 14, 2) := by decide +kernel
theorem dL_rings_1188 : decode cL_rings 1188 = .ok (.invokestatic 272, 3) := by decide +kernel
theorem dL_rings_1191 : decode cL_rings 1191 = .ok (.pop, 1) := by decide +kernel
theorem dL_rings_1192 : decode cL_rings 1192 = .ok (.aload_n 0, 1) := by decide +kernel
theorem dL_rings_1193 : decode cL_rings 1193 = .ok (.iload 15, 2) := by decide +kernel
theorem dL_rings_1195 : decode cL_rings 1195 = .ok (.lload 19, 2) := by decide +kernel
theorem dL_rings_1197 : decode cL_rings 1197 = .ok (.l2i, 1) := by decide +kernel
theorem dL_rings_1198 : decode cL_rings 1198 = .ok (.invokestatic 278, 3) := by decide +kernel
theorem dL_rings_1201 : decode cL_rings 1201 = .ok (.iload 21, 2) := by decide +kernel
theorem dL_rings_1203 : decode cL_rings 1203 = .ok (.if_icmp .ne 7, 3) := by decide +kernel
theorem dL_rings_1206 : decode cL_rings 1206 = .ok (.iconst 1, 1) := by decide +kernel
theorem dL_rings_1207 : decode cL_rings 1207 = .ok (.goto 4, 3) := by decide +kernel
theorem dL_rings_1210 : decode cL_rings 1210 = .ok (.iconst 0, 1) := by decide +kernel
theorem dL_rings_1211 : decode cL_rings 1211 = .ok (.ireturn, 1) := by decide +kernel
theorem dL_falseMany_0 : decode cL_falseMany 0 = .ok (.lload_n 0, 1) := by decide +kernel
theorem dL_falseMany_1 : decode cL_falseMany 1 = .ok (.invokestatic 155, 3) := by decide +kernel
theorem dL_falseMany_4 : decode cL_falseMany 4 = .ok (.istore_n 3, 1) := by decide +kernel
theorem dL_falseMany_5 : decode cL_falseMany 5 = .ok (.bipush 64, 2) := by decide +kernel
theorem dL_falseMany_7 : decode cL_falseMany 7 = .ok (.newarray .int, 2) := by decide +kernel
theorem dL_falseMany_9 : decode cL_falseMany 9 = .ok (.astore 4, 2) := by decide +kernel
theorem dL_falseMany_11 : decode cL_falseMany 11 = .ok (.iconst 0, 1) := by decide +kernel
theorem dL_falseMany_12 : decode cL_falseMany 12 = .ok (.istore 5, 2) := by decide +kernel
theorem dL_falseMany_14 : decode cL_falseMany 14 = .ok (.iload_n 3, 1) := by decide +kernel
theorem dL_falseMany_15 : decode cL_falseMany 15 = .ok (.invokestatic 165, 3) := by decide +kernel
theorem dL_falseMany_18 : decode cL_falseMany 18 = .ok (.istore 6, 2) := by decide +kernel
theorem dL_falseMany_20 : decode cL_falseMany 20 = .ok (.iconst 0, 1) := by decide +kernel
theorem dL_falseMany_21 : decode cL_falseMany 21 = .ok (.istore 7, 2) := by decide +kernel
theorem dL_falseMany_23 : decode cL_falseMany 23 = .ok (.iload 7, 2) := by decide +kernel
theorem dL_falseMany_25 : decode cL_falseMany 25 = .ok (.lload_n 0, 1) := by decide +kernel
theorem dL_falseMany_26 : decode cL_falseMany 26 = .ok (.invokestatic 149, 3) := by decide +kernel
theorem dL_falseMany_29 : decode cL_falseMany 29 = .ok (.if_icmp .ge 30, 3) := by decide +kernel
theorem dL_falseMany_32 : decode cL_falseMany 32 = .ok (.iload 6, 2) := by decide +kernel
theorem dL_falseMany_34 : decode cL_falseMany 34 = .ok (.iload_n 3, 1) := by decide +kernel
theorem dL_falseMany_35 : decode cL_falseMany 35 = .ok (.lload_n 0, 1) := by decide +kernel
theorem dL_falseMany_36 : decode cL_falseMany 36 = .ok (.iconst 0, 1) := by decide +kernel
theorem dL_falseMany_37 : decode cL_falseMany 37 = .ok (.iload 7, 2) := by decide +kernel
theorem dL_falseMany_39 : decode cL_falseMany 39 = .ok (.invokestatic 158, 3) := by decide +kernel
theorem dL_falseMany_42 : decode cL_falseMany 42 = .ok (.invokestatic 162, 3) := by decide +kernel
theorem dL_falseMany_45 : decode cL_falseMany 45 = .ok (.istore 6, 2) := by decide +kernel
theorem dL_falseMany_47 : decode cL_falseMany 47 = .ok (.aload_n 2, 1) := by decide +kernel
theorem dL_falseMany_48 : decode cL_falseMany 48 = .ok (.iload 7, 2) := by decide +kernel
theorem dL_falseMany_50 : decode cL_falseMany 50 = .ok (.iload 6, 2) := by decide +kernel
theorem dL_falseMany_52 : decode cL_falseMany 52 = .ok (.iastore, 1) := by decide +kernel
theorem dL_falseMany_53 : decode cL_falseMany 53 = .ok (.iinc 7 1, 3) := by decide +kernel
theorem dL_falseMany_56 : decode cL_falseMany 56 = .ok (.goto (-33), 3) := by decide +kernel
theorem dL_falseMany_59 : decode cL_falseMany 59 = .ok (.iconst 0, 1) := by decide +kernel
theorem dL_falseMany_60 : decode cL_falseMany 60 = .ok (.istore 7, 2) := by decide +kernel
theorem dL_falseMany_62 : decode cL_falseMany 62 = .ok (.iload 7, 2) := by decide +kernel
theorem dL_falseMany_64 : decode cL_falseMany 64 = .ok (.lload_n 0, 1) := by decide +kernel
theorem dL_falseMany_65 : decode cL_falseMany 65 = .ok (.invokestatic 149, 3) := by decide +kernel
theorem dL_falseMany_68 : decode cL_falseMany 68 = .ok (.if_icmp .ge 145, 3) := by decide +kernel
theorem dL_falseMany_71 : decode cL_falseMany 71 = .ok (.iconst 0, 1) := by decide +kernel
theorem dL_falseMany_72 : decode cL_falseMany 72 = .ok (.istore 8, 2) := by decide +kernel
theorem dL_falseMany_74 : decode cL_falseMany 74 = .ok (.iload 8, 2) := by decide +kernel
theorem dL_falseMany_76 : decode cL_falseMany 76 = .ok (.lload_n 0, 1) := by decide +kernel
theorem dL_falseMany_77 : decode cL_falseMany 77 = .ok (.invokestatic 149, 3) := by decide +kernel
theorem dL_falseMany_80 : decode cL_falseMany 80 = .ok (.if_icmp .ge 127, 3) := by decide +kernel
theorem dL_falseMany_83 : decode cL_falseMany 83 = .ok (.iconst 0, 1) := by decide +kernel
theorem dL_falseMany_84 : decode cL_falseMany 84 = .ok (.istore 9, 2) := by decide +kernel
theorem dL_falseMany_86 : decode cL_falseMany 86 = .ok (.iconst 0, 1) := by decide +kernel
theorem dL_falseMany_87 : decode cL_falseMany 87 = .ok (.istore 10, 2) := by decide +kernel
theorem dL_falseMany_89 : decode cL_falseMany 89 = .ok (.iload 10, 2) := by decide +kernel
theorem dL_falseMany_91 : decode cL_falseMany 91 = .ok (.iload_n 3, 1) := by decide +kernel
theorem dL_falseMany_92 : decode cL_falseMany 92 = .ok (.if_icmp .ge 39, 3) := by decide +kernel
theorem dL_falseMany_95 : decode cL_falseMany 95 = .ok (.iload 9, 2) := by decide +kernel
theorem dL_falseMany_97 : decode cL_falseMany 97 = .ok (.aload_n 2, 1) := by decide +kernel
theorem dL_falseMany_98 : decode cL_falseMany 98 = .ok (.iload 7, 2) := by decide +kernel
theorem dL_falseMany_100 : decode cL_falseMany 100 = .ok (.iaload, 1) := by decide +kernel
theorem dL_falseMany_101 : decode cL_falseMany 101 = .ok (.iload_n 3, 1) := by decide +kernel
theorem dL_falseMany_102 : decode cL_falseMany 102 = .ok (.aload_n 2, 1) := by decide +kernel
theorem dL_falseMany_103 : decode cL_falseMany 103 = .ok (.iload 8, 2) := by decide +kernel
theorem dL_falseMany_105 : decode cL_falseMany 105 = .ok (.iaload, 1) := by decide +kernel
theorem dL_falseMany_106 : decode cL_falseMany 106 = .ok (.iconst 3, 1) := by decide +kernel
theorem dL_falseMany_107 : decode cL_falseMany 107 = .ok (.iload 10, 2) := by decide +kernel
theorem dL_falseMany_109 : decode cL_falseMany 109 = .ok (.imul, 1) := by decide +kernel
theorem dL_falseMany_110 : decode cL_falseMany 110 = .ok (.ishr, 1) := by decide +kernel
theorem dL_falseMany_111 : decode cL_falseMany 111 = .ok (.bipush 7, 2) := by decide +kernel
theorem dL_falseMany_113 : decode cL_falseMany 113 = .ok (.iand, 1) := by decide +kernel
theorem dL_falseMany_114 : decode cL_falseMany 114 = .ok (.invokestatic 144, 3) := by decide +kernel
theorem dL_falseMany_117 : decode cL_falseMany 117 = .ok (.iconst 3, 1) := by decide +kernel
theorem dL_falseMany_118 : decode cL_falseMany 118 = .ok (.iload 10, 2) := by decide +kernel
theorem dL_falseMany_120 : decode cL_falseMany 120 = .ok (.imul, 1) := by decide +kernel
theorem dL_falseMany_121 : decode cL_falseMany 121 = .ok (.ishl, 1) := by decide +kernel
theorem dL_falseMany_122 : decode cL_falseMany 122 = .ok (.ior, 1) := by decide +kernel
theorem dL_falseMany_123 : decode cL_falseMany 123 = .ok (.istore 9, 2) := by decide +kernel
theorem dL_falseMany_125 : decode cL_falseMany 125 = .ok (.iinc 10 1, 3) := by decide +kernel
theorem dL_falseMany_128 : decode cL_falseMany 128 = .ok (.goto (-39), 3) := by decide +kernel
theorem dL_falseMany_131 : decode cL_falseMany 131 = .ok (.iload 9, 2) := by decide +kernel
theorem dL_falseMany_133 : decode cL_falseMany 133 = .ok (.iload_n 3, 1) := by decide +kernel
theorem dL_falseMany_134 : decode cL_falseMany 134 = .ok (.invokestatic 165, 3) := by decide +kernel
theorem dL_falseMany_137 : decode cL_falseMany 137 = .ok (.if_icmp .eq 7, 3) := by decide +kernel
theorem dL_falseMany_140 : decode cL_falseMany 140 = .ok (.iconst 1, 1) := by decide +kernel
theorem dL_falseMany_141 : decode cL_falseMany 141 = .ok (.goto 4, 3) := by decide +kernel
theorem dL_falseMany_144 : decode cL_falseMany 144 = .ok (.iconst 0, 1) := by decide +kernel
theorem dL_falseMany_145 : decode cL_falseMany 145 = .ok (.istore 10, 2) := by decide +kernel
theorem dL_falseMany_147 : decode cL_falseMany 147 = .ok (.iconst 0, 1) := by decide +kernel
theorem dL_falseMany_148 : decode cL_falseMany 148 = .ok (.istore 11, 2) := by decide +kernel
theorem dL_falseMany_150 : decode cL_falseMany 150 = .ok (.iload 11, 2) := by decide +kernel
theorem dL_falseMany_152 : decode cL_falseMany 152 = .ok (.iload 5, 2) := by decide +kernel
theorem dL_falseMany_154 : decode cL_falseMany 154 = .ok (.if_icmp .ge 29, 3) := by decide +kernel
theorem dL_falseMany_157 : decode cL_falseMany 157 = .ok (.iload 10, 2) := by decide +kernel
theorem dL_falseMany_159 : decode cL_falseMany 159 = .ok (.aload 4, 2) := by decide +kernel
theorem dL_falseMany_161 : decode cL_falseMany 161 = .ok (.iload 11, 2) := by decide +kernel
theorem dL_falseMany_163 : decode cL_falseMany 163 = .ok (.iaload, 1) := by decide +kernel
theorem dL_falseMany_164 : decode cL_falseMany 164 = .ok (.iload 9, 2) := by decide +kernel
theorem dL_falseMany_166 : decode cL_falseMany 166 = .ok (.if_icmp .eq 7, 3) := by decide +kernel
theorem dL_falseMany_169 : decode cL_falseMany 169 = .ok (.iconst 1, 1) := by decide +kernel
theorem dL_falseMany_170 : decode cL_falseMany 170 = .ok (.goto 4, 3) := by decide +kernel
theorem dL_falseMany_173 : decode cL_falseMany 173 = .ok (.iconst 0, 1) := by decide +kernel
theorem dL_falseMany_174 : decode cL_falseMany 174 = .ok (.iand, 1) := by decide +kernel
theorem dL_falseMany_175 : decode cL_falseMany 175 = .ok (.istore 10, 2) := by decide +kernel
theorem dL_falseMany_177 : decode cL_falseMany 177 = .ok (.iinc 11 1, 3) := by decide +kernel
theorem dL_falseMany_180 : decode cL_falseMany 180 = .ok (.goto (-30), 3) := by decide +kernel
theorem dL_falseMany_183 : decode cL_falseMany 183 = .ok (.iload 10, 2) := by decide +kernel
theorem dL_falseMany_185 : decode cL_falseMany 185 = .ok (.ifCond .ne 6, 3) := by decide +kernel
theorem dL_falseMany_188 : decode cL_falseMany 188 = .ok (.goto 13, 3) := by decide +kernel
theorem dL_falseMany_191 : decode cL_falseMany 191 = .ok (.aload 4, 2) := by decide +kernel
theorem dL_falseMany_193 : decode cL_falseMany 193 = .ok (.iload 5, 2) := by decide +kernel
theorem dL_falseMany_195 : decode cL_falseMany 195 = .ok (.iload 9, 2) := by decide +kernel
theorem dL_falseMany_197 : decode cL_falseMany 197 = .ok (.iastore, 1) := by decide +kernel
theorem dL_falseMany_198 : decode cL_falseMany 198 = .ok (.iinc 5 1, 3) := by decide +kernel
theorem dL_falseMany_201 : decode cL_falseMany 201 = .ok (.iinc 8 1, 3) := by decide +kernel
theorem dL_falseMany_204 : decode cL_falseMany 204 = .ok (.goto (-130), 3) := by decide +kernel
theorem dL_falseMany_207 : decode cL_falseMany 207 = .ok (.iinc 7 1, 3) := by decide +kernel
theorem dL_falseMany_210 : decode cL_falseMany 210 = .ok (.goto (-148), 3) := by decide +kernel
theorem dL_falseMany_213 : decode cL_falseMany 213 = .ok (.iload 5, 2) := by decide +kernel
theorem dL_falseMany_215 : decode cL_falseMany 215 = .ok (.ireturn, 1) := by decide +kernel
theorem dL_isTold_0 : decode cL_isTold 0 = .ok (.iconst 0, 1) := by decide +kernel
theorem dL_isTold_1 : decode cL_isTold 1 = .ok (.istore 13, 2) := by decide +kernel
theorem dL_isTold_3 : decode cL_isTold 3 = .ok (.iload 13, 2) := by decide +kernel
theorem dL_isTold_5 : decode cL_isTold 5 = .ok (.aload 12, 2) := by decide +kernel
theorem dL_isTold_7 : decode cL_isTold 7 = .ok (.iconst 0, 1) := by decide +kernel
theorem dL_isTold_8 : decode cL_isTold 8 = .ok (.iaload, 1) := by decide +kernel
theorem dL_isTold_9 : decode cL_isTold 9 = .ok (.if_icmp .ge 313, 3) := by decide +kernel
theorem dL_isTold_12 : decode cL_isTold 12 = .ok (.aload_n 3, 1) := by decide +kernel
theorem dL_isTold_13 : decode cL_isTold 13 = .ok (.iload 13, 2) := by decide +kernel
theorem dL_isTold_15 : decode cL_isTold 15 = .ok (.laload, 1) := by decide +kernel
theorem dL_isTold_16 : decode cL_isTold 16 = .ok (.invokestatic 155, 3) := by decide +kernel
theorem dL_isTold_19 : decode cL_isTold 19 = .ok (.istore 14, 2) := by decide +kernel
theorem dL_isTold_21 : decode cL_isTold 21 = .ok (.iload_n 2, 1) := by decide +kernel
theorem dL_isTold_22 : decode cL_isTold 22 = .ok (.iconst 3, 1) := by decide +kernel
theorem dL_isTold_23 : decode cL_isTold 23 = .ok (.invokestatic 213, 3) := by decide +kernel
theorem dL_isTold_26 : decode cL_isTold 26 = .ok (.istore 15, 2) := by decide +kernel
theorem dL_isTold_28 : decode cL_isTold 28 = .ok (.iload 14, 2) := by decide +kernel
theorem dL_isTold_30 : decode cL_isTold 30 = .ok (.invokestatic 165, 3) := by decide +kernel
theorem dL_isTold_33 : decode cL_isTold 33 = .ok (.aload_n 3, 1) := by decide +kernel
theorem dL_isTold_34 : decode cL_isTold 34 = .ok (.iload 13, 2) := by decide +kernel
theorem dL_isTold_36 : decode cL_isTold 36 = .ok (.laload, 1) := by decide +kernel
theorem dL_isTold_37 : decode cL_isTold 37 = .ok (.iconst 0, 1) := by decide +kernel
theorem dL_isTold_38 : decode cL_isTold 38 = .ok (.invokestatic 292, 3) := by decide +kernel
theorem dL_isTold_41 : decode cL_isTold 41 = .ok (.istore 16, 2) := by decide +kernel
theorem dL_isTold_43 : decode cL_isTold 43 = .ok (.iconst 1, 1) := by decide +kernel
theorem dL_isTold_44 : decode cL_isTold 44 = .ok (.istore 17, 2) := by decide +kernel
theorem dL_isTold_46 : decode cL_isTold 46 = .ok (.iload 16, 2) := by decide +kernel
theorem dL_isTold_48 : decode cL_isTold 48 = .ok (.iload 14, 2) := by decide +kernel
theorem dL_isTold_50 : decode cL_isTold 50 = .ok (.invokestatic 165, 3) := by decide +kernel
theorem dL_isTold_53 : decode cL_isTold 53 = .ok (.if_icmp .eq 21, 3) := by decide +kernel
theorem dL_isTold_56 : decode cL_isTold 56 = .ok (.iload 16, 2) := by decide +kernel
theorem dL_isTold_58 : decode cL_isTold 58 = .ok (.aload_n 3, 1) := by decide +kernel
theorem dL_isTold_59 : decode cL_isTold 59 = .ok (.iload 13, 2) := by decide +kernel
theorem dL_isTold_61 : decode cL_isTold 61 = .ok (.laload, 1) := by decide +kernel
theorem dL_isTold_62 : decode cL_isTold 62 = .ok (.iconst 0, 1) := by decide +kernel
theorem dL_isTold_63 : decode cL_isTold 63 = .ok (.invokestatic 292, 3) := by decide +kernel
theorem dL_isTold_66 : decode cL_isTold 66 = .ok (.istore 16, 2) := by decide +kernel
theorem dL_isTold_68 : decode cL_isTold 68 = .ok (.iinc 17 1, 3) := by decide +kernel
theorem dL_isTold_71 : decode cL_isTold 71 = .ok (.goto (-25), 3) := by decide +kernel
theorem dL_isTold_74 : decode cL_isTold 74 = .ok (.iload_n 2, 1) := by decide +kernel
theorem dL_isTold_75 : decode cL_isTold 75 = .ok (.iconst 2, 1) := by decide +kernel
theorem dL_isTold_76 : decode cL_isTold 76 = .ok (.ishr, 1) := by decide +kernel
theorem dL_isTold_77 : decode cL_isTold 77 = .ok (.aload_n 3, 1) := by decide +kernel
theorem dL_isTold_78 : decode cL_isTold 78 = .ok (.iload 13, 2) := by decide +kernel
theorem dL_isTold_80 : decode cL_isTold 80 = .ok (.laload, 1) := by decide +kernel
theorem dL_isTold_81 : decode cL_isTold 81 = .ok (.invokestatic 149, 3) := by decide +kernel
theorem dL_isTold_84 : decode cL_isTold 84 = .ok (.invokestatic 213, 3) := by decide +kernel
theorem dL_isTold_87 : decode cL_isTold 87 = .ok (.istore 18, 2) := by decide +kernel
theorem dL_isTold_89 : decode cL_isTold 89 = .ok (.aload_n 0, 1) := by decide +kernel
theorem dL_isTold_90 : decode cL_isTold 90 = .ok (.iload 13, 2) := by decide +kernel
theorem dL_isTold_92 : decode cL_isTold 92 = .ok (.invokestatic 227, 3) := by decide +kernel
theorem dL_isTold_95 : decode cL_isTold 95 = .ok (.iload 14, 2) := by decide +kernel
theorem dL_isTold_97 : decode cL_isTold 97 = .ok (.if_icmp .ne 188, 3) := by decide +kernel
theorem dL_isTold_100 : decode cL_isTold 100 = .ok (.aload_n 0, 1) := by decide +kernel
theorem dL_isTold_101 : decode cL_isTold 101 = .ok (.iload 13, 2) := by decide +kernel
theorem dL_isTold_103 : decode cL_isTold 103 = .ok (.iload 15, 2) := by decide +kernel
theorem dL_isTold_105 : decode cL_isTold 105 = .ok (.invokestatic 296, 3) := by decide +kernel
theorem dL_isTold_108 : decode cL_isTold 108 = .ok (.iload 14, 2) := by decide +kernel
theorem dL_isTold_110 : decode cL_isTold 110 = .ok (.invokestatic 165, 3) := by decide +kernel
theorem dL_isTold_113 : decode cL_isTold 113 = .ok (.aload_n 3, 1) := by decide +kernel
theorem dL_isTold_114 : decode cL_isTold 114 = .ok (.iload 13, 2) := by decide +kernel
theorem dL_isTold_116 : decode cL_isTold 116 = .ok (.laload, 1) := by decide +kernel
theorem dL_isTold_117 : decode cL_isTold 117 = .ok (.iload 15, 2) := by decide +kernel
theorem dL_isTold_119 : decode cL_isTold 119 = .ok (.invokestatic 292, 3) := by decide +kernel
theorem dL_isTold_122 : decode cL_isTold 122 = .ok (.iload 14, 2) := by decide +kernel
theorem dL_isTold_124 : decode cL_isTold 124 = .ok (.invokestatic 298, 3) := by decide +kernel
theorem dL_isTold_127 : decode cL_isTold 127 = .ok (.if_icmp .ne 158, 3) := by decide +kernel
theorem dL_isTold_130 : decode cL_isTold 130 = .ok (.aload_n 0, 1) := by decide +kernel
theorem dL_isTold_131 : decode cL_isTold 131 = .ok (.iload 13, 2) := by decide +kernel
theorem dL_isTold_133 : decode cL_isTold 133 = .ok (.invokestatic 301, 3) := by decide +kernel
theorem dL_isTold_136 : decode cL_isTold 136 = .ok (.iload 17, 2) := by decide +kernel
theorem dL_isTold_138 : decode cL_isTold 138 = .ok (.if_icmp .ne 147, 3) := by decide +kernel
theorem dL_isTold_141 : decode cL_isTold 141 = .ok (.aload_n 0, 1) := by decide +kernel
theorem dL_isTold_142 : decode cL_isTold 142 = .ok (.iload 13, 2) := by decide +kernel
theorem dL_isTold_144 : decode cL_isTold 144 = .ok (.iload 15, 2) := by decide +kernel
theorem dL_isTold_146 : decode cL_isTold 146 = .ok (.iload 18, 2) := by decide +kernel
theorem dL_isTold_148 : decode cL_isTold 148 = .ok (.invokestatic 239, 3) := by decide +kernel
theorem dL_isTold_151 : decode cL_isTold 151 = .ok (.aload_n 3, 1) := by decide +kernel
theorem dL_isTold_152 : decode cL_isTold 152 = .ok (.iload 13, 2) := by decide +kernel
theorem dL_isTold_154 : decode cL_isTold 154 = .ok (.laload, 1) := by decide +kernel
theorem dL_isTold_155 : decode cL_isTold 155 = .ok (.iload 15, 2) := by decide +kernel
theorem dL_isTold_157 : decode cL_isTold 157 = .ok (.iload 18, 2) := by decide +kernel
theorem dL_isTold_159 : decode cL_isTold 159 = .ok (.invokestatic 158, 3) := by decide +kernel
theorem dL_isTold_162 : decode cL_isTold 162 = .ok (.if_icmp .ne 123, 3) := by decide +kernel
theorem dL_isTold_165 : decode cL_isTold 165 = .ok (.aload_n 0, 1) := by decide +kernel
theorem dL_isTold_166 : decode cL_isTold 166 = .ok (.iload 13, 2) := by decide +kernel
theorem dL_isTold_168 : decode cL_isTold 168 = .ok (.iload 15, 2) := by decide +kernel
theorem dL_isTold_170 : decode cL_isTold 170 = .ok (.aload_n 3, 1) := by decide +kernel
theorem dL_isTold_171 : decode cL_isTold 171 = .ok (.iload 13, 2) := by decide +kernel
theorem dL_isTold_173 : decode cL_isTold 173 = .ok (.laload, 1) := by decide +kernel
theorem dL_isTold_174 : decode cL_isTold 174 = .ok (.invokestatic 149, 3) := by decide +kernel
theorem dL_isTold_177 : decode cL_isTold 177 = .ok (.invokestatic 239, 3) := by decide +kernel
theorem dL_isTold_180 : decode cL_isTold 180 = .ok (.iconst (-1), 1) := by decide +kernel
theorem dL_isTold_181 : decode cL_isTold 181 = .ok (.if_icmp .ne 104, 3) := by decide +kernel
theorem dL_isTold_184 : decode cL_isTold 184 = .ok (.aload_n 0, 1) := by decide +kernel
theorem dL_isTold_185 : decode cL_isTold 185 = .ok (.iload 13, 2) := by decide +kernel
theorem dL_isTold_187 : decode cL_isTold 187 = .ok (.iconst 3, 1) := by decide +kernel
theorem dL_isTold_188 : decode cL_isTold 188 = .ok (.iconst 0, 1) := by decide +kernel
theorem dL_isTold_189 : decode cL_isTold 189 = .ok (.invokestatic 239, 3) := by decide +kernel
theorem dL_isTold_192 : decode cL_isTold 192 = .ok (.sipush (-7200), 3) := by decide +kernel
theorem dL_isTold_195 : decode cL_isTold 195 = .ok (.if_icmp .ne 90, 3) := by decide +kernel
theorem dL_isTold_198 : decode cL_isTold 198 = .ok (.aload_n 0, 1) := by decide +kernel
theorem dL_isTold_199 : decode cL_isTold 199 = .ok (.iload 13, 2) := by decide +kernel
theorem dL_isTold_201 : decode cL_isTold 201 = .ok (.iconst 3, 1) := by decide +kernel
theorem dL_isTold_202 : decode cL_isTold 202 = .ok (.iconst (-1), 1) := by decide +kernel
theorem dL_isTold_203 : decode cL_isTold 203 = .ok (.invokestatic 239, 3) := by decide +kernel
theorem dL_isTold_206 : decode cL_isTold 206 = .ok (.sipush (-7100), 3) := by decide +kernel
theorem dL_isTold_209 : decode cL_isTold 209 = .ok (.if_icmp .ne 76, 3) := by decide +kernel
theorem dL_isTold_212 : decode cL_isTold 212 = .ok (.aload_n 0, 1) := by decide +kernel
theorem dL_isTold_213 : decode cL_isTold 213 = .ok (.iload 13, 2) := by decide +kernel
theorem dL_isTold_215 : decode cL_isTold 215 = .ok (.iconst (-1), 1) := by decide +kernel
theorem dL_isTold_216 : decode cL_isTold 216 = .ok (.invokestatic 296, 3) := by decide +kernel
theorem dL_isTold_219 : decode cL_isTold 219 = .ok (.sipush (-7200), 3) := by decide +kernel
theorem dL_isTold_222 : decode cL_isTold 222 = .ok (.if_icmp .ne 63, 3) := by decide +kernel
theorem dL_isTold_225 : decode cL_isTold 225 = .ok (.aload_n 0, 1) := by decide +kernel
theorem dL_isTold_226 : decode cL_isTold 226 = .ok (.iload 13, 2) := by decide +kernel
theorem dL_isTold_228 : decode cL_isTold 228 = .ok (.iconst 0, 1) := by decide +kernel
theorem dL_isTold_229 : decode cL_isTold 229 = .ok (.invokestatic 303, 3) := by decide +kernel
theorem dL_isTold_232 : decode cL_isTold 232 = .ok (.ifCond .ne 53, 3) := by decide +kernel
theorem dL_isTold_235 : decode cL_isTold 235 = .ok (.aload_n 0, 1) := by decide +kernel
theorem dL_isTold_236 : decode cL_isTold 236 = .ok (.iload 13, 2) := by decide +kernel
theorem dL_isTold_238 : decode cL_isTold 238 = .ok (.iconst (-1), 1) := by decide +kernel
theorem dL_isTold_239 : decode cL_isTold 239 = .ok (.invokestatic 303, 3) := by decide +kernel
theorem dL_isTold_242 : decode cL_isTold 242 = .ok (.sipush (-7100), 3) := by decide +kernel
theorem dL_isTold_245 : decode cL_isTold 245 = .ok (.if_icmp .ne 40, 3) := by decide +kernel
theorem dL_isTold_248 : decode cL_isTold 248 = .ok (.aload_n 0, 1) := by decide +kernel
theorem dL_isTold_249 : decode cL_isTold 249 = .ok (.iload 13, 2) := by decide +kernel
theorem dL_isTold_251 : decode cL_isTold 251 = .ok (.iload 14, 2) := by decide +kernel
theorem dL_isTold_253 : decode cL_isTold 253 = .ok (.iconst 4, 1) := by decide +kernel
theorem dL_isTold_254 : decode cL_isTold 254 = .ok (.if_icmp .ne 8, 3) := by decide +kernel
theorem dL_isTold_257 : decode cL_isTold 257 = .ok (.bipush 24, 2) := by decide +kernel
theorem dL_isTold_259 : decode cL_isTold 259 = .ok (.goto 17, 3) := by decide +kernel
theorem dL_isTold_262 : decode cL_isTold 262 = .ok (.iload 14, 2) := by decide +kernel
theorem dL_isTold_264 : decode cL_isTold 264 = .ok (.iconst 5, 1) := by decide +kernel
theorem dL_isTold_265 : decode cL_isTold 265 = .ok (.if_icmp .ne 8, 3) := by decide +kernel
theorem dL_isTold_268 : decode cL_isTold 268 = .ok (.bipush 120, 2) := by decide +kernel
theorem dL_isTold_270 : decode cL_isTold 270 = .ok (.goto 6, 3) := by decide +kernel
theorem dL_isTold_273 : decode cL_isTold 273 = .ok (.sipush 720, 3) := by decide +kernel
theorem dL_isTold_276 : decode cL_isTold 276 = .ok (.invokestatic 303, 3) := by decide +kernel
theorem dL_isTold_279 : decode cL_isTold 279 = .ok (.sipush (-7100), 3) := by decide +kernel
theorem dL_isTold_282 : decode cL_isTold 282 = .ok (.if_icmp .eq 5, 3) := by decide +kernel
theorem dL_isTold_285 : decode cL_isTold 285 = .ok (.iconst 0, 1) := by decide +kernel
theorem dL_isTold_286 : decode cL_isTold 286 = .ok (.ireturn, 1) := by decide +kernel
theorem dL_isTold_287 : decode cL_isTold 287 = .ok (.iload_n 1, 1) := by decide +kernel
theorem dL_isTold_288 : decode cL_isTold 288 = .ok (.bipush 16, 2) := by decide +kernel
theorem dL_isTold_290 : decode cL_isTold 290 = .ok (.irem, 1) := by decide +kernel
theorem dL_isTold_291 : decode cL_isTold 291 = .ok (.bipush 15, 2) := by decide +kernel
theorem dL_isTold_293 : decode cL_isTold 293 = .ok (.if_icmp .ne 23, 3) := by decide +kernel
theorem dL_isTold_296 : decode cL_isTold 296 = .ok (.aload_n 0, 1) := by decide +kernel
theorem dL_isTold_297 : decode cL_isTold 297 = .ok (.iload 13, 2) := by decide +kernel
theorem dL_isTold_299 : decode cL_isTold 299 = .ok (.invokestatic 305, 3) := by decide +kernel
theorem dL_isTold_302 : decode cL_isTold 302 = .ok (.aload_n 3, 1) := by decide +kernel
theorem dL_isTold_303 : decode cL_isTold 303 = .ok (.iload 13, 2) := by decide +kernel
theorem dL_isTold_305 : decode cL_isTold 305 = .ok (.laload, 1) := by decide +kernel
theorem dL_isTold_306 : decode cL_isTold 306 = .ok (.aload 11, 2) := by decide +kernel
theorem dL_isTold_308 : decode cL_isTold 308 = .ok (.invokestatic 307, 3) := by decide +kernel
theorem dL_isTold_311 : decode cL_isTold 311 = .ok (.if_icmp .eq 5, 3) := by decide +kernel
theorem dL_isTold_314 : decode cL_isTold 314 = .ok (.iconst 0, 1) := by decide +kernel
theorem dL_isTold_315 : decode cL_isTold 315 = .ok (.ireturn, 1) := by decide +kernel
theorem dL_isTold_316 : decode cL_isTold 316 = .ok (.iinc 13 1, 3) := by decide +kernel
theorem dL_isTold_319 : decode cL_isTold 319 = .ok (.goto (-316), 3) := by decide +kernel
theorem dL_isTold_322 : decode cL_isTold 322 = .ok (.iconst 0, 1) := by decide +kernel
theorem dL_isTold_323 : decode cL_isTold 323 = .ok (.istore 13, 2) := by decide +kernel
theorem dL_isTold_325 : decode cL_isTold 325 = .ok (.iload 13, 2) := by decide +kernel
theorem dL_isTold_327 : decode cL_isTold 327 = .ok (.aload 12, 2) := by decide +kernel
theorem dL_isTold_329 : decode cL_isTold 329 = .ok (.iconst 1, 1) := by decide +kernel
theorem dL_isTold_330 : decode cL_isTold 330 = .ok (.iaload, 1) := by decide +kernel
theorem dL_isTold_331 : decode cL_isTold 331 = .ok (.if_icmp .ge 292, 3) := by decide +kernel
theorem dL_isTold_334 : decode cL_isTold 334 = .ok (.aload_n 3, 1) := by decide +kernel
theorem dL_isTold_335 : decode cL_isTold 335 = .ok (.aload 4, 2) := by decide +kernel
theorem dL_isTold_337 : decode cL_isTold 337 = .ok (.iload 13, 2) := by decide +kernel
theorem dL_isTold_339 : decode cL_isTold 339 = .ok (.invokestatic 176, 3) := by decide +kernel
theorem dL_isTold_342 : decode cL_isTold 342 = .ok (.istore 14, 2) := by decide +kernel
theorem dL_isTold_344 : decode cL_isTold 344 = .ok (.aload_n 3, 1) := by decide +kernel
theorem dL_isTold_345 : decode cL_isTold 345 = .ok (.aload 4, 2) := by decide +kernel
theorem dL_isTold_347 : decode cL_isTold 347 = .ok (.iload 13, 2) := by decide +kernel
theorem dL_isTold_349 : decode cL_isTold 349 = .ok (.iaload, 1) := by decide +kernel
theorem dL_isTold_350 : decode cL_isTold 350 = .ok (.aload 11, 2) := by decide +kernel
theorem dL_isTold_352 : decode cL_isTold 352 = .ok (.invokestatic 168, 3) := by decide +kernel
theorem dL_isTold_355 : decode cL_isTold 355 = .ok (.istore 15, 2) := by decide +kernel
theorem dL_isTold_357 : decode cL_isTold 357 = .ok (.iload_n 2, 1) := by decide +kernel
theorem dL_isTold_358 : decode cL_isTold 358 = .ok (.iload 15, 2) := by decide +kernel
theorem dL_isTold_360 : decode cL_isTold 360 = .ok (.invokestatic 213, 3) := by decide +kernel
theorem dL_isTold_363 : decode cL_isTold 363 = .ok (.istore 16, 2) := by decide +kernel
theorem dL_isTold_365 : decode cL_isTold 365 = .ok (.iload_n 2, 1) := by decide +kernel
theorem dL_isTold_366 : decode cL_isTold 366 = .ok (.iconst 4, 1) := by decide +kernel
theorem dL_isTold_367 : decode cL_isTold 367 = .ok (.ishr, 1) := by decide +kernel
theorem dL_isTold_368 : decode cL_isTold 368 = .ok (.iload 14, 2) := by decide +kernel
theorem dL_isTold_370 : decode cL_isTold 370 = .ok (.invokestatic 213, 3) := by decide +kernel
theorem dL_isTold_373 : decode cL_isTold 373 = .ok (.istore 17, 2) := by decide +kernel
theorem dL_isTold_375 : decode cL_isTold 375 = .ok (.aload 11, 2) := by decide +kernel
theorem dL_isTold_377 : decode cL_isTold 377 = .ok (.iload 15, 2) := by decide +kernel
theorem dL_isTold_379 : decode cL_isTold 379 = .ok (.invokestatic 172, 3) := by decide +kernel
theorem dL_isTold_382 : decode cL_isTold 382 = .ok (.istore 18, 2) := by decide +kernel
theorem dL_isTold_384 : decode cL_isTold 384 = .ok (.aload_n 0, 1) := by decide +kernel
theorem dL_isTold_385 : decode cL_isTold 385 = .ok (.iload 13, 2) := by decide +kernel
theorem dL_isTold_387 : decode cL_isTold 387 = .ok (.invokestatic 311, 3) := by decide +kernel
theorem dL_isTold_390 : decode cL_isTold 390 = .ok (.aload 4, 2) := by decide +kernel
theorem dL_isTold_392 : decode cL_isTold 392 = .ok (.iload 13, 2) := by decide +kernel
theorem dL_isTold_394 : decode cL_isTold 394 = .ok (.iaload, 1) := by decide +kernel
theorem dL_isTold_395 : decode cL_isTold 395 = .ok (.bipush 7, 2) := by decide +kernel
theorem dL_isTold_397 : decode cL_isTold 397 = .ok (.iand, 1) := by decide +kernel
theorem dL_isTold_398 : decode cL_isTold 398 = .ok (.if_icmp .ne 156, 3) := by decide +kernel
theorem dL_isTold_401 : decode cL_isTold 401 = .ok (.aload_n 0, 1) := by decide +kernel
theorem dL_isTold_402 : decode cL_isTold 402 = .ok (.iload 13, 2) := by decide +kernel
theorem dL_isTold_404 : decode cL_isTold 404 = .ok (.invokestatic 313, 3) := by decide +kernel
theorem dL_isTold_407 : decode cL_isTold 407 = .ok (.iload 15, 2) := by decide +kernel
theorem dL_isTold_409 : decode cL_isTold 409 = .ok (.if_icmp .ne 145, 3) := by decide +kernel
theorem dL_isTold_412 : decode cL_isTold 412 = .ok (.aload_n 0, 1) := by decide +kernel
theorem dL_isTold_413 : decode cL_isTold 413 = .ok (.iload 13, 2) := by decide +kernel
theorem dL_isTold_415 : decode cL_isTold 415 = .ok (.iconst 0, 1) := by decide +kernel
theorem dL_isTold_416 : decode cL_isTold 416 = .ok (.invokestatic 315, 3) := by decide +kernel
theorem dL_isTold_419 : decode cL_isTold 419 = .ok (.bipush 10, 2) := by decide +kernel
theorem dL_isTold_421 : decode cL_isTold 421 = .ok (.aload 4, 2) := by decide +kernel
theorem dL_isTold_423 : decode cL_isTold 423 = .ok (.iload 13, 2) := by decide +kernel
theorem dL_isTold_425 : decode cL_isTold 425 = .ok (.iaload, 1) := by decide +kernel
theorem dL_isTold_426 : decode cL_isTold 426 = .ok (.iconst 3, 1) := by decide +kernel
theorem dL_isTold_427 : decode cL_isTold 427 = .ok (.ishr, 1) := by decide +kernel
theorem dL_isTold_428 : decode cL_isTold 428 = .ok (.iconst 3, 1) := by decide +kernel
theorem dL_isTold_429 : decode cL_isTold 429 = .ok (.iand, 1) := by decide +kernel
theorem dL_isTold_430 : decode cL_isTold 430 = .ok (.imul, 1) := by decide +kernel
theorem dL_isTold_431 : decode cL_isTold 431 = .ok (.aload 4, 2) := by decide +kernel
theorem dL_isTold_433 : decode cL_isTold 433 = .ok (.iload 13, 2) := by decide +kernel
theorem dL_isTold_435 : decode cL_isTold 435 = .ok (.iaload, 1) := by decide +kernel
theorem dL_isTold_436 : decode cL_isTold 436 = .ok (.iconst 5, 1) := by decide +kernel
theorem dL_isTold_437 : decode cL_isTold 437 = .ok (.ishr, 1) := by decide +kernel
theorem dL_isTold_438 : decode cL_isTold 438 = .ok (.iconst 3, 1) := by decide +kernel
theorem dL_isTold_439 : decode cL_isTold 439 = .ok (.iand, 1) := by decide +kernel
theorem dL_isTold_440 : decode cL_isTold 440 = .ok (.iadd, 1) := by decide +kernel
theorem dL_isTold_441 : decode cL_isTold 441 = .ok (.if_icmp .ne 113, 3) := by decide +kernel
theorem dL_isTold_444 : decode cL_isTold 444 = .ok (.aload_n 0, 1) := by decide +kernel
theorem dL_isTold_445 : decode cL_isTold 445 = .ok (.iload 13, 2) := by decide +kernel
theorem dL_isTold_447 : decode cL_isTold 447 = .ok (.aload 4, 2) := by decide +kernel
theorem dL_isTold_449 : decode cL_isTold 449 = .ok (.iload 13, 2) := by decide +kernel
theorem dL_isTold_451 : decode cL_isTold 451 = .ok (.iaload, 1) := by decide +kernel
theorem dL_isTold_452 : decode cL_isTold 452 = .ok (.bipush 7, 2) := by decide +kernel
theorem dL_isTold_454 : decode cL_isTold 454 = .ok (.iand, 1) := by decide +kernel
theorem dL_isTold_455 : decode cL_isTold 455 = .ok (.invokestatic 315, 3) := by decide +kernel
theorem dL_isTold_458 : decode cL_isTold 458 = .ok (.sipush (-7100), 3) := by decide +kernel
theorem dL_isTold_461 : decode cL_isTold 461 = .ok (.if_icmp .ne 93, 3) := by decide +kernel
theorem dL_isTold_464 : decode cL_isTold 464 = .ok (.aload_n 0, 1) := by decide +kernel
theorem dL_isTold_465 : decode cL_isTold 465 = .ok (.iload 13, 2) := by decide +kernel
theorem dL_isTold_467 : decode cL_isTold 467 = .ok (.iload 16, 2) := by decide +kernel
theorem dL_isTold_469 : decode cL_isTold 469 = .ok (.invokestatic 317, 3) := by decide +kernel
theorem dL_isTold_472 : decode cL_isTold 472 = .ok (.aload 11, 2) := by decide +kernel
theorem dL_isTold_474 : decode cL_isTold 474 = .ok (.iload 16, 2) := by decide +kernel
theorem dL_isTold_476 : decode cL_isTold 476 = .ok (.iaload, 1) := by decide +kernel
theorem dL_isTold_477 : decode cL_isTold 477 = .ok (.iload 14, 2) := by decide +kernel
theorem dL_isTold_479 : decode cL_isTold 479 = .ok (.invokestatic 298, 3) := by decide +kernel
theorem dL_isTold_482 : decode cL_isTold 482 = .ok (.if_icmp .ne 72, 3) := by decide +kernel
theorem dL_isTold_485 : decode cL_isTold 485 = .ok (.aload_n 0, 1) := by decide +kernel
theorem dL_isTold_486 : decode cL_isTold 486 = .ok (.iload 13, 2) := by decide +kernel
theorem dL_isTold_488 : decode cL_isTold 488 = .ok (.iload 16, 2) := by decide +kernel
theorem dL_isTold_490 : decode cL_isTold 490 = .ok (.iload 17, 2) := by decide +kernel
theorem dL_isTold_492 : decode cL_isTold 492 = .ok (.invokestatic 319, 3) := by decide +kernel
theorem dL_isTold_495 : decode cL_isTold 495 = .ok (.aload 11, 2) := by decide +kernel
theorem dL_isTold_497 : decode cL_isTold 497 = .ok (.iload 16, 2) := by decide +kernel
theorem dL_isTold_499 : decode cL_isTold 499 = .ok (.iaload, 1) := by decide +kernel
theorem dL_isTold_500 : decode cL_isTold 500 = .ok (.iload 14, 2) := by decide +kernel
theorem dL_isTold_502 : decode cL_isTold 502 = .ok (.iload 17, 2) := by decide +kernel
theorem dL_isTold_504 : decode cL_isTold 504 = .ok (.invokestatic 144, 3) := by decide +kernel
theorem dL_isTold_507 : decode cL_isTold 507 = .ok (.if_icmp .ne 47, 3) := by decide +kernel
theorem dL_isTold_510 : decode cL_isTold 510 = .ok (.aload_n 0, 1) := by decide +kernel
theorem dL_isTold_511 : decode cL_isTold 511 = .ok (.iload 13, 2) := by decide +kernel
theorem dL_isTold_513 : decode cL_isTold 513 = .ok (.iload 15, 2) := by decide +kernel
theorem dL_isTold_515 : decode cL_isTold 515 = .ok (.invokestatic 317, 3) := by decide +kernel
theorem dL_isTold_518 : decode cL_isTold 518 = .ok (.sipush (-7100), 3) := by decide +kernel
theorem dL_isTold_521 : decode cL_isTold 521 = .ok (.if_icmp .ne 33, 3) := by decide +kernel
theorem dL_isTold_524 : decode cL_isTold 524 = .ok (.aload_n 0, 1) := by decide +kernel
theorem dL_isTold_525 : decode cL_isTold 525 = .ok (.iload 13, 2) := by decide +kernel
theorem dL_isTold_527 : decode cL_isTold 527 = .ok (.iload 16, 2) := by decide +kernel
theorem dL_isTold_529 : decode cL_isTold 529 = .ok (.iload 14, 2) := by decide +kernel
theorem dL_isTold_531 : decode cL_isTold 531 = .ok (.invokestatic 319, 3) := by decide +kernel
theorem dL_isTold_534 : decode cL_isTold 534 = .ok (.sipush (-7100), 3) := by decide +kernel
theorem dL_isTold_537 : decode cL_isTold 537 = .ok (.if_icmp .ne 17, 3) := by decide +kernel
theorem dL_isTold_540 : decode cL_isTold 540 = .ok (.aload_n 0, 1) := by decide +kernel
theorem dL_isTold_541 : decode cL_isTold 541 = .ok (.iload 13, 2) := by decide +kernel
theorem dL_isTold_543 : decode cL_isTold 543 = .ok (.iconst (-1), 1) := by decide +kernel
theorem dL_isTold_544 : decode cL_isTold 544 = .ok (.iconst 0, 1) := by decide +kernel
theorem dL_isTold_545 : decode cL_isTold 545 = .ok (.invokestatic 319, 3) := by decide +kernel
theorem dL_isTold_548 : decode cL_isTold 548 = .ok (.sipush (-7100), 3) := by decide +kernel
theorem dL_isTold_551 : decode cL_isTold 551 = .ok (.if_icmp .eq 5, 3) := by decide +kernel
theorem dL_isTold_554 : decode cL_isTold 554 = .ok (.iconst 0, 1) := by decide +kernel
theorem dL_isTold_555 : decode cL_isTold 555 = .ok (.ireturn, 1) := by decide +kernel
theorem dL_isTold_556 : decode cL_isTold 556 = .ok (.aload_n 0, 1) := by decide +kernel
theorem dL_isTold_557 : decode cL_isTold 557 = .ok (.iload 13, 2) := by decide +kernel
theorem dL_isTold_559 : decode cL_isTold 559 = .ok (.invokestatic 321, 3) := by decide +kernel
theorem dL_isTold_562 : decode cL_isTold 562 = .ok (.iload 18, 2) := by decide +kernel
theorem dL_isTold_564 : decode cL_isTold 564 = .ok (.ifCond .ge 7, 3) := by decide +kernel
theorem dL_isTold_567 : decode cL_isTold 567 = .ok (.iconst 1, 1) := by decide +kernel
theorem dL_isTold_568 : decode cL_isTold 568 = .ok (.goto 4, 3) := by decide +kernel
theorem dL_isTold_571 : decode cL_isTold 571 = .ok (.iconst 0, 1) := by decide +kernel
theorem dL_isTold_572 : decode cL_isTold 572 = .ok (.if_icmp .ne 43, 3) := by decide +kernel
theorem dL_isTold_575 : decode cL_isTold 575 = .ok (.aload_n 0, 1) := by decide +kernel
theorem dL_isTold_576 : decode cL_isTold 576 = .ok (.iload 13, 2) := by decide +kernel
theorem dL_isTold_578 : decode cL_isTold 578 = .ok (.invokestatic 323, 3) := by decide +kernel
theorem dL_isTold_581 : decode cL_isTold 581 = .ok (.iload 18, 2) := by decide +kernel
theorem dL_isTold_583 : decode cL_isTold 583 = .ok (.if_icmp .ne 32, 3) := by decide +kernel
theorem dL_isTold_586 : decode cL_isTold 586 = .ok (.aload_n 0, 1) := by decide +kernel
theorem dL_isTold_587 : decode cL_isTold 587 = .ok (.iload 13, 2) := by decide +kernel
theorem dL_isTold_589 : decode cL_isTold 589 = .ok (.invokestatic 325, 3) := by decide +kernel
theorem dL_isTold_592 : decode cL_isTold 592 = .ok (.aload 11, 2) := by decide +kernel
theorem dL_isTold_594 : decode cL_isTold 594 = .ok (.iload 15, 2) := by decide +kernel
theorem dL_isTold_596 : decode cL_isTold 596 = .ok (.iconst 1, 1) := by decide +kernel
theorem dL_isTold_597 : decode cL_isTold 597 = .ok (.isub, 1) := by decide +kernel
theorem dL_isTold_598 : decode cL_isTold 598 = .ok (.iaload, 1) := by decide +kernel
theorem dL_isTold_599 : decode cL_isTold 599 = .ok (.iload 14, 2) := by decide +kernel
theorem dL_isTold_601 : decode cL_isTold 601 = .ok (.invokestatic 165, 3) := by decide +kernel
theorem dL_isTold_604 : decode cL_isTold 604 = .ok (.if_icmp .ne 7, 3) := by decide +kernel
theorem dL_isTold_607 : decode cL_isTold 607 = .ok (.iconst 1, 1) := by decide +kernel
theorem dL_isTold_608 : decode cL_isTold 608 = .ok (.goto 4, 3) := by decide +kernel
theorem dL_isTold_611 : decode cL_isTold 611 = .ok (.iconst 0, 1) := by decide +kernel
theorem dL_isTold_612 : decode cL_isTold 612 = .ok (.if_icmp .eq 5, 3) := by decide +kernel
theorem dL_isTold_615 : decode cL_isTold 615 = .ok (.iconst 0, 1) := by decide +kernel
theorem dL_isTold_616 : decode cL_isTold 616 = .ok (.ireturn, 1) := by decide +kernel
theorem dL_isTold_617 : decode cL_isTold 617 = .ok (.iinc 13 1, 3) := by decide +kernel
theorem dL_isTold_620 : decode cL_isTold 620 = .ok (.goto (-295), 3) := by decide +kernel
theorem dL_isTold_623 : decode cL_isTold 623 = .ok (.iconst 0, 1) := by decide +kernel
theorem dL_isTold_624 : decode cL_isTold 624 = .ok (.istore 13, 2) := by decide +kernel
theorem dL_isTold_626 : decode cL_isTold 626 = .ok (.iload 13, 2) := by decide +kernel
theorem dL_isTold_628 : decode cL_isTold 628 = .ok (.bipush 6, 2) := by decide +kernel
theorem dL_isTold_630 : decode cL_isTold 630 = .ok (.if_icmp .ge 111, 3) := by decide +kernel
theorem dL_isTold_633 : decode cL_isTold 633 = .ok (.aload_n 0, 1) := by decide +kernel
theorem dL_isTold_634 : decode cL_isTold 634 = .ok (.iload 13, 2) := by decide +kernel
theorem dL_isTold_636 : decode cL_isTold 636 = .ok (.iconst 0, 1) := by decide +kernel
theorem dL_isTold_637 : decode cL_isTold 637 = .ok (.invokestatic 327, 3) := by decide +kernel
theorem dL_isTold_640 : decode cL_isTold 640 = .ok (.aload 6, 2) := by decide +kernel
theorem dL_isTold_642 : decode cL_isTold 642 = .ok (.iload 13, 2) := by decide +kernel
theorem dL_isTold_644 : decode cL_isTold 644 = .ok (.iaload, 1) := by decide +kernel
theorem dL_isTold_645 : decode cL_isTold 645 = .ok (.if_icmp .ne 88, 3) := by decide +kernel
theorem dL_isTold_648 : decode cL_isTold 648 = .ok (.aload_n 0, 1) := by decide +kernel
theorem dL_isTold_649 : decode cL_isTold 649 = .ok (.iload 13, 2) := by decide +kernel
theorem dL_isTold_651 : decode cL_isTold 651 = .ok (.iconst 1, 1) := by decide +kernel
theorem dL_isTold_652 : decode cL_isTold 652 = .ok (.invokestatic 327, 3) := by decide +kernel
theorem dL_isTold_655 : decode cL_isTold 655 = .ok (.aload 6, 2) := by decide +kernel
theorem dL_isTold_657 : decode cL_isTold 657 = .ok (.bipush 6, 2) := by decide +kernel
theorem dL_isTold_659 : decode cL_isTold 659 = .ok (.iload 13, 2) := by decide +kernel
theorem dL_isTold_661 : decode cL_isTold 661 = .ok (.iadd, 1) := by decide +kernel
theorem dL_isTold_662 : decode cL_isTold 662 = .ok (.iaload, 1) := by decide +kernel
theorem dL_isTold_663 : decode cL_isTold 663 = .ok (.if_icmp .ne 70, 3) := by decide +kernel
theorem dL_isTold_666 : decode cL_isTold 666 = .ok (.aload_n 0, 1) := by decide +kernel
theorem dL_isTold_667 : decode cL_isTold 667 = .ok (.iload 13, 2) := by decide +kernel
theorem dL_isTold_669 : decode cL_isTold 669 = .ok (.invokestatic 329, 3) := by decide +kernel
theorem dL_isTold_672 : decode cL_isTold 672 = .ok (.aload 7, 2) := by decide +kernel
theorem dL_isTold_674 : decode cL_isTold 674 = .ok (.iload 13, 2) := by decide +kernel
theorem dL_isTold_676 : decode cL_isTold 676 = .ok (.iaload, 1) := by decide +kernel
theorem dL_isTold_677 : decode cL_isTold 677 = .ok (.ifCond .ne 7, 3) := by decide +kernel
theorem dL_isTold_680 : decode cL_isTold 680 = .ok (.iconst 1, 1) := by decide +kernel
theorem dL_isTold_681 : decode cL_isTold 681 = .ok (.goto 4, 3) := by decide +kernel
theorem dL_isTold_684 : decode cL_isTold 684 = .ok (.iconst 0, 1) := by decide +kernel
theorem dL_isTold_685 : decode cL_isTold 685 = .ok (.if_icmp .ne 48, 3) := by decide +kernel
theorem dL_isTold_688 : decode cL_isTold 688 = .ok (.aload_n 0, 1) := by decide +kernel
theorem dL_isTold_689 : decode cL_isTold 689 = .ok (.iload 13, 2) := by decide +kernel
theorem dL_isTold_691 : decode cL_isTold 691 = .ok (.invokestatic 331, 3) := by decide +kernel
theorem dL_isTold_694 : decode cL_isTold 694 = .ok (.aload 9, 2) := by decide +kernel
theorem dL_isTold_696 : decode cL_isTold 696 = .ok (.iload 13, 2) := by decide +kernel
theorem dL_isTold_698 : decode cL_isTold 698 = .ok (.iaload, 1) := by decide +kernel
theorem dL_isTold_699 : decode cL_isTold 699 = .ok (.if_icmp .ne 34, 3) := by decide +kernel
theorem dL_isTold_702 : decode cL_isTold 702 = .ok (.aload_n 0, 1) := by decide +kernel
theorem dL_isTold_703 : decode cL_isTold 703 = .ok (.iload 13, 2) := by decide +kernel
theorem dL_isTold_705 : decode cL_isTold 705 = .ok (.invokestatic 333, 3) := by decide +kernel
theorem dL_isTold_708 : decode cL_isTold 708 = .ok (.aload 9, 2) := by decide +kernel
theorem dL_isTold_710 : decode cL_isTold 710 = .ok (.bipush 6, 2) := by decide +kernel
theorem dL_isTold_712 : decode cL_isTold 712 = .ok (.iload 13, 2) := by decide +kernel
theorem dL_isTold_714 : decode cL_isTold 714 = .ok (.iadd, 1) := by decide +kernel
theorem dL_isTold_715 : decode cL_isTold 715 = .ok (.iaload, 1) := by decide +kernel
theorem dL_isTold_716 : decode cL_isTold 716 = .ok (.if_icmp .ne 17, 3) := by decide +kernel
theorem dL_isTold_719 : decode cL_isTold 719 = .ok (.aload_n 0, 1) := by decide +kernel
theorem dL_isTold_720 : decode cL_isTold 720 = .ok (.iload 13, 2) := by decide +kernel
theorem dL_isTold_722 : decode cL_isTold 722 = .ok (.invokestatic 335, 3) := by decide +kernel
theorem dL_isTold_725 : decode cL_isTold 725 = .ok (.aload 10, 2) := by decide +kernel
theorem dL_isTold_727 : decode cL_isTold 727 = .ok (.iload 13, 2) := by decide +kernel
theorem dL_isTold_729 : decode cL_isTold 729 = .ok (.iaload, 1) := by decide +kernel
theorem dL_isTold_730 : decode cL_isTold 730 = .ok (.if_icmp .eq 5, 3) := by decide +kernel
theorem dL_isTold_733 : decode cL_isTold 733 = .ok (.iconst 0, 1) := by decide +kernel
theorem dL_isTold_734 : decode cL_isTold 734 = .ok (.ireturn, 1) := by decide +kernel
theorem dL_isTold_735 : decode cL_isTold 735 = .ok (.iinc 13 1, 3) := by decide +kernel
theorem dL_isTold_738 : decode cL_isTold 738 = .ok (.goto (-112), 3) := by decide +kernel
theorem dL_isTold_741 : decode cL_isTold 741 = .ok (.aload 12, 2) := by decide +kernel
theorem dL_isTold_743 : decode cL_isTold 743 = .ok (.iconst 2, 1) := by decide +kernel
theorem dL_isTold_744 : decode cL_isTold 744 = .ok (.iaload, 1) := by decide +kernel
theorem dL_isTold_745 : decode cL_isTold 745 = .ok (.istore 13, 2) := by decide +kernel
theorem dL_isTold_747 : decode cL_isTold 747 = .ok (.iload 13, 2) := by decide +kernel
theorem dL_isTold_749 : decode cL_isTold 749 = .ok (.bipush 61, 2) := by decide +kernel
theorem dL_isTold_751 : decode cL_isTold 751 = .ok (.if_icmp .ge 131, 3) := by decide +kernel
theorem dL_isTold_754 : decode cL_isTold 754 = .ok (.iload 13, 2) := by decide +kernel
theorem dL_isTold_756 : decode cL_isTold 756 = .ok (.aload 12, 2) := by decide +kernel
theorem dL_isTold_758 : decode cL_isTold 758 = .ok (.iconst 2, 1) := by decide +kernel
theorem dL_isTold_759 : decode cL_isTold 759 = .ok (.iaload, 1) := by decide +kernel
theorem dL_isTold_760 : decode cL_isTold 760 = .ok (.iconst 4, 1) := by decide +kernel
theorem dL_isTold_761 : decode cL_isTold 761 = .ok (.iadd, 1) := by decide +kernel
theorem dL_isTold_762 : decode cL_isTold 762 = .ok (.if_icmp .ge 120, 3) := by decide +kernel
theorem dL_isTold_765 : decode cL_isTold 765 = .ok (.aload_n 0, 1) := by decide +kernel
theorem dL_isTold_766 : decode cL_isTold 766 = .ok (.iload 13, 2) := by decide +kernel
theorem dL_isTold_768 : decode cL_isTold 768 = .ok (.invokestatic 337, 3) := by decide +kernel
theorem dL_isTold_771 : decode cL_isTold 771 = .ok (.aload 5, 2) := by decide +kernel
theorem dL_isTold_773 : decode cL_isTold 773 = .ok (.iload 13, 2) := by decide +kernel
theorem dL_isTold_775 : decode cL_isTold 775 = .ok (.iaload, 1) := by decide +kernel
theorem dL_isTold_776 : decode cL_isTold 776 = .ok (.bipush 7, 2) := by decide +kernel
theorem dL_isTold_778 : decode cL_isTold 778 = .ok (.iand, 1) := by decide +kernel
theorem dL_isTold_779 : decode cL_isTold 779 = .ok (.if_icmp .ne 46, 3) := by decide +kernel
theorem dL_isTold_782 : decode cL_isTold 782 = .ok (.aload_n 0, 1) := by decide +kernel
theorem dL_isTold_783 : decode cL_isTold 783 = .ok (.iload 13, 2) := by decide +kernel
theorem dL_isTold_785 : decode cL_isTold 785 = .ok (.invokestatic 339, 3) := by decide +kernel
theorem dL_isTold_788 : decode cL_isTold 788 = .ok (.aload_n 3, 1) := by decide +kernel
theorem dL_isTold_789 : decode cL_isTold 789 = .ok (.aload 4, 2) := by decide +kernel
theorem dL_isTold_791 : decode cL_isTold 791 = .ok (.aload 5, 2) := by decide +kernel
theorem dL_isTold_793 : decode cL_isTold 793 = .ok (.aload 8, 2) := by decide +kernel
theorem dL_isTold_795 : decode cL_isTold 795 = .ok (.aload 12, 2) := by decide +kernel
theorem dL_isTold_797 : decode cL_isTold 797 = .ok (.iload 13, 2) := by decide +kernel
theorem dL_isTold_799 : decode cL_isTold 799 = .ok (.invokestatic 264, 3) := by decide +kernel
theorem dL_isTold_802 : decode cL_isTold 802 = .ok (.if_icmp .ne 23, 3) := by decide +kernel
theorem dL_isTold_805 : decode cL_isTold 805 = .ok (.aload_n 0, 1) := by decide +kernel
theorem dL_isTold_806 : decode cL_isTold 806 = .ok (.iload 13, 2) := by decide +kernel
theorem dL_isTold_808 : decode cL_isTold 808 = .ok (.aload 5, 2) := by decide +kernel
theorem dL_isTold_810 : decode cL_isTold 810 = .ok (.iload 13, 2) := by decide +kernel
theorem dL_isTold_812 : decode cL_isTold 812 = .ok (.iaload, 1) := by decide +kernel
theorem dL_isTold_813 : decode cL_isTold 813 = .ok (.bipush 7, 2) := by decide +kernel
theorem dL_isTold_815 : decode cL_isTold 815 = .ok (.iand, 1) := by decide +kernel
theorem dL_isTold_816 : decode cL_isTold 816 = .ok (.invokestatic 341, 3) := by decide +kernel
theorem dL_isTold_819 : decode cL_isTold 819 = .ok (.sipush (-7100), 3) := by decide +kernel
theorem dL_isTold_822 : decode cL_isTold 822 = .ok (.if_icmp .eq 5, 3) := by decide +kernel
theorem dL_isTold_825 : decode cL_isTold 825 = .ok (.iconst 0, 1) := by decide +kernel
theorem dL_isTold_826 : decode cL_isTold 826 = .ok (.ireturn, 1) := by decide +kernel
theorem dL_isTold_827 : decode cL_isTold 827 = .ok (.iconst 0, 1) := by decide +kernel
theorem dL_isTold_828 : decode cL_isTold 828 = .ok (.istore 14, 2) := by decide +kernel
theorem dL_isTold_830 : decode cL_isTold 830 = .ok (.iload 14, 2) := by decide +kernel
theorem dL_isTold_832 : decode cL_isTold 832 = .ok (.aload 5, 2) := by decide +kernel
theorem dL_isTold_834 : decode cL_isTold 834 = .ok (.iload 13, 2) := by decide +kernel
theorem dL_isTold_836 : decode cL_isTold 836 = .ok (.iaload, 1) := by decide +kernel
theorem dL_isTold_837 : decode cL_isTold 837 = .ok (.bipush 7, 2) := by decide +kernel
theorem dL_isTold_839 : decode cL_isTold 839 = .ok (.iand, 1) := by decide +kernel
theorem dL_isTold_840 : decode cL_isTold 840 = .ok (.if_icmp .ge 36, 3) := by decide +kernel
theorem dL_isTold_843 : decode cL_isTold 843 = .ok (.aload_n 0, 1) := by decide +kernel
theorem dL_isTold_844 : decode cL_isTold 844 = .ok (.iload 13, 2) := by decide +kernel
theorem dL_isTold_846 : decode cL_isTold 846 = .ok (.iload 14, 2) := by decide +kernel
theorem dL_isTold_848 : decode cL_isTold 848 = .ok (.invokestatic 341, 3) := by decide +kernel
theorem dL_isTold_851 : decode cL_isTold 851 = .ok (.aload 5, 2) := by decide +kernel
theorem dL_isTold_853 : decode cL_isTold 853 = .ok (.iload 13, 2) := by decide +kernel
theorem dL_isTold_855 : decode cL_isTold 855 = .ok (.iaload, 1) := by decide +kernel
theorem dL_isTold_856 : decode cL_isTold 856 = .ok (.iconst 3, 1) := by decide +kernel
theorem dL_isTold_857 : decode cL_isTold 857 = .ok (.iconst 2, 1) := by decide +kernel
theorem dL_isTold_858 : decode cL_isTold 858 = .ok (.iload 14, 2) := by decide +kernel
theorem dL_isTold_860 : decode cL_isTold 860 = .ok (.imul, 1) := by decide +kernel
theorem dL_isTold_861 : decode cL_isTold 861 = .ok (.iadd, 1) := by decide +kernel
theorem dL_isTold_862 : decode cL_isTold 862 = .ok (.ishr, 1) := by decide +kernel
theorem dL_isTold_863 : decode cL_isTold 863 = .ok (.iconst 3, 1) := by decide +kernel
theorem dL_isTold_864 : decode cL_isTold 864 = .ok (.iand, 1) := by decide +kernel
theorem dL_isTold_865 : decode cL_isTold 865 = .ok (.if_icmp .eq 5, 3) := by decide +kernel
theorem dL_isTold_868 : decode cL_isTold 868 = .ok (.iconst 0, 1) := by decide +kernel
theorem dL_isTold_869 : decode cL_isTold 869 = .ok (.ireturn, 1) := by decide +kernel
theorem dL_isTold_870 : decode cL_isTold 870 = .ok (.iinc 14 1, 3) := by decide +kernel
theorem dL_isTold_873 : decode cL_isTold 873 = .ok (.goto (-43), 3) := by decide +kernel
theorem dL_isTold_876 : decode cL_isTold 876 = .ok (.iinc 13 1, 3) := by decide +kernel
theorem dL_isTold_879 : decode cL_isTold 879 = .ok (.goto (-132), 3) := by decide +kernel
theorem dL_isTold_882 : decode cL_isTold 882 = .ok (.aload_n 0, 1) := by decide +kernel
theorem dL_isTold_883 : decode cL_isTold 883 = .ok (.invokevirtual 249, 3) := by decide +kernel
theorem dL_isTold_886 : decode cL_isTold 886 = .ok (.aload 12, 2) := by decide +kernel
theorem dL_isTold_888 : decode cL_isTold 888 = .ok (.iconst 1, 1) := by decide +kernel
theorem dL_isTold_889 : decode cL_isTold 889 = .ok (.iaload, 1) := by decide +kernel
theorem dL_isTold_890 : decode cL_isTold 890 = .ok (.if_icmp .ne 292, 3) := by decide +kernel
theorem dL_isTold_893 : decode cL_isTold 893 = .ok (.aload_n 0, 1) := by decide +kernel
theorem dL_isTold_894 : decode cL_isTold 894 = .ok (.invokevirtual 343, 3) := by decide +kernel
theorem dL_isTold_897 : decode cL_isTold 897 = .ok (.aload 12, 2) := by decide +kernel
theorem dL_isTold_899 : decode cL_isTold 899 = .ok (.iconst 2, 1) := by decide +kernel
theorem dL_isTold_900 : decode cL_isTold 900 = .ok (.iaload, 1) := by decide +kernel
theorem dL_isTold_901 : decode cL_isTold 901 = .ok (.if_icmp .ne 281, 3) := by decide +kernel
theorem dL_isTold_904 : decode cL_isTold 904 = .ok (.aload_n 0, 1) := by decide +kernel
theorem dL_isTold_905 : decode cL_isTold 905 = .ok (.invokevirtual 346, 3) := by decide +kernel
theorem dL_isTold_908 : decode cL_isTold 908 = .ok (.aload 12, 2) := by decide +kernel
theorem dL_isTold_910 : decode cL_isTold 910 = .ok (.iconst 3, 1) := by decide +kernel
theorem dL_isTold_911 : decode cL_isTold 911 = .ok (.iaload, 1) := by decide +kernel
theorem dL_isTold_912 : decode cL_isTold 912 = .ok (.if_icmp .ne 270, 3) := by decide +kernel
theorem dL_isTold_915 : decode cL_isTold 915 = .ok (.aload_n 0, 1) := by decide +kernel
theorem dL_isTold_916 : decode cL_isTold 916 = .ok (.invokevirtual 349, 3) := by decide +kernel
theorem dL_isTold_919 : decode cL_isTold 919 = .ok (.aload 12, 2) := by decide +kernel
theorem dL_isTold_921 : decode cL_isTold 921 = .ok (.bipush 6, 2) := by decide +kernel
theorem dL_isTold_923 : decode cL_isTold 923 = .ok (.iaload, 1) := by decide +kernel
theorem dL_isTold_924 : decode cL_isTold 924 = .ok (.iconst 1, 1) := by decide +kernel
theorem dL_isTold_925 : decode cL_isTold 925 = .ok (.if_icmp .ne 7, 3) := by decide +kernel
theorem dL_isTold_928 : decode cL_isTold 928 = .ok (.iconst 1, 1) := by decide +kernel
theorem dL_isTold_929 : decode cL_isTold 929 = .ok (.goto 4, 3) := by decide +kernel
theorem dL_isTold_932 : decode cL_isTold 932 = .ok (.iconst 0, 1) := by decide +kernel
theorem dL_isTold_933 : decode cL_isTold 933 = .ok (.if_icmp .ne 249, 3) := by decide +kernel
theorem dL_isTold_936 : decode cL_isTold 936 = .ok (.aload_n 0, 1) := by decide +kernel
theorem dL_isTold_937 : decode cL_isTold 937 = .ok (.invokevirtual 353, 3) := by decide +kernel
theorem dL_isTold_940 : decode cL_isTold 940 = .ok (.aload 12, 2) := by decide +kernel
theorem dL_isTold_942 : decode cL_isTold 942 = .ok (.bipush 6, 2) := by decide +kernel
theorem dL_isTold_944 : decode cL_isTold 944 = .ok (.iaload, 1) := by decide +kernel
theorem dL_isTold_945 : decode cL_isTold 945 = .ok (.iconst 1, 1) := by decide +kernel
theorem dL_isTold_946 : decode cL_isTold 946 = .ok (.if_icmp .ne 11, 3) := by decide +kernel
theorem dL_isTold_949 : decode cL_isTold 949 = .ok (.aload 12, 2) := by decide +kernel
theorem dL_isTold_951 : decode cL_isTold 951 = .ok (.bipush 10, 2) := by decide +kernel
theorem dL_isTold_953 : decode cL_isTold 953 = .ok (.iaload, 1) := by decide +kernel
theorem dL_isTold_954 : decode cL_isTold 954 = .ok (.goto 4, 3) := by decide +kernel
theorem dL_isTold_957 : decode cL_isTold 957 = .ok (.iconst (-1), 1) := by decide +kernel
theorem dL_isTold_958 : decode cL_isTold 958 = .ok (.if_icmp .ne 224, 3) := by decide +kernel
theorem dL_isTold_961 : decode cL_isTold 961 = .ok (.aload_n 0, 1) := by decide +kernel
theorem dL_isTold_962 : decode cL_isTold 962 = .ok (.invokevirtual 356, 3) := by decide +kernel
theorem dL_isTold_965 : decode cL_isTold 965 = .ok (.aload 12, 2) := by decide +kernel
theorem dL_isTold_967 : decode cL_isTold 967 = .ok (.bipush 6, 2) := by decide +kernel
theorem dL_isTold_969 : decode cL_isTold 969 = .ok (.iaload, 1) := by decide +kernel
theorem dL_isTold_970 : decode cL_isTold 970 = .ok (.iconst 1, 1) := by decide +kernel
theorem dL_isTold_971 : decode cL_isTold 971 = .ok (.if_icmp .ne 11, 3) := by decide +kernel
theorem dL_isTold_974 : decode cL_isTold 974 = .ok (.aload 12, 2) := by decide +kernel
theorem dL_isTold_976 : decode cL_isTold 976 = .ok (.bipush 11, 2) := by decide +kernel
theorem dL_isTold_978 : decode cL_isTold 978 = .ok (.iaload, 1) := by decide +kernel
theorem dL_isTold_979 : decode cL_isTold 979 = .ok (.goto 4, 3) := by decide +kernel
theorem dL_isTold_982 : decode cL_isTold 982 = .ok (.iconst 0, 1) := by decide +kernel
theorem dL_isTold_983 : decode cL_isTold 983 = .ok (.if_icmp .ne 199, 3) := by decide +kernel
theorem dL_isTold_986 : decode cL_isTold 986 = .ok (.aload_n 0, 1) := by decide +kernel
theorem dL_isTold_987 : decode cL_isTold 987 = .ok (.invokevirtual 359, 3) := by decide +kernel
theorem dL_isTold_990 : decode cL_isTold 990 = .ok (.aload 12, 2) := by decide +kernel
theorem dL_isTold_992 : decode cL_isTold 992 = .ok (.bipush 13, 2) := by decide +kernel
theorem dL_isTold_994 : decode cL_isTold 994 = .ok (.iaload, 1) := by decide +kernel
theorem dL_isTold_995 : decode cL_isTold 995 = .ok (.if_icmp .ne 187, 3) := by decide +kernel
theorem dL_isTold_998 : decode cL_isTold 998 = .ok (.aload_n 0, 1) := by decide +kernel
theorem dL_isTold_999 : decode cL_isTold 999 = .ok (.invokevirtual 362, 3) := by decide +kernel
theorem dL_isTold_1002 : decode cL_isTold 1002 = .ok (.aload 12, 2) := by decide +kernel
theorem dL_isTold_1004 : decode cL_isTold 1004 = .ok (.bipush 14, 2) := by decide +kernel
theorem dL_isTold_1006 : decode cL_isTold 1006 = .ok (.iaload, 1) := by decide +kernel
theorem dL_isTold_1007 : decode cL_isTold 1007 = .ok (.if_icmp .ne 175, 3) := by decide +kernel
theorem dL_isTold_1010 : decode cL_isTold 1010 = .ok (.aload_n 0, 1) := by decide +kernel
theorem dL_isTold_1011 : decode cL_isTold 1011 = .ok (.invokevirtual 365, 3) := by decide +kernel
theorem dL_isTold_1014 : decode cL_isTold 1014 = .ok (.aload 12, 2) := by decide +kernel
theorem dL_isTold_1016 : decode cL_isTold 1016 = .ok (.bipush 15, 2) := by decide +kernel
theorem dL_isTold_1018 : decode cL_isTold 1018 = .ok (.iaload, 1) := by decide +kernel
theorem dL_isTold_1019 : decode cL_isTold 1019 = .ok (.iconst 1, 1) := by decide +kernel
theorem dL_isTold_1020 : decode cL_isTold 1020 = .ok (.isub, 1) := by decide +kernel
theorem dL_isTold_1021 : decode cL_isTold 1021 = .ok (.if_icmp .ne 161, 3) := by decide +kernel
theorem dL_isTold_1024 : decode cL_isTold 1024 = .ok (.aload_n 0, 1) := by decide +kernel
theorem dL_isTold_1025 : decode cL_isTold 1025 = .ok (.bipush 61, 2) := by decide +kernel
theorem dL_isTold_1027 : decode cL_isTold 1027 = .ok (.invokestatic 337, 3) := by decide +kernel
theorem dL_isTold_1030 : decode cL_isTold 1030 = .ok (.sipush (-7200), 3) := by decide +kernel
theorem dL_isTold_1033 : decode cL_isTold 1033 = .ok (.if_icmp .ne 149, 3) := by decide +kernel
theorem dL_isTold_1036 : decode cL_isTold 1036 = .ok (.aload_n 0, 1) := by decide +kernel
theorem dL_isTold_1037 : decode cL_isTold 1037 = .ok (.aload 12, 2) := by decide +kernel
theorem dL_isTold_1039 : decode cL_isTold 1039 = .ok (.iconst 2, 1) := by decide +kernel
theorem dL_isTold_1040 : decode cL_isTold 1040 = .ok (.iaload, 1) := by decide +kernel
theorem dL_isTold_1041 : decode cL_isTold 1041 = .ok (.iconst 1, 1) := by decide +kernel
theorem dL_isTold_1042 : decode cL_isTold 1042 = .ok (.isub, 1) := by decide +kernel
theorem dL_isTold_1043 : decode cL_isTold 1043 = .ok (.bipush 9, 2) := by decide +kernel
theorem dL_isTold_1045 : decode cL_isTold 1045 = .ok (.invokestatic 341, 3) := by decide +kernel
theorem dL_isTold_1048 : decode cL_isTold 1048 = .ok (.sipush (-7200), 3) := by decide +kernel
theorem dL_isTold_1051 : decode cL_isTold 1051 = .ok (.if_icmp .ne 131, 3) := by decide +kernel
theorem dL_isTold_1054 : decode cL_isTold 1054 = .ok (.aload_n 0, 1) := by decide +kernel
theorem dL_isTold_1055 : decode cL_isTold 1055 = .ok (.iconst (-1), 1) := by decide +kernel
theorem dL_isTold_1056 : decode cL_isTold 1056 = .ok (.invokestatic 339, 3) := by decide +kernel
theorem dL_isTold_1059 : decode cL_isTold 1059 = .ok (.sipush (-7200), 3) := by decide +kernel
theorem dL_isTold_1062 : decode cL_isTold 1062 = .ok (.if_icmp .ne 120, 3) := by decide +kernel
theorem dL_isTold_1065 : decode cL_isTold 1065 = .ok (.aload_n 0, 1) := by decide +kernel
theorem dL_isTold_1066 : decode cL_isTold 1066 = .ok (.aload 12, 2) := by decide +kernel
theorem dL_isTold_1068 : decode cL_isTold 1068 = .ok (.iconst 1, 1) := by decide +kernel
theorem dL_isTold_1069 : decode cL_isTold 1069 = .ok (.iaload, 1) := by decide +kernel
theorem dL_isTold_1070 : decode cL_isTold 1070 = .ok (.invokestatic 313, 3) := by decide +kernel
theorem dL_isTold_1073 : decode cL_isTold 1073 = .ok (.sipush (-7100), 3) := by decide +kernel
theorem dL_isTold_1076 : decode cL_isTold 1076 = .ok (.if_icmp .ne 106, 3) := by decide +kernel
theorem dL_isTold_1079 : decode cL_isTold 1079 = .ok (.aload_n 0, 1) := by decide +kernel
theorem dL_isTold_1080 : decode cL_isTold 1080 = .ok (.iconst (-1), 1) := by decide +kernel
theorem dL_isTold_1081 : decode cL_isTold 1081 = .ok (.invokestatic 321, 3) := by decide +kernel
theorem dL_isTold_1084 : decode cL_isTold 1084 = .ok (.sipush (-7100), 3) := by decide +kernel
theorem dL_isTold_1087 : decode cL_isTold 1087 = .ok (.if_icmp .ne 95, 3) := by decide +kernel
theorem dL_isTold_1090 : decode cL_isTold 1090 = .ok (.aload_n 0, 1) := by decide +kernel
theorem dL_isTold_1091 : decode cL_isTold 1091 = .ok (.bipush 6, 2) := by decide +kernel
theorem dL_isTold_1093 : decode cL_isTold 1093 = .ok (.iconst 2, 1) := by decide +kernel
theorem dL_isTold_1094 : decode cL_isTold 1094 = .ok (.invokestatic 327, 3) := by decide +kernel
theorem dL_isTold_1097 : decode cL_isTold 1097 = .ok (.sipush (-7100), 3) := by decide +kernel
theorem dL_isTold_1100 : decode cL_isTold 1100 = .ok (.if_icmp .ne 82, 3) := by decide +kernel
theorem dL_isTold_1103 : decode cL_isTold 1103 = .ok (.aload_n 0, 1) := by decide +kernel
theorem dL_isTold_1104 : decode cL_isTold 1104 = .ok (.iconst 0, 1) := by decide +kernel
theorem dL_isTold_1105 : decode cL_isTold 1105 = .ok (.iconst 2, 1) := by decide +kernel
theorem dL_isTold_1106 : decode cL_isTold 1106 = .ok (.invokestatic 327, 3) := by decide +kernel
theorem dL_isTold_1109 : decode cL_isTold 1109 = .ok (.sipush (-7200), 3) := by decide +kernel
theorem dL_isTold_1112 : decode cL_isTold 1112 = .ok (.if_icmp .ne 70, 3) := by decide +kernel
theorem dL_isTold_1115 : decode cL_isTold 1115 = .ok (.aload_n 0, 1) := by decide +kernel
theorem dL_isTold_1116 : decode cL_isTold 1116 = .ok (.bipush 6, 2) := by decide +kernel
theorem dL_isTold_1118 : decode cL_isTold 1118 = .ok (.invokestatic 331, 3) := by decide +kernel
theorem dL_isTold_1121 : decode cL_isTold 1121 = .ok (.sipush (-7100), 3) := by decide +kernel
theorem dL_isTold_1124 : decode cL_isTold 1124 = .ok (.if_icmp .ne 58, 3) := by decide +kernel
theorem dL_isTold_1127 : decode cL_isTold 1127 = .ok (.aload_n 0, 1) := by decide +kernel
theorem dL_isTold_1128 : decode cL_isTold 1128 = .ok (.iconst (-1), 1) := by decide +kernel
theorem dL_isTold_1129 : decode cL_isTold 1129 = .ok (.invokestatic 335, 3) := by decide +kernel
theorem dL_isTold_1132 : decode cL_isTold 1132 = .ok (.sipush (-7100), 3) := by decide +kernel
theorem dL_isTold_1135 : decode cL_isTold 1135 = .ok (.if_icmp .ne 47, 3) := by decide +kernel
theorem dL_isTold_1138 : decode cL_isTold 1138 = .ok (.aload_n 0, 1) := by decide +kernel
theorem dL_isTold_1139 : decode cL_isTold 1139 = .ok (.aload 12, 2) := by decide +kernel
theorem dL_isTold_1141 : decode cL_isTold 1141 = .ok (.iconst 0, 1) := by decide +kernel
theorem dL_isTold_1142 : decode cL_isTold 1142 = .ok (.iaload, 1) := by decide +kernel
theorem dL_isTold_1143 : decode cL_isTold 1143 = .ok (.invokestatic 227, 3) := by decide +kernel
theorem dL_isTold_1146 : decode cL_isTold 1146 = .ok (.sipush (-7100), 3) := by decide +kernel
theorem dL_isTold_1149 : decode cL_isTold 1149 = .ok (.if_icmp .ne 33, 3) := by decide +kernel
theorem dL_isTold_1152 : decode cL_isTold 1152 = .ok (.aload_n 0, 1) := by decide +kernel
theorem dL_isTold_1153 : decode cL_isTold 1153 = .ok (.ldc_w 368, 3) := by decide +kernel
theorem dL_isTold_1156 : decode cL_isTold 1156 = .ok (.invokestatic 301, 3) := by decide +kernel
theorem dL_isTold_1159 : decode cL_isTold 1159 = .ok (.sipush (-7100), 3) := by decide +kernel
theorem dL_isTold_1162 : decode cL_isTold 1162 = .ok (.if_icmp .ne 20, 3) := by decide +kernel
theorem dL_isTold_1165 : decode cL_isTold 1165 = .ok (.aload_n 0, 1) := by decide +kernel
theorem dL_isTold_1166 : decode cL_isTold 1166 = .ok (.ldc_w 369, 3) := by decide +kernel
theorem dL_isTold_1169 : decode cL_isTold 1169 = .ok (.invokestatic 329, 3) := by decide +kernel
theorem dL_isTold_1172 : decode cL_isTold 1172 = .ok (.sipush (-7100), 3) := by decide +kernel
theorem dL_isTold_1175 : decode cL_isTold 1175 = .ok (.if_icmp .ne 7, 3) := by decide +kernel
theorem dL_isTold_1178 : decode cL_isTold 1178 = .ok (.iconst 1, 1) := by decide +kernel
theorem dL_isTold_1179 : decode cL_isTold 1179 = .ok (.goto 4, 3) := by decide +kernel
theorem dL_isTold_1182 : decode cL_isTold 1182 = .ok (.iconst 0, 1) := by decide +kernel
theorem dL_isTold_1183 : decode cL_isTold 1183 = .ok (.ireturn, 1) := by decide +kernel
theorem dL_law_0 : decode cL_law 0 = .ok (.new 9, 3) := by decide +kernel
theorem dL_law_3 : decode cL_law 3 = .ok (.dup, 1) := by decide +kernel
theorem dL_law_4 : decode cL_law 4 = .ok (.invokespecial 370, 3) := by decide +kernel
theorem dL_law_7 : decode cL_law 7 = .ok (.astore_n 1, 1) := by decide +kernel
theorem dL_law_8 : decode cL_law 8 = .ok (.iconst 3, 1) := by decide +kernel
theorem dL_law_9 : decode cL_law 9 = .ok (.newarray .long, 2) := by decide +kernel
theorem dL_law_11 : decode cL_law 11 = .ok (.astore_n 2, 1) := by decide +kernel
theorem dL_law_12 : decode cL_law 12 = .ok (.iconst 4, 1) := by decide +kernel
theorem dL_law_13 : decode cL_law 13 = .ok (.newarray .int, 2) := by decide +kernel
theorem dL_law_15 : decode cL_law 15 = .ok (.astore_n 3, 1) := by decide +kernel
theorem dL_law_16 : decode cL_law 16 = .ok (.bipush 61, 2) := by decide +kernel
theorem dL_law_18 : decode cL_law 18 = .ok (.newarray .int, 2) := by decide +kernel
theorem dL_law_20 : decode cL_law 20 = .ok (.astore 4, 2) := by decide +kernel
theorem dL_law_22 : decode cL_law 22 = .ok (.bipush 12, 2) := by decide +kernel
theorem dL_law_24 : decode cL_law 24 = .ok (.newarray .int, 2) := by decide +kernel
theorem dL_law_26 : decode cL_law 26 = .ok (.astore 5, 2) := by decide +kernel
theorem dL_law_28 : decode cL_law 28 = .ok (.bipush 6, 2) := by decide +kernel
theorem dL_law_30 : decode cL_law 30 = .ok (.newarray .int, 2) := by decide +kernel
theorem dL_law_32 : decode cL_law 32 = .ok (.astore 6, 2) := by decide +kernel
theorem dL_law_34 : decode cL_law 34 = .ok (.iconst 4, 1) := by decide +kernel
theorem dL_law_35 : decode cL_law 35 = .ok (.newarray .int, 2) := by decide +kernel
theorem dL_law_37 : decode cL_law 37 = .ok (.astore 7, 2) := by decide +kernel
theorem dL_law_39 : decode cL_law 39 = .ok (.bipush 12, 2) := by decide +kernel
theorem dL_law_41 : decode cL_law 41 = .ok (.newarray .int, 2) := by decide +kernel
theorem dL_law_43 : decode cL_law 43 = .ok (.astore 8, 2) := by decide +kernel
theorem dL_law_45 : decode cL_law 45 = .ok (.bipush 6, 2) := by decide +kernel
theorem dL_law_47 : decode cL_law 47 = .ok (.newarray .int, 2) := by decide +kernel
theorem dL_law_49 : decode cL_law 49 = .ok (.astore 9, 2) := by decide +kernel
theorem dL_law_51 : decode cL_law 51 = .ok (.bipush 48, 2) := by decide +kernel
theorem dL_law_53 : decode cL_law 53 = .ok (.newarray .long, 2) := by decide +kernel
theorem dL_law_55 : decode cL_law 55 = .ok (.astore 10, 2) := by decide +kernel
theorem dL_law_57 : decode cL_law 57 = .ok (.bipush 16, 2) := by decide +kernel
theorem dL_law_59 : decode cL_law 59 = .ok (.newarray .int, 2) := by decide +kernel
theorem dL_law_61 : decode cL_law 61 = .ok (.astore 11, 2) := by decide +kernel
theorem dL_law_63 : decode cL_law 63 = .ok (.bipush 26, 2) := by decide +kernel
theorem dL_law_65 : decode cL_law 65 = .ok (.newarray .int, 2) := by decide +kernel
theorem dL_law_67 : decode cL_law 67 = .ok (.astore 12, 2) := by decide +kernel
theorem dL_law_69 : decode cL_law 69 = .ok (.aload 12, 2) := by decide +kernel
theorem dL_law_71 : decode cL_law 71 = .ok (.bipush 12, 2) := by decide +kernel
theorem dL_law_73 : decode cL_law 73 = .ok (.sipush 200, 3) := by decide +kernel
theorem dL_law_76 : decode cL_law 76 = .ok (.iastore, 1) := by decide +kernel
theorem dL_law_77 : decode cL_law 77 = .ok (.iconst 0, 1) := by decide +kernel
theorem dL_law_78 : decode cL_law 78 = .ok (.istore 13, 2) := by decide +kernel
theorem dL_law_80 : decode cL_law 80 = .ok (.iload 13, 2) := by decide +kernel
theorem dL_law_82 : decode cL_law 82 = .ok (.iconst 4, 1) := by decide +kernel
theorem dL_law_83 : decode cL_law 83 = .ok (.if_icmp .ge 16, 3) := by decide +kernel
theorem dL_law_86 : decode cL_law 86 = .ok (.aload 7, 2) := by decide +kernel
theorem dL_law_88 : decode cL_law 88 = .ok (.iload 13, 2) := by decide +kernel
theorem dL_law_90 : decode cL_law 90 = .ok (.bipush 6, 2) := by decide +kernel
theorem dL_law_92 : decode cL_law 92 = .ok (.iastore, 1) := by decide +kernel
theorem dL_law_93 : decode cL_law 93 = .ok (.iinc 13 1, 3) := by decide +kernel
theorem dL_law_96 : decode cL_law 96 = .ok (.goto (-16), 3) := by decide +kernel
theorem dL_law_99 : decode cL_law 99 = .ok (.aload_n 1, 1) := by decide +kernel
theorem dL_law_100 : decode cL_law 100 = .ok (.iconst 0, 1) := by decide +kernel
theorem dL_law_101 : decode cL_law 101 = .ok (.iconst 0, 1) := by decide +kernel
theorem dL_law_102 : decode cL_law 102 = .ok (.aload_n 2, 1) := by decide +kernel
theorem dL_law_103 : decode cL_law 103 = .ok (.aload_n 3, 1) := by decide +kernel
theorem dL_law_104 : decode cL_law 104 = .ok (.aload 4, 2) := by decide +kernel
theorem dL_law_106 : decode cL_law 106 = .ok (.aload 5, 2) := by decide +kernel
theorem dL_law_108 : decode cL_law 108 = .ok (.aload 6, 2) := by decide +kernel
theorem dL_law_110 : decode cL_law 110 = .ok (.aload 7, 2) := by decide +kernel
theorem dL_law_112 : decode cL_law 112 = .ok (.aload 8, 2) := by decide +kernel
theorem dL_law_114 : decode cL_law 114 = .ok (.aload 9, 2) := by decide +kernel
theorem dL_law_116 : decode cL_law 116 = .ok (.aload 11, 2) := by decide +kernel
theorem dL_law_118 : decode cL_law 118 = .ok (.aload 12, 2) := by decide +kernel
theorem dL_law_120 : decode cL_law 120 = .ok (.invokestatic 371, 3) := by decide +kernel
theorem dL_law_123 : decode cL_law 123 = .ok (.ifCond .ne 5, 3) := by decide +kernel
theorem dL_law_126 : decode cL_law 126 = .ok (.iconst 0, 1) := by decide +kernel
theorem dL_law_127 : decode cL_law 127 = .ok (.ireturn, 1) := by decide +kernel
theorem dL_law_128 : decode cL_law 128 = .ok (.iconst 0, 1) := by decide +kernel
theorem dL_law_129 : decode cL_law 129 = .ok (.istore 13, 2) := by decide +kernel
theorem dL_law_131 : decode cL_law 131 = .ok (.iload 13, 2) := by decide +kernel
theorem dL_law_133 : decode cL_law 133 = .ok (.bipush 110, 2) := by decide +kernel
theorem dL_law_135 : decode cL_law 135 = .ok (.if_icmp .ge 249, 3) := by decide +kernel
theorem dL_law_138 : decode cL_law 138 = .ok (.aload_n 0, 1) := by decide +kernel
theorem dL_law_139 : decode cL_law 139 = .ok (.iconst 3, 1) := by decide +kernel
theorem dL_law_140 : decode cL_law 140 = .ok (.iload 13, 2) := by decide +kernel
theorem dL_law_142 : decode cL_law 142 = .ok (.imul, 1) := by decide +kernel
theorem dL_law_143 : decode cL_law 143 = .ok (.invokestatic 375, 3) := by decide +kernel
theorem dL_law_146 : decode cL_law 146 = .ok (.istore 14, 2) := by decide +kernel
theorem dL_law_148 : decode cL_law 148 = .ok (.aload_n 0, 1) := by decide +kernel
theorem dL_law_149 : decode cL_law 149 = .ok (.iconst 3, 1) := by decide +kernel
theorem dL_law_150 : decode cL_law 150 = .ok (.iload 13, 2) := by decide +kernel
theorem dL_law_152 : decode cL_law 152 = .ok (.imul, 1) := by decide +kernel
theorem dL_law_153 : decode cL_law 153 = .ok (.iconst 1, 1) := by decide +kernel
theorem dL_law_154 : decode cL_law 154 = .ok (.iadd, 1) := by decide +kernel
theorem dL_law_155 : decode cL_law 155 = .ok (.invokestatic 375, 3) := by decide +kernel
theorem dL_law_158 : decode cL_law 158 = .ok (.istore 15, 2) := by decide +kernel
theorem dL_law_160 : decode cL_law 160 = .ok (.aload_n 0, 1) := by decide +kernel
theorem dL_law_161 : decode cL_law 161 = .ok (.iconst 3, 1) := by decide +kernel
theorem dL_law_162 : decode cL_law 162 = .ok (.iload 13, 2) := by decide +kernel
theorem dL_law_164 : decode cL_law 164 = .ok (.imul, 1) := by decide +kernel
theorem dL_law_165 : decode cL_law 165 = .ok (.iconst 2, 1) := by decide +kernel
theorem dL_law_166 : decode cL_law 166 = .ok (.iadd, 1) := by decide +kernel
theorem dL_law_167 : decode cL_law 167 = .ok (.invokestatic 375, 3) := by decide +kernel
theorem dL_law_170 : decode cL_law 170 = .ok (.istore 16, 2) := by decide +kernel
theorem dL_law_172 : decode cL_law 172 = .ok (.iload 13, 2) := by decide +kernel
theorem dL_law_174 : decode cL_law 174 = .ok (.iconst 2, 1) := by decide +kernel
theorem dL_law_175 : decode cL_law 175 = .ok (.if_icmp .ge 7, 3) := by decide +kernel
theorem dL_law_178 : decode cL_law 178 = .ok (.iconst 0, 1) := by decide +kernel
theorem dL_law_179 : decode cL_law 179 = .ok (.goto 42, 3) := by decide +kernel
theorem dL_law_182 : decode cL_law 182 = .ok (.iload 13, 2) := by decide +kernel
theorem dL_law_184 : decode cL_law 184 = .ok (.iconst 2, 1) := by decide +kernel
theorem dL_law_185 : decode cL_law 185 = .ok (.if_icmp .ne 7, 3) := by decide +kernel
theorem dL_law_188 : decode cL_law 188 = .ok (.iconst 4, 1) := by decide +kernel
theorem dL_law_189 : decode cL_law 189 = .ok (.goto 32, 3) := by decide +kernel
theorem dL_law_192 : decode cL_law 192 = .ok (.iload 13, 2) := by decide +kernel
theorem dL_law_194 : decode cL_law 194 = .ok (.iconst 3, 1) := by decide +kernel
theorem dL_law_195 : decode cL_law 195 = .ok (.if_icmp .ne 8, 3) := by decide +kernel
theorem dL_law_198 : decode cL_law 198 = .ok (.bipush 14, 2) := by decide +kernel
theorem dL_law_200 : decode cL_law 200 = .ok (.goto 21, 3) := by decide +kernel
theorem dL_law_203 : decode cL_law 203 = .ok (.iload 13, 2) := by decide +kernel
theorem dL_law_205 : decode cL_law 205 = .ok (.iconst 4, 1) := by decide +kernel
theorem dL_law_206 : decode cL_law 206 = .ok (.if_icmp .ne 8, 3) := by decide +kernel
theorem dL_law_209 : decode cL_law 209 = .ok (.bipush 20, 2) := by decide +kernel
theorem dL_law_211 : decode cL_law 211 = .ok (.goto 10, 3) := by decide +kernel
theorem dL_law_214 : decode cL_law 214 = .ok (.iload 14, 2) := by decide +kernel
theorem dL_law_216 : decode cL_law 216 = .ok (.bipush 44, 2) := by decide +kernel
theorem dL_law_218 : decode cL_law 218 = .ok (.invokestatic 213, 3) := by decide +kernel
theorem dL_law_221 : decode cL_law 221 = .ok (.istore 17, 2) := by decide +kernel
theorem dL_law_223 : decode cL_law 223 = .ok (.iload 17, 2) := by decide +kernel
theorem dL_law_225 : decode cL_law 225 = .ok (.bipush 15, 2) := by decide +kernel
theorem dL_law_227 : decode cL_law 227 = .ok (.if_icmp .ge 26, 3) := by decide +kernel
theorem dL_law_230 : decode cL_law 230 = .ok (.aload_n 1, 1) := by decide +kernel
theorem dL_law_231 : decode cL_law 231 = .ok (.iload 17, 2) := by decide +kernel
theorem dL_law_233 : decode cL_law 233 = .ok (.iload 15, 2) := by decide +kernel
theorem dL_law_235 : decode cL_law 235 = .ok (.iload 16, 2) := by decide +kernel
theorem dL_law_237 : decode cL_law 237 = .ok (.aload_n 2, 1) := by decide +kernel
theorem dL_law_238 : decode cL_law 238 = .ok (.aload_n 3, 1) := by decide +kernel
theorem dL_law_239 : decode cL_law 239 = .ok (.aload 4, 2) := by decide +kernel
theorem dL_law_241 : decode cL_law 241 = .ok (.aload 6, 2) := by decide +kernel
theorem dL_law_243 : decode cL_law 243 = .ok (.aload 11, 2) := by decide +kernel
theorem dL_law_245 : decode cL_law 245 = .ok (.aload 12, 2) := by decide +kernel
theorem dL_law_247 : decode cL_law 247 = .ok (.invokestatic 378, 3) := by decide +kernel
theorem dL_law_250 : decode cL_law 250 = .ok (.goto 85, 3) := by decide +kernel
theorem dL_law_253 : decode cL_law 253 = .ok (.iload 17, 2) := by decide +kernel
theorem dL_law_255 : decode cL_law 255 = .ok (.bipush 26, 2) := by decide +kernel
theorem dL_law_257 : decode cL_law 257 = .ok (.if_icmp .ge 33, 3) := by decide +kernel
theorem dL_law_260 : decode cL_law 260 = .ok (.aload_n 1, 1) := by decide +kernel
theorem dL_law_261 : decode cL_law 261 = .ok (.iload 17, 2) := by decide +kernel
theorem dL_law_263 : decode cL_law 263 = .ok (.bipush 15, 2) := by decide +kernel
theorem dL_law_265 : decode cL_law 265 = .ok (.isub, 1) := by decide +kernel
theorem dL_law_266 : decode cL_law 266 = .ok (.iload 15, 2) := by decide +kernel
theorem dL_law_268 : decode cL_law 268 = .ok (.iload 16, 2) := by decide +kernel
theorem dL_law_270 : decode cL_law 270 = .ok (.aload_n 2, 1) := by decide +kernel
theorem dL_law_271 : decode cL_law 271 = .ok (.aload_n 3, 1) := by decide +kernel
theorem dL_law_272 : decode cL_law 272 = .ok (.aload 4, 2) := by decide +kernel
theorem dL_law_274 : decode cL_law 274 = .ok (.aload 5, 2) := by decide +kernel
theorem dL_law_276 : decode cL_law 276 = .ok (.aload 6, 2) := by decide +kernel
theorem dL_law_278 : decode cL_law 278 = .ok (.aload 7, 2) := by decide +kernel
theorem dL_law_280 : decode cL_law 280 = .ok (.aload 11, 2) := by decide +kernel
theorem dL_law_282 : decode cL_law 282 = .ok (.aload 12, 2) := by decide +kernel
theorem dL_law_284 : decode cL_law 284 = .ok (.invokestatic 382, 3) := by decide +kernel
theorem dL_law_287 : decode cL_law 287 = .ok (.goto 48, 3) := by decide +kernel
theorem dL_law_290 : decode cL_law 290 = .ok (.aload_n 1, 1) := by decide +kernel
theorem dL_law_291 : decode cL_law 291 = .ok (.iload 17, 2) := by decide +kernel
theorem dL_law_293 : decode cL_law 293 = .ok (.bipush 32, 2) := by decide +kernel
theorem dL_law_295 : decode cL_law 295 = .ok (.if_icmp .ge 11, 3) := by decide +kernel
theorem dL_law_298 : decode cL_law 298 = .ok (.iload 17, 2) := by decide +kernel
theorem dL_law_300 : decode cL_law 300 = .ok (.bipush 26, 2) := by decide +kernel
theorem dL_law_302 : decode cL_law 302 = .ok (.isub, 1) := by decide +kernel
theorem dL_law_303 : decode cL_law 303 = .ok (.goto 5, 3) := by decide +kernel
theorem dL_law_306 : decode cL_law 306 = .ok (.bipush 6, 2) := by decide +kernel
theorem dL_law_308 : decode cL_law 308 = .ok (.iload 15, 2) := by decide +kernel
theorem dL_law_310 : decode cL_law 310 = .ok (.iload 16, 2) := by decide +kernel
theorem dL_law_312 : decode cL_law 312 = .ok (.aload_n 2, 1) := by decide +kernel
theorem dL_law_313 : decode cL_law 313 = .ok (.aload_n 3, 1) := by decide +kernel
theorem dL_law_314 : decode cL_law 314 = .ok (.aload 4, 2) := by decide +kernel
theorem dL_law_316 : decode cL_law 316 = .ok (.aload 5, 2) := by decide +kernel
theorem dL_law_318 : decode cL_law 318 = .ok (.aload 6, 2) := by decide +kernel
theorem dL_law_320 : decode cL_law 320 = .ok (.aload 7, 2) := by decide +kernel
theorem dL_law_322 : decode cL_law 322 = .ok (.aload 8, 2) := by decide +kernel
theorem dL_law_324 : decode cL_law 324 = .ok (.aload 9, 2) := by decide +kernel
theorem dL_law_326 : decode cL_law 326 = .ok (.aload 10, 2) := by decide +kernel
theorem dL_law_328 : decode cL_law 328 = .ok (.aload 11, 2) := by decide +kernel
theorem dL_law_330 : decode cL_law 330 = .ok (.aload 12, 2) := by decide +kernel
theorem dL_law_332 : decode cL_law 332 = .ok (.invokestatic 386, 3) := by decide +kernel
theorem dL_law_335 : decode cL_law 335 = .ok (.istore 18, 2) := by decide +kernel
theorem dL_law_337 : decode cL_law 337 = .ok (.iload 18, 2) := by decide +kernel
theorem dL_law_339 : decode cL_law 339 = .ok (.ifCond .eq 37, 3) := by decide +kernel
theorem dL_law_342 : decode cL_law 342 = .ok (.aload_n 1, 1) := by decide +kernel
theorem dL_law_343 : decode cL_law 343 = .ok (.iload 13, 2) := by decide +kernel
theorem dL_law_345 : decode cL_law 345 = .ok (.iload 14, 2) := by decide +kernel
theorem dL_law_347 : decode cL_law 347 = .ok (.iconst 5, 1) := by decide +kernel
theorem dL_law_348 : decode cL_law 348 = .ok (.ishr, 1) := by decide +kernel
theorem dL_law_349 : decode cL_law 349 = .ok (.iload 16, 2) := by decide +kernel
theorem dL_law_351 : decode cL_law 351 = .ok (.ixor, 1) := by decide +kernel
theorem dL_law_352 : decode cL_law 352 = .ok (.aload_n 2, 1) := by decide +kernel
theorem dL_law_353 : decode cL_law 353 = .ok (.aload_n 3, 1) := by decide +kernel
theorem dL_law_354 : decode cL_law 354 = .ok (.aload 4, 2) := by decide +kernel
theorem dL_law_356 : decode cL_law 356 = .ok (.aload 5, 2) := by decide +kernel
theorem dL_law_358 : decode cL_law 358 = .ok (.aload 6, 2) := by decide +kernel
theorem dL_law_360 : decode cL_law 360 = .ok (.aload 7, 2) := by decide +kernel
theorem dL_law_362 : decode cL_law 362 = .ok (.aload 8, 2) := by decide +kernel
theorem dL_law_364 : decode cL_law 364 = .ok (.aload 9, 2) := by decide +kernel
theorem dL_law_366 : decode cL_law 366 = .ok (.aload 11, 2) := by decide +kernel
theorem dL_law_368 : decode cL_law 368 = .ok (.aload 12, 2) := by decide +kernel
theorem dL_law_370 : decode cL_law 370 = .ok (.invokestatic 371, 3) := by decide +kernel
theorem dL_law_373 : decode cL_law 373 = .ok (.ifCond .ne 5, 3) := by decide +kernel
theorem dL_law_376 : decode cL_law 376 = .ok (.iconst 0, 1) := by decide +kernel
theorem dL_law_377 : decode cL_law 377 = .ok (.ireturn, 1) := by decide +kernel
theorem dL_law_378 : decode cL_law 378 = .ok (.iinc 13 1, 3) := by decide +kernel
theorem dL_law_381 : decode cL_law 381 = .ok (.goto (-250), 3) := by decide +kernel
theorem dL_law_384 : decode cL_law 384 = .ok (.iconst 1, 1) := by decide +kernel
theorem dL_law_385 : decode cL_law 385 = .ok (.ireturn, 1) := by decide +kernel
