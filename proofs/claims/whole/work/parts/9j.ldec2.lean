theorem zd_L_746 : decode code 746 = .ok (.iconst 0, 1) := by decide +kernel
theorem zd_L_747 : decode code 747 = .ok (.ireturn, 1) := by decide +kernel
theorem zd_L_748 : decode code 748 = .ok (.aload_n 1, 1) := by decide +kernel
theorem zd_L_749 : decode code 749 = .ok (.invokevirtual 96, 3) := by decide +kernel
theorem zd_L_752 : decode code 752 = .ok (.aload_n 2, 1) := by decide +kernel
theorem zd_L_753 : decode code 753 = .ok (.invokevirtual 99, 3) := by decide +kernel
theorem zd_L_756 : decode code 756 = .ok (.if_icmp .eq 575, 3) := by decide +kernel
theorem zd_L_759 : decode code 759 = .ok (.iconst 0, 1) := by decide +kernel
theorem zd_L_760 : decode code 760 = .ok (.ireturn, 1) := by decide +kernel
theorem zd_L_761 : decode code 761 = .ok (.aload_n 1, 1) := by decide +kernel
theorem zd_L_762 : decode code 762 = .ok (.invokevirtual 100, 3) := by decide +kernel
theorem zd_L_765 : decode code 765 = .ok (.aload_n 2, 1) := by decide +kernel
theorem zd_L_766 : decode code 766 = .ok (.invokevirtual 103, 3) := by decide +kernel
theorem zd_L_769 : decode code 769 = .ok (.if_icmp .eq 562, 3) := by decide +kernel
theorem zd_L_772 : decode code 772 = .ok (.iconst 0, 1) := by decide +kernel
theorem zd_L_773 : decode code 773 = .ok (.ireturn, 1) := by decide +kernel
theorem zd_L_774 : decode code 774 = .ok (.aload_n 1, 1) := by decide +kernel
theorem zd_L_775 : decode code 775 = .ok (.aload_n 0, 1) := by decide +kernel
theorem zd_L_776 : decode code 776 = .ok (.iload 4, 2) := by decide +kernel
theorem zd_L_778 : decode code 778 = .ok (.iconst 1, 1) := by decide +kernel
theorem zd_L_779 : decode code 779 = .ok (.iadd, 1) := by decide +kernel
theorem zd_L_780 : decode code 780 = .ok (.iaload, 1) := by decide +kernel
theorem zd_L_781 : decode code 781 = .ok (.invokevirtual 104, 3) := by decide +kernel
theorem zd_L_784 : decode code 784 = .ok (.aload_n 2, 1) := by decide +kernel
theorem zd_L_785 : decode code 785 = .ok (.aload_n 0, 1) := by decide +kernel
theorem zd_L_786 : decode code 786 = .ok (.iload 4, 2) := by decide +kernel
theorem zd_L_788 : decode code 788 = .ok (.iconst 1, 1) := by decide +kernel
theorem zd_L_789 : decode code 789 = .ok (.iadd, 1) := by decide +kernel
theorem zd_L_790 : decode code 790 = .ok (.iaload, 1) := by decide +kernel
theorem zd_L_791 : decode code 791 = .ok (.invokevirtual 107, 3) := by decide +kernel
theorem zd_L_794 : decode code 794 = .ok (.if_icmp .eq 537, 3) := by decide +kernel
theorem zd_L_797 : decode code 797 = .ok (.iconst 0, 1) := by decide +kernel
theorem zd_L_798 : decode code 798 = .ok (.ireturn, 1) := by decide +kernel
theorem zd_L_799 : decode code 799 = .ok (.aload_n 1, 1) := by decide +kernel
theorem zd_L_800 : decode code 800 = .ok (.invokevirtual 108, 3) := by decide +kernel
theorem zd_L_803 : decode code 803 = .ok (.aload_n 2, 1) := by decide +kernel
theorem zd_L_804 : decode code 804 = .ok (.invokevirtual 111, 3) := by decide +kernel
theorem zd_L_807 : decode code 807 = .ok (.if_icmp .eq 524, 3) := by decide +kernel
theorem zd_L_810 : decode code 810 = .ok (.iconst 0, 1) := by decide +kernel
theorem zd_L_811 : decode code 811 = .ok (.ireturn, 1) := by decide +kernel
theorem zd_L_812 : decode code 812 = .ok (.aload_n 1, 1) := by decide +kernel
theorem zd_L_813 : decode code 813 = .ok (.aload_n 0, 1) := by decide +kernel
theorem zd_L_814 : decode code 814 = .ok (.iload 4, 2) := by decide +kernel
theorem zd_L_816 : decode code 816 = .ok (.iconst 1, 1) := by decide +kernel
theorem zd_L_817 : decode code 817 = .ok (.iadd, 1) := by decide +kernel
theorem zd_L_818 : decode code 818 = .ok (.iaload, 1) := by decide +kernel
theorem zd_L_819 : decode code 819 = .ok (.invokevirtual 112, 3) := by decide +kernel
theorem zd_L_822 : decode code 822 = .ok (.aload_n 2, 1) := by decide +kernel
theorem zd_L_823 : decode code 823 = .ok (.aload_n 0, 1) := by decide +kernel
theorem zd_L_824 : decode code 824 = .ok (.iload 4, 2) := by decide +kernel
theorem zd_L_826 : decode code 826 = .ok (.iconst 1, 1) := by decide +kernel
theorem zd_L_827 : decode code 827 = .ok (.iadd, 1) := by decide +kernel
theorem zd_L_828 : decode code 828 = .ok (.iaload, 1) := by decide +kernel
theorem zd_L_829 : decode code 829 = .ok (.invokevirtual 115, 3) := by decide +kernel
theorem zd_L_832 : decode code 832 = .ok (.if_icmp .eq 499, 3) := by decide +kernel
theorem zd_L_835 : decode code 835 = .ok (.iconst 0, 1) := by decide +kernel
theorem zd_L_836 : decode code 836 = .ok (.ireturn, 1) := by decide +kernel
theorem zd_L_837 : decode code 837 = .ok (.aload_n 1, 1) := by decide +kernel
theorem zd_L_838 : decode code 838 = .ok (.invokevirtual 116, 3) := by decide +kernel
theorem zd_L_841 : decode code 841 = .ok (.aload_n 2, 1) := by decide +kernel
theorem zd_L_842 : decode code 842 = .ok (.invokevirtual 119, 3) := by decide +kernel
theorem zd_L_845 : decode code 845 = .ok (.if_icmp .eq 486, 3) := by decide +kernel
theorem zd_L_848 : decode code 848 = .ok (.iconst 0, 1) := by decide +kernel
theorem zd_L_849 : decode code 849 = .ok (.ireturn, 1) := by decide +kernel
theorem zd_L_850 : decode code 850 = .ok (.aload_n 1, 1) := by decide +kernel
theorem zd_L_851 : decode code 851 = .ok (.aload_n 0, 1) := by decide +kernel
theorem zd_L_852 : decode code 852 = .ok (.iload 4, 2) := by decide +kernel
theorem zd_L_854 : decode code 854 = .ok (.iconst 1, 1) := by decide +kernel
theorem zd_L_855 : decode code 855 = .ok (.iadd, 1) := by decide +kernel
theorem zd_L_856 : decode code 856 = .ok (.iaload, 1) := by decide +kernel
theorem zd_L_857 : decode code 857 = .ok (.invokevirtual 120, 3) := by decide +kernel
theorem zd_L_860 : decode code 860 = .ok (.aload_n 2, 1) := by decide +kernel
theorem zd_L_861 : decode code 861 = .ok (.aload_n 0, 1) := by decide +kernel
theorem zd_L_862 : decode code 862 = .ok (.iload 4, 2) := by decide +kernel
theorem zd_L_864 : decode code 864 = .ok (.iconst 1, 1) := by decide +kernel
theorem zd_L_865 : decode code 865 = .ok (.iadd, 1) := by decide +kernel
theorem zd_L_866 : decode code 866 = .ok (.iaload, 1) := by decide +kernel
theorem zd_L_867 : decode code 867 = .ok (.invokevirtual 123, 3) := by decide +kernel
theorem zd_L_870 : decode code 870 = .ok (.if_icmp .eq 461, 3) := by decide +kernel
theorem zd_L_873 : decode code 873 = .ok (.iconst 0, 1) := by decide +kernel
theorem zd_L_874 : decode code 874 = .ok (.ireturn, 1) := by decide +kernel
theorem zd_L_875 : decode code 875 = .ok (.aload_n 1, 1) := by decide +kernel
theorem zd_L_876 : decode code 876 = .ok (.aload_n 0, 1) := by decide +kernel
theorem zd_L_877 : decode code 877 = .ok (.iload 4, 2) := by decide +kernel
theorem zd_L_879 : decode code 879 = .ok (.iconst 1, 1) := by decide +kernel
theorem zd_L_880 : decode code 880 = .ok (.iadd, 1) := by decide +kernel
theorem zd_L_881 : decode code 881 = .ok (.iaload, 1) := by decide +kernel
theorem zd_L_882 : decode code 882 = .ok (.invokevirtual 124, 3) := by decide +kernel
theorem zd_L_885 : decode code 885 = .ok (.aload_n 2, 1) := by decide +kernel
theorem zd_L_886 : decode code 886 = .ok (.aload_n 0, 1) := by decide +kernel
theorem zd_L_887 : decode code 887 = .ok (.iload 4, 2) := by decide +kernel
theorem zd_L_889 : decode code 889 = .ok (.iconst 1, 1) := by decide +kernel
theorem zd_L_890 : decode code 890 = .ok (.iadd, 1) := by decide +kernel
theorem zd_L_891 : decode code 891 = .ok (.iaload, 1) := by decide +kernel
theorem zd_L_892 : decode code 892 = .ok (.invokevirtual 127, 3) := by decide +kernel
theorem zd_L_895 : decode code 895 = .ok (.if_icmp .eq 436, 3) := by decide +kernel
theorem zd_L_898 : decode code 898 = .ok (.iconst 0, 1) := by decide +kernel
theorem zd_L_899 : decode code 899 = .ok (.ireturn, 1) := by decide +kernel
theorem zd_L_900 : decode code 900 = .ok (.aload_n 1, 1) := by decide +kernel
theorem zd_L_901 : decode code 901 = .ok (.aload_n 0, 1) := by decide +kernel
theorem zd_L_902 : decode code 902 = .ok (.iload 4, 2) := by decide +kernel
theorem zd_L_904 : decode code 904 = .ok (.iconst 1, 1) := by decide +kernel
theorem zd_L_905 : decode code 905 = .ok (.iadd, 1) := by decide +kernel
theorem zd_L_906 : decode code 906 = .ok (.iaload, 1) := by decide +kernel
theorem zd_L_907 : decode code 907 = .ok (.invokevirtual 128, 3) := by decide +kernel
theorem zd_L_910 : decode code 910 = .ok (.aload_n 2, 1) := by decide +kernel
theorem zd_L_911 : decode code 911 = .ok (.aload_n 0, 1) := by decide +kernel
theorem zd_L_912 : decode code 912 = .ok (.iload 4, 2) := by decide +kernel
theorem zd_L_914 : decode code 914 = .ok (.iconst 1, 1) := by decide +kernel
theorem zd_L_915 : decode code 915 = .ok (.iadd, 1) := by decide +kernel
theorem zd_L_916 : decode code 916 = .ok (.iaload, 1) := by decide +kernel
theorem zd_L_917 : decode code 917 = .ok (.invokevirtual 131, 3) := by decide +kernel
theorem zd_L_920 : decode code 920 = .ok (.if_icmp .eq 411, 3) := by decide +kernel
theorem zd_L_923 : decode code 923 = .ok (.iconst 0, 1) := by decide +kernel
theorem zd_L_924 : decode code 924 = .ok (.ireturn, 1) := by decide +kernel
theorem zd_L_925 : decode code 925 = .ok (.aload_n 1, 1) := by decide +kernel
theorem zd_L_926 : decode code 926 = .ok (.invokevirtual 132, 3) := by decide +kernel
theorem zd_L_929 : decode code 929 = .ok (.aload_n 2, 1) := by decide +kernel
theorem zd_L_930 : decode code 930 = .ok (.invokevirtual 135, 3) := by decide +kernel
theorem zd_L_933 : decode code 933 = .ok (.if_icmp .eq 398, 3) := by decide +kernel
theorem zd_L_936 : decode code 936 = .ok (.iconst 0, 1) := by decide +kernel
theorem zd_L_937 : decode code 937 = .ok (.ireturn, 1) := by decide +kernel
theorem zd_L_938 : decode code 938 = .ok (.aload_n 1, 1) := by decide +kernel
theorem zd_L_939 : decode code 939 = .ok (.aload_n 0, 1) := by decide +kernel
theorem zd_L_940 : decode code 940 = .ok (.iload 4, 2) := by decide +kernel
theorem zd_L_942 : decode code 942 = .ok (.iconst 1, 1) := by decide +kernel
theorem zd_L_943 : decode code 943 = .ok (.iadd, 1) := by decide +kernel
theorem zd_L_944 : decode code 944 = .ok (.iaload, 1) := by decide +kernel
theorem zd_L_945 : decode code 945 = .ok (.invokevirtual 136, 3) := by decide +kernel
theorem zd_L_948 : decode code 948 = .ok (.aload_n 2, 1) := by decide +kernel
theorem zd_L_949 : decode code 949 = .ok (.aload_n 0, 1) := by decide +kernel
theorem zd_L_950 : decode code 950 = .ok (.iload 4, 2) := by decide +kernel
theorem zd_L_952 : decode code 952 = .ok (.iconst 1, 1) := by decide +kernel
theorem zd_L_953 : decode code 953 = .ok (.iadd, 1) := by decide +kernel
theorem zd_L_954 : decode code 954 = .ok (.iaload, 1) := by decide +kernel
theorem zd_L_955 : decode code 955 = .ok (.invokevirtual 139, 3) := by decide +kernel
theorem zd_L_958 : decode code 958 = .ok (.if_icmp .eq 373, 3) := by decide +kernel
theorem zd_L_961 : decode code 961 = .ok (.iconst 0, 1) := by decide +kernel
theorem zd_L_962 : decode code 962 = .ok (.ireturn, 1) := by decide +kernel
theorem zd_L_963 : decode code 963 = .ok (.aload_n 1, 1) := by decide +kernel
theorem zd_L_964 : decode code 964 = .ok (.aload_n 0, 1) := by decide +kernel
theorem zd_L_965 : decode code 965 = .ok (.iload 4, 2) := by decide +kernel
theorem zd_L_967 : decode code 967 = .ok (.iconst 1, 1) := by decide +kernel
theorem zd_L_968 : decode code 968 = .ok (.iadd, 1) := by decide +kernel
theorem zd_L_969 : decode code 969 = .ok (.iaload, 1) := by decide +kernel
theorem zd_L_970 : decode code 970 = .ok (.aload_n 0, 1) := by decide +kernel
theorem zd_L_971 : decode code 971 = .ok (.iload 4, 2) := by decide +kernel
theorem zd_L_973 : decode code 973 = .ok (.iconst 2, 1) := by decide +kernel
theorem zd_L_974 : decode code 974 = .ok (.iadd, 1) := by decide +kernel
theorem zd_L_975 : decode code 975 = .ok (.iaload, 1) := by decide +kernel
theorem zd_L_976 : decode code 976 = .ok (.invokevirtual 140, 3) := by decide +kernel
theorem zd_L_979 : decode code 979 = .ok (.aload_n 2, 1) := by decide +kernel
theorem zd_L_980 : decode code 980 = .ok (.aload_n 0, 1) := by decide +kernel
theorem zd_L_981 : decode code 981 = .ok (.iload 4, 2) := by decide +kernel
theorem zd_L_983 : decode code 983 = .ok (.iconst 1, 1) := by decide +kernel
theorem zd_L_984 : decode code 984 = .ok (.iadd, 1) := by decide +kernel
theorem zd_L_985 : decode code 985 = .ok (.iaload, 1) := by decide +kernel
theorem zd_L_986 : decode code 986 = .ok (.aload_n 0, 1) := by decide +kernel
theorem zd_L_987 : decode code 987 = .ok (.iload 4, 2) := by decide +kernel
theorem zd_L_989 : decode code 989 = .ok (.iconst 2, 1) := by decide +kernel
theorem zd_L_990 : decode code 990 = .ok (.iadd, 1) := by decide +kernel
theorem zd_L_991 : decode code 991 = .ok (.iaload, 1) := by decide +kernel
theorem zd_L_992 : decode code 992 = .ok (.invokevirtual 143, 3) := by decide +kernel
theorem zd_L_995 : decode code 995 = .ok (.if_icmp .eq 336, 3) := by decide +kernel
theorem zd_L_998 : decode code 998 = .ok (.iconst 0, 1) := by decide +kernel
theorem zd_L_999 : decode code 999 = .ok (.ireturn, 1) := by decide +kernel
theorem zd_L_1000 : decode code 1000 = .ok (.aload_n 1, 1) := by decide +kernel
theorem zd_L_1001 : decode code 1001 = .ok (.aload_n 0, 1) := by decide +kernel
theorem zd_L_1002 : decode code 1002 = .ok (.iload 4, 2) := by decide +kernel
theorem zd_L_1004 : decode code 1004 = .ok (.iconst 1, 1) := by decide +kernel
theorem zd_L_1005 : decode code 1005 = .ok (.iadd, 1) := by decide +kernel
theorem zd_L_1006 : decode code 1006 = .ok (.iaload, 1) := by decide +kernel
theorem zd_L_1007 : decode code 1007 = .ok (.invokevirtual 144, 3) := by decide +kernel
theorem zd_L_1010 : decode code 1010 = .ok (.aload_n 2, 1) := by decide +kernel
theorem zd_L_1011 : decode code 1011 = .ok (.aload_n 0, 1) := by decide +kernel
theorem zd_L_1012 : decode code 1012 = .ok (.iload 4, 2) := by decide +kernel
theorem zd_L_1014 : decode code 1014 = .ok (.iconst 1, 1) := by decide +kernel
theorem zd_L_1015 : decode code 1015 = .ok (.iadd, 1) := by decide +kernel
theorem zd_L_1016 : decode code 1016 = .ok (.iaload, 1) := by decide +kernel
theorem zd_L_1017 : decode code 1017 = .ok (.invokevirtual 147, 3) := by decide +kernel
theorem zd_L_1020 : decode code 1020 = .ok (.if_icmp .eq 311, 3) := by decide +kernel
theorem zd_L_1023 : decode code 1023 = .ok (.iconst 0, 1) := by decide +kernel
theorem zd_L_1024 : decode code 1024 = .ok (.ireturn, 1) := by decide +kernel
theorem zd_L_1025 : decode code 1025 = .ok (.aload_n 1, 1) := by decide +kernel
theorem zd_L_1026 : decode code 1026 = .ok (.invokevirtual 148, 3) := by decide +kernel
theorem zd_L_1029 : decode code 1029 = .ok (.aload_n 2, 1) := by decide +kernel
theorem zd_L_1030 : decode code 1030 = .ok (.invokevirtual 151, 3) := by decide +kernel
theorem zd_L_1033 : decode code 1033 = .ok (.if_icmp .eq 298, 3) := by decide +kernel
theorem zd_L_1036 : decode code 1036 = .ok (.iconst 0, 1) := by decide +kernel
theorem zd_L_1037 : decode code 1037 = .ok (.ireturn, 1) := by decide +kernel
theorem zd_L_1038 : decode code 1038 = .ok (.aload_n 1, 1) := by decide +kernel
theorem zd_L_1039 : decode code 1039 = .ok (.aload_n 0, 1) := by decide +kernel
theorem zd_L_1040 : decode code 1040 = .ok (.iload 4, 2) := by decide +kernel
theorem zd_L_1042 : decode code 1042 = .ok (.iconst 1, 1) := by decide +kernel
theorem zd_L_1043 : decode code 1043 = .ok (.iadd, 1) := by decide +kernel
theorem zd_L_1044 : decode code 1044 = .ok (.iaload, 1) := by decide +kernel
theorem zd_L_1045 : decode code 1045 = .ok (.aload_n 0, 1) := by decide +kernel
theorem zd_L_1046 : decode code 1046 = .ok (.iload 4, 2) := by decide +kernel
theorem zd_L_1048 : decode code 1048 = .ok (.iconst 2, 1) := by decide +kernel
theorem zd_L_1049 : decode code 1049 = .ok (.iadd, 1) := by decide +kernel
theorem zd_L_1050 : decode code 1050 = .ok (.iaload, 1) := by decide +kernel
theorem zd_L_1051 : decode code 1051 = .ok (.invokevirtual 152, 3) := by decide +kernel
theorem zd_L_1054 : decode code 1054 = .ok (.aload_n 2, 1) := by decide +kernel
theorem zd_L_1055 : decode code 1055 = .ok (.aload_n 0, 1) := by decide +kernel
theorem zd_L_1056 : decode code 1056 = .ok (.iload 4, 2) := by decide +kernel
theorem zd_L_1058 : decode code 1058 = .ok (.iconst 1, 1) := by decide +kernel
theorem zd_L_1059 : decode code 1059 = .ok (.iadd, 1) := by decide +kernel
theorem zd_L_1060 : decode code 1060 = .ok (.iaload, 1) := by decide +kernel
theorem zd_L_1061 : decode code 1061 = .ok (.aload_n 0, 1) := by decide +kernel
theorem zd_L_1062 : decode code 1062 = .ok (.iload 4, 2) := by decide +kernel
theorem zd_L_1064 : decode code 1064 = .ok (.iconst 2, 1) := by decide +kernel
theorem zd_L_1065 : decode code 1065 = .ok (.iadd, 1) := by decide +kernel
theorem zd_L_1066 : decode code 1066 = .ok (.iaload, 1) := by decide +kernel
theorem zd_L_1067 : decode code 1067 = .ok (.invokevirtual 155, 3) := by decide +kernel
theorem zd_L_1070 : decode code 1070 = .ok (.if_icmp .eq 261, 3) := by decide +kernel
theorem zd_L_1073 : decode code 1073 = .ok (.iconst 0, 1) := by decide +kernel
theorem zd_L_1074 : decode code 1074 = .ok (.ireturn, 1) := by decide +kernel
theorem zd_L_1075 : decode code 1075 = .ok (.aload_n 1, 1) := by decide +kernel
theorem zd_L_1076 : decode code 1076 = .ok (.invokevirtual 156, 3) := by decide +kernel
theorem zd_L_1079 : decode code 1079 = .ok (.aload_n 2, 1) := by decide +kernel
theorem zd_L_1080 : decode code 1080 = .ok (.invokevirtual 159, 3) := by decide +kernel
theorem zd_L_1083 : decode code 1083 = .ok (.if_icmp .eq 248, 3) := by decide +kernel
theorem zd_L_1086 : decode code 1086 = .ok (.iconst 0, 1) := by decide +kernel
theorem zd_L_1087 : decode code 1087 = .ok (.ireturn, 1) := by decide +kernel
theorem zd_L_1088 : decode code 1088 = .ok (.aload_n 1, 1) := by decide +kernel
theorem zd_L_1089 : decode code 1089 = .ok (.aload_n 0, 1) := by decide +kernel
theorem zd_L_1090 : decode code 1090 = .ok (.iload 4, 2) := by decide +kernel
theorem zd_L_1092 : decode code 1092 = .ok (.iconst 1, 1) := by decide +kernel
theorem zd_L_1093 : decode code 1093 = .ok (.iadd, 1) := by decide +kernel
theorem zd_L_1094 : decode code 1094 = .ok (.iaload, 1) := by decide +kernel
theorem zd_L_1095 : decode code 1095 = .ok (.invokevirtual 160, 3) := by decide +kernel
theorem zd_L_1098 : decode code 1098 = .ok (.aload_n 2, 1) := by decide +kernel
theorem zd_L_1099 : decode code 1099 = .ok (.aload_n 0, 1) := by decide +kernel
theorem zd_L_1100 : decode code 1100 = .ok (.iload 4, 2) := by decide +kernel
theorem zd_L_1102 : decode code 1102 = .ok (.iconst 1, 1) := by decide +kernel
theorem zd_L_1103 : decode code 1103 = .ok (.iadd, 1) := by decide +kernel
theorem zd_L_1104 : decode code 1104 = .ok (.iaload, 1) := by decide +kernel
theorem zd_L_1105 : decode code 1105 = .ok (.invokevirtual 163, 3) := by decide +kernel
theorem zd_L_1108 : decode code 1108 = .ok (.if_icmp .eq 223, 3) := by decide +kernel
theorem zd_L_1111 : decode code 1111 = .ok (.iconst 0, 1) := by decide +kernel
theorem zd_L_1112 : decode code 1112 = .ok (.ireturn, 1) := by decide +kernel
theorem zd_L_1113 : decode code 1113 = .ok (.aload_n 1, 1) := by decide +kernel
theorem zd_L_1114 : decode code 1114 = .ok (.invokevirtual 164, 3) := by decide +kernel
theorem zd_L_1117 : decode code 1117 = .ok (.aload_n 2, 1) := by decide +kernel
theorem zd_L_1118 : decode code 1118 = .ok (.invokevirtual 167, 3) := by decide +kernel
theorem zd_L_1121 : decode code 1121 = .ok (.if_icmp .eq 210, 3) := by decide +kernel
theorem zd_L_1124 : decode code 1124 = .ok (.iconst 0, 1) := by decide +kernel
theorem zd_L_1125 : decode code 1125 = .ok (.ireturn, 1) := by decide +kernel
theorem zd_L_1126 : decode code 1126 = .ok (.aload_n 1, 1) := by decide +kernel
theorem zd_L_1127 : decode code 1127 = .ok (.aload_n 0, 1) := by decide +kernel
theorem zd_L_1128 : decode code 1128 = .ok (.iload 4, 2) := by decide +kernel
theorem zd_L_1130 : decode code 1130 = .ok (.iconst 1, 1) := by decide +kernel
theorem zd_L_1131 : decode code 1131 = .ok (.iadd, 1) := by decide +kernel
theorem zd_L_1132 : decode code 1132 = .ok (.iaload, 1) := by decide +kernel
theorem zd_L_1133 : decode code 1133 = .ok (.aload_n 0, 1) := by decide +kernel
theorem zd_L_1134 : decode code 1134 = .ok (.iload 4, 2) := by decide +kernel
theorem zd_L_1136 : decode code 1136 = .ok (.iconst 2, 1) := by decide +kernel
theorem zd_L_1137 : decode code 1137 = .ok (.iadd, 1) := by decide +kernel
theorem zd_L_1138 : decode code 1138 = .ok (.iaload, 1) := by decide +kernel
theorem zd_L_1139 : decode code 1139 = .ok (.invokevirtual 168, 3) := by decide +kernel
theorem zd_L_1142 : decode code 1142 = .ok (.aload_n 2, 1) := by decide +kernel
theorem zd_L_1143 : decode code 1143 = .ok (.aload_n 0, 1) := by decide +kernel
theorem zd_L_1144 : decode code 1144 = .ok (.iload 4, 2) := by decide +kernel
theorem zd_L_1146 : decode code 1146 = .ok (.iconst 1, 1) := by decide +kernel
theorem zd_L_1147 : decode code 1147 = .ok (.iadd, 1) := by decide +kernel
theorem zd_L_1148 : decode code 1148 = .ok (.iaload, 1) := by decide +kernel
theorem zd_L_1149 : decode code 1149 = .ok (.aload_n 0, 1) := by decide +kernel
theorem zd_L_1150 : decode code 1150 = .ok (.iload 4, 2) := by decide +kernel
theorem zd_L_1152 : decode code 1152 = .ok (.iconst 2, 1) := by decide +kernel
theorem zd_L_1153 : decode code 1153 = .ok (.iadd, 1) := by decide +kernel
theorem zd_L_1154 : decode code 1154 = .ok (.iaload, 1) := by decide +kernel
theorem zd_L_1155 : decode code 1155 = .ok (.invokevirtual 171, 3) := by decide +kernel
theorem zd_L_1158 : decode code 1158 = .ok (.if_icmp .eq 173, 3) := by decide +kernel
theorem zd_L_1161 : decode code 1161 = .ok (.iconst 0, 1) := by decide +kernel
theorem zd_L_1162 : decode code 1162 = .ok (.ireturn, 1) := by decide +kernel
theorem zd_L_1163 : decode code 1163 = .ok (.aload_n 1, 1) := by decide +kernel
theorem zd_L_1164 : decode code 1164 = .ok (.aload_n 0, 1) := by decide +kernel
theorem zd_L_1165 : decode code 1165 = .ok (.iload 4, 2) := by decide +kernel
theorem zd_L_1167 : decode code 1167 = .ok (.iconst 1, 1) := by decide +kernel
theorem zd_L_1168 : decode code 1168 = .ok (.iadd, 1) := by decide +kernel
theorem zd_L_1169 : decode code 1169 = .ok (.iaload, 1) := by decide +kernel
theorem zd_L_1170 : decode code 1170 = .ok (.aload_n 0, 1) := by decide +kernel
theorem zd_L_1171 : decode code 1171 = .ok (.iload 4, 2) := by decide +kernel
theorem zd_L_1173 : decode code 1173 = .ok (.iconst 2, 1) := by decide +kernel
theorem zd_L_1174 : decode code 1174 = .ok (.iadd, 1) := by decide +kernel
theorem zd_L_1175 : decode code 1175 = .ok (.iaload, 1) := by decide +kernel
theorem zd_L_1176 : decode code 1176 = .ok (.invokevirtual 172, 3) := by decide +kernel
theorem zd_L_1179 : decode code 1179 = .ok (.aload_n 2, 1) := by decide +kernel
theorem zd_L_1180 : decode code 1180 = .ok (.aload_n 0, 1) := by decide +kernel
theorem zd_L_1181 : decode code 1181 = .ok (.iload 4, 2) := by decide +kernel
theorem zd_L_1183 : decode code 1183 = .ok (.iconst 1, 1) := by decide +kernel
theorem zd_L_1184 : decode code 1184 = .ok (.iadd, 1) := by decide +kernel
theorem zd_L_1185 : decode code 1185 = .ok (.iaload, 1) := by decide +kernel
theorem zd_L_1186 : decode code 1186 = .ok (.aload_n 0, 1) := by decide +kernel
theorem zd_L_1187 : decode code 1187 = .ok (.iload 4, 2) := by decide +kernel
theorem zd_L_1189 : decode code 1189 = .ok (.iconst 2, 1) := by decide +kernel
theorem zd_L_1190 : decode code 1190 = .ok (.iadd, 1) := by decide +kernel
theorem zd_L_1191 : decode code 1191 = .ok (.iaload, 1) := by decide +kernel
theorem zd_L_1192 : decode code 1192 = .ok (.invokevirtual 175, 3) := by decide +kernel
theorem zd_L_1195 : decode code 1195 = .ok (.if_icmp .eq 136, 3) := by decide +kernel
theorem zd_L_1198 : decode code 1198 = .ok (.iconst 0, 1) := by decide +kernel
theorem zd_L_1199 : decode code 1199 = .ok (.ireturn, 1) := by decide +kernel
theorem zd_L_1200 : decode code 1200 = .ok (.aload_n 1, 1) := by decide +kernel
theorem zd_L_1201 : decode code 1201 = .ok (.aload_n 0, 1) := by decide +kernel
theorem zd_L_1202 : decode code 1202 = .ok (.iload 4, 2) := by decide +kernel
theorem zd_L_1204 : decode code 1204 = .ok (.iconst 1, 1) := by decide +kernel
theorem zd_L_1205 : decode code 1205 = .ok (.iadd, 1) := by decide +kernel
theorem zd_L_1206 : decode code 1206 = .ok (.iaload, 1) := by decide +kernel
theorem zd_L_1207 : decode code 1207 = .ok (.invokevirtual 176, 3) := by decide +kernel
theorem zd_L_1210 : decode code 1210 = .ok (.aload_n 2, 1) := by decide +kernel
theorem zd_L_1211 : decode code 1211 = .ok (.aload_n 0, 1) := by decide +kernel
theorem zd_L_1212 : decode code 1212 = .ok (.iload 4, 2) := by decide +kernel
theorem zd_L_1214 : decode code 1214 = .ok (.iconst 1, 1) := by decide +kernel
theorem zd_L_1215 : decode code 1215 = .ok (.iadd, 1) := by decide +kernel
theorem zd_L_1216 : decode code 1216 = .ok (.iaload, 1) := by decide +kernel
theorem zd_L_1217 : decode code 1217 = .ok (.invokevirtual 179, 3) := by decide +kernel
theorem zd_L_1220 : decode code 1220 = .ok (.if_icmp .eq 111, 3) := by decide +kernel
theorem zd_L_1223 : decode code 1223 = .ok (.iconst 0, 1) := by decide +kernel
theorem zd_L_1224 : decode code 1224 = .ok (.ireturn, 1) := by decide +kernel
theorem zd_L_1225 : decode code 1225 = .ok (.aload_n 1, 1) := by decide +kernel
theorem zd_L_1226 : decode code 1226 = .ok (.aload_n 0, 1) := by decide +kernel
theorem zd_L_1227 : decode code 1227 = .ok (.iload 4, 2) := by decide +kernel
theorem zd_L_1229 : decode code 1229 = .ok (.iconst 1, 1) := by decide +kernel
theorem zd_L_1230 : decode code 1230 = .ok (.iadd, 1) := by decide +kernel
theorem zd_L_1231 : decode code 1231 = .ok (.iaload, 1) := by decide +kernel
theorem zd_L_1232 : decode code 1232 = .ok (.invokevirtual 180, 3) := by decide +kernel
theorem zd_L_1235 : decode code 1235 = .ok (.aload_n 2, 1) := by decide +kernel
theorem zd_L_1236 : decode code 1236 = .ok (.aload_n 0, 1) := by decide +kernel
theorem zd_L_1237 : decode code 1237 = .ok (.iload 4, 2) := by decide +kernel
theorem zd_L_1239 : decode code 1239 = .ok (.iconst 1, 1) := by decide +kernel
theorem zd_L_1240 : decode code 1240 = .ok (.iadd, 1) := by decide +kernel
theorem zd_L_1241 : decode code 1241 = .ok (.iaload, 1) := by decide +kernel
theorem zd_L_1242 : decode code 1242 = .ok (.invokevirtual 183, 3) := by decide +kernel
theorem zd_L_1245 : decode code 1245 = .ok (.if_icmp .eq 86, 3) := by decide +kernel
theorem zd_L_1248 : decode code 1248 = .ok (.iconst 0, 1) := by decide +kernel
theorem zd_L_1249 : decode code 1249 = .ok (.ireturn, 1) := by decide +kernel
theorem zd_L_1250 : decode code 1250 = .ok (.aload_n 1, 1) := by decide +kernel
theorem zd_L_1251 : decode code 1251 = .ok (.aload_n 0, 1) := by decide +kernel
theorem zd_L_1252 : decode code 1252 = .ok (.iload 4, 2) := by decide +kernel
theorem zd_L_1254 : decode code 1254 = .ok (.iconst 1, 1) := by decide +kernel
theorem zd_L_1255 : decode code 1255 = .ok (.iadd, 1) := by decide +kernel
theorem zd_L_1256 : decode code 1256 = .ok (.iaload, 1) := by decide +kernel
theorem zd_L_1257 : decode code 1257 = .ok (.invokevirtual 184, 3) := by decide +kernel
theorem zd_L_1260 : decode code 1260 = .ok (.aload_n 2, 1) := by decide +kernel
theorem zd_L_1261 : decode code 1261 = .ok (.aload_n 0, 1) := by decide +kernel
theorem zd_L_1262 : decode code 1262 = .ok (.iload 4, 2) := by decide +kernel
theorem zd_L_1264 : decode code 1264 = .ok (.iconst 1, 1) := by decide +kernel
theorem zd_L_1265 : decode code 1265 = .ok (.iadd, 1) := by decide +kernel
theorem zd_L_1266 : decode code 1266 = .ok (.iaload, 1) := by decide +kernel
theorem zd_L_1267 : decode code 1267 = .ok (.invokevirtual 187, 3) := by decide +kernel
theorem zd_L_1270 : decode code 1270 = .ok (.if_icmp .eq 61, 3) := by decide +kernel
theorem zd_L_1273 : decode code 1273 = .ok (.iconst 0, 1) := by decide +kernel
theorem zd_L_1274 : decode code 1274 = .ok (.ireturn, 1) := by decide +kernel
theorem zd_L_1275 : decode code 1275 = .ok (.aload_n 1, 1) := by decide +kernel
theorem zd_L_1276 : decode code 1276 = .ok (.aload_n 0, 1) := by decide +kernel
theorem zd_L_1277 : decode code 1277 = .ok (.iload 4, 2) := by decide +kernel
theorem zd_L_1279 : decode code 1279 = .ok (.iconst 1, 1) := by decide +kernel
theorem zd_L_1280 : decode code 1280 = .ok (.iadd, 1) := by decide +kernel
theorem zd_L_1281 : decode code 1281 = .ok (.iaload, 1) := by decide +kernel
theorem zd_L_1282 : decode code 1282 = .ok (.aload_n 3, 1) := by decide +kernel
theorem zd_L_1283 : decode code 1283 = .ok (.invokestatic 188, 3) := by decide +kernel
theorem zd_L_1286 : decode code 1286 = .ok (.istore 5, 2) := by decide +kernel
theorem zd_L_1288 : decode code 1288 = .ok (.aload_n 2, 1) := by decide +kernel
theorem zd_L_1289 : decode code 1289 = .ok (.aload_n 0, 1) := by decide +kernel
theorem zd_L_1290 : decode code 1290 = .ok (.iload 4, 2) := by decide +kernel
theorem zd_L_1292 : decode code 1292 = .ok (.iconst 1, 1) := by decide +kernel
theorem zd_L_1293 : decode code 1293 = .ok (.iadd, 1) := by decide +kernel
theorem zd_L_1294 : decode code 1294 = .ok (.iaload, 1) := by decide +kernel
theorem zd_L_1295 : decode code 1295 = .ok (.invokevirtual 191, 3) := by decide +kernel
theorem zd_L_1298 : decode code 1298 = .ok (.istore 6, 2) := by decide +kernel
theorem zd_L_1300 : decode code 1300 = .ok (.aload_n 2, 1) := by decide +kernel
theorem zd_L_1301 : decode code 1301 = .ok (.invokevirtual 61, 3) := by decide +kernel
theorem zd_L_1304 : decode code 1304 = .ok (.iload 5, 2) := by decide +kernel
theorem zd_L_1306 : decode code 1306 = .ok (.if_icmp .eq 5, 3) := by decide +kernel
theorem zd_L_1309 : decode code 1309 = .ok (.iconst 0, 1) := by decide +kernel
theorem zd_L_1310 : decode code 1310 = .ok (.ireturn, 1) := by decide +kernel
theorem zd_L_1311 : decode code 1311 = .ok (.iload 5, 2) := by decide +kernel
theorem zd_L_1313 : decode code 1313 = .ok (.ifCond .ne 15, 3) := by decide +kernel
theorem zd_L_1316 : decode code 1316 = .ok (.aload_n 3, 1) := by decide +kernel
theorem zd_L_1317 : decode code 1317 = .ok (.iconst 0, 1) := by decide +kernel
theorem zd_L_1318 : decode code 1318 = .ok (.laload, 1) := by decide +kernel
theorem zd_L_1319 : decode code 1319 = .ok (.iload 6, 2) := by decide +kernel
theorem zd_L_1321 : decode code 1321 = .ok (.i2l, 1) := by decide +kernel
theorem zd_L_1322 : decode code 1322 = .ok (.lcmp, 1) := by decide +kernel
theorem zd_L_1323 : decode code 1323 = .ok (.ifCond .eq 5, 3) := by decide +kernel
theorem zd_L_1326 : decode code 1326 = .ok (.iconst 0, 1) := by decide +kernel
theorem zd_L_1327 : decode code 1327 = .ok (.ireturn, 1) := by decide +kernel
theorem zd_L_1328 : decode code 1328 = .ok (.goto 3, 3) := by decide +kernel
theorem zd_L_1331 : decode code 1331 = .ok (.iinc 4 5, 3) := by decide +kernel
theorem zd_L_1334 : decode code 1334 = .ok (.goto (-1311), 3) := by decide +kernel
theorem zd_L_1337 : decode code 1337 = .ok (.iconst 1, 1) := by decide +kernel
theorem zd_L_1338 : decode code 1338 = .ok (.ireturn, 1) := by decide +kernel
theorem zl_L_7 : Cond.methodLink "WallsOfBooksLaw" 7 zm_Walls_book.1 ∈ zTB := zi_t (List.mem_of_getElem? (i := 877) (by decide +kernel)) (by decide +kernel)
theorem zl_L_15 : Cond.methodLink "WallsOfBooksLaw" 15 zm_Walls_column.1 ∈ zTB := zi_t (List.mem_of_getElem? (i := 952) (by decide +kernel)) (by decide +kernel)
theorem zl_L_18 : Cond.methodLink "WallsOfBooksLaw" 18 zm_Walls_reader.1 ∈ zTB := zi_t (List.mem_of_getElem? (i := 966) (by decide +kernel)) (by decide +kernel)
theorem zl_L_21 : Cond.methodLink "WallsOfBooksLaw" 21 zm_Walls_row.1 ∈ zTB := zi_t (List.mem_of_getElem? (i := 977) (by decide +kernel)) (by decide +kernel)
theorem zl_L_25 : Cond.methodLink "WallsOfBooksLaw" 25 zm_Walls_init.1 ∈ zTB := zi_t (List.mem_of_getElem? (i := 21) (by decide +kernel)) (by decide +kernel)
theorem zl_L_28 : Cond.methodLink "WallsOfBooksLaw" 28 zm_Model_init.1 ∈ zTB := zi_t (List.mem_of_getElem? (i := 984) (by decide +kernel)) (by decide +kernel)
theorem zl_L_29 : Cond.methodLink "WallsOfBooksLaw" 29 zm_Walls_sign.1 ∈ zTB := zi_t (List.mem_of_getElem? (i := 294) (by decide +kernel)) (by decide +kernel)
theorem zl_L_32 : Cond.methodLink "WallsOfBooksLaw" 32 zm_Model_sign.1 ∈ zTB := zi_t (List.mem_of_getElem? (i := 1137) (by decide +kernel)) (by decide +kernel)
theorem zl_L_33 : Cond.methodLink "WallsOfBooksLaw" 33 zm_Walls_end.1 ∈ zTB := zi_t (List.mem_of_getElem? (i := 298) (by decide +kernel)) (by decide +kernel)
theorem zl_L_37 : Cond.methodLink "WallsOfBooksLaw" 37 zm_Model_end.1 ∈ zTB := zi_t (List.mem_of_getElem? (i := 1141) (by decide +kernel)) (by decide +kernel)
theorem zl_L_38 : Cond.methodLink "WallsOfBooksLaw" 38 zm_Walls_books.1 ∈ zTB := zi_t (List.mem_of_getElem? (i := 302) (by decide +kernel)) (by decide +kernel)
theorem zl_L_42 : Cond.methodLink "WallsOfBooksLaw" 42 zm_Model_books.1 ∈ zTB := zi_t (List.mem_of_getElem? (i := 1148) (by decide +kernel)) (by decide +kernel)
theorem zl_L_43 : Cond.methodLink "WallsOfBooksLaw" 43 zm_Walls_wall.1 ∈ zTB := zi_t (List.mem_of_getElem? (i := 345) (by decide +kernel)) (by decide +kernel)
theorem zl_L_46 : Cond.methodLink "WallsOfBooksLaw" 46 zm_Model_wall.1 ∈ zTB := zi_t (List.mem_of_getElem? (i := 1184) (by decide +kernel)) (by decide +kernel)
theorem zl_L_47 : Cond.methodLink "WallsOfBooksLaw" 47 zm_Walls_readers.1 ∈ zTB := zi_t (List.mem_of_getElem? (i := 413) (by decide +kernel)) (by decide +kernel)
theorem zl_L_50 : Cond.methodLink "WallsOfBooksLaw" 50 zm_Model_readers.1 ∈ zTB := zi_t (List.mem_of_getElem? (i := 1258) (by decide +kernel)) (by decide +kernel)
theorem zl_L_51 : Cond.methodLink "WallsOfBooksLaw" 51 zm_Walls_rule.1 ∈ zTB := zi_t (List.mem_of_getElem? (i := 429) (by decide +kernel)) (by decide +kernel)
theorem zl_L_54 : Cond.methodLink "WallsOfBooksLaw" 54 zm_Model_rule.1 ∈ zTB := zi_t (List.mem_of_getElem? (i := 1262) (by decide +kernel)) (by decide +kernel)
theorem zl_L_55 : Cond.methodLink "WallsOfBooksLaw" 55 yl_book.1 ∈ zTB := zi_t (List.mem_of_getElem? (i := 873) (by decide +kernel)) (by decide +kernel)
theorem yl_book_s : Cond.static yl_book.1 ∈ zTB := zi_t (List.mem_of_getElem? (i := 874) (by decide +kernel)) (by decide +kernel)
theorem zl_L_60 : Cond.methodLink "WallsOfBooksLaw" 60 zm_Model_book.1 ∈ zTB := zi_t (List.mem_of_getElem? (i := 1270) (by decide +kernel)) (by decide +kernel)
theorem zl_L_61 : Cond.methodLink "WallsOfBooksLaw" 61 zm_Model_thrown.1 ∈ zTB := zi_t (List.mem_of_getElem? (i := 1133) (by decide +kernel)) (by decide +kernel)
theorem zl_L_64 : Cond.methodLink "WallsOfBooksLaw" 64 yl_column.1 ∈ zTB := zi_t (List.mem_of_getElem? (i := 949) (by decide +kernel)) (by decide +kernel)
theorem yl_column_s : Cond.static yl_column.1 ∈ zTB := zi_t (List.mem_of_getElem? (i := 950) (by decide +kernel)) (by decide +kernel)
theorem zl_L_66 : Cond.methodLink "WallsOfBooksLaw" 66 zm_Model_column.1 ∈ zTB := zi_t (List.mem_of_getElem? (i := 1283) (by decide +kernel)) (by decide +kernel)
theorem zl_L_67 : Cond.methodLink "WallsOfBooksLaw" 67 yl_reader.1 ∈ zTB := zi_t (List.mem_of_getElem? (i := 963) (by decide +kernel)) (by decide +kernel)
theorem yl_reader_s : Cond.static yl_reader.1 ∈ zTB := zi_t (List.mem_of_getElem? (i := 964) (by decide +kernel)) (by decide +kernel)
theorem zl_L_69 : Cond.methodLink "WallsOfBooksLaw" 69 zm_Model_reader.1 ∈ zTB := zi_t (List.mem_of_getElem? (i := 1303) (by decide +kernel)) (by decide +kernel)
theorem zl_L_70 : Cond.methodLink "WallsOfBooksLaw" 70 zm_Walls_sheet.1 ∈ zTB := zi_t (List.mem_of_getElem? (i := 485) (by decide +kernel)) (by decide +kernel)
theorem zl_L_74 : Cond.methodLink "WallsOfBooksLaw" 74 zm_Model_sheet.1 ∈ zTB := zi_t (List.mem_of_getElem? (i := 1315) (by decide +kernel)) (by decide +kernel)
theorem zl_L_75 : Cond.methodLink "WallsOfBooksLaw" 75 zm_Walls_lay.1 ∈ zTB := zi_t (List.mem_of_getElem? (i := 493) (by decide +kernel)) (by decide +kernel)
theorem zl_L_78 : Cond.methodLink "WallsOfBooksLaw" 78 zm_Model_lay_0.1 ∈ zTB := zi_t (List.mem_of_getElem? (i := 1319) (by decide +kernel)) (by decide +kernel)
theorem zl_L_79 : Cond.methodLink "WallsOfBooksLaw" 79 zm_Walls_lend.1 ∈ zTB := zi_t (List.mem_of_getElem? (i := 533) (by decide +kernel)) (by decide +kernel)
theorem zl_L_83 : Cond.methodLink "WallsOfBooksLaw" 83 zm_Model_lend.1 ∈ zTB := zi_t (List.mem_of_getElem? (i := 1339) (by decide +kernel)) (by decide +kernel)
theorem zl_L_84 : Cond.methodLink "WallsOfBooksLaw" 84 zm_Walls_recall.1 ∈ zTB := zi_t (List.mem_of_getElem? (i := 555) (by decide +kernel)) (by decide +kernel)
theorem zl_L_87 : Cond.methodLink "WallsOfBooksLaw" 87 zm_Model_recall.1 ∈ zTB := zi_t (List.mem_of_getElem? (i := 1355) (by decide +kernel)) (by decide +kernel)
theorem zl_L_88 : Cond.methodLink "WallsOfBooksLaw" 88 zm_Walls_shot.1 ∈ zTB := zi_t (List.mem_of_getElem? (i := 563) (by decide +kernel)) (by decide +kernel)
theorem zl_L_91 : Cond.methodLink "WallsOfBooksLaw" 91 zm_Model_shot.1 ∈ zTB := zi_t (List.mem_of_getElem? (i := 1363) (by decide +kernel)) (by decide +kernel)
theorem zl_L_92 : Cond.methodLink "WallsOfBooksLaw" 92 zm_Walls_days.1 ∈ zTB := zi_t (List.mem_of_getElem? (i := 579) (by decide +kernel)) (by decide +kernel)
theorem zl_L_95 : Cond.methodLink "WallsOfBooksLaw" 95 zm_Model_days.1 ∈ zTB := zi_t (List.mem_of_getElem? (i := 1379) (by decide +kernel)) (by decide +kernel)
theorem zl_L_96 : Cond.methodLink "WallsOfBooksLaw" 96 zm_Walls_siege.1 ∈ zTB := zi_t (List.mem_of_getElem? (i := 599) (by decide +kernel)) (by decide +kernel)
theorem zl_L_99 : Cond.methodLink "WallsOfBooksLaw" 99 zm_Model_siege.1 ∈ zTB := zi_t (List.mem_of_getElem? (i := 1387) (by decide +kernel)) (by decide +kernel)
theorem zl_L_100 : Cond.methodLink "WallsOfBooksLaw" 100 zm_Walls_undo.1 ∈ zTB := zi_t (List.mem_of_getElem? (i := 644) (by decide +kernel)) (by decide +kernel)
theorem zl_L_103 : Cond.methodLink "WallsOfBooksLaw" 103 zm_Model_undo.1 ∈ zTB := zi_t (List.mem_of_getElem? (i := 1403) (by decide +kernel)) (by decide +kernel)
theorem zl_L_104 : Cond.methodLink "WallsOfBooksLaw" 104 zm_Walls_low.1 ∈ zTB := zi_t (List.mem_of_getElem? (i := 656) (by decide +kernel)) (by decide +kernel)
theorem zl_L_107 : Cond.methodLink "WallsOfBooksLaw" 107 zm_Model_low.1 ∈ zTB := zi_t (List.mem_of_getElem? (i := 1407) (by decide +kernel)) (by decide +kernel)
theorem zl_L_108 : Cond.methodLink "WallsOfBooksLaw" 108 zm_Walls_weakest.1 ∈ zTB := zi_t (List.mem_of_getElem? (i := 673) (by decide +kernel)) (by decide +kernel)
theorem zl_L_111 : Cond.methodLink "WallsOfBooksLaw" 111 zm_Model_weakest.1 ∈ zTB := zi_t (List.mem_of_getElem? (i := 1416) (by decide +kernel)) (by decide +kernel)
theorem zl_L_112 : Cond.methodLink "WallsOfBooksLaw" 112 zm_Walls_room.1 ∈ zTB := zi_t (List.mem_of_getElem? (i := 678) (by decide +kernel)) (by decide +kernel)
theorem zl_L_115 : Cond.methodLink "WallsOfBooksLaw" 115 zm_Model_room.1 ∈ zTB := zi_t (List.mem_of_getElem? (i := 1420) (by decide +kernel)) (by decide +kernel)
theorem zl_L_116 : Cond.methodLink "WallsOfBooksLaw" 116 zm_Walls_home.1 ∈ zTB := zi_t (List.mem_of_getElem? (i := 685) (by decide +kernel)) (by decide +kernel)
theorem zl_L_119 : Cond.methodLink "WallsOfBooksLaw" 119 zm_Model_home.1 ∈ zTB := zi_t (List.mem_of_getElem? (i := 1424) (by decide +kernel)) (by decide +kernel)
theorem zl_L_120 : Cond.methodLink "WallsOfBooksLaw" 120 zm_Walls_spares.1 ∈ zTB := zi_t (List.mem_of_getElem? (i := 690) (by decide +kernel)) (by decide +kernel)
theorem zl_L_123 : Cond.methodLink "WallsOfBooksLaw" 123 zm_Model_spares.1 ∈ zTB := zi_t (List.mem_of_getElem? (i := 1428) (by decide +kernel)) (by decide +kernel)
theorem zl_L_124 : Cond.methodLink "WallsOfBooksLaw" 124 zm_Walls_spare.1 ∈ zTB := zi_t (List.mem_of_getElem? (i := 707) (by decide +kernel)) (by decide +kernel)
theorem zl_L_127 : Cond.methodLink "WallsOfBooksLaw" 127 zm_Model_spare.1 ∈ zTB := zi_t (List.mem_of_getElem? (i := 1436) (by decide +kernel)) (by decide +kernel)
theorem zl_L_128 : Cond.methodLink "WallsOfBooksLaw" 128 zm_Walls_build.1 ∈ zTB := zi_t (List.mem_of_getElem? (i := 711) (by decide +kernel)) (by decide +kernel)
theorem zl_L_131 : Cond.methodLink "WallsOfBooksLaw" 131 zm_Model_build.1 ∈ zTB := zi_t (List.mem_of_getElem? (i := 1440) (by decide +kernel)) (by decide +kernel)
theorem zl_L_132 : Cond.methodLink "WallsOfBooksLaw" 132 zm_Walls_tallest.1 ∈ zTB := zi_t (List.mem_of_getElem? (i := 751) (by decide +kernel)) (by decide +kernel)
theorem zl_L_135 : Cond.methodLink "WallsOfBooksLaw" 135 zm_Model_tallest.1 ∈ zTB := zi_t (List.mem_of_getElem? (i := 1456) (by decide +kernel)) (by decide +kernel)
theorem zl_L_136 : Cond.methodLink "WallsOfBooksLaw" 136 zm_Walls_calls.1 ∈ zTB := zi_t (List.mem_of_getElem? (i := 755) (by decide +kernel)) (by decide +kernel)
theorem zl_L_139 : Cond.methodLink "WallsOfBooksLaw" 139 zm_Model_calls.1 ∈ zTB := zi_t (List.mem_of_getElem? (i := 1460) (by decide +kernel)) (by decide +kernel)
theorem zl_L_140 : Cond.methodLink "WallsOfBooksLaw" 140 zm_Walls_stack.1 ∈ zTB := zi_t (List.mem_of_getElem? (i := 759) (by decide +kernel)) (by decide +kernel)
theorem zl_L_143 : Cond.methodLink "WallsOfBooksLaw" 143 zm_Model_stack.1 ∈ zTB := zi_t (List.mem_of_getElem? (i := 1464) (by decide +kernel)) (by decide +kernel)
theorem zl_L_144 : Cond.methodLink "WallsOfBooksLaw" 144 zm_Walls_play.1 ∈ zTB := zi_t (List.mem_of_getElem? (i := 779) (by decide +kernel)) (by decide +kernel)
theorem zl_L_147 : Cond.methodLink "WallsOfBooksLaw" 147 zm_Model_play.1 ∈ zTB := zi_t (List.mem_of_getElem? (i := 1472) (by decide +kernel)) (by decide +kernel)
theorem zl_L_148 : Cond.methodLink "WallsOfBooksLaw" 148 zm_Walls_law.1 ∈ zTB := zi_t (List.mem_of_getElem? (i := 803) (by decide +kernel)) (by decide +kernel)
theorem zl_L_151 : Cond.methodLink "WallsOfBooksLaw" 151 zm_Model_law.1 ∈ zTB := zi_t (List.mem_of_getElem? (i := 1488) (by decide +kernel)) (by decide +kernel)
theorem zl_L_152 : Cond.methodLink "WallsOfBooksLaw" 152 zm_Walls_seen.1 ∈ zTB := zi_t (List.mem_of_getElem? (i := 807) (by decide +kernel)) (by decide +kernel)
theorem zl_L_155 : Cond.methodLink "WallsOfBooksLaw" 155 zm_Model_seen.1 ∈ zTB := zi_t (List.mem_of_getElem? (i := 1500) (by decide +kernel)) (by decide +kernel)
theorem zl_L_156 : Cond.methodLink "WallsOfBooksLaw" 156 zm_Walls_forget.1 ∈ zTB := zi_t (List.mem_of_getElem? (i := 815) (by decide +kernel)) (by decide +kernel)
theorem zl_L_159 : Cond.methodLink "WallsOfBooksLaw" 159 zm_Model_forget.1 ∈ zTB := zi_t (List.mem_of_getElem? (i := 1504) (by decide +kernel)) (by decide +kernel)
theorem zl_L_160 : Cond.methodLink "WallsOfBooksLaw" 160 zm_Walls_out.1 ∈ zTB := zi_t (List.mem_of_getElem? (i := 819) (by decide +kernel)) (by decide +kernel)
theorem zl_L_163 : Cond.methodLink "WallsOfBooksLaw" 163 zm_Model_out.1 ∈ zTB := zi_t (List.mem_of_getElem? (i := 1508) (by decide +kernel)) (by decide +kernel)
theorem zl_L_164 : Cond.methodLink "WallsOfBooksLaw" 164 zm_Walls_look.1 ∈ zTB := zi_t (List.mem_of_getElem? (i := 823) (by decide +kernel)) (by decide +kernel)
theorem zl_L_167 : Cond.methodLink "WallsOfBooksLaw" 167 zm_Model_look.1 ∈ zTB := zi_t (List.mem_of_getElem? (i := 1512) (by decide +kernel)) (by decide +kernel)
theorem zl_L_168 : Cond.methodLink "WallsOfBooksLaw" 168 zm_Walls_rests.1 ∈ zTB := zi_t (List.mem_of_getElem? (i := 837) (by decide +kernel)) (by decide +kernel)
theorem zl_L_171 : Cond.methodLink "WallsOfBooksLaw" 171 zm_Model_rests.1 ∈ zTB := zi_t (List.mem_of_getElem? (i := 1520) (by decide +kernel)) (by decide +kernel)
theorem zl_L_172 : Cond.methodLink "WallsOfBooksLaw" 172 zm_Walls_years.1 ∈ zTB := zi_t (List.mem_of_getElem? (i := 847) (by decide +kernel)) (by decide +kernel)
theorem zl_L_175 : Cond.methodLink "WallsOfBooksLaw" 175 zm_Model_years.1 ∈ zTB := zi_t (List.mem_of_getElem? (i := 1530) (by decide +kernel)) (by decide +kernel)
theorem zl_L_176 : Cond.methodLink "WallsOfBooksLaw" 176 zm_Walls_keep.1 ∈ zTB := zi_t (List.mem_of_getElem? (i := 859) (by decide +kernel)) (by decide +kernel)
theorem zl_L_179 : Cond.methodLink "WallsOfBooksLaw" 179 zm_Model_keep.1 ∈ zTB := zi_t (List.mem_of_getElem? (i := 1539) (by decide +kernel)) (by decide +kernel)
theorem zl_L_180 : Cond.methodLink "WallsOfBooksLaw" 180 zm_Walls_again.1 ∈ zTB := zi_t (List.mem_of_getElem? (i := 864) (by decide +kernel)) (by decide +kernel)
theorem zl_L_183 : Cond.methodLink "WallsOfBooksLaw" 183 zm_Model_again.1 ∈ zTB := zi_t (List.mem_of_getElem? (i := 1543) (by decide +kernel)) (by decide +kernel)
theorem zl_L_184 : Cond.methodLink "WallsOfBooksLaw" 184 zm_Walls_count.1 ∈ zTB := zi_t (List.mem_of_getElem? (i := 869) (by decide +kernel)) (by decide +kernel)
theorem zl_L_187 : Cond.methodLink "WallsOfBooksLaw" 187 zm_Model_count.1 ∈ zTB := zi_t (List.mem_of_getElem? (i := 1547) (by decide +kernel)) (by decide +kernel)
theorem zl_L_188 : Cond.methodLink "WallsOfBooksLaw" 188 yl_row.1 ∈ zTB := zi_t (List.mem_of_getElem? (i := 974) (by decide +kernel)) (by decide +kernel)
theorem yl_row_s : Cond.static yl_row.1 ∈ zTB := zi_t (List.mem_of_getElem? (i := 975) (by decide +kernel)) (by decide +kernel)
theorem zl_L_191 : Cond.methodLink "WallsOfBooksLaw" 191 zm_Model_row.1 ∈ zTB := zi_t (List.mem_of_getElem? (i := 1551) (by decide +kernel)) (by decide +kernel)
theorem yl_L_8 : Cond.classLink "WallsOfBooksLaw" 8 zr_Walls ∈ zTB := zi_t (List.mem_of_getElem? (i := 19) (by decide +kernel)) (by decide +kernel)
theorem yl_L_26 : Cond.classLink "WallsOfBooksLaw" 26 zr_Model ∈ zTB := zi_t (List.mem_of_getElem? (i := 982) (by decide +kernel)) (by decide +kernel)
theorem yx_aJ : Cond.arrayClass .long ∈ zTB := zi_t (List.mem_of_getElem? (i := 1555) (by decide +kernel)) (by decide +kernel)
