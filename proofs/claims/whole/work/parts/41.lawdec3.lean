theorem d_Lw_law_884 : decode code 884 = .ok (.aload_n 0, 1) := by decide +kernel
theorem d_Lw_law_885 : decode code 885 = .ok (.iload_n 3, 1) := by decide +kernel
theorem d_Lw_law_886 : decode code 886 = .ok (.iconst 2, 1) := by decide +kernel
theorem d_Lw_law_887 : decode code 887 = .ok (.iadd, 1) := by decide +kernel
theorem d_Lw_law_888 : decode code 888 = .ok (.iaload, 1) := by decide +kernel
theorem d_Lw_law_889 : decode code 889 = .ok (.aload_n 0, 1) := by decide +kernel
theorem d_Lw_law_890 : decode code 890 = .ok (.iload_n 3, 1) := by decide +kernel
theorem d_Lw_law_891 : decode code 891 = .ok (.iconst 3, 1) := by decide +kernel
theorem d_Lw_law_892 : decode code 892 = .ok (.iadd, 1) := by decide +kernel
theorem d_Lw_law_893 : decode code 893 = .ok (.iaload, 1) := by decide +kernel
theorem d_Lw_law_894 : decode code 894 = .ok (.invokevirtual 89, 3) := by decide +kernel
theorem d_Lw_law_897 : decode code 897 = .ok (.aload_n 2, 1) := by decide +kernel
theorem d_Lw_law_898 : decode code 898 = .ok (.aload_n 0, 1) := by decide +kernel
theorem d_Lw_law_899 : decode code 899 = .ok (.iload_n 3, 1) := by decide +kernel
theorem d_Lw_law_900 : decode code 900 = .ok (.iconst 1, 1) := by decide +kernel
theorem d_Lw_law_901 : decode code 901 = .ok (.iadd, 1) := by decide +kernel
theorem d_Lw_law_902 : decode code 902 = .ok (.iaload, 1) := by decide +kernel
theorem d_Lw_law_903 : decode code 903 = .ok (.aload_n 0, 1) := by decide +kernel
theorem d_Lw_law_904 : decode code 904 = .ok (.iload_n 3, 1) := by decide +kernel
theorem d_Lw_law_905 : decode code 905 = .ok (.iconst 2, 1) := by decide +kernel
theorem d_Lw_law_906 : decode code 906 = .ok (.iadd, 1) := by decide +kernel
theorem d_Lw_law_907 : decode code 907 = .ok (.iaload, 1) := by decide +kernel
theorem d_Lw_law_908 : decode code 908 = .ok (.aload_n 0, 1) := by decide +kernel
theorem d_Lw_law_909 : decode code 909 = .ok (.iload_n 3, 1) := by decide +kernel
theorem d_Lw_law_910 : decode code 910 = .ok (.iconst 3, 1) := by decide +kernel
theorem d_Lw_law_911 : decode code 911 = .ok (.iadd, 1) := by decide +kernel
theorem d_Lw_law_912 : decode code 912 = .ok (.iaload, 1) := by decide +kernel
theorem d_Lw_law_913 : decode code 913 = .ok (.invokevirtual 92, 3) := by decide +kernel
theorem d_Lw_law_919 : decode code 919 = .ok (.iconst 0, 1) := by decide +kernel
theorem d_Lw_law_920 : decode code 920 = .ok (.ireturn, 1) := by decide +kernel
theorem d_Lw_law_916 : decode code 916 = .ok (.if_icmp .eq 633, 3) := by decide +kernel
theorem d_Lw_law_921 : decode code 921 = .ok (.aload_n 1, 1) := by decide +kernel
theorem d_Lw_law_922 : decode code 922 = .ok (.aload_n 0, 1) := by decide +kernel
theorem d_Lw_law_923 : decode code 923 = .ok (.iload_n 3, 1) := by decide +kernel
theorem d_Lw_law_924 : decode code 924 = .ok (.iconst 1, 1) := by decide +kernel
theorem d_Lw_law_925 : decode code 925 = .ok (.iadd, 1) := by decide +kernel
theorem d_Lw_law_926 : decode code 926 = .ok (.iaload, 1) := by decide +kernel
theorem d_Lw_law_927 : decode code 927 = .ok (.aload_n 0, 1) := by decide +kernel
theorem d_Lw_law_928 : decode code 928 = .ok (.iload_n 3, 1) := by decide +kernel
theorem d_Lw_law_929 : decode code 929 = .ok (.iconst 2, 1) := by decide +kernel
theorem d_Lw_law_930 : decode code 930 = .ok (.iadd, 1) := by decide +kernel
theorem d_Lw_law_931 : decode code 931 = .ok (.iaload, 1) := by decide +kernel
theorem d_Lw_law_932 : decode code 932 = .ok (.aload_n 0, 1) := by decide +kernel
theorem d_Lw_law_933 : decode code 933 = .ok (.iload_n 3, 1) := by decide +kernel
theorem d_Lw_law_934 : decode code 934 = .ok (.iconst 3, 1) := by decide +kernel
theorem d_Lw_law_935 : decode code 935 = .ok (.iadd, 1) := by decide +kernel
theorem d_Lw_law_936 : decode code 936 = .ok (.iaload, 1) := by decide +kernel
theorem d_Lw_law_937 : decode code 937 = .ok (.aload_n 0, 1) := by decide +kernel
theorem d_Lw_law_938 : decode code 938 = .ok (.iload_n 3, 1) := by decide +kernel
theorem d_Lw_law_939 : decode code 939 = .ok (.iconst 4, 1) := by decide +kernel
theorem d_Lw_law_940 : decode code 940 = .ok (.iadd, 1) := by decide +kernel
theorem d_Lw_law_941 : decode code 941 = .ok (.iaload, 1) := by decide +kernel
theorem d_Lw_law_942 : decode code 942 = .ok (.invokevirtual 93, 3) := by decide +kernel
theorem d_Lw_law_945 : decode code 945 = .ok (.aload_n 2, 1) := by decide +kernel
theorem d_Lw_law_946 : decode code 946 = .ok (.aload_n 0, 1) := by decide +kernel
theorem d_Lw_law_947 : decode code 947 = .ok (.iload_n 3, 1) := by decide +kernel
theorem d_Lw_law_948 : decode code 948 = .ok (.iconst 1, 1) := by decide +kernel
theorem d_Lw_law_949 : decode code 949 = .ok (.iadd, 1) := by decide +kernel
theorem d_Lw_law_950 : decode code 950 = .ok (.iaload, 1) := by decide +kernel
theorem d_Lw_law_951 : decode code 951 = .ok (.aload_n 0, 1) := by decide +kernel
theorem d_Lw_law_952 : decode code 952 = .ok (.iload_n 3, 1) := by decide +kernel
theorem d_Lw_law_953 : decode code 953 = .ok (.iconst 2, 1) := by decide +kernel
theorem d_Lw_law_954 : decode code 954 = .ok (.iadd, 1) := by decide +kernel
theorem d_Lw_law_955 : decode code 955 = .ok (.iaload, 1) := by decide +kernel
theorem d_Lw_law_956 : decode code 956 = .ok (.aload_n 0, 1) := by decide +kernel
theorem d_Lw_law_957 : decode code 957 = .ok (.iload_n 3, 1) := by decide +kernel
theorem d_Lw_law_958 : decode code 958 = .ok (.iconst 3, 1) := by decide +kernel
theorem d_Lw_law_959 : decode code 959 = .ok (.iadd, 1) := by decide +kernel
theorem d_Lw_law_960 : decode code 960 = .ok (.iaload, 1) := by decide +kernel
theorem d_Lw_law_961 : decode code 961 = .ok (.aload_n 0, 1) := by decide +kernel
theorem d_Lw_law_962 : decode code 962 = .ok (.iload_n 3, 1) := by decide +kernel
theorem d_Lw_law_963 : decode code 963 = .ok (.iconst 4, 1) := by decide +kernel
theorem d_Lw_law_964 : decode code 964 = .ok (.iadd, 1) := by decide +kernel
theorem d_Lw_law_965 : decode code 965 = .ok (.iaload, 1) := by decide +kernel
theorem d_Lw_law_966 : decode code 966 = .ok (.invokevirtual 96, 3) := by decide +kernel
theorem d_Lw_law_972 : decode code 972 = .ok (.iconst 0, 1) := by decide +kernel
theorem d_Lw_law_973 : decode code 973 = .ok (.ireturn, 1) := by decide +kernel
theorem d_Lw_law_969 : decode code 969 = .ok (.if_icmp .eq 580, 3) := by decide +kernel
theorem d_Lw_law_974 : decode code 974 = .ok (.aload_n 1, 1) := by decide +kernel
theorem d_Lw_law_975 : decode code 975 = .ok (.aload_n 0, 1) := by decide +kernel
theorem d_Lw_law_976 : decode code 976 = .ok (.iload_n 3, 1) := by decide +kernel
theorem d_Lw_law_977 : decode code 977 = .ok (.iconst 1, 1) := by decide +kernel
theorem d_Lw_law_978 : decode code 978 = .ok (.iadd, 1) := by decide +kernel
theorem d_Lw_law_979 : decode code 979 = .ok (.iaload, 1) := by decide +kernel
theorem d_Lw_law_980 : decode code 980 = .ok (.aload_n 0, 1) := by decide +kernel
theorem d_Lw_law_981 : decode code 981 = .ok (.iload_n 3, 1) := by decide +kernel
theorem d_Lw_law_982 : decode code 982 = .ok (.iconst 2, 1) := by decide +kernel
theorem d_Lw_law_983 : decode code 983 = .ok (.iadd, 1) := by decide +kernel
theorem d_Lw_law_984 : decode code 984 = .ok (.iaload, 1) := by decide +kernel
theorem d_Lw_law_985 : decode code 985 = .ok (.aload_n 0, 1) := by decide +kernel
theorem d_Lw_law_986 : decode code 986 = .ok (.iload_n 3, 1) := by decide +kernel
theorem d_Lw_law_987 : decode code 987 = .ok (.iconst 3, 1) := by decide +kernel
theorem d_Lw_law_988 : decode code 988 = .ok (.iadd, 1) := by decide +kernel
theorem d_Lw_law_989 : decode code 989 = .ok (.iaload, 1) := by decide +kernel
theorem d_Lw_law_990 : decode code 990 = .ok (.invokevirtual 97, 3) := by decide +kernel
theorem d_Lw_law_993 : decode code 993 = .ok (.aload_n 2, 1) := by decide +kernel
theorem d_Lw_law_994 : decode code 994 = .ok (.aload_n 0, 1) := by decide +kernel
theorem d_Lw_law_995 : decode code 995 = .ok (.iload_n 3, 1) := by decide +kernel
theorem d_Lw_law_996 : decode code 996 = .ok (.iconst 1, 1) := by decide +kernel
theorem d_Lw_law_997 : decode code 997 = .ok (.iadd, 1) := by decide +kernel
theorem d_Lw_law_998 : decode code 998 = .ok (.iaload, 1) := by decide +kernel
theorem d_Lw_law_999 : decode code 999 = .ok (.aload_n 0, 1) := by decide +kernel
theorem d_Lw_law_1000 : decode code 1000 = .ok (.iload_n 3, 1) := by decide +kernel
theorem d_Lw_law_1001 : decode code 1001 = .ok (.iconst 2, 1) := by decide +kernel
theorem d_Lw_law_1002 : decode code 1002 = .ok (.iadd, 1) := by decide +kernel
theorem d_Lw_law_1003 : decode code 1003 = .ok (.iaload, 1) := by decide +kernel
theorem d_Lw_law_1004 : decode code 1004 = .ok (.aload_n 0, 1) := by decide +kernel
theorem d_Lw_law_1005 : decode code 1005 = .ok (.iload_n 3, 1) := by decide +kernel
theorem d_Lw_law_1006 : decode code 1006 = .ok (.iconst 3, 1) := by decide +kernel
theorem d_Lw_law_1007 : decode code 1007 = .ok (.iadd, 1) := by decide +kernel
theorem d_Lw_law_1008 : decode code 1008 = .ok (.iaload, 1) := by decide +kernel
theorem d_Lw_law_1009 : decode code 1009 = .ok (.invokevirtual 100, 3) := by decide +kernel
theorem d_Lw_law_1015 : decode code 1015 = .ok (.iconst 0, 1) := by decide +kernel
theorem d_Lw_law_1016 : decode code 1016 = .ok (.ireturn, 1) := by decide +kernel
theorem d_Lw_law_1012 : decode code 1012 = .ok (.if_icmp .eq 537, 3) := by decide +kernel
theorem d_Lw_law_1017 : decode code 1017 = .ok (.aload_n 1, 1) := by decide +kernel
theorem d_Lw_law_1018 : decode code 1018 = .ok (.aload_n 0, 1) := by decide +kernel
theorem d_Lw_law_1019 : decode code 1019 = .ok (.iload_n 3, 1) := by decide +kernel
theorem d_Lw_law_1020 : decode code 1020 = .ok (.iconst 1, 1) := by decide +kernel
theorem d_Lw_law_1021 : decode code 1021 = .ok (.iadd, 1) := by decide +kernel
theorem d_Lw_law_1022 : decode code 1022 = .ok (.iaload, 1) := by decide +kernel
theorem d_Lw_law_1023 : decode code 1023 = .ok (.aload_n 0, 1) := by decide +kernel
theorem d_Lw_law_1024 : decode code 1024 = .ok (.iload_n 3, 1) := by decide +kernel
theorem d_Lw_law_1025 : decode code 1025 = .ok (.iconst 2, 1) := by decide +kernel
theorem d_Lw_law_1026 : decode code 1026 = .ok (.iadd, 1) := by decide +kernel
theorem d_Lw_law_1027 : decode code 1027 = .ok (.iaload, 1) := by decide +kernel
theorem d_Lw_law_1028 : decode code 1028 = .ok (.aload_n 0, 1) := by decide +kernel
theorem d_Lw_law_1029 : decode code 1029 = .ok (.iload_n 3, 1) := by decide +kernel
theorem d_Lw_law_1030 : decode code 1030 = .ok (.iconst 3, 1) := by decide +kernel
theorem d_Lw_law_1031 : decode code 1031 = .ok (.iadd, 1) := by decide +kernel
theorem d_Lw_law_1032 : decode code 1032 = .ok (.iaload, 1) := by decide +kernel
theorem d_Lw_law_1033 : decode code 1033 = .ok (.aload_n 0, 1) := by decide +kernel
theorem d_Lw_law_1034 : decode code 1034 = .ok (.iload_n 3, 1) := by decide +kernel
theorem d_Lw_law_1035 : decode code 1035 = .ok (.iconst 4, 1) := by decide +kernel
theorem d_Lw_law_1036 : decode code 1036 = .ok (.iadd, 1) := by decide +kernel
theorem d_Lw_law_1037 : decode code 1037 = .ok (.iaload, 1) := by decide +kernel
theorem d_Lw_law_1038 : decode code 1038 = .ok (.aload_n 0, 1) := by decide +kernel
theorem d_Lw_law_1039 : decode code 1039 = .ok (.iload_n 3, 1) := by decide +kernel
theorem d_Lw_law_1040 : decode code 1040 = .ok (.iconst 5, 1) := by decide +kernel
theorem d_Lw_law_1041 : decode code 1041 = .ok (.iadd, 1) := by decide +kernel
theorem d_Lw_law_1042 : decode code 1042 = .ok (.iaload, 1) := by decide +kernel
theorem d_Lw_law_1043 : decode code 1043 = .ok (.aload_n 0, 1) := by decide +kernel
theorem d_Lw_law_1044 : decode code 1044 = .ok (.iload_n 3, 1) := by decide +kernel
theorem d_Lw_law_1045 : decode code 1045 = .ok (.bipush 6, 2) := by decide +kernel
theorem d_Lw_law_1047 : decode code 1047 = .ok (.iadd, 1) := by decide +kernel
theorem d_Lw_law_1048 : decode code 1048 = .ok (.iaload, 1) := by decide +kernel
theorem d_Lw_law_1056 : decode code 1056 = .ok (.iconst 0, 1) := by decide +kernel
theorem d_Lw_law_1052 : decode code 1052 = .ok (.iconst 1, 1) := by decide +kernel
theorem d_Lw_law_1053 : decode code 1053 = .ok (.goto 4, 3) := by decide +kernel
theorem d_Lw_law_1049 : decode code 1049 = .ok (.ifCond .eq 7, 3) := by decide +kernel
theorem d_Lw_law_1057 : decode code 1057 = .ok (.aload_n 0, 1) := by decide +kernel
theorem d_Lw_law_1058 : decode code 1058 = .ok (.iload_n 3, 1) := by decide +kernel
theorem d_Lw_law_1059 : decode code 1059 = .ok (.bipush 7, 2) := by decide +kernel
theorem d_Lw_law_1061 : decode code 1061 = .ok (.iadd, 1) := by decide +kernel
theorem d_Lw_law_1062 : decode code 1062 = .ok (.iaload, 1) := by decide +kernel
theorem d_Lw_law_1063 : decode code 1063 = .ok (.invokevirtual 101, 3) := by decide +kernel
theorem d_Lw_law_1066 : decode code 1066 = .ok (.aload_n 2, 1) := by decide +kernel
theorem d_Lw_law_1067 : decode code 1067 = .ok (.aload_n 0, 1) := by decide +kernel
theorem d_Lw_law_1068 : decode code 1068 = .ok (.iload_n 3, 1) := by decide +kernel
theorem d_Lw_law_1069 : decode code 1069 = .ok (.iconst 1, 1) := by decide +kernel
theorem d_Lw_law_1070 : decode code 1070 = .ok (.iadd, 1) := by decide +kernel
theorem d_Lw_law_1071 : decode code 1071 = .ok (.iaload, 1) := by decide +kernel
theorem d_Lw_law_1072 : decode code 1072 = .ok (.aload_n 0, 1) := by decide +kernel
theorem d_Lw_law_1073 : decode code 1073 = .ok (.iload_n 3, 1) := by decide +kernel
theorem d_Lw_law_1074 : decode code 1074 = .ok (.iconst 2, 1) := by decide +kernel
theorem d_Lw_law_1075 : decode code 1075 = .ok (.iadd, 1) := by decide +kernel
theorem d_Lw_law_1076 : decode code 1076 = .ok (.iaload, 1) := by decide +kernel
theorem d_Lw_law_1077 : decode code 1077 = .ok (.aload_n 0, 1) := by decide +kernel
theorem d_Lw_law_1078 : decode code 1078 = .ok (.iload_n 3, 1) := by decide +kernel
theorem d_Lw_law_1079 : decode code 1079 = .ok (.iconst 3, 1) := by decide +kernel
theorem d_Lw_law_1080 : decode code 1080 = .ok (.iadd, 1) := by decide +kernel
theorem d_Lw_law_1081 : decode code 1081 = .ok (.iaload, 1) := by decide +kernel
theorem d_Lw_law_1082 : decode code 1082 = .ok (.aload_n 0, 1) := by decide +kernel
theorem d_Lw_law_1083 : decode code 1083 = .ok (.iload_n 3, 1) := by decide +kernel
theorem d_Lw_law_1084 : decode code 1084 = .ok (.iconst 4, 1) := by decide +kernel
theorem d_Lw_law_1085 : decode code 1085 = .ok (.iadd, 1) := by decide +kernel
theorem d_Lw_law_1086 : decode code 1086 = .ok (.iaload, 1) := by decide +kernel
theorem d_Lw_law_1087 : decode code 1087 = .ok (.aload_n 0, 1) := by decide +kernel
theorem d_Lw_law_1088 : decode code 1088 = .ok (.iload_n 3, 1) := by decide +kernel
theorem d_Lw_law_1089 : decode code 1089 = .ok (.iconst 5, 1) := by decide +kernel
theorem d_Lw_law_1090 : decode code 1090 = .ok (.iadd, 1) := by decide +kernel
theorem d_Lw_law_1091 : decode code 1091 = .ok (.iaload, 1) := by decide +kernel
theorem d_Lw_law_1092 : decode code 1092 = .ok (.aload_n 0, 1) := by decide +kernel
theorem d_Lw_law_1093 : decode code 1093 = .ok (.iload_n 3, 1) := by decide +kernel
theorem d_Lw_law_1094 : decode code 1094 = .ok (.bipush 6, 2) := by decide +kernel
theorem d_Lw_law_1096 : decode code 1096 = .ok (.iadd, 1) := by decide +kernel
theorem d_Lw_law_1097 : decode code 1097 = .ok (.iaload, 1) := by decide +kernel
theorem d_Lw_law_1105 : decode code 1105 = .ok (.iconst 0, 1) := by decide +kernel
theorem d_Lw_law_1101 : decode code 1101 = .ok (.iconst 1, 1) := by decide +kernel
theorem d_Lw_law_1102 : decode code 1102 = .ok (.goto 4, 3) := by decide +kernel
theorem d_Lw_law_1098 : decode code 1098 = .ok (.ifCond .eq 7, 3) := by decide +kernel
theorem d_Lw_law_1106 : decode code 1106 = .ok (.aload_n 0, 1) := by decide +kernel
theorem d_Lw_law_1107 : decode code 1107 = .ok (.iload_n 3, 1) := by decide +kernel
theorem d_Lw_law_1108 : decode code 1108 = .ok (.bipush 7, 2) := by decide +kernel
theorem d_Lw_law_1110 : decode code 1110 = .ok (.iadd, 1) := by decide +kernel
theorem d_Lw_law_1111 : decode code 1111 = .ok (.iaload, 1) := by decide +kernel
theorem d_Lw_law_1112 : decode code 1112 = .ok (.invokevirtual 105, 3) := by decide +kernel
theorem d_Lw_law_1118 : decode code 1118 = .ok (.iconst 0, 1) := by decide +kernel
theorem d_Lw_law_1119 : decode code 1119 = .ok (.ireturn, 1) := by decide +kernel
theorem d_Lw_law_1115 : decode code 1115 = .ok (.if_icmp .eq 434, 3) := by decide +kernel
theorem d_Lw_law_1120 : decode code 1120 = .ok (.aload_n 1, 1) := by decide +kernel
theorem d_Lw_law_1121 : decode code 1121 = .ok (.aload_n 0, 1) := by decide +kernel
theorem d_Lw_law_1122 : decode code 1122 = .ok (.iload_n 3, 1) := by decide +kernel
theorem d_Lw_law_1123 : decode code 1123 = .ok (.iconst 1, 1) := by decide +kernel
theorem d_Lw_law_1124 : decode code 1124 = .ok (.iadd, 1) := by decide +kernel
theorem d_Lw_law_1125 : decode code 1125 = .ok (.iaload, 1) := by decide +kernel
theorem d_Lw_law_1126 : decode code 1126 = .ok (.invokevirtual 106, 3) := by decide +kernel
theorem d_Lw_law_1129 : decode code 1129 = .ok (.aload_n 2, 1) := by decide +kernel
theorem d_Lw_law_1130 : decode code 1130 = .ok (.aload_n 0, 1) := by decide +kernel
theorem d_Lw_law_1131 : decode code 1131 = .ok (.iload_n 3, 1) := by decide +kernel
theorem d_Lw_law_1132 : decode code 1132 = .ok (.iconst 1, 1) := by decide +kernel
theorem d_Lw_law_1133 : decode code 1133 = .ok (.iadd, 1) := by decide +kernel
theorem d_Lw_law_1134 : decode code 1134 = .ok (.iaload, 1) := by decide +kernel
theorem d_Lw_law_1135 : decode code 1135 = .ok (.invokevirtual 109, 3) := by decide +kernel
theorem d_Lw_law_1141 : decode code 1141 = .ok (.iconst 0, 1) := by decide +kernel
theorem d_Lw_law_1142 : decode code 1142 = .ok (.ireturn, 1) := by decide +kernel
theorem d_Lw_law_1138 : decode code 1138 = .ok (.if_icmp .eq 411, 3) := by decide +kernel
theorem d_Lw_law_1143 : decode code 1143 = .ok (.aload_n 1, 1) := by decide +kernel
theorem d_Lw_law_1144 : decode code 1144 = .ok (.invokevirtual 110, 3) := by decide +kernel
theorem d_Lw_law_1147 : decode code 1147 = .ok (.aload_n 2, 1) := by decide +kernel
theorem d_Lw_law_1148 : decode code 1148 = .ok (.invokevirtual 114, 3) := by decide +kernel
theorem d_Lw_law_1154 : decode code 1154 = .ok (.iconst 0, 1) := by decide +kernel
theorem d_Lw_law_1155 : decode code 1155 = .ok (.ireturn, 1) := by decide +kernel
theorem d_Lw_law_1151 : decode code 1151 = .ok (.if_icmp .eq 398, 3) := by decide +kernel
theorem d_Lw_law_1156 : decode code 1156 = .ok (.aload_n 1, 1) := by decide +kernel
theorem d_Lw_law_1157 : decode code 1157 = .ok (.aload_n 0, 1) := by decide +kernel
theorem d_Lw_law_1158 : decode code 1158 = .ok (.iload_n 3, 1) := by decide +kernel
theorem d_Lw_law_1159 : decode code 1159 = .ok (.iconst 1, 1) := by decide +kernel
theorem d_Lw_law_1160 : decode code 1160 = .ok (.iadd, 1) := by decide +kernel
theorem d_Lw_law_1161 : decode code 1161 = .ok (.iaload, 1) := by decide +kernel
theorem d_Lw_law_1162 : decode code 1162 = .ok (.aload_n 0, 1) := by decide +kernel
theorem d_Lw_law_1163 : decode code 1163 = .ok (.iload_n 3, 1) := by decide +kernel
theorem d_Lw_law_1164 : decode code 1164 = .ok (.iconst 2, 1) := by decide +kernel
theorem d_Lw_law_1165 : decode code 1165 = .ok (.iadd, 1) := by decide +kernel
theorem d_Lw_law_1166 : decode code 1166 = .ok (.iaload, 1) := by decide +kernel
theorem d_Lw_law_1167 : decode code 1167 = .ok (.invokevirtual 115, 3) := by decide +kernel
theorem d_Lw_law_1170 : decode code 1170 = .ok (.aload_n 2, 1) := by decide +kernel
theorem d_Lw_law_1171 : decode code 1171 = .ok (.aload_n 0, 1) := by decide +kernel
theorem d_Lw_law_1172 : decode code 1172 = .ok (.iload_n 3, 1) := by decide +kernel
theorem d_Lw_law_1173 : decode code 1173 = .ok (.iconst 1, 1) := by decide +kernel
theorem d_Lw_law_1174 : decode code 1174 = .ok (.iadd, 1) := by decide +kernel
theorem d_Lw_law_1175 : decode code 1175 = .ok (.iaload, 1) := by decide +kernel
theorem d_Lw_law_1176 : decode code 1176 = .ok (.aload_n 0, 1) := by decide +kernel
theorem d_Lw_law_1177 : decode code 1177 = .ok (.iload_n 3, 1) := by decide +kernel
theorem d_Lw_law_1178 : decode code 1178 = .ok (.iconst 2, 1) := by decide +kernel
theorem d_Lw_law_1179 : decode code 1179 = .ok (.iadd, 1) := by decide +kernel
theorem d_Lw_law_1180 : decode code 1180 = .ok (.iaload, 1) := by decide +kernel
theorem d_Lw_law_1181 : decode code 1181 = .ok (.invokevirtual 118, 3) := by decide +kernel
theorem d_Lw_law_1187 : decode code 1187 = .ok (.iconst 0, 1) := by decide +kernel
theorem d_Lw_law_1188 : decode code 1188 = .ok (.ireturn, 1) := by decide +kernel
theorem d_Lw_law_1184 : decode code 1184 = .ok (.if_icmp .eq 365, 3) := by decide +kernel
theorem d_Lw_law_1189 : decode code 1189 = .ok (.aload_n 1, 1) := by decide +kernel
theorem d_Lw_law_1190 : decode code 1190 = .ok (.aload_n 0, 1) := by decide +kernel
theorem d_Lw_law_1191 : decode code 1191 = .ok (.iload_n 3, 1) := by decide +kernel
theorem d_Lw_law_1192 : decode code 1192 = .ok (.iconst 1, 1) := by decide +kernel
theorem d_Lw_law_1193 : decode code 1193 = .ok (.iadd, 1) := by decide +kernel
theorem d_Lw_law_1194 : decode code 1194 = .ok (.iaload, 1) := by decide +kernel
theorem d_Lw_law_1195 : decode code 1195 = .ok (.aload_n 0, 1) := by decide +kernel
theorem d_Lw_law_1196 : decode code 1196 = .ok (.iload_n 3, 1) := by decide +kernel
theorem d_Lw_law_1197 : decode code 1197 = .ok (.iconst 2, 1) := by decide +kernel
theorem d_Lw_law_1198 : decode code 1198 = .ok (.iadd, 1) := by decide +kernel
theorem d_Lw_law_1199 : decode code 1199 = .ok (.iaload, 1) := by decide +kernel
theorem d_Lw_law_1200 : decode code 1200 = .ok (.invokevirtual 119, 3) := by decide +kernel
theorem d_Lw_law_1203 : decode code 1203 = .ok (.aload_n 2, 1) := by decide +kernel
theorem d_Lw_law_1204 : decode code 1204 = .ok (.aload_n 0, 1) := by decide +kernel
theorem d_Lw_law_1205 : decode code 1205 = .ok (.iload_n 3, 1) := by decide +kernel
theorem d_Lw_law_1206 : decode code 1206 = .ok (.iconst 1, 1) := by decide +kernel
theorem d_Lw_law_1207 : decode code 1207 = .ok (.iadd, 1) := by decide +kernel
theorem d_Lw_law_1208 : decode code 1208 = .ok (.iaload, 1) := by decide +kernel
theorem d_Lw_law_1209 : decode code 1209 = .ok (.aload_n 0, 1) := by decide +kernel
theorem d_Lw_law_1210 : decode code 1210 = .ok (.iload_n 3, 1) := by decide +kernel
theorem d_Lw_law_1211 : decode code 1211 = .ok (.iconst 2, 1) := by decide +kernel
theorem d_Lw_law_1212 : decode code 1212 = .ok (.iadd, 1) := by decide +kernel
theorem d_Lw_law_1213 : decode code 1213 = .ok (.iaload, 1) := by decide +kernel
theorem d_Lw_law_1214 : decode code 1214 = .ok (.invokevirtual 122, 3) := by decide +kernel
theorem d_Lw_law_1220 : decode code 1220 = .ok (.iconst 0, 1) := by decide +kernel
theorem d_Lw_law_1221 : decode code 1221 = .ok (.ireturn, 1) := by decide +kernel
theorem d_Lw_law_1217 : decode code 1217 = .ok (.if_icmp .eq 332, 3) := by decide +kernel
theorem d_Lw_law_1222 : decode code 1222 = .ok (.aload_n 1, 1) := by decide +kernel
theorem d_Lw_law_1223 : decode code 1223 = .ok (.aload_n 0, 1) := by decide +kernel
theorem d_Lw_law_1224 : decode code 1224 = .ok (.iload_n 3, 1) := by decide +kernel
theorem d_Lw_law_1225 : decode code 1225 = .ok (.iconst 1, 1) := by decide +kernel
theorem d_Lw_law_1226 : decode code 1226 = .ok (.iadd, 1) := by decide +kernel
theorem d_Lw_law_1227 : decode code 1227 = .ok (.iaload, 1) := by decide +kernel
theorem d_Lw_law_1228 : decode code 1228 = .ok (.aload_n 0, 1) := by decide +kernel
theorem d_Lw_law_1229 : decode code 1229 = .ok (.iload_n 3, 1) := by decide +kernel
theorem d_Lw_law_1230 : decode code 1230 = .ok (.iconst 2, 1) := by decide +kernel
theorem d_Lw_law_1231 : decode code 1231 = .ok (.iadd, 1) := by decide +kernel
theorem d_Lw_law_1232 : decode code 1232 = .ok (.iaload, 1) := by decide +kernel
theorem d_Lw_law_1233 : decode code 1233 = .ok (.aload_n 0, 1) := by decide +kernel
theorem d_Lw_law_1234 : decode code 1234 = .ok (.iload_n 3, 1) := by decide +kernel
theorem d_Lw_law_1235 : decode code 1235 = .ok (.iconst 3, 1) := by decide +kernel
theorem d_Lw_law_1236 : decode code 1236 = .ok (.iadd, 1) := by decide +kernel
theorem d_Lw_law_1237 : decode code 1237 = .ok (.iaload, 1) := by decide +kernel
theorem d_Lw_law_1238 : decode code 1238 = .ok (.aload_n 0, 1) := by decide +kernel
theorem d_Lw_law_1239 : decode code 1239 = .ok (.iload_n 3, 1) := by decide +kernel
theorem d_Lw_law_1240 : decode code 1240 = .ok (.iconst 4, 1) := by decide +kernel
theorem d_Lw_law_1241 : decode code 1241 = .ok (.iadd, 1) := by decide +kernel
theorem d_Lw_law_1242 : decode code 1242 = .ok (.iaload, 1) := by decide +kernel
theorem d_Lw_law_1243 : decode code 1243 = .ok (.invokevirtual 123, 3) := by decide +kernel
